/-! THE START: the class's object is made -/
/-- all that was there is as it was -/
def ol (S : PH) (G : Nat → Nat) (S' : PH) (G' : Nat → Nat) : Prop := ∀ d, d ∈ p_L S → sme S S' d ∧ G' d = G d
/-- but what has no tag -/
def ks (S : PH) (G : Nat → Nat) (S' : PH) (G' : Nat → Nat) : Prop := ∀ d, d ∈ p_L S → G d ≠ 0 → sme S S' d ∧ G' d = G d
theorem ol_ks {S S' : PH} {G G' : Nat → Nat} (h : ol S G S' G') : ks S G S' G' := fun d hd _ => h d hd
theorem ks_kk {S S' : PH} {G G' : Nat → Nat} (h : ks S G S' G') : kk S G S' G' := fun d hd h0 => ⟨⟨(h d hd h0).1.1, (h d hd h0).1.2.1, (h d hd h0).1.2.2.1, (h d hd h0).2⟩, fun _ _ => (h d hd h0).1.2.2.2.2.1⟩
theorem sme_s {S S' : PH} {G G' : Nat → Nat} (h : ks S G S' G') {a c g : Nat} (k : ob S G a c g) (h0 : 0 < g) : ob S' G' a c g ∧ sme S S' a := by
  obtain ⟨h1, h2⟩ := h a k.1.1 (by have := k.2; omega)
  exact ⟨ob_sm k h1 h2, h1⟩
theorem sme_a {S S' : PH} {G G' : Nat → Nat} (h : ks S G S' G') {r : Option Nat} {c n g : Nat} (k : ar S G r c n g) (h0 : 0 < g) : ar S' G' r c n g ∧ sme S S' (r.getD 0) := by
  obtain ⟨h1, h2⟩ := h _ k.1.2.1.1 (by have := k.2; omega)
  exact ⟨ar_sm k h1 h2, h1⟩
/-- the parts of the class's object -/
def PA (S : PH) (G : Nat → Nat) (a : Nat) : Prop := stB S G 0 a ∧ rep S a v0
def PB (S : PH) (G : Nat → Nat) (a : Nat) : Prop := ob S G a 0 2 ∧ ar S G (p_R S a 0) 8 6 3 ∧ p_I S a 1 = nI 0 ∧ p_I S a 2 = nI 0 ∧ ∀ i, p_R S (rf S a 0) i = none
def PC (S : PH) (G : Nat → Nat) (a : Nat) : Prop := ar S G (some a) 8 2 4 ∧ ∀ i, p_R S a i = none
def PD (S : PH) (G : Nat → Nat) (a : Nat) : Prop := ob S G a 3 5 ∧ ar S G (p_R S a 0) 6 60 6 ∧ p_I S a 1 = nI 0 ∧ p_I S (rf S a 0) = fun _ => 0
def PE (S : PH) (G : Nat → Nat) (a : Nat) : Prop := ob S G a 1 7 ∧ ∀ j, j < 8 → ar S G (p_R S a j) 6 8 (8 + j)
def PF (S : PH) (G : Nat → Nat) (a : Nat) : Prop := ar S G (some a) 6 8 16 ∧ p_I S a = fun _ => 0
section PP
variable {S S' : PH} {G G' : Nat → Nat} {a : Nat}
theorem PA.k (h : PA S G a) (k : ks S G S' G') : PA S' G' a := ⟨(stB_kk (ks_kk k) h.1).1, rep_kk (ks_kk k) h.1 h.2 (fun d hd h1 _ => (k d hd (by omega)).1.2.2.2.1)⟩
theorem PB.k (h : PB S G a) (k : ks S G S' G') : PB S' G' a := by
  obtain ⟨h1, h2, h3, h4, h5⟩ := h
  obtain ⟨k1, s1⟩ := sme_s k h1 (by omega)
  obtain ⟨k2, s2⟩ := sme_a k h2 (by omega)
  have eR := s1.2.2.2.2.1
  have er : rf S' a 0 = rf S a 0 := rf_e eR
  refine ⟨k1, by rw [eR]; exact k2, by rw [s1.2.2.2.1]; exact h3, by rw [s1.2.2.2.1]; exact h4, fun i => ?_⟩
  rw [er, show p_R S' (rf S a 0) = p_R S (rf S a 0) from s2.2.2.2.2.1]
  exact h5 i
theorem PC.k (h : PC S G a) (k : ks S G S' G') : PC S' G' a := by
  obtain ⟨h1, h2⟩ := h
  obtain ⟨k1, s1⟩ := sme_a k h1 (by omega)
  refine ⟨k1, fun i => ?_⟩
  rw [show p_R S' a = p_R S a from s1.2.2.2.2.1]
  exact h2 i
theorem PD.k (h : PD S G a) (k : ks S G S' G') : PD S' G' a := by
  obtain ⟨h1, h2, h3, h4⟩ := h
  obtain ⟨k1, s1⟩ := sme_s k h1 (by omega)
  obtain ⟨k2, s2⟩ := sme_a k h2 (by omega)
  have eR := s1.2.2.2.2.1
  have er : rf S' a 0 = rf S a 0 := rf_e eR
  refine ⟨k1, by rw [eR]; exact k2, by rw [s1.2.2.2.1]; exact h3, ?_⟩
  rw [er, show p_I S' (rf S a 0) = p_I S (rf S a 0) from s2.2.2.2.1]
  exact h4
theorem PE.k (h : PE S G a) (k : ks S G S' G') : PE S' G' a := by
  obtain ⟨h1, h2⟩ := h
  obtain ⟨k1, s1⟩ := sme_s k h1 (by omega)
  refine ⟨k1, fun j hj => ?_⟩
  rw [s1.2.2.2.2.1]
  exact (sme_a k (h2 j hj) (by omega)).1
theorem PF.k (h : PF S G a) (k : ks S G S' G') : PF S' G' a := by
  obtain ⟨h1, h2⟩ := h
  obtain ⟨k1, s1⟩ := sme_a k h1 (by omega)
  exact ⟨k1, by rw [show p_I S' a = p_I S a from s1.2.2.2.1]; exact h2⟩
end PP
/-- the tags in use -/
def UT (G : Nat → Nat) (U : Nat → Prop) : Prop := ∀ d, G d = 0 ∨ U (G d)
section SUB
variable {S : PH} {G : Nat → Nat} {U : Nat → Prop}
theorem ol_N {q k n t : Nat} (hq : q ∉ p_L S) : ol S G (s_N S q k n) (va_up G q t) := fun d hd => ⟨sme_N hd (fun z => hq (z ▸ hd)), va_o (fun z => hq (z ▸ hd))⟩
theorem ol_t {S1 S2 : PH} {G1 G2 : Nat → Nat} (h : ol S G S1 G1) (k : ∀ d, d ∈ p_L S → sme S1 S2 d ∧ G2 d = G1 d) : ol S G S2 G2 := fun d hd => ⟨sme_tr (h d hd).1 (k d hd).1, (k d hd).2.trans (h d hd).2⟩
theorem ut_fr (hU : UT G U) {t : Nat} (h0 : t ≠ 0) (hn : ¬ U t) : ∀ d, G d ≠ t := by
  intro d e
  rcases hU d with k | k
  · rw [k] at e; exact h0 e.symm
  · rw [e] at k; exact hn k
theorem sub_state (hw : GW S G) (hU : UT G U) (hn : ∀ t, 1000 ≤ t → t < 1100 → ¬ U t) {K : Nat → PH → Prop} (hK : ∀ q S' G', GW S' G' → ol S G S' G' → UT G' (fun t => U t ∨ (1000 ≤ t ∧ t < 1100)) → q ∉ p_L S → PA S' G' q → K q S') : wnw S fun q4 => wle (s_N S q4 2 0) fun S6 => wdr S6 2 (some q4) fun _ => w_X2_init (some q4) S6 (wq (fun _ S12 => K q4 S12) (fun _ _ => False)) := by
  intro q hq
  have fr : ∀ t, 1000 ≤ t → t < 1100 → ∀ d, G d ≠ t := fun t h1 h2 => ut_fr hU (by omega) (hn t h1 h2)
  have hk1 : q ∈ p_L (s_N S q 2 0) ∧ p_K (s_N S q 2 0) q = 2 := ⟨List.mem_append_right _ List.mem_cons_self, va_s⟩
  refine wdr_t hk1 (wk_init2 (G0 := va_up G q 1012) (b := 0) (GW_up hw hq (fr 1012 (by omega) (by omega)) rfl) ⟨hk1, va_s⟩ ur_s (fun d hd => ?_) (fun S2 G2 hw2 hf hT hst hrep => ?_))
  · rw [va_o hd]
    intro z
    exact fr (G d) (by omega) (by omega) d rfl
  · rw [wq_re]
    refine hK q S2 G2 hw2 ?_ ?_ hq ⟨hst, hrep⟩
    · refine ol_t (ol_N (k := 2) (n := 0) (t := 1012) hq) (fun d hd => hf d (List.mem_append_left _ hd) (fun z => hq (z ▸ hd)))
    · intro d
      by_cases hd : d ∈ p_L S
      · have hdq : d ≠ q := fun z => hq (z ▸ hd)
        rw [(hf d (List.mem_append_left _ hd) hdq).2, va_o hdq]
        rcases hU d with k | k
        · exact Or.inl k
        · exact Or.inr (Or.inl k)
      · by_cases e : d = q
        · right; right
          rw [e]
          have := hst.1.2
          omega
        · rcases hT d (fun z => by
            rcases List.mem_append.mp z with z | z
            · exact hd z
            · exact e (List.mem_singleton.mp z)) with k | k
          · exact Or.inl k
          · exact Or.inr (Or.inr (by omega))
/-- an object and its arrays: how it begins and what comes of it -/
theorem ao_start (hw : GW S G) (hU : UT G U) {q c t B E TB : Nat} (hq : q ∉ p_L S) (h0 : t ≠ 0) (ht : ¬ U t) (hB : 0 < B) (hr : ∀ e, B ≤ e → e < E → ¬ U e) : AO (s_N S q c 0) (va_up G q t) q c t B E TB (s_N S q c 0) (va_up G q t) [] [] (fun _ => 0) False := by
  have hk1 : q ∈ p_L (s_N S q c 0) ∧ p_K (s_N S q c 0) q = c := ⟨List.mem_append_right _ List.mem_cons_self, va_s⟩
  have hw1 := GW_up (S2 := s_N S q c 0) hw hq (ut_fr hU h0 ht) rfl
  refine ⟨hw1, fun d hd _ => ⟨⟨hd, rfl, rfl, rfl, rfl, rfl, rfl⟩, rfl⟩, fun d hd => Or.inl (hw1.2 d hd), ⟨hk1, va_s⟩, hk1.1, fun e he => absurd he List.not_mem_nil, fun d hd z => ?_, ur_s, fun h => h.elim⟩
  rw [va_o hd] at z
  exact ut_fr hU (by omega) (hr (G d) z.1 z.2) d rfl
theorem ao_end (hU : UT G U) {q c t B E TB : Nat} (hq : q ∉ p_L S) {S' : PH} {G' : Nat → Nat} {F : List (Nat × Nat × Nat × Nat)} {T : List Nat} {g : Nat → Int32} {b2 : Prop} (h : AO (s_N S q c 0) (va_up G q t) q c t B E TB S' G' F T g b2) {V : Nat → Prop} (hV : V t ∧ ∀ e, e ∈ T → V e) : GW S' G' ∧ ol S G S' G' ∧ UT G' (fun e => U e ∨ V e) := by
  refine ⟨h.w, ol_t (ol_N (k := c) (n := 0) (t := t) hq) (fun d hd => h.f d (List.mem_append_left _ hd) (fun z => hq (z ▸ hd))), fun d => ?_⟩
  by_cases hd : d ∈ p_L S
  · have hdq : d ≠ q := fun z => hq (z ▸ hd)
    rw [(h.f d (List.mem_append_left _ hd) hdq).2, va_o hdq]
    rcases hU d with k | k
    · exact Or.inl k
    · exact Or.inr (Or.inl k)
  · by_cases e : d = q
    · right; right
      rw [e, h.o.2]
      exact hV.1
    · rcases h.n d (fun z => by
        rcases List.mem_append.mp z with z | z
        · exact hd z
        · exact e (List.mem_singleton.mp z)) with k | k
      · exact Or.inl k
      · exact Or.inr (Or.inr (hV.2 _ k))
end SUB
