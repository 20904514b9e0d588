/-! NEW OBJECTS: the eight rows of scores -/
def gm (G : Nat → Nat) (q tq TB : Nat) (g : Nat → Nat) : Nat → Nat → Nat
  | 0 => va_up G q tq
  | i + 1 => va_up (gm G q tq TB g i) (g i) (TB + i)
def MI (S : PH) (G : Nat → Nat) (q tq TB : Nat) (g : Nat → Nat) (i : Nat) (S2 : PH) (G2 : Nat → Nat) : Prop := GW S2 G2 ∧ (∀ d, d ∈ p_L S → sme S S2 d ∧ G2 d = G d) ∧ (∀ d, d ∉ p_L S → G2 d = 0 ∨ G2 d = tq ∨ (TB ≤ G2 d ∧ G2 d < TB + i)) ∧ (q ∉ p_L S ∧ ob S2 G2 q 9 tq ∧ p_N S2 q = 8 ∧ p_I S2 q = fun _ => 0) ∧ (∀ j, j < i → p_R S2 q j = some (g j) ∧ g j ∉ p_L S ∧ g j ≠ q ∧ ob S2 G2 (g j) 6 (TB + j) ∧ p_N S2 (g j) = 8 ∧ p_I S2 (g j) = fun _ => 0)
theorem mi_all {S : PH} {G : Nat → Nat} {q tq TB : Nat} {g : Nat → Nat} (hw : GW S G) (hq : q ∉ p_L S) (ht : ∀ d, G d ≠ tq) (hT : ∀ i, i < 8 → ∀ d, G d ≠ TB + i) (hqT : ∀ i, i < 8 → tq ≠ TB + i) (hTB : 0 < TB) (hg : ∀ i, i < 8 → g i ∉ p_L (s_Mi S q g i)) : ∀ i, i ≤ 8 → MI S G q tq TB g i (s_Mi S q g i) (gm G q tq TB g i) := by
  intro i
  induction i with
  | zero =>
    intro _
    refine ⟨GW_up hw hq ht rfl, fun d hd => ?_, fun d hd => ?_, ⟨hq, ⟨⟨List.mem_append_right _ List.mem_cons_self, va_s⟩, va_s⟩, va_s, ur_s⟩, fun j hj => absurd hj (Nat.not_lt_zero j)⟩
    · have e : d ≠ q := fun z => hq (z ▸ hd)
      exact ⟨sme_N hd e, va_o e⟩
    · by_cases e : d = q
      · rw [e]; exact Or.inr (Or.inl va_s)
      · exact Or.inl ((va_o e).trans (hw.2 d hd))
  | succ i ih =>
    intro hi
    obtain ⟨h1, h2, h3, h4, h5⟩ := ih (by omega)
    have hgi := hg i (by omega)
    have hgS : g i ∉ p_L S := fun z => hgi (h2 _ z).1.1
    have hgq : g i ≠ q := fun z => hgi (z ▸ h4.2.1.1.1)
    have hfr : ∀ d, gm G q tq TB g i d ≠ TB + i := by
      intro d e
      by_cases hd : d ∈ p_L S
      · rw [(h2 d hd).2] at e
        exact hT i (by omega) d e
      · have := hqT i (by omega)
        have := h3 d hd
        omega
    have sN : ∀ d, d ∈ p_L (s_Mi S q g i) → d ≠ q → sme (s_Mi S q g i) (s_Mi S q g (i + 1)) d ∧ gm G q tq TB g (i + 1) d = gm G q tq TB g i d := by
      intro d hd hdq
      have e : d ≠ g i := fun z => hgi (z ▸ hd)
      exact ⟨sme_tr (sme_N hd e) (sme_R (List.mem_append_left _ hd) hdq), va_o e⟩
    refine ⟨GW_up h1 hgi hfr rfl, fun d hd => ?_, fun d hd => ?_, ⟨h4.1, ⟨⟨List.mem_append_left _ h4.2.1.1.1, (va_o (Ne.symm hgq)).trans h4.2.1.1.2⟩, (va_o (Ne.symm hgq)).trans h4.2.1.2⟩, (va_o (Ne.symm hgq)).trans h4.2.2.1, (ur_o (Ne.symm hgq)).trans h4.2.2.2⟩, fun j hj => ?_⟩
    · have e : d ≠ q := fun z => h4.1 (z ▸ hd)
      have k := sN d (h2 d hd).1.1 e
      exact ⟨sme_tr (h2 d hd).1 k.1, k.2.trans (h2 d hd).2⟩
    · by_cases e : d = g i
      · rw [e]
        right; right
        rw [show gm G q tq TB g (i + 1) (g i) = TB + i from va_s]
        omega
      · rw [show gm G q tq TB g (i + 1) d = gm G q tq TB g i d from va_o e]
        have := h3 d hd
        omega
    · by_cases e : j = i
      · subst e
        refine ⟨?_, hgS, hgq, ⟨⟨List.mem_append_right _ List.mem_cons_self, va_s⟩, va_s⟩, va_s, ?_⟩
        · show u_2 _ q j (some (g j)) q j = _
          unfold u_2; exact if_pos ⟨rfl, rfl⟩
        · show u_r _ (g j) _ (g j) = _
          unfold u_r; exact if_pos rfl
      · obtain ⟨k1, k2, k3, k4, k5, k6⟩ := h5 j (by omega)
        obtain ⟨s1, s2⟩ := sN (g j) k4.1.1 k3
        refine ⟨?_, k2, k3, ob_sm k4 s1 s2, s1.2.2.1.trans k5, s1.2.2.2.1.trans k6⟩
        show u_2 (u_r _ (g i) _) q i (some (g i)) q j = _
        unfold u_2
        rw [if_neg (fun z => e z.2), ur_o (Ne.symm hgq)]
        exact k1
theorem mi_8 {S : PH} {G : Nat → Nat} {q tq TB : Nat} {g : Nat → Nat} (hw : GW S G) (hq : q ∉ p_L S) (ht : ∀ d, G d ≠ tq) (hT : ∀ i, i < 8 → ∀ d, G d ≠ TB + i) (hqT : ∀ i, i < 8 → tq ≠ TB + i) (hTB : 0 < TB) (hg : ∀ i, i < 8 → g i ∉ p_L (s_Mi S q g i)) : ∃ SM GM, s_Mi S q g 8 = SM ∧ MI S G q tq TB g 8 SM GM := ⟨_, _, rfl, mi_all hw hq ht hT hqT hTB hg 8 (Nat.le_refl 8)⟩
section AOm
variable {S0 S : PH} {G0 G : Nat → Nat} {a c tO B E TB : Nat} {F : List (Nat × Nat × Nat × Nat)} {T : List Nat} {g : Nat → Int32}
theorem AO.mul1 (h : AO S0 G0 a c tO B E TB S G F T g False) {tq : Nat} (hr : 0 < B) (hj : ∀ e ∈ F, e.1 ≠ 10) {q : Nat} {gg : Nat → Nat} (hq : q ∉ p_L S) {SM : PH} {GM : Nat → Nat} (hM : MI S G q tq TB gg 8 SM GM) : (a ∈ p_L SM ∧ p_K SM a = c) ∧ AO S0 G0 a c tO B E TB (s_R SM a 10 (some q)) GM ((10, 9, 8, tq) :: F) (tq :: TB :: (TB + 1) :: (TB + 2) :: (TB + 3) :: (TB + 4) :: (TB + 5) :: (TB + 6) :: (TB + 7) :: T) g True := by
  obtain ⟨h1, h2, h3, h4, h5⟩ := hM
  have hqa : a ≠ q := fun z => hq (z ▸ h.o.1.1)
  obtain ⟨sa, ga⟩ := h2 a h.o.1.1
  have ha1 : a ∈ p_L (SM) ∧ p_K (SM) a = c := ⟨sa.1, sa.2.1.trans h.o.1.2⟩
  refine ⟨ha1, ?_⟩
  have hR : p_R (s_R (SM) a 10 (some q)) a 10 = some q := by
    show u_2 _ a 10 (some q) a 10 = some q
    unfold u_2; exact if_pos ⟨rfl, rfl⟩
  have hR2 : ∀ f, f ≠ 10 → p_R (s_R (SM) a 10 (some q)) a f = p_R S a f := by
    intro f hf
    show u_2 (p_R SM) a 10 (some q) a f = p_R S a f
    unfold u_2
    rw [if_neg (fun z => hf z.2), sa.2.2.2.2.1]
  have sS : ∀ d, d ∈ p_L (SM) → d ≠ a → sme (SM) (s_R (SM) a 10 (some q)) d := fun d hd hda => sme_R hd hda
  have hbase : AO S0 G0 a c tO B E TB (s_R (SM) a 10 (some q)) (GM) F (tq :: TB :: (TB + 1) :: (TB + 2) :: (TB + 3) :: (TB + 4) :: (TB + 5) :: (TB + 6) :: (TB + 7) :: T) g False := by
    refine h.tr (fun d hd hda => sme_tr (h2 d hd).1 (sS d (h2 d hd).1.1 hda)) ⟨ha1.1, ha1.2⟩ (fun e he => hR2 _ (hj e he)) (fun hb => hb.elim) (fun d hd => (h2 d hd).2) ⟨h1.1, h1.2⟩ (fun d hd => ?_) (fun u hu => by simp only [List.mem_cons, hu, or_true]) ?_
    · rcases h3 d hd with k | k | k
      · exact Or.inl k
      · right
        rw [k]
        exact List.mem_cons_self
      · right
        simp only [List.mem_cons]
        omega
    · exact sa.2.2.2.1.trans h.i
  refine ⟨hbase.w, hbase.f, hbase.n, hbase.o, hbase.a0, ?_, hbase.x, hbase.i, fun _ => ?_⟩
  · intro e he
    rcases List.mem_cons.mp he with rfl | he
    · rw [hR]
      have s2 := sS q h4.2.1.1.1 (Ne.symm hqa)
      refine ⟨⟨⟨⟨rfl, ⟨s2.1, h4.2.1.1.2⟩, h4.2.2.1⟩, h4.2.1.2⟩, ?_⟩, Ne.symm hqa⟩
      exact h4.2.2.2
    · exact hbase.fs e he
  · have e : rf (s_R (SM) a 10 (some q)) a 10 = q := by unfold rf; rw [hR]; rfl
    rw [e]
    refine ⟨h4.2.1.1.1, Ne.symm hqa, fun j hj => ?_⟩
    obtain ⟨k1, k2, k3, k4, k5, k6⟩ := h5 j hj
    have kR : p_R (s_R (SM) a 10 (some q)) q j = some (gg j) := by
      show u_2 (p_R SM) a 10 (some q) q j = _
      unfold u_2
      rw [if_neg (fun z => hqa z.1.symm)]
      exact k1
    have hne : gg j ≠ a := fun z => k2 (z ▸ h.o.1.1)
    have er : rf (s_R (SM) a 10 (some q)) q j = gg j := by unfold rf; rw [kR]; rfl
    rw [er, kR]
    exact ⟨⟨⟨⟨rfl, ⟨k4.1.1, k4.1.2⟩, k5⟩, k4.2⟩, k6⟩, hne⟩
end AOm
section AOn
variable {S0 S : PH} {G0 G : Nat → Nat} {a c tO B E TB : Nat} {F : List (Nat × Nat × Nat × Nat)} {T : List Nat} {g : Nat → Int32}
/-- the array of arrays -/
theorem AO.mul (h : AO S0 G0 a c tO B E TB S G F T g False) (tq : Nat) (ht : B ≤ tq ∧ tq < E) (hT : tq ∉ T) (hO : tq ≠ tO) (h0 : 0 < B) (hr : B ≤ TB ∧ TB + 8 ≤ E) (hTr : ∀ i, i < 8 → TB + i ∉ T ∧ TB + i ≠ tO ∧ tq ≠ TB + i) (hj : ∀ e ∈ F, e.1 ≠ 10) {K : PH → Prop} (hK : ∀ S' G', AO S0 G0 a c tO B E TB S' G' ((10, 9, 8, tq) :: F) (tq :: TB :: (TB + 1) :: (TB + 2) :: (TB + 3) :: (TB + 4) :: (TB + 5) :: (TB + 6) :: (TB + 7) :: T) g True → K S') : wmul S fun q S1 => wdr S1 c (some a) fun a1 => wle (s_R S1 a1 10 (some q)) fun S2 => K S2 := by
  intro q gg hq hgg
  obtain ⟨SM, GM, hS, hM⟩ := mi_8 (TB := TB) (tq := tq) h.w hq (h.free ht hT hO h0) (fun i hi => h.free (t := TB + i) (by omega) (hTr i hi).1 (hTr i hi).2.1 h0) (fun i hi => (hTr i hi).2.2) (by omega) hgg
  rw [hS]
  have hh := h.mul1 h0 hj hq hM
  exact wdr_t hh.1 (hK _ _ hh.2)
end AOn
