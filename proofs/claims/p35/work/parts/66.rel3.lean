/-! THE WHOLE OBJECT: a new State in an empty place -/
theorem aw_v0 : AW v0 := by
  refine ⟨fun f k hf hk => ?_, fun k hk => ?_⟩
  · unfold v0
    by_cases h0 : f = 0
    · rw [if_pos h0, if_neg (by omega)]
    · rw [if_neg h0]
      by_cases h2 : 20 ≤ f ∧ f < 28
      · rw [if_pos h2, if_neg (by omega)]
      · rw [if_neg h2]
        by_cases h3 : f = 14
        · omega
        · rw [if_neg h3, if_neg (by omega)]
  · unfold v0
    rw [if_neg (by omega), if_neg (by omega), if_neg (by omega), if_pos rfl, if_neg (by omega), if_neg (by omega), if_neg (by omega), if_neg (by omega)]
theorem relC_new {S : PH} {G : Nat → Nat} {x nw : Nat} {v : AS} {hs : List AS} {nx : Nat} {sl : Nat → Option AS} {tn : Nat} {tx : Nat → Int32} (h : RelC S G x nw v hs nx sl tn tx) {r i b : Nat} (ro : (r = hR S x ∧ i < 6 ∧ b = 1 + i) ∨ (r = rf S x 2 ∧ i < 2 ∧ b = 7 + i)) (hn : p_R S r i = none) {Q : (Nat ⊕ Unit) → PH → Prop} {q : Nat} (hq : q ∉ p_L S) (hQ : ∀ S2 G2, RelC (s_R S2 r i (some q)) G2 x nw v hs nx (fun j => if r = rf S x 2 ∧ j = i then some v0 else sl j) tn tx → fc S G (s_R S2 r i (some q)) G2 → kk S G S2 G2 → p_R S2 x = p_R S x → p_R S2 (rf S x 1) = p_R S (rf S x 1) → RC S2 G2 x nw → (q ∈ p_L S2 ∧ p_K S2 q = 2) → p_I S2 (rf S x 1) = p_I S (rf S x 1) → Q (.inr ()) S2) : (q ∈ p_L (s_N S q 2 0) ∧ p_K (s_N S q 2 0) q = 2) ∧ w_X2_init (some q) (s_N S q 2 0) Q := by
  obtain ⟨g1, g3, g30, g5, gR, gS, gx, _, _⟩ := relC_tags h
  have hb : 1 ≤ b ∧ b < 9 := by rcases ro with ⟨_, h1, h2⟩ | ⟨_, h1, h2⟩ <;> omega
  have gr : G r = 3 ∨ G r = 4 := by rcases ro with ⟨e, _⟩ | ⟨e, _⟩ <;> rw [e] <;> omega
  have hfree : ∀ d, ¬ (1000 + 100 * b ≤ G d ∧ G d < 1100 + 100 * b) := by
    rcases ro with ⟨e, h1, h2⟩ | ⟨e, h1, h2⟩
    · rw [e] at hn; rw [h2]; exact (h.ri i h1).2 hn
    · rw [e] at hn; rw [h2]; exact (h.si i h1).2 hn
  have hin : ∀ d, d ∈ p_L S → d ≠ q := fun d hd z => hq (z ▸ hd)
  have hk1 : q ∈ p_L (s_N S q 2 0) ∧ p_K (s_N S q 2 0) q = 2 := ⟨List.mem_append_right _ List.mem_cons_self, va_s⟩
  refine ⟨hk1, wk_init2 (G0 := va_up G q (1012 + 100 * b)) (b := b) (GW_up h.gw hq (fun d e => hfree d (by omega)) rfl) ⟨hk1, va_s⟩ ?_ (fun d hd => ?_) (fun S2 G2 hw2 hf hT hst hrep => ?_)⟩
  · show u_r (p_I S) q _ q = _
    exact ur_s
  · rw [va_o hd]
    exact hfree d
  have hS2 : ∀ d, d ∈ p_L S → sme S S2 d ∧ G2 d = G d := by
    intro d hd
    have e := hin d hd
    obtain ⟨k1, k2⟩ := hf d (List.mem_append_left _ hd) e
    exact ⟨sme_tr (sme_N hd e) k1, k2.trans (va_o e)⟩
  have hGn : ∀ d, d ∉ p_L S → G2 d = 0 ∨ (1000 + 100 * b ≤ G2 d ∧ G2 d < 1100 + 100 * b) := by
    intro d hd
    by_cases e : d = q
    · rw [e]
      right
      have := hst.1.2
      omega
    · refine hT d (fun z => ?_)
      rcases List.mem_append.mp z with z | z
      · exact hd z
      · exact e (List.mem_singleton.mp z)
  have kk2 : kk S G S2 G2 := fun d hd _ => by
    obtain ⟨k1, k2⟩ := hS2 d hd
    exact ⟨⟨k1.1, k1.2.1, k1.2.2.1, k2⟩, fun _ _ => k1.2.2.2.2.1⟩
  have kk3 : kk S G (s_R S2 r i (some q)) G2 := fun d hd hd0 => by
    obtain ⟨k1, k2⟩ := hS2 d hd
    refine ⟨⟨k1.1, k1.2.1, k1.2.2.1, k2⟩, fun h3 h4 => ?_⟩
    have e : d ≠ r := fun z => by rw [z] at h3 h4; omega
    exact (u2_o e).trans k1.2.2.2.2.1
  have I3 : ∀ d, d ∈ p_L S → p_I (s_R S2 r i (some q)) d = p_I S d := fun d hd => (hS2 d hd).1.2.2.2.1
  have rL : r ∈ p_L S := by
    rcases ro with ⟨e, _⟩ | ⟨e, _⟩
    · rw [e]; exact h.rc.2.2.2.1.2.2.1.2.1.1
    · rw [e]; exact h.rc.2.2.2.2.1.1.2.1.1
  have Rn : ∀ c j, c ∈ p_L S → (c ≠ r ∨ j ≠ i) → p_R (s_R S2 r i (some q)) c j = p_R S c j := by
    intro c j hc hne
    show u_2 (p_R S2) r i (some q) c j = _
    unfold u_2
    rw [if_neg, (hS2 c hc).1.2.2.2.2.1]
    rintro ⟨z1, z2⟩
    rcases hne with hne | hne
    · exact hne z1
    · exact hne z2
  have Rq : p_R (s_R S2 r i (some q)) r i = some q := by
    show u_2 (p_R S2) r i (some q) r i = _
    unfold u_2
    exact if_pos ⟨rfl, rfl⟩
  obtain ⟨c1, c2, c3, c4⟩ := RC_kk kk3 h.rc
  have f1 : ∀ j, rf (s_R S2 r i (some q)) x j = rf S x j := fun j => rf_e c2
  have f2 : ∀ j, rf (s_R S2 r i (some q)) (rf S x 1) j = rf S (rf S x 1) j := fun j => rf_e c3
  have f3 : ∀ j, rf (s_R S2 r i (some q)) (rf S x 3) j = rf S (rf S x 3) j := fun j => rf_e c4
  have fR : hR (s_R S2 r i (some q)) x = hR S x := by unfold hR; rw [f1, f2]
  have LR : hR S x ∈ p_L S := h.rc.2.2.2.1.2.2.1.2.1.1
  have LS : rf S x 2 ∈ p_L S := h.rc.2.2.2.2.1.1.2.1.1
  have L1 : rf S x 1 ∈ p_L S := h.rc.2.2.2.1.2.1.1.1
  have L3 : rf S x 3 ∈ p_L S := h.rc.2.2.2.2.2.1.2.1.1.1
  have L30 : rf S (rf S x 3) 0 ∈ p_L S := h.rc.2.2.2.2.2.1.2.2.1.2.1.1
  have L5 : rf S x 5 ∈ p_L S := h.rc.2.2.2.2.2.2.2.1.2.1.1
  have kkq : kk S2 G2 (s_R S2 r i (some q)) G2 := fun d hd hd0 => ⟨⟨hd, rfl, rfl, rfl⟩, fun h3 h4 => u2_o (fun z => by
    have e : G2 r = G r := (hS2 r rL).2
    rw [z, e] at h3 h4
    omega)⟩
  have svN : sv (s_R S2 r i (some q)) G2 b (some q) := by
    refine ⟨fun p hp => ?_, fun z => by cases z⟩
    cases hp
    exact ⟨(stB_kk kkq hst).1, v0, rep_kk kkq hst hrep (fun _ _ _ _ => rfl), aw_v0⟩
  have svO : ∀ b2 s, b2 ≠ b → sv S G b2 s → sv (s_R S2 r i (some q)) G2 b2 s := by
    intro b2 s hb2 hs
    refine ⟨fun p hp => ?_, fun hz d hd => ?_⟩
    · obtain ⟨k1, w, k2, k3⟩ := hs.1 p hp
      exact ⟨(stB_kk kk3 k1).1, w, rep_kk kk3 k1 k2 (fun d hd _ _ => I3 d hd), k3⟩
    · by_cases hdS : d ∈ p_L S
      · rw [(hS2 d hdS).2] at hd
        exact hs.2 hz d hd
      · have := hGn d hdS
        omega
  have rF : r = hR S x ∨ r = rf S x 2 := by rcases ro with ⟨e, _⟩ | ⟨e, _⟩ <;> simp [e]
  have hne : hR S x ≠ rf S x 2 := fun z => by rw [z] at gR; omega
  refine hQ S2 G2 ⟨c1, ⟨hw2.1, hw2.2⟩, ⟨rep_kk kk3 h.rc.st h.rv (fun d hd _ _ => I3 d hd), h.aw⟩, fun j hj => ?_, fun j hj => ?_, ?_, fun j w hw => ?_, fun j hj => ⟨fun hz => ?_, fun w hw => ?_⟩, ?_, ?_⟩ (fun d hd hg => ⟨sme_tr (hS2 d hd).1 (sme_R (hS2 d hd).1.1 (fun z => by rw [z] at hg; omega)), (hS2 d hd).2⟩) kk2 ((hS2 x h.rc.1.1.1).1.2.2.2.2.1) ((hS2 _ L1).1.2.2.2.2.1) (RC_kk kk2 h.rc).1 hst.1.1 ((hS2 _ L1).1.2.2.2.1)
  · rw [fR]
    by_cases e : hR S x = r ∧ j = i
    · obtain ⟨e1, e2⟩ := e
      subst e2
      rw [e1, Rq]
      rcases ro with ⟨_, _, h2⟩ | ⟨h1, _, _⟩
      · rw [← h2]; exact svN
      · exact absurd (e1.trans h1) hne
    · rw [Rn _ _ LR (by
        by_cases z : hR S x = r
        · exact Or.inr (fun z2 => e ⟨z, z2⟩)
        · exact Or.inl z)]
      refine svO _ _ ?_ (h.ri j hj)
      rcases ro with ⟨h1, _, h2⟩ | ⟨h1, _, h2⟩
      · intro z; exact e ⟨h1.symm, by omega⟩
      · omega
  · rw [f1]
    by_cases e : rf S x 2 = r ∧ j = i
    · obtain ⟨e1, e2⟩ := e
      subst e2
      rw [e1, Rq]
      rcases ro with ⟨h1, _, _⟩ | ⟨_, _, h2⟩
      · exact absurd (h1.symm.trans e1.symm) hne
      · rw [← h2]; exact svN
    · rw [Rn _ _ LS (by
        by_cases z : rf S x 2 = r
        · exact Or.inr (fun z2 => e ⟨z, z2⟩)
        · exact Or.inl z)]
      refine svO _ _ ?_ (h.si j hj)
      rcases ro with ⟨h1, _, h2⟩ | ⟨h1, _, h2⟩
      · omega
      · intro z; exact e ⟨h1.symm, by omega⟩
  · rw [f1, I3 _ L1]
    exact h.hn
  · obtain ⟨p, k1, k2, k3⟩ := h.hv j w hw
    have hlt : (nx + 5 - j) % 6 < 6 := Nat.mod_lt _ (by decide)
    rw [fR]
    refine ⟨p, ?_, rep_kk kk3 ((h.ri _ hlt).1 p k1).1 k2 (fun d hd _ _ => I3 d hd), k3⟩
    rw [Rn _ _ LR]
    · exact k1
    · by_cases z : hR S x = r
      · right
        intro z2
        rw [← z, ← z2, k1] at hn
        cases hn
      · exact Or.inl z
  · rw [f1]
    have hz : (if r = rf S x 2 ∧ j = i then some v0 else sl j) = none := hz
    by_cases e : r = rf S x 2 ∧ j = i
    · rw [if_pos e] at hz; cases hz
    · rw [if_neg e] at hz
      have k := (h.so j hj).1 hz
      rw [Rn _ _ LS (by
        by_cases z : r = rf S x 2
        · exact Or.inr (fun z2 => e ⟨z, z2⟩)
        · exact Or.inl (Ne.symm z))]
      exact k
  · rw [f1]
    have hw : (if r = rf S x 2 ∧ j = i then some v0 else sl j) = some w := hw
    by_cases e : r = rf S x 2 ∧ j = i
    · rw [if_pos e] at hw
      cases hw
      rw [← e.1, e.2, Rq]
      exact ⟨q, rfl, rep_kk kkq hst hrep (fun _ _ _ _ => rfl), aw_v0⟩
    · rw [if_neg e] at hw
      obtain ⟨p, k1, k2, k3⟩ := (h.so j hj).2 w hw
      refine ⟨p, ?_, rep_kk kk3 ((h.si _ hj).1 p k1).1 k2 (fun d hd _ _ => I3 d hd), k3⟩
      rw [Rn _ _ LS]
      · exact k1
      · by_cases z : r = rf S x 2
        · exact Or.inr (fun z2 => e ⟨z, z2⟩)
        · exact Or.inl (Ne.symm z)
  · rw [f1, f3, I3 _ L3, I3 _ L30]
    exact h.tt
  · rw [f1, I3 _ L5]
    exact h.tk
