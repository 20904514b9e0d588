/-! MATCHING: the search finds a way, or nothing leads out of what it has seen -/
def INV (E H : Nat → Nat → Bool) (w0 w : AS) (s : Nat) (m1 m2 : Int32) (sp sq : Nat → Bool) (qu ι : Nat → Nat) (en at_ : Nat) : Prop := FI E H w s sp sq qu ι en ∧ (∀ r, r < 8 → hb m1 (nI r) = sp r) ∧ (∀ q, q < 8 → hb m2 (nI q) = sq q) ∧ (∀ r q, r < 8 → q < 8 → sp r = true → H r q = true → sq q = true) ∧ (∀ i r, i < at_ → i < en → r < 8 → E r (qu i) = true → H r (qu i) = false → sp r = true) ∧ ∀ i, i < 5 → w i = w0 i
def FND (E H : Nat → Nat → Bool) (w0 w' : AS) (s : Nat) : Prop := ∃ H' p, p < 8 ∧ ¬ w0 3 p = nI 0 ∧ HB w' H' ∧ XI E H H' p s ∧ (∀ i, i < 3 → w' i = w0 i) ∧ w' 3 = up1 (w0 3) p (w0 3 p - 1)
def sj (sp : Nat → Bool) (j : Nat) : Nat → Bool := fun r => sp r || decide (r = j)
def ij (ι : Nat → Nat) (j a : Nat) : Nat → Nat := fun r => if r = j then a else ι r
theorem sj_e {sp : Nat → Bool} {j : Nat} : sj sp j j = true := by unfold sj; rw [decide_eq_true rfl, Bool.or_true]
theorem sj_t {sp : Nat → Bool} {j r : Nat} (h : sp r = true) : sj sp j r = true := by unfold sj; rw [h, Bool.true_or]
theorem sj_n {sp : Nat → Bool} {j r : Nat} (h : r ≠ j) : sj sp j r = sp r := by unfold sj; rw [decide_eq_false h, Bool.or_false]
theorem ij_e {ι : Nat → Nat} {j a : Nat} : ij ι j a j = a := if_pos rfl
theorem ij_n {ι : Nat → Nat} {j a r : Nat} (h : r ≠ j) : ij ι j a r = ι r := if_neg h
section FW
variable {S : PH} {G : Nat → Nat} {x nw : Nat} {E H : Nat → Nat → Bool} {s : Nat} {w0 : AS}
/-- one more person is seen -/
theorem FI_p {w : AS} {sp sq : Nat → Bool} {qu ι : Nat → Nat} {en j a : Nat} (hF : FI E H w s sp sq qu ι en) (hs : sp j = false) (ha : a < en) (hE : E j (qu a) = true) (hH : H j (qu a) = false) (hl : w 3 j = nI 0) : FI E H (u_2 w 5 j (nI (qu a))) s (sj sp j) sq qu (ij ι j a) en := by
  obtain ⟨f1, f2, f3, f4, f5⟩ := hF
  refine ⟨f1, fun i hi => ?_, f3, fun r hr g => ?_, fun i i0 hi => ?_⟩
  · rw [u_ne (by omega)]; exact f2 i hi
  · by_cases e : r = j
    · subst e
      rw [ij_e, u_s, u_ne (by omega)]
      exact ⟨ha, rfl, hE, hH, hl⟩
    · rw [sj_n e] at g
      rw [ij_n e, u_k e, u_ne (by omega)]
      exact f4 r hr g
  · obtain ⟨r, k1, k2, k3, k4, k5⟩ := f5 i i0 hi
    have hne : r ≠ j := fun z => by rw [z, hs] at k2; cases k2
    refine ⟨r, k1, sj_t k2, ?_, k4, by rw [ij_n hne]; exact k5⟩
    rw [u_ne (by omega)]; exact k3
/-- the row of wishes of a person who is not seen -/
theorem FI_w {w : AS} {sp sq : Nat → Bool} {qu ι : Nat → Nat} {en j : Nat} {y : Int32} (hF : FI E H w s sp sq qu ι en) (hs : sp j = false) : FI E H (u_2 w 5 j y) s sp sq qu ι en := by
  obtain ⟨f1, f2, f3, f4, f5⟩ := hF
  refine ⟨f1, fun i hi => ?_, f3, fun r hr g => ?_, fun i i0 hi => ?_⟩
  · rw [u_ne (by omega)]; exact f2 i hi
  · have hne : r ≠ j := fun z => by rw [z, hs] at g; cases g
    rw [u_k hne, u_ne (by omega)]
    exact f4 r hr g
  · obtain ⟨r, k1, k2, k3, k4, k5⟩ := f5 i i0 hi
    refine ⟨r, k1, k2, ?_, k4, k5⟩
    rw [u_ne (by omega)]; exact k3
def RESF (S : PH) (G : Nat → Nat) (E H : Nat → Nat → Bool) (w0 : AS) (s a : Nat) (o : Option ((Int32 × Int32 × Int32 × Int32 × PH) ⊕ (Int32 × PH))) : Prop := (∃ m1 m2 w sp sq qu ι en, o = some (.inl (m1, m2, nI en, nI (a + 1), mw S G w)) ∧ INV E H w0 w s m1 m2 sp sq qu ι en (a + 1)) ∨ ∃ w', o = some (.inr (nI 1, mw S G w')) ∧ FND E H w0 w' s
theorem p_inner (hg : Gi G) (h : RC S G x nw) (hB : HB w0 H) (hsub : ∀ a q, a < 8 → q < 8 → H a q = true → E a q = true) (hE : ∀ r q, r < 8 → q < 8 → hb (w0 1 r) (nI q) = E r q) (hL : ∀ r, r < 8 → ∃ l, l < 20000 ∧ w0 3 r = nI l) {a c : Nat} (hc : c < 8) : ∀ k j, j + k = 8 → ∀ w m1 m2 sp sq qu ι en, INV E H w0 w s m1 m2 sp sq qu ι en a → a < en → qu a = c → (∀ r, r < j → E r c = true → H r c = false → sp r = true) → RESF S G E H w0 s a (lp (st_X1_findWay_45 (some (rf S x 4)) (nI s)) (m1, m2, nI en, nI a, nI c, nI j, mw S G w)) := by
  intro k
  have mt : ∀ {w : AS} {β : Type} {f : Nat → Option β}, dr (mw S G w) 1 (some (rf S x 4)) f = f (rf S x 4) := fun {w β f} => h.mt
  have ma : ∀ {w : AS} (j : Nat) (hj : j < 8) {β : Type} {f : Nat → Option β}, dr (mw S G w) 6 (p_R S (rf S x 4) j) f = f (rf S (rf S x 4) j) := fun {w} j hj {β f} => h.ma j hj
  induction k with
  | zero =>
    intro j hj w m1 m2 sp sq qu ι en hI ha hq hP
    obtain rfl : j = 8 := by omega
    have e1 : nI a + 1 = nI (a + 1) := nI_add a 1
    refine Or.inl ⟨m1, m2, w, sp, sq, qu, ι, en, lp_inr ?_, ?_⟩
    · unfold st_X1_findWay_45
      dsimp only
      rw [if_pos (show (8 : Int32) ≤ nI 8 from Int32.le_refl _), e1]
      rfl
    · obtain ⟨i1, i2, i3, i4, i5, i6⟩ := hI
      refine ⟨i1, i2, i3, i4, fun i r hi hin hr g1 g2 => ?_, i6⟩
      by_cases e : i = a
      · rw [e, hq] at g1 g2
        exact hP r hr g1 g2
      · exact i5 i r (by omega) hin hr g1 g2
  | succ k ih =>
    intro j hj w m1 m2 sp sq qu ι en hI ha hq hP
    obtain ⟨i1, i2, i3, i4, i5, i6⟩ := hI
    have j8 : j < 8 := by omega
    have e8 := i1.e8
    have n8 : ¬ (8 : Int32) ≤ nI j := by
      show ¬ nI 8 ≤ nI j
      rw [nI_leI (by omega) (by omega)]
      omega
    have e1 : nI j + 1 = nI (j + 1) := nI_add j 1
    have b1 : (1 : Int32) <<< (nI j &&& 31) = mb j := rfl
    cases hs : sp j with
    | true =>
      have st : st_X1_findWay_45 (some (rf S x 4)) (nI s) (m1, m2, nI en, nI a, nI c, nI j, mw S G w) = some (.inl (m1, m2, nI en, nI a, nI c, nI (j + 1), mw S G w)) := by
        unfold st_X1_findWay_45
        dsimp only
        rw [if_neg n8, p_hasN, bd_t, i2 j j8, hs, if_neg (show ¬ (if true = true then nI 1 else nI 0) = 0 by decide), e1]
      rw [lp_inl st]
      refine ih (j + 1) (by omega) w m1 m2 sp sq qu ι en ⟨i1, i2, i3, i4, i5, i6⟩ ha hq (fun r hr g1 g2 => ?_)
      by_cases e : r = j
      · rw [e]; exact hs
      · exact hP r (by omega) g1 g2
    | false =>
      have hbit : hb (w 1 j &&& (w 4 j ^^^ nM)) (nI c) = (E j c && !H j c) := by
        rw [hb_and _ _ hc, hb_not _ hc, i6 1 (by omega), i6 4 (by omega), hE j c j8 hc, hB j c j8 hc]
      cases hbv : (E j c && !H j c) with
      | false =>
        have st : st_X1_findWay_45 (some (rf S x 4)) (nI s) (m1, m2, nI en, nI a, nI c, nI j, mw S G w) = some (.inl (m1, m2, nI en, nI a, nI c, nI (j + 1), mw S G w)) := by
          unfold st_X1_findWay_45
          dsimp only
          rw [if_neg n8, p_hasN, bd_t, i2 j j8, hs, if_pos (show (if false = true then nI 1 else nI 0) = 0 from rfl), mt, R_mw, ma 1 (by omega), N_mw, h.nma 1 (by omega), ck_n j8 (by omega), ma 4 (by omega), h.nma 4 (by omega), ck_n j8 (by omega), n_cl (by omega), gmw h 1 (by omega), gmw h 4 (by omega), p_hasN, bd_t, ← m_1, hbit, hbv, if_pos (show (if false = true then nI 1 else nI 0) = 0 from rfl), e1]
        rw [lp_inl st]
        refine ih (j + 1) (by omega) w m1 m2 sp sq qu ι en ⟨i1, i2, i3, i4, i5, i6⟩ ha hq (fun r hr g1 g2 => ?_)
        by_cases e : r = j
        · rw [← e, g1, g2] at hbv; cases hbv
        · exact hP r (by omega) g1 g2
      | true =>
        have hbv' := hbv
        rw [Bool.and_eq_true, Bool.not_eq_true'] at hbv'
        obtain ⟨v1, v2⟩ := hbv'
        obtain ⟨l, l1, l2⟩ := hL j j8
        have w3 : w 3 j = nI l := by rw [i6 3 (by omega)]; exact l2
        by_cases hl : l = 0
        · have hF2 := FI_p i1 hs ha (by rw [hq]; exact v1) (by rw [hq]; exact v2) (by rw [w3, hl])
          rw [hq] at hF2
          have hm : ∀ q, q < 8 → hb (w 4 j &&& (m2 ^^^ nM)) (nI q) = (H j q && !sq q) := fun q hq8 => by rw [hb_and _ _ hq8, hb_not _ hq8, i6 4 (by omega), hB j q j8 hq8, i3 q hq8]
          obtain ⟨w', qu', en', z1, z2, z3, z4, z5⟩ := p_qh hg h hF2 j8 sj_e (by rw [ij_e]; exact ha) hm
          have w4 : w' 4 j = w 4 j := by rw [z3 4 (by omega) (by omega), u_ne (by omega)]
          have st : st_X1_findWay_45 (some (rf S x 4)) (nI s) (m1, m2, nI en, nI a, nI c, nI j, mw S G w) = some (.inl (m1 ||| mb j, m2 ||| w 4 j, nI en', nI a, nI c, nI (j + 1), mw S G w')) := by
            unfold st_X1_findWay_45
            dsimp only
            rw [if_neg n8, p_hasN, bd_t, i2 j j8, hs, if_pos (show (if false = true then nI 1 else nI 0) = 0 from rfl), mt, R_mw, ma 1 (by omega), N_mw, h.nma 1 (by omega), ck_n j8 (by omega), ma 4 (by omega), h.nma 4 (by omega), ck_n j8 (by omega), n_cl (by omega), gmw h 1 (by omega), gmw h 4 (by omega), p_hasN, bd_t, ← m_1, hbit, hbv, if_neg (show ¬ (if true = true then nI 1 else nI 0) = 0 by decide), b1, le_t, mt, R_mw, ma 5 (by omega), N_mw, h.nma 5 (by omega), ck_n j8 (by omega), smw hg h 5 (by omega), le_t, mt, R_mw, ma 3 (by omega), N_mw, h.nma 3 (by omega), ck_n j8 (by omega), gmw h 3 (by omega), u_ne (show (3 : Nat) ≠ 5 by omega), w3, hl, if_pos (show nI 0 ≤ 0 from Int32.le_refl _), ma 4 (by omega), h.nma 4 (by omega), ck_n j8 (by omega), gmw h 4 (by omega), u_ne (show (4 : Nat) ≠ 5 by omega), z1, bd_t, mt, R_mw, ma 4 (by omega), N_mw, h.nma 4 (by omega), ck_n j8 (by omega), gmw h 4 (by omega), w4, le_t, e1]
          rw [lp_inl st]
          refine ih (j + 1) (by omega) w' (m1 ||| mb j) (m2 ||| w 4 j) (sj sp j) (fun q => sq q || H j q) qu' (ij ι j a) en' ⟨z2, fun r hr => ?_, fun q hq8 => ?_, fun r q hr hq8 g1 g2 => ?_, fun i r hi hin hr g1 g2 => ?_, fun i hi => ?_⟩ (by omega) (by rw [z5 a ha]; exact hq) (fun r hr g1 g2 => ?_)
          · rw [hb_or _ _ hr, i2 r hr, hb_mb j j8 r hr]
            unfold sj
            by_cases e : r = j
            · rw [decide_eq_true e, decide_eq_true e.symm]
            · rw [decide_eq_false e, decide_eq_false (Ne.symm e)]
          · rw [hb_or _ _ hq8, i3 q hq8, i6 4 (by omega), hB j q j8 hq8]
          · show (sq q || H j q) = true
            by_cases e : r = j
            · rw [← e, g2, Bool.or_true]
            · rw [sj_n e] at g1
              rw [i4 r q hr hq8 g1 g2, Bool.true_or]
          · rw [z5 i (by omega)] at g1 g2
            exact sj_t (i5 i r hi (by omega) hr g1 g2)
          · rw [z3 i (by omega) (by omega), u_ne (by omega)]
            exact i6 i hi
          · by_cases e : r = j
            · rw [e]; exact sj_e
            · exact sj_t (hP r (by omega) g1 g2)
        · have hF2 := FI_w (y := nI c) i1 hs
          have hB1 : HB (u_2 w 5 j (nI c)) H := fun a q ha hq => by rw [u_ne (by omega), i6 4 (by omega)]; exact hB a q ha hq
          obtain ⟨w', H', z1, z2, z3, z4, z5⟩ := p_exch hg h hB1 hsub hF2 j8 hs ha (by rw [u_s, hq]) (by rw [hq]; exact v1) (by rw [hq]; exact v2)
          refine Or.inr ⟨w', lp_inr ?_, H', j, j8, ?_, z2, z3, fun i hi => ?_, ?_⟩
          · have nl : ¬ nI l ≤ 0 := by
              show ¬ nI l ≤ nI 0
              rw [nI_leI (by omega) (by omega)]
              omega
            unfold st_X1_findWay_45
            dsimp only
            rw [if_neg n8, p_hasN, bd_t, i2 j j8, hs, if_pos (show (if false = true then nI 1 else nI 0) = 0 from rfl), mt, R_mw, ma 1 (by omega), N_mw, h.nma 1 (by omega), ck_n j8 (by omega), ma 4 (by omega), h.nma 4 (by omega), ck_n j8 (by omega), n_cl (by omega), gmw h 1 (by omega), gmw h 4 (by omega), p_hasN, bd_t, ← m_1, hbit, hbv, if_neg (show ¬ (if true = true then nI 1 else nI 0) = 0 by decide), b1, le_t, mt, R_mw, ma 5 (by omega), N_mw, h.nma 5 (by omega), ck_n j8 (by omega), smw hg h 5 (by omega), le_t, mt, R_mw, ma 3 (by omega), N_mw, h.nma 3 (by omega), ck_n j8 (by omega), gmw h 3 (by omega), u_ne (show (3 : Nat) ≠ 5 by omega), w3, if_neg nl, z1, bd_t]
            rfl
          · rw [l2]
            intro z
            exact hl ((nI_eq (by omega) (by omega)).mp z)
          · rw [z4 i (by omega) (by omega), u_ne (by omega)]
            exact i6 i (by omega)
          · rw [z5, u_ne (by omega), i6 3 (by omega)]
end FW
