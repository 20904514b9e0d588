/-! THE REFERENCE READS A WEEK -/
theorem dst_s {C : Nat → Int32} {q d : Nat} (h : dst C q = d) : dst C (q + 1) = due d (C q) := by
  show due (dst C q) (C q) = _
  rw [h]
theorem rdo_dst {C : Nat → Int32} {p : Nat} (h : dst C p = 1) : ((rdo C p).1 = true → dst C (rdo C p).2 = 2 ∧ p < (rdo C p).2) ∧ ((rdo C p).1 = false → dst C (rdo C p).2 ≠ 0 ∧ dst C (rdo C p).2 ≠ 2 ∧ dst C ((rdo C p).2 + 1) = 0) := by
  have s1 := dst_s h
  have good : ∀ q, dst C q = 2 ∧ p < q → (((true, q) : Bool × Nat).1 = true → dst C ((true, q) : Bool × Nat).2 = 2 ∧ p < ((true, q) : Bool × Nat).2) ∧ (((true, q) : Bool × Nat).1 = false → dst C ((true, q) : Bool × Nat).2 ≠ 0 ∧ dst C ((true, q) : Bool × Nat).2 ≠ 2 ∧ dst C (((true, q) : Bool × Nat).2 + 1) = 0) := fun q hq => ⟨fun _ => hq, fun z => by cases z⟩
  have bad : ∀ q d, dst C q = d → d ≠ 0 → d ≠ 2 → due d (C q) = 0 → (((false, q) : Bool × Nat).1 = true → dst C ((false, q) : Bool × Nat).2 = 2 ∧ p < ((false, q) : Bool × Nat).2) ∧ (((false, q) : Bool × Nat).1 = false → dst C ((false, q) : Bool × Nat).2 ≠ 0 ∧ dst C ((false, q) : Bool × Nat).2 ≠ 2 ∧ dst C (((false, q) : Bool × Nat).2 + 1) = 0) := fun q d e h0 h2 hd => ⟨(fun z => by cases z), fun _ => ⟨(by rw [e]; exact h0), (by rw [e]; exact h2), (dst_s e).trans hd⟩⟩
  unfold rdo
  by_cases c1 : C p = nI 116 ∨ C p = nI 120
  · rw [if_pos c1]
    have s1 : dst C (p + 1) = 4 := by rcases c1 with c | c <;> rw [s1, c] <;> rfl
    have s2 := dst_s s1
    cases k1 : d7 (C (p + 1)) with
    | false =>
      refine bad _ 4 s1 (by omega) (by omega) ?_
      show (if d7 (C (p + 1)) then 3 else 0) = 0
      rw [k1]; rfl
    | true =>
      have s2 : dst C (p + 2) = 3 := by
        rw [s2]
        show (if d7 (C (p + 1)) then 3 else 0) = 3
        rw [k1]; rfl
      have s3 := dst_s s2
      cases k2 : d7 (C (p + 2)) with
      | false =>
        refine bad _ 3 s2 (by omega) (by omega) ?_
        show (if d7 (C (p + 2)) then 2 else 0) = 0
        rw [k2]; rfl
      | true =>
        refine good _ ⟨?_, by omega⟩
        rw [s3]
        show (if d7 (C (p + 2)) then 2 else 0) = 2
        rw [k2]; rfl
  rw [if_neg c1]
  by_cases c2 : C p = nI 115
  · rw [if_pos c2]
    have s1 : dst C (p + 1) = 5 := by rw [s1, c2]; rfl
    have s2 := dst_s s1
    cases k1 : d7 (C (p + 1)) with
    | false =>
      refine bad _ 5 s1 (by omega) (by omega) ?_
      show (if d7 (C (p + 1)) then 6 else 0) = 0
      rw [k1]; rfl
    | true =>
      have s2 : dst C (p + 2) = 6 := by
        rw [s2]
        show (if d7 (C (p + 1)) then 6 else 0) = 6
        rw [k1]; rfl
      have s3 := dst_s s2
      cases k2 : d7 (C (p + 2)) with
      | false =>
        refine bad _ 6 s2 (by omega) (by omega) ?_
        show (if d7 (C (p + 2)) then 7 else 0) = 0
        rw [k2]; rfl
      | true =>
        have s3 : dst C (p + 3) = 7 := by
          rw [s3]
          show (if d7 (C (p + 2)) then 7 else 0) = 7
          rw [k2]; rfl
        have s4 := dst_s s3
        by_cases k3 : C (p + 3) = nI 61
        · have s4 : dst C (p + 4) = 8 := by
            rw [s4]
            show (if C (p + 3) = nI 61 then 8 else 0) = 8
            rw [if_pos k3]
          have s5 := dst_s s4
          show (((if C (p + 3) = nI 61 then (if d9 (C (p + 4)) then (true, p + 5) else (false, p + 4)) else (false, p + 3)) : Bool × Nat).1 = true → _) ∧ _
          rw [if_pos k3]
          cases k4 : d9 (C (p + 4)) with
          | false =>
            refine bad _ 8 s4 (by omega) (by omega) ?_
            show (if d9 (C (p + 4)) then 2 else 0) = 0
            rw [k4]; rfl
          | true =>
            refine good _ ⟨?_, by omega⟩
            rw [s5]
            show (if d9 (C (p + 4)) then 2 else 0) = 2
            rw [k4]; rfl
        · show (((if C (p + 3) = nI 61 then (if d9 (C (p + 4)) then (true, p + 5) else (false, p + 4)) else (false, p + 3)) : Bool × Nat).1 = true → _) ∧ _
          rw [if_neg k3]
          refine bad _ 7 s3 (by omega) (by omega) ?_
          show (if C (p + 3) = nI 61 then 8 else 0) = 0
          rw [if_neg k3]
  rw [if_neg c2]
  by_cases c3 : C p = nI 100 ∨ C p = nI 114
  · rw [if_pos c3]
    have s1 : dst C (p + 1) = 3 := by rcases c3 with c | c <;> rw [s1, c] <;> rfl
    have s2 := dst_s s1
    cases k1 : d7 (C (p + 1)) with
    | false =>
      refine bad _ 3 s1 (by omega) (by omega) ?_
      show (if d7 (C (p + 1)) then 2 else 0) = 0
      rw [k1]; rfl
    | true =>
      refine good _ ⟨?_, by omega⟩
      rw [s2]
      show (if d7 (C (p + 1)) then 2 else 0) = 2
      rw [k1]; rfl
  rw [if_neg c3]
  by_cases c4 : C p = nI 119
  · rw [if_pos c4]
    refine good _ ⟨?_, by omega⟩
    rw [s1, c4]
    rfl
  · rw [if_neg c4]
    refine bad _ 1 h (by omega) (by omega) ?_
    show due1 (C p) = 0
    unfold due1
    rw [if_neg (fun z => c3 (Or.inl z)), if_neg (fun z => c3 (Or.inr z)), if_neg c2, if_neg (fun z => c1 (Or.inl z)), if_neg c4, if_neg (fun z => c1 (Or.inr z))]
section RW
variable {S : PH} {G : Nat → Nat} {m : Nat} {u v : AS} {hs : List AS} {sl : Nat → Option AS} {tn : Nat} {tx : Nat → Int32}
theorem o_wk (hg : Gi G) (h : RM S G m) : ∀ k (u : AS) p, tn - p ≤ k → TU u tn tx p → dst (cd tn tx) p = 1 → ∃ u', lp (st_X5_isWeek_5 (some m)) (mput S G u) = some (if dst (cd tn tx) tn = 2 then nI 1 else nI 0, mput S G u') ∧ sR u u' ∧ TU u' tn tx (a_fw (cd tn tx) tn) := by
  intro k
  induction k with
  | zero =>
    intro u p hk ht hd
    obtain ⟨u1, e1, e2, e3, e4⟩ := o_order hg h ht
    obtain rfl : p = tn := by have := ht.2.2.2.2; omega
    have c0 : cd p tx p = 0 := if_neg (by omega)
    have er : rdo (cd p tx) p = (false, p) := by
      unfold rdo
      rw [c0, if_neg (by decide), if_neg (by decide), if_neg (by decide), if_neg (by decide)]
    rw [er] at e1 e3
    have ef : a_fw (cd p tx) p = p := fw_eq (Nat.le_refl _) (by rw [hd]; omega) (Or.inl rfl)
    refine ⟨u1, lp_inr ?_, e2, by rw [ef]; exact e3⟩
    rw [if_neg (by rw [hd]; omega)]
    unfold st_X5_isWeek_5
    dsimp only
    rw [dr_mp, h.mm, e1, bd_t]
    rfl
  | succ k ih =>
    intro u p hk ht hd
    obtain ⟨u1, e1, e2, e3, e4⟩ := o_order hg h ht
    obtain ⟨d1, d2⟩ := rdo_dst hd
    have tle := e3.2.2.2.2
    have t60 := ht.2.1
    generalize rdo (cd tn tx) p = R at e1 e3 d1 d2 tle
    obtain ⟨b, r⟩ := R
    dsimp only at e1 e3 d1 d2 tle
    have w0 : dst (cd tn tx) (r + 1) = 0 → r < tn → dst (cd tn tx) tn = 0 := by
      intro z hr
      have := dst_0 z (tn - (r + 1))
      rwa [show r + 1 + (tn - (r + 1)) = tn by omega] at this
    cases b with
    | false =>
      obtain ⟨g1, g2, g3⟩ := d2 rfl
      have ef : a_fw (cd tn tx) tn = r := fw_eq tle g1 (Or.inr g3)
      have nw : ¬ dst (cd tn tx) tn = 2 := by
        rcases Nat.lt_or_ge r tn with g | g
        · rw [w0 g3 g]; omega
        · have er : r = tn := by omega
          rw [er] at g2
          exact g2
      refine ⟨u1, lp_inr ?_, e2, by rw [ef]; exact e3⟩
      rw [if_neg nw]
      unfold st_X5_isWeek_5
      dsimp only
      rw [dr_mp, h.mm, e1, bd_t]
      rfl
    | true =>
      obtain ⟨g1, g2⟩ := d1 rfl
      by_cases hr : r = tn
      · subst hr
        have ef : a_fw (cd r tx) r = r := fw_eq (Nat.le_refl _) (by rw [g1]; omega) (Or.inl rfl)
        refine ⟨u1, lp_inr ?_, e2, by rw [ef]; exact e3⟩
        rw [if_pos g1]
        unfold st_X5_isWeek_5
        dsimp only
        rw [dr_mp, h.mm, e1, bd_t, if_neg (show ¬ (if true = true then nI 1 else nI 0) = 0 by decide), dr_mp, h.mm, mg_i h 6 (by omega), mg_i h 5 (by omega), e3.1, e3.2.2.2.1, if_pos rfl]
        rfl
      · have hr2 : ¬ nI r = nI tn := fun z => hr ((nI_eq (by omega) (by omega)).mp z)
        by_cases c : cd tn tx r = nI 59
        · have hy := o_yes hg h e3 (by omega) (by omega) c
          have s1 : dst (cd tn tx) (r + 1) = 1 := by
            rw [dst_s g1, c]
            rfl
          obtain ⟨u', f1, f2, f3⟩ := ih (u_2 u1 6 0 (nI (r + 1))) (r + 1) (by omega) (e3.at_ (by omega)) s1
          refine ⟨u', ?_, (e2.set (by omega)).tr f2, f3⟩
          rw [← f1]
          refine lp_inl ?_
          unfold st_X5_isWeek_5
          dsimp only
          rw [dr_mp, h.mm, e1, bd_t, if_neg (show ¬ (if true = true then nI 1 else nI 0) = 0 by decide), dr_mp, h.mm, mg_i h 6 (by omega), mg_i h 5 (by omega), e3.1, e3.2.2.2.1, if_neg hr2, show (59 : Int32) = nI 59 from rfl, hy, bd_t]
          rfl
        · have hy := o_not hg h e3 (by omega) (by omega) c
          have s1 : dst (cd tn tx) (r + 1) = 0 := by
            rw [dst_s g1]
            show (if cd tn tx r = nI 59 then 1 else 0) = 0
            rw [if_neg c]
          have ef : a_fw (cd tn tx) tn = r := fw_eq tle (by rw [g1]; omega) (Or.inr s1)
          refine ⟨u1, lp_inr ?_, e2, by rw [ef]; exact e3⟩
          rw [if_neg (by rw [w0 s1 (by omega)]; omega)]
          unfold st_X5_isWeek_5
          dsimp only
          rw [dr_mp, h.mm, e1, bd_t, if_neg (show ¬ (if true = true then nI 1 else nI 0) = 0 by decide), dr_mp, h.mm, mg_i h 6 (by omega), mg_i h 5 (by omega), e3.1, e3.2.2.2.1, if_neg hr2, show (59 : Int32) = nI 59 from rfl, hy, bd_t]
          rfl
theorem MU_R (hu : MU u v hs sl tn tx) {u' : AS} (h : sR u u') : MU u' v hs sl tn tx := by
  unfold MU at hu ⊢
  rw [h 1 (by omega), h 2 (by omega), h 3 (by omega), h 4 (by omega), h 5 (by omega)]
  exact hu
theorem MU.tu (hu : MU u v hs sl tn tx) : TU (u_2 u 6 0 (nI 0)) tn tx 0 := ⟨by rw [u_ne (by omega)]; exact hu.2.2.2.2.1, hu.2.2.2.2.2.1, by rw [u_ne (by omega)]; exact hu.2.2.2.2.2.2, u_s, by omega⟩
theorem o_isWeek (hg : Gi G) (h : RM S G m) (hu : MU u v hs sl tn tx) : ∃ u', m_X5_isWeek (some m) (mput S G u) = some (if dst (cd tn tx) tn = 2 then nI 1 else nI 0, mput S G u') ∧ sR u u' ∧ TU u' tn tx (a_fw (cd tn tx) tn) := by
  obtain ⟨u', e1, e2, e3⟩ := o_wk hg h tn (u_2 u 6 0 (nI 0)) 0 (by omega) hu.tu rfl
  refine ⟨u', ?_, ((sR.rf u).set (by omega)).tr e2, e3⟩
  unfold m_X5_isWeek
  rw [dr_mp, h.mm, ms_i hg h 6 (by omega), le_t]
  exact e1
theorem q_err (hg : Gi G) (h : RM S G m) (hu : MU u v hs sl tn tx) : ∃ u', m_X5_firstError (some m) (mput S G u) = some (nI (a_fw (cd tn tx) tn), mput S G u') ∧ u' 0 0 = nI 0 ∧ MU u' v hs sl tn tx := by
  have hu0 := MU_0 hu (nI 0)
  obtain ⟨u', e1, e2, e3⟩ := o_isWeek hg h hu0
  refine ⟨u', ?_, by rw [e2 0 (by omega)]; exact u_s, MU_R hu0 e2⟩
  unfold m_X5_firstError
  rw [dr_mp, h.mm, show ((0 : Int32)) = nI 0 from rfl, ms_i hg h 0 (by omega), le_t, dr_mp, h.mm, e1, bd_t, dr_mp, h.mm, mg_i h 6 (by omega), e3.2.2.2.1]
end RW
