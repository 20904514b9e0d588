/-! THE LAW'S ROWS: the looks -/
section RN
variable {S : PH} {G : Nat → Nat} {x nw m oj oe : Nat} {u v v' : AS} {hs hs' : List AS} {nx nx' : Nat} {sl sl' : Nat → Option AS} {tn tn' : Nat} {tx tx' : Nat → Int32} {i5 : Int32} {K : Int32 → PH → Prop}
theorem law_N (hL : LW S G x nw m oj oe v hs nx sl tn tx) {r : Nat ⊕ Int32} {tb : Nat → Int32} {o : Option ((Nat ⊕ Int32) × PH)} (ref : PH → Option (Int32 × PH)) (P : Int32 → PH → Prop) (hnd : Nat → PH → Option (Int32 × PH))
    (hk : ∃ S', o = some (r, S') ∧ RelC S' G x nw v' hs' nx' sl' tn' tx' ∧ fc S G S' G)
    (hq : ∀ (T : PH) (G : Nat → Nat) (u : AS), Gi G → RM T G m → MU u v hs sl tn tx → ∃ u', RES (ref (mput T G u)) T G tb u' r ∧ MU u' v' hs' sl' tn' tx')
    (hiv : IVs v' hs' sl')
    (hE : ∀ e, r = .inl e → tb e ≠ nI 0)
    (hP : ∀ y T, tl i5 K (some m) (some oj) ref y T → P y T)
    (hH : ∀ e, r = .inl e → ∀ T, hnd e T = some (tb e, T))
    (hK : ∀ T, LWE x nw m oj oe T → K (i5 + 4) T) :
    wbd (bt o (fun v4 S5 => dr S5 10 (some oj) fun a12 => ck (ix (0 : Int32) (p_N S5 a12)) <| le_ (s_J S5 a12 0 (Int32.toInt64 v4)) fun S16 => some ((0 : Int32), S16)) hnd) P := by
  obtain ⟨hC, hV, hM, hO⟩ := hL
  obtain ⟨S', k0, k1, k2⟩ := hk
  have m1 := relM_fc hM k2 k1.gi
  have o1 := out_fc hO k2
  rw [k0]
  cases r with
  | inl e =>
    rw [bt_l, hH e rfl S', wbd_e]
    refine hP _ _ (tl_ok (tb := tb) (r := .inl e) k1 hiv m1 o1 (fun u hu => hq S' G u k1.gi m1.1 hu) ⟨fun e' he => ?_, fun y hy => ?_⟩ hK)
    · cases he
      exact ⟨rfl, hE e rfl⟩
    · cases hy
  | inr y =>
    rw [bt_r, out_j o1, o1.1.2, ck_t (by decide), le_t, wbd_e]
    refine hP _ _ (tl_ok (T := s_J S' oj 0 (Int32.toInt64 y)) (G := G) (tb := tb) (r := .inr y) (nx' := nx') k1 hiv (relM_J m1) o1 (fun u hu => hq (s_J S' oj 0 (Int32.toInt64 y)) G u k1.gi m1.1 hu) ⟨fun e' he => ?_, fun y' hy => ?_⟩ hK)
    · cases he
    · cases hy
      refine ⟨rfl, ?_⟩
      show u_2 (p_J S') oj 0 _ oj 0 = _
      unfold u_2
      exact if_pos ⟨rfl, rfl⟩
/-- an order whose outcome is another pair of relations -/
theorem law_W2 (hL : LW S G x nw m oj oe v hs nx sl tn tx) {r : Nat ⊕ Int32} {tb : Nat → Int32} (wX : ((Nat ⊕ Int32) → PH → Prop) → Prop) (ref : PH → Option (Int32 × PH)) (P : Int32 → PH → Prop) (hnd : Nat → PH → Prop)
    (hk : ∀ Q : (Nat ⊕ Int32) → PH → Prop, (∀ S' G', RelC S' G' x nw v' hs' nx' sl' tn' tx' → fc S G S' G' → Q r S') → wX Q)
    (hq : ∀ (T : PH) (G : Nat → Nat) (u : AS), Gi G → RM T G m → MU u v hs sl tn tx → ∃ u', RES (ref (mput T G u)) T G tb u' r ∧ MU u' v' hs' sl' tn' tx')
    (hiv : IVs v' hs' sl')
    (hE : ∀ e, r = .inl e → tb e ≠ nI 0)
    (hP : ∀ y T, tl i5 K (some m) (some oj) ref y T → P y T)
    (hH : ∀ e, r = .inl e → ∀ T, P (tb e) T → hnd e T)
    (hK : ∀ T, LWE x nw m oj oe T → K (i5 + 4) T) :
    wX (wq (fun v4 S5 => wdr S5 10 (some oj) fun a12 => wck (ix (0 : Int32) (p_N S5 a12)) <| wle (s_J S5 a12 0 (Int32.toInt64 v4)) fun S16 => P (0 : Int32) S16) hnd) := by
  obtain ⟨hC, hV, hM, hO⟩ := hL
  refine hk _ (fun S' G' k1 k2 => ?_)
  have m1 := relM_fc hM k2 k1.gi
  have o1 := out_fc hO k2
  cases r with
  | inl e =>
    rw [wq_le]
    refine hH e rfl S' (hP _ _ (tl_ok (tb := tb) (r := .inl e) k1 hiv m1 o1 (fun u hu => hq S' G' u k1.gi m1.1 hu) ⟨fun e' he => ?_, fun y hy => ?_⟩ hK))
    · cases he
      exact ⟨rfl, hE e rfl⟩
    · cases hy
  | inr y =>
    rw [wq_re, out_wj o1, o1.1.2]
    refine ⟨by decide, ?_⟩
    show P (0 : Int32) (s_J S' oj 0 (Int32.toInt64 y))
    refine hP _ _ (tl_ok (T := s_J S' oj 0 (Int32.toInt64 y)) (G := G') (tb := tb) (r := .inr y) (nx' := nx') k1 hiv (relM_J m1) o1 (fun u hu => hq (s_J S' oj 0 (Int32.toInt64 y)) G' u k1.gi m1.1 hu) ⟨fun e' he => ?_, fun y' hy => ?_⟩ hK)
    · cases he
    · cases hy
      refine ⟨rfl, ?_⟩
      show u_2 (p_J S') oj 0 _ oj 0 = _
      unfold u_2
      exact if_pos ⟨rfl, rfl⟩
end RN
section RN2
variable {S : PH} {G : Nat → Nat} {x nw m oj oe : Nat} {v : AS} {hs : List AS} {nx : Nat} {sl : Nat → Option AS} {tn : Nat} {tx : Nat → Int32} {i5 : Int32} {K : Int32 → PH → Prop} {L : Nat} {xs : Nat → Int32}
theorem relC_cg (h : RelC S G x nw v hs nx sl tn tx) {o : Option ((Nat ⊕ Int32) × PH)} {r : Nat ⊕ Int32} (e : o = some (r, S)) : ∃ S', o = some (r, S') ∧ RelC S' G x nw v hs nx sl tn tx ∧ fc S G S' G := ⟨S, e, h, fc_r⟩
theorem r_1226 (hL : LW S G x nw m oj oe v hs nx sl tn tx) (hx1 : ix (i5 + (1 : Int32)) L = true) (hx2 : ix (i5 + (2 : Int32)) L = true) (hx3 : ix (i5 + (3 : Int32)) L = true) (hK : ∀ T, LWE x nw m oj oe T → K (i5 + 4) T) : wc_law_1226 xs L (some x) (some m) (some oj) (some oe) i5 S K := by
  have hI := hL.2.1.1
  unfold wc_law_1226 m_L_personOf
  refine ⟨hx1, hx2, ?_⟩
  rw [hL.1.rc.x4]
  exact law_N hL (r := f_per v (xs (Int32.toNatClampNeg (i5 + (1 : Int32)))) (xs (Int32.toNatClampNeg (i5 + (2 : Int32))))) (tb := (fun e => if e = 2 then nI 1 else nI 2)) (fun S => m_X5_personOf (some m) (xs (Int32.toNatClampNeg (i5 + (1 : Int32)))) (xs (Int32.toNatClampNeg (i5 + (2 : Int32)))) S) (fun v3 S4 => wck (ix (i5 + (1 : Int32)) L) <| wck (ix (i5 + (2 : Int32)) L) <| tl i5 K (some m) (some oj) (fun S => m_X5_personOf (some m) (xs (Int32.toNatClampNeg (i5 + (1 : Int32)))) (xs (Int32.toNatClampNeg (i5 + (2 : Int32)))) S) v3 S4) _ (relC_cg hL.1 (k_per hL.1.rc hL.1.rv hI _ _)) (fun T G u hg h hu => q_per hg h hI hu _ _) hL.2.1 (fun e _ => by (repeat' split) <;> decide) (fun y T h => ⟨hx1, hx2, h⟩) (fun e he T => by unfold f_per at he; (repeat' split at he) <;> first | (cases he; rfl) | cases he) hK
theorem r_1294 (hL : LW S G x nw m oj oe v hs nx sl tn tx) (hx1 : ix (i5 + (1 : Int32)) L = true) (hx2 : ix (i5 + (2 : Int32)) L = true) (hx3 : ix (i5 + (3 : Int32)) L = true) (hK : ∀ T, LWE x nw m oj oe T → K (i5 + 4) T) : wc_law_1294 xs L (some x) (some m) (some oj) (some oe) i5 S K := by
  have hI := hL.2.1.1
  unfold wc_law_1294 m_L_paperOf
  refine ⟨hx1, hx2, ?_⟩
  rw [hL.1.rc.x4]
  exact law_N hL (r := f_pap v (xs (Int32.toNatClampNeg (i5 + (1 : Int32)))) (xs (Int32.toNatClampNeg (i5 + (2 : Int32))))) (tb := (fun e => if e = 2 then nI 1 else nI 2)) (fun S => m_X5_paperOf (some m) (xs (Int32.toNatClampNeg (i5 + (1 : Int32)))) (xs (Int32.toNatClampNeg (i5 + (2 : Int32)))) S) (fun v3 S4 => wck (ix (i5 + (1 : Int32)) L) <| wck (ix (i5 + (2 : Int32)) L) <| tl i5 K (some m) (some oj) (fun S => m_X5_paperOf (some m) (xs (Int32.toNatClampNeg (i5 + (1 : Int32)))) (xs (Int32.toNatClampNeg (i5 + (2 : Int32)))) S) v3 S4) _ (relC_cg hL.1 (k_pap hL.1.rc hL.1.rv hI _ _)) (fun T G u hg h hu => q_pap hg h hI hu _ _) hL.2.1 (fun e _ => by (repeat' split) <;> decide) (fun y T h => ⟨hx1, hx2, h⟩) (fun e he T => by unfold f_pap at he; (repeat' split at he) <;> first | (cases he; rfl) | cases he) hK
theorem r_1362 (hL : LW S G x nw m oj oe v hs nx sl tn tx) (hx1 : ix (i5 + (1 : Int32)) L = true) (hx2 : ix (i5 + (2 : Int32)) L = true) (hx3 : ix (i5 + (3 : Int32)) L = true) (hK : ∀ T, LWE x nw m oj oe T → K (i5 + 4) T) : wc_law_1362 xs L (some x) (some m) (some oj) (some oe) i5 S K := by
  have hI := hL.2.1.1
  unfold wc_law_1362 m_L_score
  refine ⟨hx1, hx2, ?_⟩
  rw [hL.1.rc.x4]
  exact law_N hL (r := f_sco v (xs (Int32.toNatClampNeg (i5 + (1 : Int32)))) (xs (Int32.toNatClampNeg (i5 + (2 : Int32))))) (tb := (fun _ => nI 1)) (fun S => m_X5_score (some m) (xs (Int32.toNatClampNeg (i5 + (1 : Int32)))) (xs (Int32.toNatClampNeg (i5 + (2 : Int32)))) S) (fun v3 S4 => wck (ix (i5 + (1 : Int32)) L) <| wck (ix (i5 + (2 : Int32)) L) <| tl i5 K (some m) (some oj) (fun S => m_X5_score (some m) (xs (Int32.toNatClampNeg (i5 + (1 : Int32)))) (xs (Int32.toNatClampNeg (i5 + (2 : Int32)))) S) v3 S4) _ (relC_cg hL.1 (k_sco hL.1.rc hL.1.rv hI _ _)) (fun T G u hg h hu => q_sco hg h hI hu _ _) hL.2.1 (fun e _ => by decide) (fun y T h => ⟨hx1, hx2, h⟩) (fun e he T => by unfold f_sco at he; (repeat' split at he) <;> first | (cases he; rfl) | cases he) hK
theorem r_1430 (hL : LW S G x nw m oj oe v hs nx sl tn tx) (hx1 : ix (i5 + (1 : Int32)) L = true) (hx2 : ix (i5 + (2 : Int32)) L = true) (hx3 : ix (i5 + (3 : Int32)) L = true) (hK : ∀ T, LWE x nw m oj oe T → K (i5 + 4) T) : wc_law_1430 xs L (some x) (some m) (some oj) (some oe) i5 S K := by
  have hI := hL.2.1.1
  unfold wc_law_1430 m_L_count
  refine ⟨hx1, ?_⟩
  rw [hL.1.rc.x4]
  exact law_N hL (r := f_cnt v (nI hs.length) (xs (Int32.toNatClampNeg (i5 + (1 : Int32))))) (tb := (fun _ => nI 1)) (fun S => m_X5_count (some m) (xs (Int32.toNatClampNeg (i5 + (1 : Int32)))) S) (fun v3 S4 => wck (ix (i5 + (1 : Int32)) L) <| tl i5 K (some m) (some oj) (fun S => m_X5_count (some m) (xs (Int32.toNatClampNeg (i5 + (1 : Int32)))) S) v3 S4) _ (relC_cg hL.1 (k_cnt hL.1.rc hL.1.rv hL.1.hn.2.2.1 _)) (fun T G u hg h hu => q_cnt hg h hI hu _) hL.2.1 (fun e _ => by decide) (fun y T h => ⟨hx1, h⟩) (fun e he T => by unfold f_cnt at he; (repeat' split at he) <;> first | (cases he; rfl) | cases he) hK
theorem r_1486 (hL : LW S G x nw m oj oe v hs nx sl tn tx) (hx1 : ix (i5 + (1 : Int32)) L = true) (hx2 : ix (i5 + (2 : Int32)) L = true) (hx3 : ix (i5 + (3 : Int32)) L = true) (hK : ∀ T, LWE x nw m oj oe T → K (i5 + 4) T) : wc_law_1486 xs L (some x) (some m) (some oj) (some oe) i5 S K := by
  have hI := hL.2.1.1
  unfold wc_law_1486 m_L_setting
  refine ⟨hx1, ?_⟩
  rw [hL.1.rc.x4]
  exact law_N hL (r := f_set1 v (xs (Int32.toNatClampNeg (i5 + (1 : Int32))))) (tb := (fun _ => nI 1)) (fun S => m_X5_setting (some m) (xs (Int32.toNatClampNeg (i5 + (1 : Int32)))) S) (fun v3 S4 => wck (ix (i5 + (1 : Int32)) L) <| tl i5 K (some m) (some oj) (fun S => m_X5_setting (some m) (xs (Int32.toNatClampNeg (i5 + (1 : Int32)))) S) v3 S4) _ (relC_cg hL.1 (k_set1 hL.1.rc hL.1.rv _)) (fun T G u hg h hu => q_set1 hg h hI hu _) hL.2.1 (fun e _ => by decide) (fun y T h => ⟨hx1, h⟩) (fun e he T => by unfold f_set1 at he; (repeat' split at he) <;> first | (cases he; rfl) | cases he) hK
theorem r_1542 (hL : LW S G x nw m oj oe v hs nx sl tn tx) (hx1 : ix (i5 + (1 : Int32)) L = true) (hx2 : ix (i5 + (2 : Int32)) L = true) (hx3 : ix (i5 + (3 : Int32)) L = true) (hK : ∀ T, LWE x nw m oj oe T → K (i5 + 4) T) : wc_law_1542 xs L (some x) (some m) (some oj) (some oe) i5 S K := by
  have hI := hL.2.1.1
  unfold wc_law_1542 m_L_whyNot
  refine ⟨hx1, hx2, ?_⟩
  rw [hL.1.rc.x4]
  exact law_N hL (r := f_why v (xs (Int32.toNatClampNeg (i5 + (1 : Int32)))) (xs (Int32.toNatClampNeg (i5 + (2 : Int32))))) (tb := (fun _ => nI 1)) (fun S => m_X5_whyNot (some m) (xs (Int32.toNatClampNeg (i5 + (1 : Int32)))) (xs (Int32.toNatClampNeg (i5 + (2 : Int32)))) S) (fun v3 S4 => wck (ix (i5 + (1 : Int32)) L) <| wck (ix (i5 + (2 : Int32)) L) <| tl i5 K (some m) (some oj) (fun S => m_X5_whyNot (some m) (xs (Int32.toNatClampNeg (i5 + (1 : Int32)))) (xs (Int32.toNatClampNeg (i5 + (2 : Int32)))) S) v3 S4) _ (relC_cg hL.1 (k_why hL.1.rc hL.1.rv hI _ _)) (fun T G u hg h hu => q_why hg h hI hu _ _) hL.2.1 (fun e _ => by decide) (fun y T h => ⟨hx1, hx2, h⟩) (fun e he T => by unfold f_why at he; (repeat' split at he) <;> first | (cases he; rfl) | cases he) hK
theorem r_1610 (hL : LW S G x nw m oj oe v hs nx sl tn tx) (hx1 : ix (i5 + (1 : Int32)) L = true) (hx2 : ix (i5 + (2 : Int32)) L = true) (hx3 : ix (i5 + (3 : Int32)) L = true) (hK : ∀ T, LWE x nw m oj oe T → K (i5 + 4) T) : wc_law_1610 xs L (some x) (some m) (some oj) (some oe) i5 S K := by
  have hI := hL.2.1.1
  unfold wc_law_1610 m_L_bestReviewer
  refine ⟨hx1, ?_⟩
  rw [hL.1.rc.x4]
  exact law_N hL (r := f_best v (xs (Int32.toNatClampNeg (i5 + (1 : Int32))))) (tb := (fun _ => nI 1)) (fun S => m_X5_bestReviewer (some m) (xs (Int32.toNatClampNeg (i5 + (1 : Int32)))) S) (fun v3 S4 => wck (ix (i5 + (1 : Int32)) L) <| tl i5 K (some m) (some oj) (fun S => m_X5_bestReviewer (some m) (xs (Int32.toNatClampNeg (i5 + (1 : Int32)))) S) v3 S4) _ (relC_cg hL.1 (k_best hL.1.rc hL.1.rv hI _)) (fun T G u hg h hu => q_best hg h hI hu _) hL.2.1 (fun e _ => by decide) (fun y T h => ⟨hx1, h⟩) (fun e he T => by unfold f_best at he; (repeat' split at he) <;> first | (cases he; rfl) | cases he) hK
theorem r_1666 (hL : LW S G x nw m oj oe v hs nx sl tn tx) (hx1 : ix (i5 + (1 : Int32)) L = true) (hx2 : ix (i5 + (2 : Int32)) L = true) (hx3 : ix (i5 + (3 : Int32)) L = true) (hK : ∀ T, LWE x nw m oj oe T → K (i5 + 4) T) : wc_law_1666 xs L (some x) (some m) (some oj) (some oe) i5 S K := by
  have hI := hL.2.1.1
  unfold wc_law_1666 m_L_most
  refine ⟨hx1, ?_⟩
  rw [hL.1.rc.x4]
  exact law_N hL (r := f_most v (xs (Int32.toNatClampNeg (i5 + (1 : Int32))))) (tb := (fun _ => nI 1)) (fun S => m_X5_most (some m) (xs (Int32.toNatClampNeg (i5 + (1 : Int32)))) S) (fun v3 S4 => wck (ix (i5 + (1 : Int32)) L) <| tl i5 K (some m) (some oj) (fun S => m_X5_most (some m) (xs (Int32.toNatClampNeg (i5 + (1 : Int32)))) S) v3 S4) _ (k_most hL.1 hI _) (fun T G u hg h hu => q_most hg h hI hu _) hL.2.1 (fun e _ => by decide) (fun y T h => ⟨hx1, h⟩) (fun e he T => by unfold f_most at he; (repeat' split at he) <;> first | (cases he; rfl) | cases he) hK
theorem r_1735 (hL : LW S G x nw m oj oe v hs nx sl tn tx) (hx1 : ix (i5 + (1 : Int32)) L = true) (hx2 : ix (i5 + (2 : Int32)) L = true) (hx3 : ix (i5 + (3 : Int32)) L = true) (hK : ∀ T, LWE x nw m oj oe T → K (i5 + 4) T) : wc_law_1735 xs L (some x) (some m) (some oj) (some oe) i5 S K := by
  have hI := hL.2.1.1
  unfold wc_law_1735 m_L_roundsToAgree
  refine ⟨hx1, ?_⟩
  rw [hL.1.rc.x4]
  exact law_N hL (r := f_rd v (xs (Int32.toNatClampNeg (i5 + (1 : Int32))))) (tb := (fun _ => nI 1)) (fun S => m_X5_roundsToAgree (some m) (xs (Int32.toNatClampNeg (i5 + (1 : Int32)))) S) (fun v3 S4 => wck (ix (i5 + (1 : Int32)) L) <| tl i5 K (some m) (some oj) (fun S => m_X5_roundsToAgree (some m) (xs (Int32.toNatClampNeg (i5 + (1 : Int32)))) S) v3 S4) _ (k_rd hL.1 hI _) (fun T G u hg h hu => q_rd hg h hI hu _) hL.2.1 (fun e _ => by decide) (fun y T h => ⟨hx1, h⟩) (fun e he T => by unfold f_rd at he; (repeat' split at he) <;> first | (cases he; rfl) | cases he) hK
end RN2
