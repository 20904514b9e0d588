/-! THE LAW'S ROWS: snapshots, back, the text, means, shares, the digest -/
section RX
variable {S : PH} {G : Nat → Nat} {x nw m oj oe : Nat} {u v : AS} {hs : List AS} {nx : Nat} {sl : Nat → Option AS} {tn : Nat} {tx : Nat → Int32} {i5 : Int32} {K : Int32 → PH → Prop} {L : Nat} {xs : Nat → Int32}
theorem r_1070 (hL : LW S G x nw m oj oe v hs nx sl tn tx) (hx1 : ix (i5 + (1 : Int32)) L = true) (hx2 : ix (i5 + (2 : Int32)) L = true) (hx3 : ix (i5 + (3 : Int32)) L = true) (hK : ∀ T, LWE x nw m oj oe T → K (i5 + 4) T) : wc_law_1070 xs L (some x) (some m) (some oj) (some oe) i5 S K := by
  have hI := hL.2.1.1
  unfold wc_law_1070 w_L_keep
  refine ⟨hx1, ?_⟩
  rw [hL.1.rc.Wx]
  exact law_W2 hL (r := f_keep v (xs (Int32.toNatClampNeg (i5 + (1 : Int32))))) (tb := fun _ => nI 1) (fun Q => w_X4_keep (some x) (xs (Int32.toNatClampNeg (i5 + (1 : Int32)))) S Q) (fun S => m_X5_keep (some m) (xs (Int32.toNatClampNeg (i5 + (1 : Int32)))) S) (fun v3 S4 => wck (ix (i5 + (1 : Int32)) L) <| tl i5 K (some m) (some oj) (fun S => m_X5_keep (some m) (xs (Int32.toNatClampNeg (i5 + (1 : Int32)))) S) v3 S4) _ (fun Q hQ => k_keep hL.1 _ hQ) (fun T G u hg h hu => q_keep hg h hI hu _) ⟨hI, hL.2.1.2.1, fun i w hi hw => by
    dsimp only at hw
    split at hw
    · cases hw; exact hI
    · exact hL.2.1.2.2 i w hi hw⟩ (fun e _ => by decide) (fun y T h => ⟨hx1, h⟩) (fun e he T h => by unfold f_keep at he; (repeat' split at he) <;> first | (cases he; exact h) | cases he) hK
theorem r_1182 (hL : LW S G x nw m oj oe v hs nx sl tn tx) (hK : ∀ T, LWE x nw m oj oe T → K (i5 + 4) T) : wc_law_1182 xs L (some x) (some m) (some oj) (some oe) i5 S K := by
  have hI := hL.2.1.1
  unfold wc_law_1182 m_L_undo
  rw [hL.1.rc.x4]
  obtain ⟨S', k1, k2, k3⟩ := k_undo hL.1
  cases hs with
  | nil =>
    exact law_N hL (v' := v) (hs' := []) (nx' := nx) (sl' := sl) (tn' := tn) (tx' := tx) (r := (f_undo []).1) (tb := fun _ => nI 1) (fun S => m_X5_undo (some m) S) (fun v3 S4 => tl i5 K (some m) (some oj) (fun S => m_X5_undo (some m) S) v3 S4) _ ⟨S', k1, k3, k2⟩ (fun T G u hg h hu => q_undo hg h hu) hL.2.1 (fun e _ => by decide) (fun y T h => h) (fun e he T => by
      have he : (Sum.inl 1 : Nat ⊕ Int32) = .inl e := he
      cases he
      rfl) hK
  | cons w t =>
    exact law_N hL (v' := w) (hs' := t) (nx' := (nx + 5) % 6) (sl' := sl) (tn' := tn) (tx' := tx) (r := (f_undo (w :: t)).1) (tb := fun _ => nI 1) (fun S => m_X5_undo (some m) S) (fun v3 S4 => tl i5 K (some m) (some oj) (fun S => m_X5_undo (some m) S) v3 S4) _ ⟨S', k1, k3, k2⟩ (fun T G u hg h hu => q_undo hg h hu) ⟨hL.2.1.2.1 w List.mem_cons_self, fun z hz => hL.2.1.2.1 z (List.mem_cons_of_mem _ hz), hL.2.1.2.2⟩ (fun e _ => by decide) (fun y T h => h) (fun e he T => by
      have he : (Sum.inr (nI t.length) : Nat ⊕ Int32) = .inl e := he
      cases he) hK
theorem r_944 (hL : LW S G x nw m oj oe v hs nx sl tn tx) (hx1 : ix (i5 + (1 : Int32)) L = true) (hx2 : ix (i5 + (2 : Int32)) L = true) (hx3 : ix (i5 + (3 : Int32)) L = true) (hK : ∀ T, LWE x nw m oj oe T → K (i5 + 4) T) : wc_law_944 xs L (some x) (some m) (some oj) (some oe) i5 S K := by
  have hI := hL.2.1.1
  unfold wc_law_944 m_L_append
  refine ⟨hx1, ?_⟩
  rw [hL.1.rc.x4]
  obtain ⟨S', k1, k2, k3⟩ := k_app hL.1 (xs (Int32.toNatClampNeg (i5 + (1 : Int32))))
  exact law_N hL (r := f_app tn (xs (Int32.toNatClampNeg (i5 + (1 : Int32))))) (tb := fun e => if e = 0 then nI 1 else nI 2) (fun S => m_X5_append (some m) (xs (Int32.toNatClampNeg (i5 + (1 : Int32)))) S) (fun v3 S4 => wck (ix (i5 + (1 : Int32)) L) <| tl i5 K (some m) (some oj) (fun S => m_X5_append (some m) (xs (Int32.toNatClampNeg (i5 + (1 : Int32)))) S) v3 S4) _ ⟨S', k1, k3, k2⟩ (fun T G u hg h hu => q_app hg h hu _) hL.2.1 (fun e _ => by split <;> decide) (fun y T h => ⟨hx1, h⟩) (fun e he T => by unfold f_app at he; (repeat' split at he) <;> first | (cases he; rfl) | cases he) hK
/-- calls that throw nothing -/
theorem law_P (hL : LW S G x nw m oj oe v hs nx sl tn tx) {y : Int32} {o : Option (Int32 × PH)} (ref : PH → Option (Int32 × PH)) {v' : AS} {hs' : List AS} {nx' : Nat} {sl' : Nat → Option AS} {tn' : Nat} {tx' : Nat → Int32}
    (hk : ∃ S', o = some (y, S') ∧ RelC S' G x nw v' hs' nx' sl' tn' tx' ∧ fc S G S' G)
    (hq : ∀ (T : PH) (G : Nat → Nat) (u : AS), Gi G → RM T G m → MU u v hs sl tn tx → ∃ u', ref (mput T G u) = some (y, mput T G u') ∧ MU u' v' hs' sl' tn' tx')
    (hiv : IVs v' hs' sl') (hK : ∀ T, LWE x nw m oj oe T → K (i5 + 4) T) :
    wbd o fun v4 S5 => wdr S5 5 (some m) fun _ => wbd (ref S5) fun v10 S11 => if v4 = v10 then (K (i5 + (4 : Int32)) S11) else ((0 : Int32) = (1 : Int32)) := by
  obtain ⟨hC, hV, hM, hO⟩ := hL
  obtain ⟨S', k0, k1, k2⟩ := hk
  obtain ⟨hR, u, hu, hU⟩ := relM_fc hM k2 k1.gi
  have o1 := out_fc hO k2
  obtain ⟨u', q1, q2⟩ := hq S' G u k1.gi hR hU
  rw [← hu] at q1
  have wm0 : ∀ {f : Nat → Prop}, wdr S' 5 (some m) f = f m := fun {f} => wdr_e hR.1.1
  rw [k0, wbd_e, wm0, q1, wbd_e, if_pos rfl]
  exact hK _ ⟨G, v', hs', nx', sl', tn', tx', relC_M k1, hiv, relM_put hR q2, o1⟩
theorem r_1000 (hL : LW S G x nw m oj oe v hs nx sl tn tx) (hK : ∀ T, LWE x nw m oj oe T → K (i5 + 4) T) : wc_law_1000 xs L (some x) (some m) (some oj) (some oe) i5 S K := by
  unfold wc_law_1000
  rw [hL.1.rc.Wx]
  obtain ⟨S', k1, k2, k3⟩ := k_clr hL.1
  exact law_P hL (fun S => m_X5_clearBuffer (some m) S) ⟨S', k1, k3, k2⟩ (fun T G u hg h hu => by
    obtain ⟨u', a, _, b⟩ := q_clr hg h hu
    exact ⟨u', a, b⟩) hL.2.1 hK
theorem r_1013 (hL : LW S G x nw m oj oe v hs nx sl tn tx) (hK : ∀ T, LWE x nw m oj oe T → K (i5 + 4) T) : wc_law_1013 xs L (some x) (some m) (some oj) (some oe) i5 S K := by
  unfold wc_law_1013
  rw [hL.1.rc.Wx]
  exact law_P hL (fun S => m_X5_firstError (some m) S) ⟨S, k_err hL.1.rc hL.1.tt, hL.1, fc_r⟩ (fun T G u hg h hu => by
    obtain ⟨u', a, _, b⟩ := q_err hg h hu
    exact ⟨u', a, b⟩) hL.2.1 hK
theorem r_1722 (hL : LW S G x nw m oj oe v hs nx sl tn tx) (hK : ∀ T, LWE x nw m oj oe T → K (i5 + 4) T) : wc_law_1722 xs L (some x) (some m) (some oj) (some oe) i5 S K := by
  have hI := hL.2.1.1
  unfold wc_law_1722
  rw [hL.1.rc.Wx]
  exact law_P hL (fun S => m_X5_needed (some m) S) (k_need hL.1 hI) (fun T G u hg h hu => by
    obtain ⟨u', a, _, b⟩ := q_need hg h hI hu
    exact ⟨u', a, b⟩) hL.2.1 hK
theorem r_1911 (hL : LW S G x nw m oj oe v hs nx sl tn tx) (hK : ∀ T, LWE x nw m oj oe T → K (i5 + 4) T) : wc_law_1911 xs L (some x) (some m) (some oj) (some oe) i5 S K := by
  have hI := hL.2.1.1
  unfold wc_law_1911
  rw [hL.1.rc.Wx]
  obtain ⟨hC, hV, hM, hO⟩ := hL
  obtain ⟨S', k0, k1, k2⟩ := k_dig hC hI
  obtain ⟨hR, u, hu, hU⟩ := relM_fc hM k2 k1.gi
  have o1 := out_fc hO k2
  obtain ⟨u', h', q1, _, q2⟩ := q_dig k1.gi hR hI hU
  rw [← hu] at q1
  have wm0 : ∀ {f : Nat → Prop}, wdr S' 5 (some m) f = f m := fun {f} => wdr_e hR.1.1
  rw [k0, wbd_e, wm0, q1, wbd_e, lg_refl, if_pos rfl]
  have c1 : RelC (hj S' m h') G x nw v hs nx sl tn tx := k1
  exact hK _ ⟨G, v, hs, nx, sl, tn, tx, relC_M c1, hV, relM_put (S := hj S' m h') hR q2, o1⟩
theorem nn_d {r : UInt64} (h : nn64 r = true) : FP.Core.dIsNaN r = false := by
  cases g : FP.Core.dIsNaN r with
  | false => rfl
  | true =>
    exfalso
    have k := (FP.Core.isNaN_bits r).mp g
    unfold nn64 at h
    have h := of_decide_eq_true h
    rw [UInt64.le_iff_toNat_le, UInt64.toNat_and] at h
    have h : r.toNat &&& (2 ^ 63 - 1) ≤ 9218868437227405312 := h
    rw [Nat.and_two_pow_sub_one_eq_mod] at h
    omega
theorem cmp_self {r : UInt64} (h : nn64 r = true) : Op.cmpValue (FP.dcmp r r) .l = 0 := by
  have e : FP.dcmp r r = some .eq := FP.Core.dcmp_refl (nn_d h)
  rw [e]
  rfl
theorem r_1868 (hL : LW S G x nw m oj oe v hs nx sl tn tx) (hK : ∀ T, LWE x nw m oj oe T → K (i5 + 4) T) : wc_law_1868 xs L (some x) (some m) (some oj) (some oe) i5 S K := by
  have hI := hL.2.1.1
  unfold wc_law_1868
  rw [hL.1.rc.Wx]
  obtain ⟨hC, hV, hM, hO⟩ := hL
  obtain ⟨hR, u, hu, hU⟩ := hM
  obtain ⟨u', q1, _, q2⟩ := q_share hC.gi hR hI hU
  rw [← hu] at q1
  have nn := (sb_in hI).2.1
  have wm0 : ∀ {f : Nat → Prop}, wdr S 5 (some m) f = f m := fun {f} => wdr_e hR.1.1
  rw [k_share hC hI, wbd_e]
  refine ⟨nn, ?_⟩
  rw [wle_t, wm0, q1, wbd_e]
  refine ⟨nn, ?_⟩
  rw [wle_t, if_pos (cmp_self nn)]
  exact hK _ ⟨G, v, hs, nx, sl, tn, tx, relC_M hC, hV, relM_put hR q2, hO⟩
theorem mean_n64 (r : Nat → Int32) : nn64 (a_mean r) = true := by
  obtain ⟨e1, e2, h1, h2⟩ := mean_ab r
  unfold a_mean
  by_cases g : cnt (sc r) 8 = 0
  · rw [if_pos (by rw [e1, g]; exact Int32.le_refl _)]
    decide
  · rw [if_neg (by rw [e1, nI_leI (by omega) (by omega)]; omega)]
    exact mean_nn r g
theorem r_1791 (hL : LW S G x nw m oj oe v hs nx sl tn tx) (hx1 : ix (i5 + (1 : Int32)) L = true) (hx2 : ix (i5 + (2 : Int32)) L = true) (hx3 : ix (i5 + (3 : Int32)) L = true) (hK : ∀ T, LWE x nw m oj oe T → K (i5 + 4) T) : wc_law_1791 xs L (some x) (some m) (some oj) (some oe) i5 S K := by
  have hI := hL.2.1.1
  unfold wc_law_1791 m_L_meanScore
  refine ⟨hx1, ?_⟩
  generalize xs (Int32.toNatClampNeg (i5 + (1 : Int32))) = j
  obtain ⟨hC, hV, hM, hO⟩ := hL
  rw [hC.rc.x4, k_mean hC hI]
  have th : ∀ (T : PH) (u : AS), RM T G m → m_X5_thrown (some m) (mput T G u) = some (u 0 0, mput T G u) := by
    intro T u hR
    unfold m_X5_thrown
    rw [dr_mp, hR.mm, mg_i hR 0 (by omega)]
  unfold f_mean
  by_cases h2 : a_isP v j = true
  · rw [if_pos h2, bt_r, out_e hO, hO.2.2, ck_t (by decide), le_t, wbd_e]
    refine ⟨hx1, ?_⟩
    obtain ⟨hR, u, hu, hU⟩ := relM_E (a := oe) (k := 0) (y := a_mean (v (20 + j.toNatClampNeg))) hM
    obtain ⟨u', q1, q2⟩ := q_mean hC.gi hR hI hU j
    unfold f_mean at q1
    rw [if_pos h2] at q1
    obtain ⟨q1, q3⟩ := q1
    have wm : ∀ {u : AS} {f : Nat → Prop}, wdr (mput (s_E S oe 0 (a_mean (v (20 + j.toNatClampNeg)))) G u) 5 (some m) f = f m := fun {u f} => wdr_e hR.1.1
    have we : ∀ {u : AS} {f : Nat → Prop}, wdr (mput (s_E S oe 0 (a_mean (v (20 + j.toNatClampNeg)))) G u) 11 (some oe) f = f oe := fun {u f} => wdr_e hO.2.1.1
    have ne : ∀ {u : AS}, p_N (mput (s_E S oe 0 (a_mean (v (20 + j.toNatClampNeg)))) G u) oe = 1 := fun {u} => hO.2.2
    have ee : ∀ {u : AS}, p_E (mput (s_E S oe 0 (a_mean (v (20 + j.toNatClampNeg)))) G u) oe 0 = a_mean (v (20 + j.toNatClampNeg)) := fun {u} => by
      show u_2 (p_E S) oe 0 _ oe 0 = _
      unfold u_2
      exact if_pos ⟨rfl, rfl⟩
    rw [hu, wm, q1, wbd_e, wm, th _ _ hR, wbd_e, q3, if_pos (show nI 0 = 0 from rfl), if_pos rfl, we, ne]
    refine ⟨by decide, ?_⟩
    rw [ee, if_pos (cmp_self (mean_n64 _))]
    have c1 : RelC (s_E S oe 0 (a_mean (v (20 + j.toNatClampNeg)))) G x nw v hs nx sl tn tx := hC
    exact hK _ ⟨G, v, hs, nx, sl, tn, tx, relC_M c1, hV, relM_put hR q2, hO⟩
  · rw [if_neg h2, bt_l, if_pos rfl, wbd_e]
    refine ⟨hx1, ?_⟩
    obtain ⟨hR, u, hu, hU⟩ := hM
    obtain ⟨u', q1, q2⟩ := q_mean hC.gi hR hI hU j
    unfold f_mean at q1
    rw [if_neg h2] at q1
    obtain ⟨q1, q3⟩ := q1
    have wm : ∀ {u : AS} {f : Nat → Prop}, wdr (mput S G u) 5 (some m) f = f m := fun {u f} => wdr_e hR.1.1
    rw [hu, wm, q1, wbd_e, wm, th _ _ hR, wbd_e, q3, if_pos (show nI 1 = 1 from rfl), if_neg (by decide)]
    exact hK _ ⟨G, v, hs, nx, sl, tn, tx, relC_M hC, hV, relM_put hR q2, hO⟩
end RX
