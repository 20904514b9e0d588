/-! THE WALKS: each method does what it means -/
theorem dX5_rebut_0 : decode cX5_rebut 0 = .ok (.aload_n 0, 1) := by decide +kernel
theorem dX5_rebut_1 : decode cX5_rebut 1 = .ok (.aload_n 0, 1) := by decide +kernel
theorem dX5_rebut_2 : decode cX5_rebut 2 = .ok (.iload_n 1, 1) := by decide +kernel
theorem dX5_rebut_3 : decode cX5_rebut 3 = .ok (.invokevirtual 96, 3) := by decide +kernel
theorem dX5_rebut_6 : decode cX5_rebut 6 = .ok (.ifCond .eq 7, 3) := by decide +kernel
theorem dX5_rebut_9 : decode cX5_rebut 9 = .ok (.iconst 0, 1) := by decide +kernel
theorem dX5_rebut_10 : decode cX5_rebut 10 = .ok (.goto 4, 3) := by decide +kernel
theorem dX5_rebut_13 : decode cX5_rebut 13 = .ok (.iconst 1, 1) := by decide +kernel
theorem dX5_rebut_14 : decode cX5_rebut 14 = .ok (.invokevirtual 56, 3) := by decide +kernel
theorem dX5_rebut_17 : decode cX5_rebut 17 = .ok (.ifCond .ne 5, 3) := by decide +kernel
theorem dX5_rebut_20 : decode cX5_rebut 20 = .ok (.iconst 0, 1) := by decide +kernel
theorem dX5_rebut_21 : decode cX5_rebut 21 = .ok (.ireturn, 1) := by decide +kernel
theorem dX5_rebut_22 : decode cX5_rebut 22 = .ok (.aload_n 0, 1) := by decide +kernel
theorem dX5_rebut_23 : decode cX5_rebut 23 = .ok (.invokevirtual 60, 3) := by decide +kernel
theorem dX5_rebut_26 : decode cX5_rebut 26 = .ok (.aload_n 0, 1) := by decide +kernel
theorem dX5_rebut_27 : decode cX5_rebut 27 = .ok (.iload_n 1, 1) := by decide +kernel
theorem dX5_rebut_28 : decode cX5_rebut 28 = .ok (.invokevirtual 120, 3) := by decide +kernel
theorem dX5_rebut_31 : decode cX5_rebut 31 = .ok (.ireturn, 1) := by decide +kernel
set_option maxRecDepth 100000 in
set_option maxHeartbeats 4000000 in
theorem mt_X5_rebut (r0 : Option Nat) (i1 : Int32) (S0 : PH) (y : Int32 × PH) (h : m_X5_rebut r0 i1 S0 = some y) : MT yX5_rebut (.code yX5_rebut cX5_rebut 2 (Option.some FieldType.int)) 5 116 0 0 [va_rf r0, .int i1] S0 (oQ e_I (qN y)) := by
  refine mt_of (own := RX5) (l0 := [(0, va_rf r0), (1, .int i1)]) rfl rfl (by cases r0 <;> exact Nat.le_of_ble_eq_true rfl) (by cases r0 <;> rfl) ?_
  intro Z hC hQ hE hN
  have J_14 : ∀ (v8 : Option Nat) (v9 : Int32) (S10 : PH), j_X5_rebut_14 r0 i1 v8 v9 S10 = some y → PX Z 2 S10 0 0 14 [(0, va_rf r0), (1, .int i1)] [.int v9, va_rf v8] := by
    intro v8 v9 S10 h
    unfold j_X5_rebut_14 at h
    replace h := dr_el h
    obtain ⟨a11, ea12, ha13, h⟩ := h
    replace h := bd_el h
    obtain ⟨v14, S15, hb16, h⟩ := h
    refine x_callV hC (st := []) (mt_X5_holds _ _ _ _ hb16) ea12 ha13 kf_5 q_915 q_917 qs_43 q_7 q_918 ⟨rfl, hy_X5_holds⟩ ⟨Nat.le_of_ble_eq_true rfl, Nat.le_of_ble_eq_true rfl⟩ ⟨Nat.le_of_ble_eq_true rfl, Nat.le_of_ble_eq_true rfl⟩ rfl (Nat.le_of_ble_eq_true rfl) dX5_rebut_14 (r_N ?_) r_NX
    show PX Z 2 S15 0 0 17 [(0, va_rf r0), (1, .int i1)] [.int v14]
    refine x_if_ne (t := 22) hC dX5_rebut_17 (by decide) (fun c17 => ?_) (fun c17 => ?_)
    · replace h := it_f c17 h
      refine x_aload_n (i := 0) hC dX5_rebut_22 rfl 0 rfl ?_
      replace h := dr_el h
      obtain ⟨a18, ea19, ha20, h⟩ := h
      replace h := bd_el h
      obtain ⟨v21, S22, hb23, h⟩ := h
      refine x_callV hC (st := []) (mt_X5_save _ _ _ hb23) ea19 ha20 kf_5 q_919 q_921 qs_44 q_7 q_922 ⟨rfl, hy_X5_save⟩ ⟨Nat.le_of_ble_eq_true rfl, Nat.le_of_ble_eq_true rfl⟩ ⟨Nat.le_of_ble_eq_true rfl, Nat.le_of_ble_eq_true rfl⟩ rfl (Nat.le_of_ble_eq_true rfl) dX5_rebut_23 (r_N ?_) r_NX
      show PX Z 2 S22 0 0 26 [(0, va_rf r0), (1, .int i1)] []
      refine x_aload_n (i := 0) hC dX5_rebut_26 rfl 0 rfl ?_
      refine x_iload_n (i := 1) hC dX5_rebut_27 rfl 1 rfl ?_
      replace h := dr_el h
      obtain ⟨a24, ea25, ha26, h⟩ := h
      replace h := bd_el h
      obtain ⟨v27, S28, hb29, h⟩ := h
      refine x_callV hC (st := []) (mt_X5_rebuts _ _ _ _ hb29) ea25 ha26 kf_5 q_1051 q_1053 qs_64 q_7 q_1054 ⟨rfl, hy_X5_rebuts⟩ ⟨Nat.le_of_ble_eq_true rfl, Nat.le_of_ble_eq_true rfl⟩ ⟨Nat.le_of_ble_eq_true rfl, Nat.le_of_ble_eq_true rfl⟩ rfl (Nat.le_of_ble_eq_true rfl) dX5_rebut_28 (r_N ?_) r_NX
      show PX Z 2 S28 0 0 31 [(0, va_rf r0), (1, .int i1)] [.int v27]
      exact x_iret hC hQ (z_N (Option.some.inj h)) (Nat.le_of_ble_eq_true rfl) (Nat.le_of_ble_eq_true rfl) dX5_rebut_31
    · replace h := it_t c17 h
      refine x_iconst (v := (0 : Int32)) hC dX5_rebut_20 (by decide) ?_
      exact x_iret hC hQ (z_N (Option.some.inj h)) (Nat.le_of_ble_eq_true rfl) (Nat.le_of_ble_eq_true rfl) dX5_rebut_21
  unfold m_X5_rebut at h
  refine x_aload_n (i := 0) hC dX5_rebut_0 rfl 0 rfl ?_
  refine x_aload_n (i := 0) hC dX5_rebut_1 rfl 0 rfl ?_
  refine x_iload_n (i := 1) hC dX5_rebut_2 rfl 1 rfl ?_
  replace h := dr_el h
  obtain ⟨a1, ea2, ha3, h⟩ := h
  replace h := bd_el h
  obtain ⟨v4, S5, hb6, h⟩ := h
  refine x_callV hC (st := [va_rf r0]) (mt_X5_isPaper _ _ _ _ hb6) ea2 ha3 kf_5 q_969 q_971 qs_49 q_7 q_972 ⟨rfl, hy_X5_isPaper⟩ ⟨Nat.le_of_ble_eq_true rfl, Nat.le_of_ble_eq_true rfl⟩ ⟨Nat.le_of_ble_eq_true rfl, Nat.le_of_ble_eq_true rfl⟩ rfl (Nat.le_of_ble_eq_true rfl) dX5_rebut_3 (r_N ?_) r_NX
  show PX Z 2 S5 0 0 6 [(0, va_rf r0), (1, .int i1)] [.int v4, va_rf r0]
  refine x_if_eq (t := 13) hC dX5_rebut_6 (by decide) (fun c7 => ?_) (fun c7 => ?_)
  · replace h := it_t c7 h
    refine x_iconst (v := (1 : Int32)) hC dX5_rebut_13 (by decide) ?_
    exact J_14 _ _ _ h
  · replace h := it_f c7 h
    refine x_iconst (v := (0 : Int32)) hC dX5_rebut_9 (by decide) ?_
    refine x_goto (t := 14) hC dX5_rebut_10 (by decide) ?_
    exact J_14 _ _ _ h
theorem dX5_canDecide_0 : decode cX5_canDecide 0 = .ok (.aload_n 0, 1) := by decide +kernel
theorem dX5_canDecide_1 : decode cX5_canDecide 1 = .ok (.iload_n 1, 1) := by decide +kernel
theorem dX5_canDecide_2 : decode cX5_canDecide 2 = .ok (.iconst 1, 1) := by decide +kernel
theorem dX5_canDecide_3 : decode cX5_canDecide 3 = .ok (.invokevirtual 80, 3) := by decide +kernel
theorem dX5_canDecide_6 : decode cX5_canDecide 6 = .ok (.istore_n 2, 1) := by decide +kernel
theorem dX5_canDecide_7 : decode cX5_canDecide 7 = .ok (.aload_n 0, 1) := by decide +kernel
theorem dX5_canDecide_8 : decode cX5_canDecide 8 = .ok (.iload_n 1, 1) := by decide +kernel
theorem dX5_canDecide_9 : decode cX5_canDecide 9 = .ok (.iconst 4, 1) := by decide +kernel
theorem dX5_canDecide_10 : decode cX5_canDecide 10 = .ok (.invokevirtual 31, 3) := by decide +kernel
theorem dX5_canDecide_13 : decode cX5_canDecide 13 = .ok (.ifCond .ne 30, 3) := by decide +kernel
theorem dX5_canDecide_16 : decode cX5_canDecide 16 = .ok (.iload_n 2, 1) := by decide +kernel
theorem dX5_canDecide_17 : decode cX5_canDecide 17 = .ok (.invokestatic 84, 3) := by decide +kernel
theorem dX5_canDecide_20 : decode cX5_canDecide 20 = .ok (.aload_n 0, 1) := by decide +kernel
theorem dX5_canDecide_21 : decode cX5_canDecide 21 = .ok (.getfield 7, 3) := by decide +kernel
theorem dX5_canDecide_24 : decode cX5_canDecide 24 = .ok (.iconst 4, 1) := by decide +kernel
theorem dX5_canDecide_25 : decode cX5_canDecide 25 = .ok (.iaload, 1) := by decide +kernel
theorem dX5_canDecide_26 : decode cX5_canDecide 26 = .ok (.if_icmp .lt 17, 3) := by decide +kernel
theorem dX5_canDecide_29 : decode cX5_canDecide 29 = .ok (.iload_n 2, 1) := by decide +kernel
theorem dX5_canDecide_30 : decode cX5_canDecide 30 = .ok (.aload_n 0, 1) := by decide +kernel
theorem dX5_canDecide_31 : decode cX5_canDecide 31 = .ok (.iload_n 1, 1) := by decide +kernel
theorem dX5_canDecide_32 : decode cX5_canDecide 32 = .ok (.iconst 0, 1) := by decide +kernel
theorem dX5_canDecide_33 : decode cX5_canDecide 33 = .ok (.invokevirtual 80, 3) := by decide +kernel
theorem dX5_canDecide_36 : decode cX5_canDecide 36 = .ok (.if_icmp .ne 7, 3) := by decide +kernel
theorem dX5_canDecide_39 : decode cX5_canDecide 39 = .ok (.iconst 1, 1) := by decide +kernel
theorem dX5_canDecide_40 : decode cX5_canDecide 40 = .ok (.goto 4, 3) := by decide +kernel
theorem dX5_canDecide_43 : decode cX5_canDecide 43 = .ok (.iconst 0, 1) := by decide +kernel
theorem dX5_canDecide_44 : decode cX5_canDecide 44 = .ok (.ireturn, 1) := by decide +kernel
set_option maxRecDepth 100000 in
set_option maxHeartbeats 4000000 in
theorem mt_X5_canDecide (r0 : Option Nat) (i1 : Int32) (S0 : PH) (y : Int32 × PH) (h : m_X5_canDecide r0 i1 S0 = some y) : MT yX5_canDecide (.code yX5_canDecide cX5_canDecide 3 (Option.some FieldType.boolean)) 4 91 0 0 [va_rf r0, .int i1] S0 (oQ e_I (qN y)) := by
  refine mt_of (own := RX5) (l0 := [(0, va_rf r0), (1, .int i1)]) rfl rfl (by cases r0 <;> exact Nat.le_of_ble_eq_true rfl) (by cases r0 <;> rfl) ?_
  intro Z hC hQ hE hN
  unfold m_X5_canDecide at h
  refine x_aload_n (i := 0) hC dX5_canDecide_0 rfl 0 rfl ?_
  refine x_iload_n (i := 1) hC dX5_canDecide_1 rfl 1 rfl ?_
  refine x_iconst (v := (1 : Int32)) hC dX5_canDecide_2 (by decide) ?_
  replace h := dr_el h
  obtain ⟨a1, ea2, ha3, h⟩ := h
  replace h := bd_el h
  obtain ⟨v4, S5, hb6, h⟩ := h
  refine x_callV hC (st := []) (mt_X5_reviewers _ _ _ _ _ hb6) ea2 ha3 kf_5 q_989 q_991 qs_54 q_7 q_992 ⟨rfl, hy_X5_reviewers⟩ ⟨Nat.le_of_ble_eq_true rfl, Nat.le_of_ble_eq_true rfl⟩ ⟨Nat.le_of_ble_eq_true rfl, Nat.le_of_ble_eq_true rfl⟩ rfl (Nat.le_of_ble_eq_true rfl) dX5_canDecide_3 (r_N ?_) r_NX
  show PX Z 3 S5 0 0 6 [(0, va_rf r0), (1, .int i1)] [.int v4]
  refine x_istore_n (i := 2) (l' := [(2, .int v4), (0, va_rf r0), (1, .int i1)]) hC dX5_canDecide_6 rfl (⟨fun _ => c_rf r0, ⟨fun _ => rfl, trivial⟩⟩) (by decide) rfl ?_
  refine x_aload_n (i := 0) hC dX5_canDecide_7 rfl 1 rfl ?_
  refine x_iload_n (i := 1) hC dX5_canDecide_8 rfl 2 rfl ?_
  refine x_iconst (v := (4 : Int32)) hC dX5_canDecide_9 (by decide) ?_
  replace h := dr_el h
  obtain ⟨a7, ea8, ha9, h⟩ := h
  replace h := bd_el h
  obtain ⟨v10, S11, hb12, h⟩ := h
  refine x_callV hC (st := []) (mt_X5_of _ _ _ _ _ hb12) ea8 ha9 kf_5 q_981 q_983 qs_52 q_7 q_984 ⟨rfl, hy_X5_of⟩ ⟨Nat.le_of_ble_eq_true rfl, Nat.le_of_ble_eq_true rfl⟩ ⟨Nat.le_of_ble_eq_true rfl, Nat.le_of_ble_eq_true rfl⟩ rfl (Nat.le_of_ble_eq_true rfl) dX5_canDecide_10 (r_N ?_) r_NX
  show PX Z 3 S11 0 0 13 [(2, .int v4), (0, va_rf r0), (1, .int i1)] [.int v10]
  refine x_if_ne (t := 43) hC dX5_canDecide_13 (by decide) (fun c13 => ?_) (fun c13 => ?_)
  · replace h := it_f c13 h
    refine x_iconst (v := (0 : Int32)) hC dX5_canDecide_43 (by decide) ?_
    exact x_zret hC hQ (by decide) (z_N (Option.some.inj h)) (Nat.le_of_ble_eq_true rfl) (Nat.le_of_ble_eq_true rfl) dX5_canDecide_44
  · replace h := it_t c13 h
    refine x_iload_n (i := 2) hC dX5_canDecide_16 rfl 0 rfl ?_
    replace h := bd_el h
    obtain ⟨v14, S15, hb16, h⟩ := h
    refine x_callS hC (st := []) (mt_X5_ones _ _ _ hb16) q_997 q_998 q_7 q_999 hy_X5_ones ⟨Nat.le_of_ble_eq_true rfl, Nat.le_of_ble_eq_true rfl⟩ ⟨Nat.le_of_ble_eq_true rfl, Nat.le_of_ble_eq_true rfl⟩ rfl (Nat.le_of_ble_eq_true rfl) dX5_canDecide_17 (r_N ?_) r_NX
    show PX Z 3 S15 0 0 20 [(2, .int v4), (0, va_rf r0), (1, .int i1)] [.int v14]
    refine x_aload_n (i := 0) hC dX5_canDecide_20 rfl 1 rfl ?_
    replace h := dr_el h
    obtain ⟨a17, ea18, ha19, h⟩ := h
    refine x_getR hC ea18 ha19 kf_5 1 (by decide) rfl q_864 dX5_canDecide_21 ?_
    refine x_iconst (v := (4 : Int32)) hC dX5_canDecide_24 (by decide) ?_
    replace h := dr_el h
    obtain ⟨a20, ea21, ha22, h⟩ := h
    replace h := ck_el h
    obtain ⟨hc23, h⟩ := h
    refine x_iaload hC ea21 ha22 hc23 dX5_canDecide_25 ?_
    refine x_tI (b := (p_I S15 a20 4)) rfl ?_
    refine x_icmp_lt (t := 43) hC dX5_canDecide_26 (by decide) (fun c24 => ?_) (fun c24 => ?_)
    · replace h := it_t c24 h
      refine x_iconst (v := (0 : Int32)) hC dX5_canDecide_43 (by decide) ?_
      exact x_zret hC hQ (by decide) (z_N (Option.some.inj h)) (Nat.le_of_ble_eq_true rfl) (Nat.le_of_ble_eq_true rfl) dX5_canDecide_44
    · replace h := it_f c24 h
      refine x_iload_n (i := 2) hC dX5_canDecide_29 rfl 0 rfl ?_
      refine x_aload_n (i := 0) hC dX5_canDecide_30 rfl 1 rfl ?_
      refine x_iload_n (i := 1) hC dX5_canDecide_31 rfl 2 rfl ?_
      refine x_iconst (v := (0 : Int32)) hC dX5_canDecide_32 (by decide) ?_
      replace h := bd_el h
      obtain ⟨v25, S26, hb27, h⟩ := h
      refine x_callV hC (st := [.int v4]) (mt_X5_reviewers _ _ _ _ _ hb27) ea18 ha19 kf_5 q_989 q_991 qs_54 q_7 q_992 ⟨rfl, hy_X5_reviewers⟩ ⟨Nat.le_of_ble_eq_true rfl, Nat.le_of_ble_eq_true rfl⟩ ⟨Nat.le_of_ble_eq_true rfl, Nat.le_of_ble_eq_true rfl⟩ rfl (Nat.le_of_ble_eq_true rfl) dX5_canDecide_33 (r_N ?_) r_NX
      show PX Z 3 S26 0 0 36 [(2, .int v4), (0, va_rf r0), (1, .int i1)] [.int v25, .int v4]
      refine x_icmp_ne (t := 43) hC dX5_canDecide_36 (by decide) (fun c28 => ?_) (fun c28 => ?_)
      · replace h := it_f c28 h
        refine x_iconst (v := (0 : Int32)) hC dX5_canDecide_43 (by decide) ?_
        exact x_zret hC hQ (by decide) (z_N (Option.some.inj h)) (Nat.le_of_ble_eq_true rfl) (Nat.le_of_ble_eq_true rfl) dX5_canDecide_44
      · replace h := it_t c28 h
        refine x_iconst (v := (1 : Int32)) hC dX5_canDecide_39 (by decide) ?_
        refine x_goto (t := 44) hC dX5_canDecide_40 (by decide) ?_
        exact x_zret hC hQ (by decide) (z_N (Option.some.inj h)) (Nat.le_of_ble_eq_true rfl) (Nat.le_of_ble_eq_true rfl) dX5_canDecide_44
theorem dX5_decide_0 : decode cX5_decide 0 = .ok (.aload_n 0, 1) := by decide +kernel
theorem dX5_decide_1 : decode cX5_decide 1 = .ok (.aload_n 0, 1) := by decide +kernel
theorem dX5_decide_2 : decode cX5_decide 2 = .ok (.iload_n 1, 1) := by decide +kernel
theorem dX5_decide_3 : decode cX5_decide 3 = .ok (.invokevirtual 96, 3) := by decide +kernel
theorem dX5_decide_6 : decode cX5_decide 6 = .ok (.ifCond .ne 7, 3) := by decide +kernel
theorem dX5_decide_9 : decode cX5_decide 9 = .ok (.iconst 1, 1) := by decide +kernel
theorem dX5_decide_10 : decode cX5_decide 10 = .ok (.goto 16, 3) := by decide +kernel
theorem dX5_decide_13 : decode cX5_decide 13 = .ok (.aload_n 0, 1) := by decide +kernel
theorem dX5_decide_14 : decode cX5_decide 14 = .ok (.iload_n 1, 1) := by decide +kernel
theorem dX5_decide_15 : decode cX5_decide 15 = .ok (.invokevirtual 123, 3) := by decide +kernel
theorem dX5_decide_18 : decode cX5_decide 18 = .ok (.ifCond .ne 7, 3) := by decide +kernel
theorem dX5_decide_21 : decode cX5_decide 21 = .ok (.iconst 2, 1) := by decide +kernel
theorem dX5_decide_22 : decode cX5_decide 22 = .ok (.goto 4, 3) := by decide +kernel
theorem dX5_decide_25 : decode cX5_decide 25 = .ok (.iconst 0, 1) := by decide +kernel
theorem dX5_decide_26 : decode cX5_decide 26 = .ok (.invokevirtual 56, 3) := by decide +kernel
theorem dX5_decide_29 : decode cX5_decide 29 = .ok (.ifCond .ne 5, 3) := by decide +kernel
theorem dX5_decide_32 : decode cX5_decide 32 = .ok (.iconst 0, 1) := by decide +kernel
theorem dX5_decide_33 : decode cX5_decide 33 = .ok (.ireturn, 1) := by decide +kernel
theorem dX5_decide_34 : decode cX5_decide 34 = .ok (.aload_n 0, 1) := by decide +kernel
theorem dX5_decide_35 : decode cX5_decide 35 = .ok (.invokevirtual 60, 3) := by decide +kernel
theorem dX5_decide_38 : decode cX5_decide 38 = .ok (.aload_n 0, 1) := by decide +kernel
theorem dX5_decide_39 : decode cX5_decide 39 = .ok (.iload_n 1, 1) := by decide +kernel
theorem dX5_decide_40 : decode cX5_decide 40 = .ok (.invokevirtual 111, 3) := by decide +kernel
theorem dX5_decide_43 : decode cX5_decide 43 = .ok (.bipush 6, 2) := by decide +kernel
theorem dX5_decide_45 : decode cX5_decide 45 = .ok (.aload_n 0, 1) := by decide +kernel
theorem dX5_decide_46 : decode cX5_decide 46 = .ok (.iload_n 1, 1) := by decide +kernel
theorem dX5_decide_47 : decode cX5_decide 47 = .ok (.iconst 1, 1) := by decide +kernel
theorem dX5_decide_48 : decode cX5_decide 48 = .ok (.invokevirtual 80, 3) := by decide +kernel
theorem dX5_decide_51 : decode cX5_decide 51 = .ok (.invokestatic 84, 3) := by decide +kernel
theorem dX5_decide_54 : decode cX5_decide 54 = .ok (.imul, 1) := by decide +kernel
theorem dX5_decide_55 : decode cX5_decide 55 = .ok (.if_icmp .lt 7, 3) := by decide +kernel
theorem dX5_decide_58 : decode cX5_decide 58 = .ok (.iconst 1, 1) := by decide +kernel
theorem dX5_decide_59 : decode cX5_decide 59 = .ok (.goto 4, 3) := by decide +kernel
theorem dX5_decide_62 : decode cX5_decide 62 = .ok (.iconst 0, 1) := by decide +kernel
theorem dX5_decide_63 : decode cX5_decide 63 = .ok (.istore_n 2, 1) := by decide +kernel
theorem dX5_decide_64 : decode cX5_decide 64 = .ok (.aload_n 0, 1) := by decide +kernel
theorem dX5_decide_65 : decode cX5_decide 65 = .ok (.iload_n 1, 1) := by decide +kernel
theorem dX5_decide_66 : decode cX5_decide 66 = .ok (.iconst 4, 1) := by decide +kernel
theorem dX5_decide_67 : decode cX5_decide 67 = .ok (.iload_n 2, 1) := by decide +kernel
theorem dX5_decide_68 : decode cX5_decide 68 = .ok (.ifCond .eq 7, 3) := by decide +kernel
theorem dX5_decide_71 : decode cX5_decide 71 = .ok (.iconst 2, 1) := by decide +kernel
theorem dX5_decide_72 : decode cX5_decide 72 = .ok (.goto 4, 3) := by decide +kernel
theorem dX5_decide_75 : decode cX5_decide 75 = .ok (.iconst 1, 1) := by decide +kernel
theorem dX5_decide_76 : decode cX5_decide 76 = .ok (.invokevirtual 63, 3) := by decide +kernel
theorem dX5_decide_79 : decode cX5_decide 79 = .ok (.iload_n 2, 1) := by decide +kernel
theorem dX5_decide_80 : decode cX5_decide 80 = .ok (.ifCond .eq 7, 3) := by decide +kernel
theorem dX5_decide_83 : decode cX5_decide 83 = .ok (.iconst 1, 1) := by decide +kernel
theorem dX5_decide_84 : decode cX5_decide 84 = .ok (.goto 4, 3) := by decide +kernel
theorem dX5_decide_87 : decode cX5_decide 87 = .ok (.iconst 0, 1) := by decide +kernel
theorem dX5_decide_88 : decode cX5_decide 88 = .ok (.ireturn, 1) := by decide +kernel
set_option maxRecDepth 100000 in
set_option maxHeartbeats 4000000 in
theorem mt_X5_decide (r0 : Option Nat) (i1 : Int32) (S0 : PH) (y : Int32 × PH) (h : m_X5_decide r0 i1 S0 = some y) : MT yX5_decide (.code yX5_decide cX5_decide 3 (Option.some FieldType.int)) 5 113 0 0 [va_rf r0, .int i1] S0 (oQ e_I (qN y)) := by
  refine mt_of (own := RX5) (l0 := [(0, va_rf r0), (1, .int i1)]) rfl rfl (by cases r0 <;> exact Nat.le_of_ble_eq_true rfl) (by cases r0 <;> rfl) ?_
  intro Z hC hQ hE hN
  have J_76 : ∀ (v50 : Int32) (v51 : Option Nat) (v52 : Int32) (v53 : Int32) (v54 : Int32) (S55 : PH), j_X5_decide_76 r0 i1 v50 v51 v52 v53 v54 S55 = some y → PX Z 3 S55 0 0 76 [(0, va_rf r0), (1, .int i1), (2, .int v50)] [.int v54, .int v53, .int v52, va_rf v51] := by
    intro v50 v51 v52 v53 v54 S55 h
    unfold j_X5_decide_76 at h
    replace h := dr_el h
    obtain ⟨a56, ea57, ha58, h⟩ := h
    replace h := bd_el h
    obtain ⟨v59, S60, hb61, h⟩ := h
    refine x_callV hC (st := []) (mt_X5_lay _ _ _ _ _ _ hb61) ea57 ha58 kf_5 q_927 q_929 qs_46 q_7 q_930 ⟨rfl, hy_X5_lay⟩ ⟨Nat.le_of_ble_eq_true rfl, Nat.le_of_ble_eq_true rfl⟩ ⟨Nat.le_of_ble_eq_true rfl, Nat.le_of_ble_eq_true rfl⟩ rfl (Nat.le_of_ble_eq_true rfl) dX5_decide_76 (r_N ?_) r_NX
    show PX Z 3 S60 0 0 79 [(0, va_rf r0), (1, .int i1), (2, .int v50)] []
    refine x_iload_n (i := 2) hC dX5_decide_79 rfl 2 rfl ?_
    refine x_if_eq (t := 87) hC dX5_decide_80 (by decide) (fun c62 => ?_) (fun c62 => ?_)
    · replace h := it_t c62 h
      refine x_iconst (v := (0 : Int32)) hC dX5_decide_87 (by decide) ?_
      exact x_iret hC hQ (z_N (Option.some.inj h)) (Nat.le_of_ble_eq_true rfl) (Nat.le_of_ble_eq_true rfl) dX5_decide_88
    · replace h := it_f c62 h
      refine x_iconst (v := (1 : Int32)) hC dX5_decide_83 (by decide) ?_
      refine x_goto (t := 88) hC dX5_decide_84 (by decide) ?_
      exact x_iret hC hQ (z_N (Option.some.inj h)) (Nat.le_of_ble_eq_true rfl) (Nat.le_of_ble_eq_true rfl) dX5_decide_88
  have J_63 : ∀ (v47 : Int32) (S48 : PH), j_X5_decide_63 r0 i1 v47 S48 = some y → PX Z 3 S48 0 0 63 [(0, va_rf r0), (1, .int i1)] [.int v47] := by
    intro v47 S48 h
    unfold j_X5_decide_63 at h
    refine x_istore_n (i := 2) (l' := [(2, .int v47), (0, va_rf r0), (1, .int i1)]) hC dX5_decide_63 rfl (⟨fun _ => c_rf r0, ⟨fun _ => rfl, trivial⟩⟩) (by decide) rfl ?_
    refine x_aload_n (i := 0) hC dX5_decide_64 rfl 1 rfl ?_
    refine x_iload_n (i := 1) hC dX5_decide_65 rfl 2 rfl ?_
    refine x_iconst (v := (4 : Int32)) hC dX5_decide_66 (by decide) ?_
    refine x_iload_n (i := 2) hC dX5_decide_67 rfl 0 rfl ?_
    refine x_if_eq (t := 75) hC dX5_decide_68 (by decide) (fun c49 => ?_) (fun c49 => ?_)
    · replace h := it_t c49 h
      refine x_iconst (v := (1 : Int32)) hC dX5_decide_75 (by decide) ?_
      refine x_sub (l' := [(0, va_rf r0), (1, .int i1), (2, .int v47)]) [1, 2, 0] rfl ?_
      exact J_76 _ _ _ _ _ _ h
    · replace h := it_f c49 h
      refine x_iconst (v := (2 : Int32)) hC dX5_decide_71 (by decide) ?_
      refine x_goto (t := 76) hC dX5_decide_72 (by decide) ?_
      refine x_sub (l' := [(0, va_rf r0), (1, .int i1), (2, .int v47)]) [1, 2, 0] rfl ?_
      exact J_76 _ _ _ _ _ _ h
  have J_26 : ∀ (v15 : Option Nat) (v16 : Int32) (S17 : PH), j_X5_decide_26 r0 i1 v15 v16 S17 = some y → PX Z 3 S17 0 0 26 [(0, va_rf r0), (1, .int i1)] [.int v16, va_rf v15] := by
    intro v15 v16 S17 h
    unfold j_X5_decide_26 at h
    replace h := dr_el h
    obtain ⟨a18, ea19, ha20, h⟩ := h
    replace h := bd_el h
    obtain ⟨v21, S22, hb23, h⟩ := h
    refine x_callV hC (st := []) (mt_X5_holds _ _ _ _ hb23) ea19 ha20 kf_5 q_915 q_917 qs_43 q_7 q_918 ⟨rfl, hy_X5_holds⟩ ⟨Nat.le_of_ble_eq_true rfl, Nat.le_of_ble_eq_true rfl⟩ ⟨Nat.le_of_ble_eq_true rfl, Nat.le_of_ble_eq_true rfl⟩ rfl (Nat.le_of_ble_eq_true rfl) dX5_decide_26 (r_N ?_) r_NX
    show PX Z 3 S22 0 0 29 [(0, va_rf r0), (1, .int i1)] [.int v21]
    refine x_if_ne (t := 34) hC dX5_decide_29 (by decide) (fun c24 => ?_) (fun c24 => ?_)
    · replace h := it_f c24 h
      refine x_aload_n (i := 0) hC dX5_decide_34 rfl 0 rfl ?_
      replace h := dr_el h
      obtain ⟨a25, ea26, ha27, h⟩ := h
      replace h := bd_el h
      obtain ⟨v28, S29, hb30, h⟩ := h
      refine x_callV hC (st := []) (mt_X5_save _ _ _ hb30) ea26 ha27 kf_5 q_919 q_921 qs_44 q_7 q_922 ⟨rfl, hy_X5_save⟩ ⟨Nat.le_of_ble_eq_true rfl, Nat.le_of_ble_eq_true rfl⟩ ⟨Nat.le_of_ble_eq_true rfl, Nat.le_of_ble_eq_true rfl⟩ rfl (Nat.le_of_ble_eq_true rfl) dX5_decide_35 (r_N ?_) r_NX
      show PX Z 3 S29 0 0 38 [(0, va_rf r0), (1, .int i1)] []
      refine x_aload_n (i := 0) hC dX5_decide_38 rfl 0 rfl ?_
      refine x_iload_n (i := 1) hC dX5_decide_39 rfl 1 rfl ?_
      replace h := dr_el h
      obtain ⟨a31, ea32, ha33, h⟩ := h
      replace h := bd_el h
      obtain ⟨v34, S35, hb36, h⟩ := h
      refine x_callV hC (st := []) (mt_X5_sumOf _ _ _ _ hb36) ea32 ha33 kf_5 q_1043 q_1045 qs_63 q_7 q_1046 ⟨rfl, hy_X5_sumOf⟩ ⟨Nat.le_of_ble_eq_true rfl, Nat.le_of_ble_eq_true rfl⟩ ⟨Nat.le_of_ble_eq_true rfl, Nat.le_of_ble_eq_true rfl⟩ rfl (Nat.le_of_ble_eq_true rfl) dX5_decide_40 (r_N ?_) r_NX
      show PX Z 3 S35 0 0 43 [(0, va_rf r0), (1, .int i1)] [.int v34]
      refine x_bipush (v := (6 : Int32)) hC dX5_decide_43 (by decide) ?_
      refine x_aload_n (i := 0) hC dX5_decide_45 rfl 0 rfl ?_
      refine x_iload_n (i := 1) hC dX5_decide_46 rfl 1 rfl ?_
      refine x_iconst (v := (1 : Int32)) hC dX5_decide_47 (by decide) ?_
      replace h := dr_el h
      obtain ⟨a37, ea38, ha39, h⟩ := h
      replace h := bd_el h
      obtain ⟨v40, S41, hb42, h⟩ := h
      refine x_callV hC (st := [.int (6 : Int32), .int v34]) (mt_X5_reviewers _ _ _ _ _ hb42) ea38 ha39 kf_5 q_989 q_991 qs_54 q_7 q_992 ⟨rfl, hy_X5_reviewers⟩ ⟨Nat.le_of_ble_eq_true rfl, Nat.le_of_ble_eq_true rfl⟩ ⟨Nat.le_of_ble_eq_true rfl, Nat.le_of_ble_eq_true rfl⟩ rfl (Nat.le_of_ble_eq_true rfl) dX5_decide_48 (r_N ?_) r_NX
      show PX Z 3 S41 0 0 51 [(0, va_rf r0), (1, .int i1)] [.int v40, .int (6 : Int32), .int v34]
      replace h := bd_el h
      obtain ⟨v43, S44, hb45, h⟩ := h
      refine x_callS hC (st := [.int (6 : Int32), .int v34]) (mt_X5_ones _ _ _ hb45) q_997 q_998 q_7 q_999 hy_X5_ones ⟨Nat.le_of_ble_eq_true rfl, Nat.le_of_ble_eq_true rfl⟩ ⟨Nat.le_of_ble_eq_true rfl, Nat.le_of_ble_eq_true rfl⟩ rfl (Nat.le_of_ble_eq_true rfl) dX5_decide_51 (r_N ?_) r_NX
      show PX Z 3 S44 0 0 54 [(0, va_rf r0), (1, .int i1)] [.int v43, .int (6 : Int32), .int v34]
      refine x_imul hC dX5_decide_54 ?_
      refine x_icmp_lt (t := 62) hC dX5_decide_55 (by decide) (fun c46 => ?_) (fun c46 => ?_)
      · replace h := it_t c46 h
        refine x_iconst (v := (0 : Int32)) hC dX5_decide_62 (by decide) ?_
        exact J_63 _ _ h
      · replace h := it_f c46 h
        refine x_iconst (v := (1 : Int32)) hC dX5_decide_58 (by decide) ?_
        refine x_goto (t := 63) hC dX5_decide_59 (by decide) ?_
        exact J_63 _ _ h
    · replace h := it_t c24 h
      refine x_iconst (v := (0 : Int32)) hC dX5_decide_32 (by decide) ?_
      exact x_iret hC hQ (z_N (Option.some.inj h)) (Nat.le_of_ble_eq_true rfl) (Nat.le_of_ble_eq_true rfl) dX5_decide_33
  unfold m_X5_decide at h
  refine x_aload_n (i := 0) hC dX5_decide_0 rfl 0 rfl ?_
  refine x_aload_n (i := 0) hC dX5_decide_1 rfl 0 rfl ?_
  refine x_iload_n (i := 1) hC dX5_decide_2 rfl 1 rfl ?_
  replace h := dr_el h
  obtain ⟨a1, ea2, ha3, h⟩ := h
  replace h := bd_el h
  obtain ⟨v4, S5, hb6, h⟩ := h
  refine x_callV hC (st := [va_rf r0]) (mt_X5_isPaper _ _ _ _ hb6) ea2 ha3 kf_5 q_969 q_971 qs_49 q_7 q_972 ⟨rfl, hy_X5_isPaper⟩ ⟨Nat.le_of_ble_eq_true rfl, Nat.le_of_ble_eq_true rfl⟩ ⟨Nat.le_of_ble_eq_true rfl, Nat.le_of_ble_eq_true rfl⟩ rfl (Nat.le_of_ble_eq_true rfl) dX5_decide_3 (r_N ?_) r_NX
  show PX Z 3 S5 0 0 6 [(0, va_rf r0), (1, .int i1)] [.int v4, va_rf r0]
  refine x_if_ne (t := 13) hC dX5_decide_6 (by decide) (fun c7 => ?_) (fun c7 => ?_)
  · replace h := it_f c7 h
    refine x_aload_n (i := 0) hC dX5_decide_13 rfl 0 rfl ?_
    refine x_iload_n (i := 1) hC dX5_decide_14 rfl 1 rfl ?_
    replace h := dr_el h
    obtain ⟨a8, ea9, ha10, h⟩ := h
    replace h := bd_el h
    obtain ⟨v11, S12, hb13, h⟩ := h
    refine x_callV hC (st := [va_rf r0]) (mt_X5_canDecide _ _ _ _ hb13) ea9 ha10 kf_5 q_1063 q_1065 qs_66 q_7 q_1066 ⟨rfl, hy_X5_canDecide⟩ ⟨Nat.le_of_ble_eq_true rfl, Nat.le_of_ble_eq_true rfl⟩ ⟨Nat.le_of_ble_eq_true rfl, Nat.le_of_ble_eq_true rfl⟩ rfl (Nat.le_of_ble_eq_true rfl) dX5_decide_15 (r_N ?_) r_NX
    show PX Z 3 S12 0 0 18 [(0, va_rf r0), (1, .int i1)] [.int v11, va_rf r0]
    refine x_if_ne (t := 25) hC dX5_decide_18 (by decide) (fun c14 => ?_) (fun c14 => ?_)
    · replace h := it_f c14 h
      refine x_iconst (v := (0 : Int32)) hC dX5_decide_25 (by decide) ?_
      exact J_26 _ _ _ h
    · replace h := it_t c14 h
      refine x_iconst (v := (2 : Int32)) hC dX5_decide_21 (by decide) ?_
      refine x_goto (t := 26) hC dX5_decide_22 (by decide) ?_
      exact J_26 _ _ _ h
  · replace h := it_t c7 h
    refine x_iconst (v := (1 : Int32)) hC dX5_decide_9 (by decide) ?_
    refine x_goto (t := 26) hC dX5_decide_10 (by decide) ?_
    exact J_26 _ _ _ h
theorem dX5_append_0 : decode cX5_append 0 = .ok (.aload_n 0, 1) := by decide +kernel
theorem dX5_append_1 : decode cX5_append 1 = .ok (.iload_n 1, 1) := by decide +kernel
theorem dX5_append_2 : decode cX5_append 2 = .ok (.bipush 33, 2) := by decide +kernel
theorem dX5_append_4 : decode cX5_append 4 = .ok (.bipush 126, 2) := by decide +kernel
theorem dX5_append_6 : decode cX5_append 6 = .ok (.invokestatic 27, 3) := by decide +kernel
theorem dX5_append_9 : decode cX5_append 9 = .ok (.ifCond .ne 7, 3) := by decide +kernel
theorem dX5_append_12 : decode cX5_append 12 = .ok (.iconst 1, 1) := by decide +kernel
theorem dX5_append_13 : decode cX5_append 13 = .ok (.goto 17, 3) := by decide +kernel
theorem dX5_append_16 : decode cX5_append 16 = .ok (.aload_n 0, 1) := by decide +kernel
theorem dX5_append_17 : decode cX5_append 17 = .ok (.getfield 126, 3) := by decide +kernel
theorem dX5_append_20 : decode cX5_append 20 = .ok (.bipush 60, 2) := by decide +kernel
theorem dX5_append_22 : decode cX5_append 22 = .ok (.if_icmp .ne 7, 3) := by decide +kernel
theorem dX5_append_25 : decode cX5_append 25 = .ok (.iconst 2, 1) := by decide +kernel
theorem dX5_append_26 : decode cX5_append 26 = .ok (.goto 4, 3) := by decide +kernel
theorem dX5_append_29 : decode cX5_append 29 = .ok (.iconst 0, 1) := by decide +kernel
theorem dX5_append_30 : decode cX5_append 30 = .ok (.invokevirtual 56, 3) := by decide +kernel
theorem dX5_append_33 : decode cX5_append 33 = .ok (.ifCond .ne 5, 3) := by decide +kernel
theorem dX5_append_36 : decode cX5_append 36 = .ok (.iconst 0, 1) := by decide +kernel
theorem dX5_append_37 : decode cX5_append 37 = .ok (.ireturn, 1) := by decide +kernel
theorem dX5_append_38 : decode cX5_append 38 = .ok (.aload_n 0, 1) := by decide +kernel
theorem dX5_append_39 : decode cX5_append 39 = .ok (.getfield 17, 3) := by decide +kernel
theorem dX5_append_42 : decode cX5_append 42 = .ok (.aload_n 0, 1) := by decide +kernel
theorem dX5_append_43 : decode cX5_append 43 = .ok (.getfield 126, 3) := by decide +kernel
theorem dX5_append_46 : decode cX5_append 46 = .ok (.iload_n 1, 1) := by decide +kernel
theorem dX5_append_47 : decode cX5_append 47 = .ok (.iastore, 1) := by decide +kernel
theorem dX5_append_48 : decode cX5_append 48 = .ok (.aload_n 0, 1) := by decide +kernel
theorem dX5_append_49 : decode cX5_append 49 = .ok (.dup, 1) := by decide +kernel
theorem dX5_append_50 : decode cX5_append 50 = .ok (.getfield 126, 3) := by decide +kernel
theorem dX5_append_53 : decode cX5_append 53 = .ok (.iconst 1, 1) := by decide +kernel
theorem dX5_append_54 : decode cX5_append 54 = .ok (.iadd, 1) := by decide +kernel
theorem dX5_append_55 : decode cX5_append 55 = .ok (.putfield 126, 3) := by decide +kernel
theorem dX5_append_58 : decode cX5_append 58 = .ok (.aload_n 0, 1) := by decide +kernel
theorem dX5_append_59 : decode cX5_append 59 = .ok (.getfield 126, 3) := by decide +kernel
theorem dX5_append_62 : decode cX5_append 62 = .ok (.ireturn, 1) := by decide +kernel
set_option maxRecDepth 100000 in
set_option maxHeartbeats 4000000 in
theorem mt_X5_append (r0 : Option Nat) (i1 : Int32) (S0 : PH) (y : Int32 × PH) (h : m_X5_append r0 i1 S0 = some y) : MT yX5_append (.code yX5_append cX5_append 2 (Option.some FieldType.int)) 1 22 0 0 [va_rf r0, .int i1] S0 (oQ e_I (qN y)) := by
  refine mt_of (own := RX5) (l0 := [(0, va_rf r0), (1, .int i1)]) rfl rfl (by cases r0 <;> exact Nat.le_of_ble_eq_true rfl) (by cases r0 <;> rfl) ?_
  intro Z hC hQ hE hN
  have J_30 : ∀ (v9 : Option Nat) (v10 : Int32) (S11 : PH), j_X5_append_30 r0 i1 v9 v10 S11 = some y → PX Z 2 S11 0 0 30 [(0, va_rf r0), (1, .int i1)] [.int v10, va_rf v9] := by
    intro v9 v10 S11 h
    unfold j_X5_append_30 at h
    replace h := dr_el h
    obtain ⟨a12, ea13, ha14, h⟩ := h
    replace h := bd_el h
    obtain ⟨v15, S16, hb17, h⟩ := h
    refine x_callV hC (st := []) (mt_X5_holds _ _ _ _ hb17) ea13 ha14 kf_5 q_915 q_917 qs_43 q_7 q_918 ⟨rfl, hy_X5_holds⟩ ⟨Nat.le_of_ble_eq_true rfl, Nat.le_of_ble_eq_true rfl⟩ ⟨Nat.le_of_ble_eq_true rfl, Nat.le_of_ble_eq_true rfl⟩ rfl (Nat.le_of_ble_eq_true rfl) dX5_append_30 (r_N ?_) r_NX
    show PX Z 2 S16 0 0 33 [(0, va_rf r0), (1, .int i1)] [.int v15]
    refine x_if_ne (t := 38) hC dX5_append_33 (by decide) (fun c18 => ?_) (fun c18 => ?_)
    · replace h := it_f c18 h
      refine x_aload_n (i := 0) hC dX5_append_38 rfl 0 rfl ?_
      replace h := dr_el h
      obtain ⟨a19, ea20, ha21, h⟩ := h
      refine x_getR hC ea20 ha21 kf_5 4 (by decide) rfl q_867 dX5_append_39 ?_
      refine x_aload_n (i := 0) hC dX5_append_42 rfl 0 rfl ?_
      refine x_getI hC ea20 ha21 kf_5 5 (by decide) rfl q_868 dX5_append_43 ?_
      refine x_iload_n (i := 1) hC dX5_append_46 rfl 1 rfl ?_
      replace h := dr_el h
      obtain ⟨a22, ea23, ha24, h⟩ := h
      replace h := ck_el h
      obtain ⟨hc25, h⟩ := h
      replace h := le_el h
      obtain ⟨S26, hx27, h⟩ := h
      refine x_iastore hC ea23 ha24 hc25 dX5_append_47 ?_
      refine x_tS hx27 ?_
      refine x_aload_n (i := 0) hC dX5_append_48 rfl 0 rfl ?_
      refine x_dup hC dX5_append_49 (c_rf r0) ?_
      replace h := dr_el h
      obtain ⟨a28, ea29, ha30, h⟩ := h
      refine x_getI hC ea29 ha30 kf_5 5 (by decide) rfl q_868 dX5_append_50 ?_
      refine x_iconst (v := (1 : Int32)) hC dX5_append_53 (by decide) ?_
      refine x_iadd hC dX5_append_54 ?_
      replace h := le_el h
      obtain ⟨S31, hx32, h⟩ := h
      refine x_putI hC ea29 ha30 kf_5 5 (by decide) rfl rfl q_868 (Or.inl rfl) dX5_append_55 ?_
      refine x_tS hx32 ?_
      refine x_aload_n (i := 0) hC dX5_append_58 rfl 0 rfl ?_
      replace h := dr_el h
      obtain ⟨a33, ea34, ha35, h⟩ := h
      refine x_getI hC ea34 ha35 kf_5 5 (by decide) rfl q_868 dX5_append_59 ?_
      exact x_iret hC hQ (z_N (Option.some.inj h)) (Nat.le_of_ble_eq_true rfl) (Nat.le_of_ble_eq_true rfl) dX5_append_62
    · replace h := it_t c18 h
      refine x_iconst (v := (0 : Int32)) hC dX5_append_36 (by decide) ?_
      exact x_iret hC hQ (z_N (Option.some.inj h)) (Nat.le_of_ble_eq_true rfl) (Nat.le_of_ble_eq_true rfl) dX5_append_37
  unfold m_X5_append at h
  refine x_aload_n (i := 0) hC dX5_append_0 rfl 0 rfl ?_
  refine x_iload_n (i := 1) hC dX5_append_1 rfl 1 rfl ?_
  refine x_bipush (v := (33 : Int32)) hC dX5_append_2 (by decide) ?_
  refine x_bipush (v := (126 : Int32)) hC dX5_append_4 (by decide) ?_
  replace h := bd_el h
  obtain ⟨v1, S2, hb3, h⟩ := h
  refine x_callS hC (st := [va_rf r0]) (mt_X5_in _ _ _ _ _ hb3) q_912 q_913 q_7 q_914 hy_X5_in ⟨Nat.le_of_ble_eq_true rfl, Nat.le_of_ble_eq_true rfl⟩ ⟨Nat.le_of_ble_eq_true rfl, Nat.le_of_ble_eq_true rfl⟩ rfl (Nat.le_of_ble_eq_true rfl) dX5_append_6 (r_N ?_) r_NX
  show PX Z 2 S2 0 0 9 [(0, va_rf r0), (1, .int i1)] [.int v1, va_rf r0]
  refine x_if_ne (t := 16) hC dX5_append_9 (by decide) (fun c4 => ?_) (fun c4 => ?_)
  · replace h := it_f c4 h
    refine x_aload_n (i := 0) hC dX5_append_16 rfl 0 rfl ?_
    replace h := dr_el h
    obtain ⟨a5, ea6, ha7, h⟩ := h
    refine x_getI hC ea6 ha7 kf_5 5 (by decide) rfl q_868 dX5_append_17 ?_
    refine x_bipush (v := (60 : Int32)) hC dX5_append_20 (by decide) ?_
    refine x_icmp_ne (t := 29) hC dX5_append_22 (by decide) (fun c8 => ?_) (fun c8 => ?_)
    · replace h := it_f c8 h
      refine x_iconst (v := (0 : Int32)) hC dX5_append_29 (by decide) ?_
      exact J_30 _ _ _ h
    · replace h := it_t c8 h
      refine x_iconst (v := (2 : Int32)) hC dX5_append_25 (by decide) ?_
      refine x_goto (t := 30) hC dX5_append_26 (by decide) ?_
      exact J_30 _ _ _ h
  · replace h := it_t c4 h
    refine x_iconst (v := (1 : Int32)) hC dX5_append_12 (by decide) ?_
    refine x_goto (t := 30) hC dX5_append_13 (by decide) ?_
    exact J_30 _ _ _ h
theorem dX5_clearBuffer_0 : decode cX5_clearBuffer 0 = .ok (.aload_n 0, 1) := by decide +kernel
theorem dX5_clearBuffer_1 : decode cX5_clearBuffer 1 = .ok (.iconst 0, 1) := by decide +kernel
theorem dX5_clearBuffer_2 : decode cX5_clearBuffer 2 = .ok (.putfield 23, 3) := by decide +kernel
theorem dX5_clearBuffer_5 : decode cX5_clearBuffer 5 = .ok (.aload_n 0, 1) := by decide +kernel
theorem dX5_clearBuffer_6 : decode cX5_clearBuffer 6 = .ok (.getfield 126, 3) := by decide +kernel
theorem dX5_clearBuffer_9 : decode cX5_clearBuffer 9 = .ok (.istore_n 1, 1) := by decide +kernel
theorem dX5_clearBuffer_10 : decode cX5_clearBuffer 10 = .ok (.aload_n 0, 1) := by decide +kernel
theorem dX5_clearBuffer_11 : decode cX5_clearBuffer 11 = .ok (.iconst 0, 1) := by decide +kernel
theorem dX5_clearBuffer_12 : decode cX5_clearBuffer 12 = .ok (.putfield 126, 3) := by decide +kernel
theorem dX5_clearBuffer_15 : decode cX5_clearBuffer 15 = .ok (.iload_n 1, 1) := by decide +kernel
theorem dX5_clearBuffer_16 : decode cX5_clearBuffer 16 = .ok (.ireturn, 1) := by decide +kernel
set_option maxRecDepth 100000 in
set_option maxHeartbeats 4000000 in
theorem mt_X5_clearBuffer (r0 : Option Nat) (S0 : PH) (y : Int32 × PH) (h : m_X5_clearBuffer r0 S0 = some y) : MT yX5_clearBuffer (.code yX5_clearBuffer cX5_clearBuffer 2 (Option.some FieldType.int)) 0 0 0 0 [va_rf r0] S0 (oQ e_I (qN y)) := by
  refine mt_of (own := RX5) (l0 := [(0, va_rf r0)]) rfl rfl (by cases r0 <;> exact Nat.le_of_ble_eq_true rfl) (by cases r0 <;> rfl) ?_
  intro Z hC hQ hE hN
  unfold m_X5_clearBuffer at h
  refine x_aload_n (i := 0) hC dX5_clearBuffer_0 rfl 0 rfl ?_
  refine x_iconst (v := (0 : Int32)) hC dX5_clearBuffer_1 (by decide) ?_
  replace h := dr_el h
  obtain ⟨a1, ea2, ha3, h⟩ := h
  replace h := le_el h
  obtain ⟨S4, hx5, h⟩ := h
  refine x_putI hC ea2 ha3 kf_5 0 (by decide) rfl rfl q_863 (Or.inl rfl) dX5_clearBuffer_2 ?_
  refine x_tS hx5 ?_
  refine x_aload_n (i := 0) hC dX5_clearBuffer_5 rfl 0 rfl ?_
  replace h := dr_el h
  obtain ⟨a6, ea7, ha8, h⟩ := h
  refine x_getI hC ea7 ha8 kf_5 5 (by decide) rfl q_868 dX5_clearBuffer_6 ?_
  replace h := le_el h
  obtain ⟨x9, hx10, h⟩ := h
  refine x_tI hx10 ?_
  refine x_istore_n (i := 1) (l' := [(1, .int x9), (0, va_rf r0)]) hC dX5_clearBuffer_9 rfl (⟨fun _ => c_rf r0, trivial⟩) (by decide) rfl ?_
  refine x_aload_n (i := 0) hC dX5_clearBuffer_10 rfl 1 rfl ?_
  refine x_iconst (v := (0 : Int32)) hC dX5_clearBuffer_11 (by decide) ?_
  replace h := le_el h
  obtain ⟨S11, hx12, h⟩ := h
  refine x_putI hC ea7 ha8 kf_5 5 (by decide) rfl rfl q_868 (Or.inl rfl) dX5_clearBuffer_12 ?_
  refine x_tS hx12 ?_
  refine x_iload_n (i := 1) hC dX5_clearBuffer_15 rfl 0 rfl ?_
  exact x_iret hC hQ (z_N (Option.some.inj h)) (Nat.le_of_ble_eq_true rfl) (Nat.le_of_ble_eq_true rfl) dX5_clearBuffer_16
theorem dX5_isHere_0 : decode cX5_isHere 0 = .ok (.aload_n 0, 1) := by decide +kernel
theorem dX5_isHere_1 : decode cX5_isHere 1 = .ok (.getfield 129, 3) := by decide +kernel
theorem dX5_isHere_4 : decode cX5_isHere 4 = .ok (.aload_n 0, 1) := by decide +kernel
theorem dX5_isHere_5 : decode cX5_isHere 5 = .ok (.getfield 126, 3) := by decide +kernel
theorem dX5_isHere_8 : decode cX5_isHere 8 = .ok (.if_icmp .ge 24, 3) := by decide +kernel
theorem dX5_isHere_11 : decode cX5_isHere 11 = .ok (.aload_n 0, 1) := by decide +kernel
theorem dX5_isHere_12 : decode cX5_isHere 12 = .ok (.getfield 17, 3) := by decide +kernel
theorem dX5_isHere_15 : decode cX5_isHere 15 = .ok (.aload_n 0, 1) := by decide +kernel
theorem dX5_isHere_16 : decode cX5_isHere 16 = .ok (.getfield 129, 3) := by decide +kernel
theorem dX5_isHere_19 : decode cX5_isHere 19 = .ok (.iaload, 1) := by decide +kernel
theorem dX5_isHere_20 : decode cX5_isHere 20 = .ok (.iload_n 1, 1) := by decide +kernel
theorem dX5_isHere_21 : decode cX5_isHere 21 = .ok (.iload_n 2, 1) := by decide +kernel
theorem dX5_isHere_22 : decode cX5_isHere 22 = .ok (.invokestatic 27, 3) := by decide +kernel
theorem dX5_isHere_25 : decode cX5_isHere 25 = .ok (.ifCond .eq 7, 3) := by decide +kernel
theorem dX5_isHere_28 : decode cX5_isHere 28 = .ok (.iconst 1, 1) := by decide +kernel
theorem dX5_isHere_29 : decode cX5_isHere 29 = .ok (.goto 4, 3) := by decide +kernel
theorem dX5_isHere_32 : decode cX5_isHere 32 = .ok (.iconst 0, 1) := by decide +kernel
theorem dX5_isHere_33 : decode cX5_isHere 33 = .ok (.ireturn, 1) := by decide +kernel
set_option maxRecDepth 100000 in
set_option maxHeartbeats 4000000 in
theorem mt_X5_isHere (r0 : Option Nat) (i1 : Int32) (i2 : Int32) (S0 : PH) (y : Int32 × PH) (h : m_X5_isHere r0 i1 i2 S0 = some y) : MT yX5_isHere (.code yX5_isHere cX5_isHere 3 (Option.some FieldType.boolean)) 1 22 0 0 [va_rf r0, .int i1, .int i2] S0 (oQ e_I (qN y)) := by
  refine mt_of (own := RX5) (l0 := [(0, va_rf r0), (1, .int i1), (2, .int i2)]) rfl rfl (by cases r0 <;> exact Nat.le_of_ble_eq_true rfl) (by cases r0 <;> rfl) ?_
  intro Z hC hQ hE hN
  unfold m_X5_isHere at h
  refine x_aload_n (i := 0) hC dX5_isHere_0 rfl 0 rfl ?_
  replace h := dr_el h
  obtain ⟨a1, ea2, ha3, h⟩ := h
  refine x_getI hC ea2 ha3 kf_5 6 (by decide) rfl q_869 dX5_isHere_1 ?_
  refine x_aload_n (i := 0) hC dX5_isHere_4 rfl 0 rfl ?_
  refine x_getI hC ea2 ha3 kf_5 5 (by decide) rfl q_868 dX5_isHere_5 ?_
  refine x_icmp_ge (t := 32) hC dX5_isHere_8 (by decide) (fun c4 => ?_) (fun c4 => ?_)
  · replace h := it_t c4 h
    refine x_iconst (v := (0 : Int32)) hC dX5_isHere_32 (by decide) ?_
    exact x_zret hC hQ (by decide) (z_N (Option.some.inj h)) (Nat.le_of_ble_eq_true rfl) (Nat.le_of_ble_eq_true rfl) dX5_isHere_33
  · replace h := it_f c4 h
    refine x_aload_n (i := 0) hC dX5_isHere_11 rfl 0 rfl ?_
    refine x_getR hC ea2 ha3 kf_5 4 (by decide) rfl q_867 dX5_isHere_12 ?_
    refine x_aload_n (i := 0) hC dX5_isHere_15 rfl 0 rfl ?_
    refine x_getI hC ea2 ha3 kf_5 6 (by decide) rfl q_869 dX5_isHere_16 ?_
    replace h := dr_el h
    obtain ⟨a5, ea6, ha7, h⟩ := h
    replace h := ck_el h
    obtain ⟨hc8, h⟩ := h
    refine x_iaload hC ea6 ha7 hc8 dX5_isHere_19 ?_
    refine x_iload_n (i := 1) hC dX5_isHere_20 rfl 1 rfl ?_
    refine x_iload_n (i := 2) hC dX5_isHere_21 rfl 2 rfl ?_
    replace h := bd_el h
    obtain ⟨v9, S10, hb11, h⟩ := h
    refine x_callS hC (st := []) (mt_X5_in _ _ _ _ _ hb11) q_912 q_913 q_7 q_914 hy_X5_in ⟨Nat.le_of_ble_eq_true rfl, Nat.le_of_ble_eq_true rfl⟩ ⟨Nat.le_of_ble_eq_true rfl, Nat.le_of_ble_eq_true rfl⟩ rfl (Nat.le_of_ble_eq_true rfl) dX5_isHere_22 (r_N ?_) r_NX
    show PX Z 3 S10 0 0 25 [(0, va_rf r0), (1, .int i1), (2, .int i2)] [.int v9]
    refine x_if_eq (t := 32) hC dX5_isHere_25 (by decide) (fun c12 => ?_) (fun c12 => ?_)
    · replace h := it_t c12 h
      refine x_iconst (v := (0 : Int32)) hC dX5_isHere_32 (by decide) ?_
      exact x_zret hC hQ (by decide) (z_N (Option.some.inj h)) (Nat.le_of_ble_eq_true rfl) (Nat.le_of_ble_eq_true rfl) dX5_isHere_33
    · replace h := it_f c12 h
      refine x_iconst (v := (1 : Int32)) hC dX5_isHere_28 (by decide) ?_
      refine x_goto (t := 33) hC dX5_isHere_29 (by decide) ?_
      exact x_zret hC hQ (by decide) (z_N (Option.some.inj h)) (Nat.le_of_ble_eq_true rfl) (Nat.le_of_ble_eq_true rfl) dX5_isHere_33
theorem dX5_takesSign_0 : decode cX5_takesSign 0 = .ok (.aload_n 0, 1) := by decide +kernel
theorem dX5_takesSign_1 : decode cX5_takesSign 1 = .ok (.iload_n 1, 1) := by decide +kernel
theorem dX5_takesSign_2 : decode cX5_takesSign 2 = .ok (.iload_n 1, 1) := by decide +kernel
theorem dX5_takesSign_3 : decode cX5_takesSign 3 = .ok (.invokevirtual 132, 3) := by decide +kernel
theorem dX5_takesSign_6 : decode cX5_takesSign 6 = .ok (.istore_n 2, 1) := by decide +kernel
theorem dX5_takesSign_7 : decode cX5_takesSign 7 = .ok (.aload_n 0, 1) := by decide +kernel
theorem dX5_takesSign_8 : decode cX5_takesSign 8 = .ok (.dup, 1) := by decide +kernel
theorem dX5_takesSign_9 : decode cX5_takesSign 9 = .ok (.getfield 129, 3) := by decide +kernel
theorem dX5_takesSign_12 : decode cX5_takesSign 12 = .ok (.iload_n 2, 1) := by decide +kernel
theorem dX5_takesSign_13 : decode cX5_takesSign 13 = .ok (.ifCond .eq 7, 3) := by decide +kernel
theorem dX5_takesSign_16 : decode cX5_takesSign 16 = .ok (.iconst 1, 1) := by decide +kernel
theorem dX5_takesSign_17 : decode cX5_takesSign 17 = .ok (.goto 4, 3) := by decide +kernel
theorem dX5_takesSign_20 : decode cX5_takesSign 20 = .ok (.iconst 0, 1) := by decide +kernel
theorem dX5_takesSign_21 : decode cX5_takesSign 21 = .ok (.iadd, 1) := by decide +kernel
theorem dX5_takesSign_22 : decode cX5_takesSign 22 = .ok (.putfield 129, 3) := by decide +kernel
theorem dX5_takesSign_25 : decode cX5_takesSign 25 = .ok (.iload_n 2, 1) := by decide +kernel
theorem dX5_takesSign_26 : decode cX5_takesSign 26 = .ok (.ireturn, 1) := by decide +kernel
set_option maxRecDepth 100000 in
set_option maxHeartbeats 4000000 in
theorem mt_X5_takesSign (r0 : Option Nat) (i1 : Int32) (S0 : PH) (y : Int32 × PH) (h : m_X5_takesSign r0 i1 S0 = some y) : MT yX5_takesSign (.code yX5_takesSign cX5_takesSign 3 (Option.some FieldType.boolean)) 2 44 0 0 [va_rf r0, .int i1] S0 (oQ e_I (qN y)) := by
  refine mt_of (own := RX5) (l0 := [(0, va_rf r0), (1, .int i1)]) rfl rfl (by cases r0 <;> exact Nat.le_of_ble_eq_true rfl) (by cases r0 <;> rfl) ?_
  intro Z hC hQ hE hN
  have J_21 : ∀ (v11 : Int32) (v12 : Option Nat) (v13 : Int32) (v14 : Int32) (S15 : PH), j_X5_takesSign_21 r0 i1 v11 v12 v13 v14 S15 = some y → PX Z 3 S15 0 0 21 [(0, va_rf r0), (1, .int i1), (2, .int v11)] [.int v14, .int v13, va_rf v12] := by
    intro v11 v12 v13 v14 S15 h
    unfold j_X5_takesSign_21 at h
    refine x_iadd hC dX5_takesSign_21 ?_
    replace h := dr_el h
    obtain ⟨a16, ea17, ha18, h⟩ := h
    replace h := le_el h
    obtain ⟨S19, hx20, h⟩ := h
    refine x_putI hC ea17 ha18 kf_5 6 (by decide) rfl rfl q_869 (Or.inl rfl) dX5_takesSign_22 ?_
    refine x_tS hx20 ?_
    refine x_iload_n (i := 2) hC dX5_takesSign_25 rfl 2 rfl ?_
    replace h := ck_el h
    obtain ⟨hc21, h⟩ := h
    exact x_zret hC hQ (of_decide_eq_true hc21) (z_N (Option.some.inj h)) (Nat.le_of_ble_eq_true rfl) (Nat.le_of_ble_eq_true rfl) dX5_takesSign_26
  unfold m_X5_takesSign at h
  refine x_aload_n (i := 0) hC dX5_takesSign_0 rfl 0 rfl ?_
  refine x_iload_n (i := 1) hC dX5_takesSign_1 rfl 1 rfl ?_
  refine x_iload_n (i := 1) hC dX5_takesSign_2 rfl 1 rfl ?_
  replace h := dr_el h
  obtain ⟨a1, ea2, ha3, h⟩ := h
  replace h := bd_el h
  obtain ⟨v4, S5, hb6, h⟩ := h
  refine x_callV hC (st := []) (mt_X5_isHere _ _ _ _ _ hb6) ea2 ha3 kf_5 q_1091 q_1093 qs_70 q_7 q_1094 ⟨rfl, hy_X5_isHere⟩ ⟨Nat.le_of_ble_eq_true rfl, Nat.le_of_ble_eq_true rfl⟩ ⟨Nat.le_of_ble_eq_true rfl, Nat.le_of_ble_eq_true rfl⟩ rfl (Nat.le_of_ble_eq_true rfl) dX5_takesSign_3 (r_N ?_) r_NX
  show PX Z 3 S5 0 0 6 [(0, va_rf r0), (1, .int i1)] [.int v4]
  refine x_istore_n (i := 2) (l' := [(2, .int v4), (0, va_rf r0), (1, .int i1)]) hC dX5_takesSign_6 rfl (⟨fun _ => c_rf r0, ⟨fun _ => rfl, trivial⟩⟩) (by decide) rfl ?_
  refine x_aload_n (i := 0) hC dX5_takesSign_7 rfl 1 rfl ?_
  refine x_dup hC dX5_takesSign_8 (c_rf r0) ?_
  replace h := dr_el h
  obtain ⟨a7, ea8, ha9, h⟩ := h
  refine x_getI hC ea8 ha9 kf_5 6 (by decide) rfl q_869 dX5_takesSign_9 ?_
  refine x_iload_n (i := 2) hC dX5_takesSign_12 rfl 0 rfl ?_
  refine x_if_eq (t := 20) hC dX5_takesSign_13 (by decide) (fun c10 => ?_) (fun c10 => ?_)
  · replace h := it_t c10 h
    refine x_iconst (v := (0 : Int32)) hC dX5_takesSign_20 (by decide) ?_
    refine x_sub (l' := [(0, va_rf r0), (1, .int i1), (2, .int v4)]) [1, 2, 0] rfl ?_
    exact J_21 _ _ _ _ _ h
  · replace h := it_f c10 h
    refine x_iconst (v := (1 : Int32)) hC dX5_takesSign_16 (by decide) ?_
    refine x_goto (t := 21) hC dX5_takesSign_17 (by decide) ?_
    refine x_sub (l' := [(0, va_rf r0), (1, .int i1), (2, .int v4)]) [1, 2, 0] rfl ?_
    exact J_21 _ _ _ _ _ h
theorem dX5_digit_0 : decode cX5_digit 0 = .ok (.aload_n 0, 1) := by decide +kernel
theorem dX5_digit_1 : decode cX5_digit 1 = .ok (.bipush 48, 2) := by decide +kernel
theorem dX5_digit_3 : decode cX5_digit 3 = .ok (.bipush 48, 2) := by decide +kernel
theorem dX5_digit_5 : decode cX5_digit 5 = .ok (.iload_n 1, 1) := by decide +kernel
theorem dX5_digit_6 : decode cX5_digit 6 = .ok (.iadd, 1) := by decide +kernel
theorem dX5_digit_7 : decode cX5_digit 7 = .ok (.invokevirtual 132, 3) := by decide +kernel
theorem dX5_digit_10 : decode cX5_digit 10 = .ok (.istore_n 2, 1) := by decide +kernel
theorem dX5_digit_11 : decode cX5_digit 11 = .ok (.aload_n 0, 1) := by decide +kernel
theorem dX5_digit_12 : decode cX5_digit 12 = .ok (.dup, 1) := by decide +kernel
theorem dX5_digit_13 : decode cX5_digit 13 = .ok (.getfield 129, 3) := by decide +kernel
theorem dX5_digit_16 : decode cX5_digit 16 = .ok (.iload_n 2, 1) := by decide +kernel
theorem dX5_digit_17 : decode cX5_digit 17 = .ok (.ifCond .eq 7, 3) := by decide +kernel
theorem dX5_digit_20 : decode cX5_digit 20 = .ok (.iconst 1, 1) := by decide +kernel
theorem dX5_digit_21 : decode cX5_digit 21 = .ok (.goto 4, 3) := by decide +kernel
theorem dX5_digit_24 : decode cX5_digit 24 = .ok (.iconst 0, 1) := by decide +kernel
theorem dX5_digit_25 : decode cX5_digit 25 = .ok (.iadd, 1) := by decide +kernel
theorem dX5_digit_26 : decode cX5_digit 26 = .ok (.putfield 129, 3) := by decide +kernel
theorem dX5_digit_29 : decode cX5_digit 29 = .ok (.iload_n 2, 1) := by decide +kernel
theorem dX5_digit_30 : decode cX5_digit 30 = .ok (.ifCond .eq 20, 3) := by decide +kernel
theorem dX5_digit_33 : decode cX5_digit 33 = .ok (.aload_n 0, 1) := by decide +kernel
theorem dX5_digit_34 : decode cX5_digit 34 = .ok (.getfield 17, 3) := by decide +kernel
theorem dX5_digit_37 : decode cX5_digit 37 = .ok (.aload_n 0, 1) := by decide +kernel
theorem dX5_digit_38 : decode cX5_digit 38 = .ok (.getfield 129, 3) := by decide +kernel
theorem dX5_digit_41 : decode cX5_digit 41 = .ok (.iconst 1, 1) := by decide +kernel
theorem dX5_digit_42 : decode cX5_digit 42 = .ok (.isub, 1) := by decide +kernel
theorem dX5_digit_43 : decode cX5_digit 43 = .ok (.iaload, 1) := by decide +kernel
theorem dX5_digit_44 : decode cX5_digit 44 = .ok (.bipush 48, 2) := by decide +kernel
theorem dX5_digit_46 : decode cX5_digit 46 = .ok (.isub, 1) := by decide +kernel
theorem dX5_digit_47 : decode cX5_digit 47 = .ok (.goto 4, 3) := by decide +kernel
theorem dX5_digit_50 : decode cX5_digit 50 = .ok (.iconst (-1), 1) := by decide +kernel
theorem dX5_digit_51 : decode cX5_digit 51 = .ok (.ireturn, 1) := by decide +kernel
set_option maxRecDepth 100000 in
set_option maxHeartbeats 4000000 in
theorem mt_X5_digit (r0 : Option Nat) (i1 : Int32) (S0 : PH) (y : Int32 × PH) (h : m_X5_digit r0 i1 S0 = some y) : MT yX5_digit (.code yX5_digit cX5_digit 3 (Option.some FieldType.int)) 2 44 0 0 [va_rf r0, .int i1] S0 (oQ e_I (qN y)) := by
  refine mt_of (own := RX5) (l0 := [(0, va_rf r0), (1, .int i1)]) rfl rfl (by cases r0 <;> exact Nat.le_of_ble_eq_true rfl) (by cases r0 <;> rfl) ?_
  intro Z hC hQ hE hN
  have J_25 : ∀ (v11 : Int32) (v12 : Option Nat) (v13 : Int32) (v14 : Int32) (S15 : PH), j_X5_digit_25 r0 i1 v11 v12 v13 v14 S15 = some y → PX Z 3 S15 0 0 25 [(0, va_rf r0), (1, .int i1), (2, .int v11)] [.int v14, .int v13, va_rf v12] := by
    intro v11 v12 v13 v14 S15 h
    unfold j_X5_digit_25 at h
    refine x_iadd hC dX5_digit_25 ?_
    replace h := dr_el h
    obtain ⟨a16, ea17, ha18, h⟩ := h
    replace h := le_el h
    obtain ⟨S19, hx20, h⟩ := h
    refine x_putI hC ea17 ha18 kf_5 6 (by decide) rfl rfl q_869 (Or.inl rfl) dX5_digit_26 ?_
    refine x_tS hx20 ?_
    refine x_iload_n (i := 2) hC dX5_digit_29 rfl 2 rfl ?_
    refine x_if_eq (t := 50) hC dX5_digit_30 (by decide) (fun c21 => ?_) (fun c21 => ?_)
    · replace h := it_t c21 h
      refine x_iconst (v := (-1 : Int32)) hC dX5_digit_50 (by decide) ?_
      exact x_iret hC hQ (z_N (Option.some.inj h)) (Nat.le_of_ble_eq_true rfl) (Nat.le_of_ble_eq_true rfl) dX5_digit_51
    · replace h := it_f c21 h
      refine x_aload_n (i := 0) hC dX5_digit_33 rfl 0 rfl ?_
      replace h := dr_el h
      obtain ⟨a22, ea23, ha24, h⟩ := h
      refine x_getR hC ea23 ha24 kf_5 4 (by decide) rfl q_867 dX5_digit_34 ?_
      refine x_aload_n (i := 0) hC dX5_digit_37 rfl 0 rfl ?_
      refine x_getI hC ea23 ha24 kf_5 6 (by decide) rfl q_869 dX5_digit_38 ?_
      refine x_iconst (v := (1 : Int32)) hC dX5_digit_41 (by decide) ?_
      refine x_isub hC dX5_digit_42 ?_
      replace h := dr_el h
      obtain ⟨a25, ea26, ha27, h⟩ := h
      replace h := ck_el h
      obtain ⟨hc28, h⟩ := h
      refine x_iaload hC ea26 ha27 hc28 dX5_digit_43 ?_
      refine x_bipush (v := (48 : Int32)) hC dX5_digit_44 (by decide) ?_
      refine x_isub hC dX5_digit_46 ?_
      refine x_goto (t := 51) hC dX5_digit_47 (by decide) ?_
      exact x_iret hC hQ (z_N (Option.some.inj h)) (Nat.le_of_ble_eq_true rfl) (Nat.le_of_ble_eq_true rfl) dX5_digit_51
  unfold m_X5_digit at h
  refine x_aload_n (i := 0) hC dX5_digit_0 rfl 0 rfl ?_
  refine x_bipush (v := (48 : Int32)) hC dX5_digit_1 (by decide) ?_
  refine x_bipush (v := (48 : Int32)) hC dX5_digit_3 (by decide) ?_
  refine x_iload_n (i := 1) hC dX5_digit_5 rfl 1 rfl ?_
  refine x_iadd hC dX5_digit_6 ?_
  replace h := dr_el h
  obtain ⟨a1, ea2, ha3, h⟩ := h
  replace h := bd_el h
  obtain ⟨v4, S5, hb6, h⟩ := h
  refine x_callV hC (st := []) (mt_X5_isHere _ _ _ _ _ hb6) ea2 ha3 kf_5 q_1091 q_1093 qs_70 q_7 q_1094 ⟨rfl, hy_X5_isHere⟩ ⟨Nat.le_of_ble_eq_true rfl, Nat.le_of_ble_eq_true rfl⟩ ⟨Nat.le_of_ble_eq_true rfl, Nat.le_of_ble_eq_true rfl⟩ rfl (Nat.le_of_ble_eq_true rfl) dX5_digit_7 (r_N ?_) r_NX
  show PX Z 3 S5 0 0 10 [(0, va_rf r0), (1, .int i1)] [.int v4]
  refine x_istore_n (i := 2) (l' := [(2, .int v4), (0, va_rf r0), (1, .int i1)]) hC dX5_digit_10 rfl (⟨fun _ => c_rf r0, ⟨fun _ => rfl, trivial⟩⟩) (by decide) rfl ?_
  refine x_aload_n (i := 0) hC dX5_digit_11 rfl 1 rfl ?_
  refine x_dup hC dX5_digit_12 (c_rf r0) ?_
  replace h := dr_el h
  obtain ⟨a7, ea8, ha9, h⟩ := h
  refine x_getI hC ea8 ha9 kf_5 6 (by decide) rfl q_869 dX5_digit_13 ?_
  refine x_iload_n (i := 2) hC dX5_digit_16 rfl 0 rfl ?_
  refine x_if_eq (t := 24) hC dX5_digit_17 (by decide) (fun c10 => ?_) (fun c10 => ?_)
  · replace h := it_t c10 h
    refine x_iconst (v := (0 : Int32)) hC dX5_digit_24 (by decide) ?_
    refine x_sub (l' := [(0, va_rf r0), (1, .int i1), (2, .int v4)]) [1, 2, 0] rfl ?_
    exact J_25 _ _ _ _ _ h
  · replace h := it_f c10 h
    refine x_iconst (v := (1 : Int32)) hC dX5_digit_20 (by decide) ?_
    refine x_goto (t := 25) hC dX5_digit_21 (by decide) ?_
    refine x_sub (l' := [(0, va_rf r0), (1, .int i1), (2, .int v4)]) [1, 2, 0] rfl ?_
    exact J_25 _ _ _ _ _ h
theorem dX5_readsPair_0 : decode cX5_readsPair 0 = .ok (.aload_n 0, 1) := by decide +kernel
theorem dX5_readsPair_1 : decode cX5_readsPair 1 = .ok (.aload_n 0, 1) := by decide +kernel
theorem dX5_readsPair_2 : decode cX5_readsPair 2 = .ok (.bipush 7, 2) := by decide +kernel
theorem dX5_readsPair_4 : decode cX5_readsPair 4 = .ok (.invokevirtual 135, 3) := by decide +kernel
theorem dX5_readsPair_7 : decode cX5_readsPair 7 = .ok (.putfield 138, 3) := by decide +kernel
theorem dX5_readsPair_10 : decode cX5_readsPair 10 = .ok (.aload_n 0, 1) := by decide +kernel
theorem dX5_readsPair_11 : decode cX5_readsPair 11 = .ok (.aload_n 0, 1) := by decide +kernel
theorem dX5_readsPair_12 : decode cX5_readsPair 12 = .ok (.getfield 138, 3) := by decide +kernel
theorem dX5_readsPair_15 : decode cX5_readsPair 15 = .ok (.iconst (-1), 1) := by decide +kernel
theorem dX5_readsPair_16 : decode cX5_readsPair 16 = .ok (.if_icmp .ne 7, 3) := by decide +kernel
theorem dX5_readsPair_19 : decode cX5_readsPair 19 = .ok (.iconst (-1), 1) := by decide +kernel
theorem dX5_readsPair_20 : decode cX5_readsPair 20 = .ok (.goto 9, 3) := by decide +kernel
theorem dX5_readsPair_23 : decode cX5_readsPair 23 = .ok (.aload_n 0, 1) := by decide +kernel
theorem dX5_readsPair_24 : decode cX5_readsPair 24 = .ok (.bipush 7, 2) := by decide +kernel
theorem dX5_readsPair_26 : decode cX5_readsPair 26 = .ok (.invokevirtual 135, 3) := by decide +kernel
theorem dX5_readsPair_29 : decode cX5_readsPair 29 = .ok (.putfield 141, 3) := by decide +kernel
theorem dX5_readsPair_32 : decode cX5_readsPair 32 = .ok (.aload_n 0, 1) := by decide +kernel
theorem dX5_readsPair_33 : decode cX5_readsPair 33 = .ok (.getfield 141, 3) := by decide +kernel
theorem dX5_readsPair_36 : decode cX5_readsPair 36 = .ok (.iconst (-1), 1) := by decide +kernel
theorem dX5_readsPair_37 : decode cX5_readsPair 37 = .ok (.if_icmp .eq 7, 3) := by decide +kernel
theorem dX5_readsPair_40 : decode cX5_readsPair 40 = .ok (.iconst 1, 1) := by decide +kernel
theorem dX5_readsPair_41 : decode cX5_readsPair 41 = .ok (.goto 4, 3) := by decide +kernel
theorem dX5_readsPair_44 : decode cX5_readsPair 44 = .ok (.iconst 0, 1) := by decide +kernel
theorem dX5_readsPair_45 : decode cX5_readsPair 45 = .ok (.ireturn, 1) := by decide +kernel
set_option maxRecDepth 100000 in
set_option maxHeartbeats 4000000 in
theorem mt_X5_readsPair (r0 : Option Nat) (S0 : PH) (y : Int32 × PH) (h : m_X5_readsPair r0 S0 = some y) : MT yX5_readsPair (.code yX5_readsPair cX5_readsPair 1 (Option.some FieldType.boolean)) 3 66 0 0 [va_rf r0] S0 (oQ e_I (qN y)) := by
  refine mt_of (own := RX5) (l0 := [(0, va_rf r0)]) rfl rfl (by cases r0 <;> exact Nat.le_of_ble_eq_true rfl) (by cases r0 <;> rfl) ?_
  intro Z hC hQ hE hN
  have J_29 : ∀ (v19 : Option Nat) (v20 : Int32) (S21 : PH), j_X5_readsPair_29 r0 v19 v20 S21 = some y → PX Z 1 S21 0 0 29 [(0, va_rf r0)] [.int v20, va_rf v19] := by
    intro v19 v20 S21 h
    unfold j_X5_readsPair_29 at h
    replace h := dr_el h
    obtain ⟨a22, ea23, ha24, h⟩ := h
    replace h := le_el h
    obtain ⟨S25, hx26, h⟩ := h
    refine x_putI hC ea23 ha24 kf_5 9 (by decide) rfl rfl q_872 (Or.inl rfl) dX5_readsPair_29 ?_
    refine x_tS hx26 ?_
    refine x_aload_n (i := 0) hC dX5_readsPair_32 rfl 0 rfl ?_
    replace h := dr_el h
    obtain ⟨a27, ea28, ha29, h⟩ := h
    refine x_getI hC ea28 ha29 kf_5 9 (by decide) rfl q_872 dX5_readsPair_33 ?_
    refine x_iconst (v := (-1 : Int32)) hC dX5_readsPair_36 (by decide) ?_
    refine x_icmp_eq (t := 44) hC dX5_readsPair_37 (by decide) (fun c30 => ?_) (fun c30 => ?_)
    · replace h := it_t c30 h
      refine x_iconst (v := (0 : Int32)) hC dX5_readsPair_44 (by decide) ?_
      exact x_zret hC hQ (by decide) (z_N (Option.some.inj h)) (Nat.le_of_ble_eq_true rfl) (Nat.le_of_ble_eq_true rfl) dX5_readsPair_45
    · replace h := it_f c30 h
      refine x_iconst (v := (1 : Int32)) hC dX5_readsPair_40 (by decide) ?_
      refine x_goto (t := 45) hC dX5_readsPair_41 (by decide) ?_
      exact x_zret hC hQ (by decide) (z_N (Option.some.inj h)) (Nat.le_of_ble_eq_true rfl) (Nat.le_of_ble_eq_true rfl) dX5_readsPair_45
  unfold m_X5_readsPair at h
  refine x_aload_n (i := 0) hC dX5_readsPair_0 rfl 0 rfl ?_
  refine x_aload_n (i := 0) hC dX5_readsPair_1 rfl 0 rfl ?_
  refine x_bipush (v := (7 : Int32)) hC dX5_readsPair_2 (by decide) ?_
  replace h := dr_el h
  obtain ⟨a1, ea2, ha3, h⟩ := h
  replace h := bd_el h
  obtain ⟨v4, S5, hb6, h⟩ := h
  refine x_callV hC (st := [va_rf r0]) (mt_X5_digit _ _ _ _ hb6) ea2 ha3 kf_5 q_1099 q_1101 qs_72 q_7 q_1102 ⟨rfl, hy_X5_digit⟩ ⟨Nat.le_of_ble_eq_true rfl, Nat.le_of_ble_eq_true rfl⟩ ⟨Nat.le_of_ble_eq_true rfl, Nat.le_of_ble_eq_true rfl⟩ rfl (Nat.le_of_ble_eq_true rfl) dX5_readsPair_4 (r_N ?_) r_NX
  show PX Z 1 S5 0 0 7 [(0, va_rf r0)] [.int v4, va_rf r0]
  replace h := dr_el h
  obtain ⟨a7, ea8, ha9, h⟩ := h
  replace h := le_el h
  obtain ⟨S10, hx11, h⟩ := h
  refine x_putI hC ea8 ha9 kf_5 8 (by decide) rfl rfl q_871 (Or.inl rfl) dX5_readsPair_7 ?_
  refine x_tS hx11 ?_
  refine x_aload_n (i := 0) hC dX5_readsPair_10 rfl 0 rfl ?_
  refine x_aload_n (i := 0) hC dX5_readsPair_11 rfl 0 rfl ?_
  replace h := dr_el h
  obtain ⟨a12, ea13, ha14, h⟩ := h
  refine x_getI hC ea13 ha14 kf_5 8 (by decide) rfl q_871 dX5_readsPair_12 ?_
  refine x_iconst (v := (-1 : Int32)) hC dX5_readsPair_15 (by decide) ?_
  refine x_icmp_ne (t := 23) hC dX5_readsPair_16 (by decide) (fun c15 => ?_) (fun c15 => ?_)
  · replace h := it_f c15 h
    refine x_aload_n (i := 0) hC dX5_readsPair_23 rfl 0 rfl ?_
    refine x_bipush (v := (7 : Int32)) hC dX5_readsPair_24 (by decide) ?_
    replace h := bd_el h
    obtain ⟨v16, S17, hb18, h⟩ := h
    refine x_callV hC (st := [va_rf r0]) (mt_X5_digit _ _ _ _ hb18) ea13 ha14 kf_5 q_1099 q_1101 qs_72 q_7 q_1102 ⟨rfl, hy_X5_digit⟩ ⟨Nat.le_of_ble_eq_true rfl, Nat.le_of_ble_eq_true rfl⟩ ⟨Nat.le_of_ble_eq_true rfl, Nat.le_of_ble_eq_true rfl⟩ rfl (Nat.le_of_ble_eq_true rfl) dX5_readsPair_26 (r_N ?_) r_NX
    show PX Z 1 S17 0 0 29 [(0, va_rf r0)] [.int v16, va_rf r0]
    exact J_29 _ _ _ h
  · replace h := it_t c15 h
    refine x_iconst (v := (-1 : Int32)) hC dX5_readsPair_19 (by decide) ?_
    refine x_goto (t := 29) hC dX5_readsPair_20 (by decide) ?_
    exact J_29 _ _ _ h
theorem dX5_readsOrder_0 : decode cX5_readsOrder 0 = .ok (.aload_n 0, 1) := by decide +kernel
theorem dX5_readsOrder_1 : decode cX5_readsOrder 1 = .ok (.aload_n 0, 1) := by decide +kernel
theorem dX5_readsOrder_2 : decode cX5_readsOrder 2 = .ok (.getfield 129, 3) := by decide +kernel
theorem dX5_readsOrder_5 : decode cX5_readsOrder 5 = .ok (.aload_n 0, 1) := by decide +kernel
theorem dX5_readsOrder_6 : decode cX5_readsOrder 6 = .ok (.getfield 126, 3) := by decide +kernel
theorem dX5_readsOrder_9 : decode cX5_readsOrder 9 = .ok (.if_icmp .ge 15, 3) := by decide +kernel
theorem dX5_readsOrder_12 : decode cX5_readsOrder 12 = .ok (.aload_n 0, 1) := by decide +kernel
theorem dX5_readsOrder_13 : decode cX5_readsOrder 13 = .ok (.getfield 17, 3) := by decide +kernel
theorem dX5_readsOrder_16 : decode cX5_readsOrder 16 = .ok (.aload_n 0, 1) := by decide +kernel
theorem dX5_readsOrder_17 : decode cX5_readsOrder 17 = .ok (.getfield 129, 3) := by decide +kernel
theorem dX5_readsOrder_20 : decode cX5_readsOrder 20 = .ok (.iaload, 1) := by decide +kernel
theorem dX5_readsOrder_21 : decode cX5_readsOrder 21 = .ok (.goto 4, 3) := by decide +kernel
theorem dX5_readsOrder_24 : decode cX5_readsOrder 24 = .ok (.iconst 0, 1) := by decide +kernel
theorem dX5_readsOrder_25 : decode cX5_readsOrder 25 = .ok (.putfield 144, 3) := by decide +kernel
theorem dX5_readsOrder_28 : decode cX5_readsOrder 28 = .ok (.aload_n 0, 1) := by decide +kernel
theorem dX5_readsOrder_29 : decode cX5_readsOrder 29 = .ok (.bipush 116, 2) := by decide +kernel
theorem dX5_readsOrder_31 : decode cX5_readsOrder 31 = .ok (.invokevirtual 147, 3) := by decide +kernel
theorem dX5_readsOrder_34 : decode cX5_readsOrder 34 = .ok (.ifCond .ne 12, 3) := by decide +kernel
theorem dX5_readsOrder_37 : decode cX5_readsOrder 37 = .ok (.aload_n 0, 1) := by decide +kernel
theorem dX5_readsOrder_38 : decode cX5_readsOrder 38 = .ok (.bipush 120, 2) := by decide +kernel
theorem dX5_readsOrder_40 : decode cX5_readsOrder 40 = .ok (.invokevirtual 147, 3) := by decide +kernel
theorem dX5_readsOrder_43 : decode cX5_readsOrder 43 = .ok (.ifCond .eq 8, 3) := by decide +kernel
theorem dX5_readsOrder_46 : decode cX5_readsOrder 46 = .ok (.aload_n 0, 1) := by decide +kernel
theorem dX5_readsOrder_47 : decode cX5_readsOrder 47 = .ok (.invokevirtual 150, 3) := by decide +kernel
theorem dX5_readsOrder_50 : decode cX5_readsOrder 50 = .ok (.ireturn, 1) := by decide +kernel
theorem dX5_readsOrder_51 : decode cX5_readsOrder 51 = .ok (.aload_n 0, 1) := by decide +kernel
theorem dX5_readsOrder_52 : decode cX5_readsOrder 52 = .ok (.bipush 115, 2) := by decide +kernel
theorem dX5_readsOrder_54 : decode cX5_readsOrder 54 = .ok (.invokevirtual 147, 3) := by decide +kernel
theorem dX5_readsOrder_57 : decode cX5_readsOrder 57 = .ok (.ifCond .eq 47, 3) := by decide +kernel
theorem dX5_readsOrder_60 : decode cX5_readsOrder 60 = .ok (.aload_n 0, 1) := by decide +kernel
theorem dX5_readsOrder_61 : decode cX5_readsOrder 61 = .ok (.aload_n 0, 1) := by decide +kernel
theorem dX5_readsOrder_62 : decode cX5_readsOrder 62 = .ok (.invokevirtual 150, 3) := by decide +kernel
theorem dX5_readsOrder_65 : decode cX5_readsOrder 65 = .ok (.ifCond .eq 21, 3) := by decide +kernel
theorem dX5_readsOrder_68 : decode cX5_readsOrder 68 = .ok (.aload_n 0, 1) := by decide +kernel
theorem dX5_readsOrder_69 : decode cX5_readsOrder 69 = .ok (.bipush 61, 2) := by decide +kernel
theorem dX5_readsOrder_71 : decode cX5_readsOrder 71 = .ok (.invokevirtual 147, 3) := by decide +kernel
theorem dX5_readsOrder_74 : decode cX5_readsOrder 74 = .ok (.ifCond .eq 12, 3) := by decide +kernel
theorem dX5_readsOrder_77 : decode cX5_readsOrder 77 = .ok (.aload_n 0, 1) := by decide +kernel
theorem dX5_readsOrder_78 : decode cX5_readsOrder 78 = .ok (.bipush 9, 2) := by decide +kernel
theorem dX5_readsOrder_80 : decode cX5_readsOrder 80 = .ok (.invokevirtual 135, 3) := by decide +kernel
theorem dX5_readsOrder_83 : decode cX5_readsOrder 83 = .ok (.goto 4, 3) := by decide +kernel
theorem dX5_readsOrder_86 : decode cX5_readsOrder 86 = .ok (.iconst (-1), 1) := by decide +kernel
theorem dX5_readsOrder_87 : decode cX5_readsOrder 87 = .ok (.putfield 154, 3) := by decide +kernel
theorem dX5_readsOrder_90 : decode cX5_readsOrder 90 = .ok (.aload_n 0, 1) := by decide +kernel
theorem dX5_readsOrder_91 : decode cX5_readsOrder 91 = .ok (.getfield 154, 3) := by decide +kernel
theorem dX5_readsOrder_94 : decode cX5_readsOrder 94 = .ok (.iconst (-1), 1) := by decide +kernel
theorem dX5_readsOrder_95 : decode cX5_readsOrder 95 = .ok (.if_icmp .eq 7, 3) := by decide +kernel
theorem dX5_readsOrder_98 : decode cX5_readsOrder 98 = .ok (.iconst 1, 1) := by decide +kernel
theorem dX5_readsOrder_99 : decode cX5_readsOrder 99 = .ok (.goto 4, 3) := by decide +kernel
theorem dX5_readsOrder_102 : decode cX5_readsOrder 102 = .ok (.iconst 0, 1) := by decide +kernel
theorem dX5_readsOrder_103 : decode cX5_readsOrder 103 = .ok (.ireturn, 1) := by decide +kernel
theorem dX5_readsOrder_104 : decode cX5_readsOrder 104 = .ok (.aload_n 0, 1) := by decide +kernel
theorem dX5_readsOrder_105 : decode cX5_readsOrder 105 = .ok (.bipush 100, 2) := by decide +kernel
theorem dX5_readsOrder_107 : decode cX5_readsOrder 107 = .ok (.invokevirtual 147, 3) := by decide +kernel
theorem dX5_readsOrder_110 : decode cX5_readsOrder 110 = .ok (.ifCond .ne 12, 3) := by decide +kernel
theorem dX5_readsOrder_113 : decode cX5_readsOrder 113 = .ok (.aload_n 0, 1) := by decide +kernel
theorem dX5_readsOrder_114 : decode cX5_readsOrder 114 = .ok (.bipush 114, 2) := by decide +kernel
theorem dX5_readsOrder_116 : decode cX5_readsOrder 116 = .ok (.invokevirtual 147, 3) := by decide +kernel
theorem dX5_readsOrder_119 : decode cX5_readsOrder 119 = .ok (.ifCond .eq 27, 3) := by decide +kernel
theorem dX5_readsOrder_122 : decode cX5_readsOrder 122 = .ok (.aload_n 0, 1) := by decide +kernel
theorem dX5_readsOrder_123 : decode cX5_readsOrder 123 = .ok (.aload_n 0, 1) := by decide +kernel
theorem dX5_readsOrder_124 : decode cX5_readsOrder 124 = .ok (.bipush 7, 2) := by decide +kernel
theorem dX5_readsOrder_126 : decode cX5_readsOrder 126 = .ok (.invokevirtual 135, 3) := by decide +kernel
theorem dX5_readsOrder_129 : decode cX5_readsOrder 129 = .ok (.putfield 138, 3) := by decide +kernel
theorem dX5_readsOrder_132 : decode cX5_readsOrder 132 = .ok (.aload_n 0, 1) := by decide +kernel
theorem dX5_readsOrder_133 : decode cX5_readsOrder 133 = .ok (.getfield 138, 3) := by decide +kernel
theorem dX5_readsOrder_136 : decode cX5_readsOrder 136 = .ok (.iconst (-1), 1) := by decide +kernel
theorem dX5_readsOrder_137 : decode cX5_readsOrder 137 = .ok (.if_icmp .eq 7, 3) := by decide +kernel
theorem dX5_readsOrder_140 : decode cX5_readsOrder 140 = .ok (.iconst 1, 1) := by decide +kernel
theorem dX5_readsOrder_141 : decode cX5_readsOrder 141 = .ok (.goto 4, 3) := by decide +kernel
theorem dX5_readsOrder_144 : decode cX5_readsOrder 144 = .ok (.iconst 0, 1) := by decide +kernel
theorem dX5_readsOrder_145 : decode cX5_readsOrder 145 = .ok (.ireturn, 1) := by decide +kernel
theorem dX5_readsOrder_146 : decode cX5_readsOrder 146 = .ok (.aload_n 0, 1) := by decide +kernel
theorem dX5_readsOrder_147 : decode cX5_readsOrder 147 = .ok (.bipush 119, 2) := by decide +kernel
theorem dX5_readsOrder_149 : decode cX5_readsOrder 149 = .ok (.invokevirtual 147, 3) := by decide +kernel
theorem dX5_readsOrder_152 : decode cX5_readsOrder 152 = .ok (.ireturn, 1) := by decide +kernel
set_option maxRecDepth 100000 in
set_option maxHeartbeats 4000000 in
theorem mt_X5_readsOrder (r0 : Option Nat) (S0 : PH) (y : Int32 × PH) (h : m_X5_readsOrder r0 S0 = some y) : MT yX5_readsOrder (.code yX5_readsOrder cX5_readsOrder 1 (Option.some FieldType.boolean)) 4 86 0 0 [va_rf r0] S0 (oQ e_I (qN y)) := by
  refine mt_of (own := RX5) (l0 := [(0, va_rf r0)]) rfl rfl (by cases r0 <;> exact Nat.le_of_ble_eq_true rfl) (by cases r0 <;> rfl) ?_
  intro Z hC hQ hE hN
  have J_46 : ∀ (S20 : PH), j_X5_readsOrder_46 r0 S20 = some y → PX Z 1 S20 0 0 46 [(0, va_rf r0)] [] := by
    intro S20 h
    unfold j_X5_readsOrder_46 at h
    refine x_aload_n (i := 0) hC dX5_readsOrder_46 rfl 0 rfl ?_
    replace h := dr_el h
    obtain ⟨a21, ea22, ha23, h⟩ := h
    replace h := bd_el h
    obtain ⟨v24, S25, hb26, h⟩ := h
    refine x_callV hC (st := []) (mt_X5_readsPair _ _ _ hb26) ea22 ha23 kf_5 q_1095 q_1097 qs_71 q_7 q_1098 ⟨rfl, hy_X5_readsPair⟩ ⟨Nat.le_of_ble_eq_true rfl, Nat.le_of_ble_eq_true rfl⟩ ⟨Nat.le_of_ble_eq_true rfl, Nat.le_of_ble_eq_true rfl⟩ rfl (Nat.le_of_ble_eq_true rfl) dX5_readsOrder_47 (r_N ?_) r_NX
    show PX Z 1 S25 0 0 50 [(0, va_rf r0)] [.int v24]
    replace h := ck_el h
    obtain ⟨hc27, h⟩ := h
    exact x_zret hC hQ (of_decide_eq_true hc27) (z_N (Option.some.inj h)) (Nat.le_of_ble_eq_true rfl) (Nat.le_of_ble_eq_true rfl) dX5_readsOrder_50
  have J_87 : ∀ (v86 : Option Nat) (v87 : Int32) (S88 : PH), j_X5_readsOrder_87 r0 v86 v87 S88 = some y → PX Z 1 S88 0 0 87 [(0, va_rf r0)] [.int v87, va_rf v86] := by
    intro v86 v87 S88 h
    unfold j_X5_readsOrder_87 at h
    replace h := dr_el h
    obtain ⟨a89, ea90, ha91, h⟩ := h
    replace h := le_el h
    obtain ⟨S92, hx93, h⟩ := h
    refine x_putI hC ea90 ha91 kf_5 10 (by decide) rfl rfl q_873 (Or.inl rfl) dX5_readsOrder_87 ?_
    refine x_tS hx93 ?_
    refine x_aload_n (i := 0) hC dX5_readsOrder_90 rfl 0 rfl ?_
    replace h := dr_el h
    obtain ⟨a94, ea95, ha96, h⟩ := h
    refine x_getI hC ea95 ha96 kf_5 10 (by decide) rfl q_873 dX5_readsOrder_91 ?_
    refine x_iconst (v := (-1 : Int32)) hC dX5_readsOrder_94 (by decide) ?_
    refine x_icmp_eq (t := 102) hC dX5_readsOrder_95 (by decide) (fun c97 => ?_) (fun c97 => ?_)
    · replace h := it_t c97 h
      refine x_iconst (v := (0 : Int32)) hC dX5_readsOrder_102 (by decide) ?_
      exact x_zret hC hQ (by decide) (z_N (Option.some.inj h)) (Nat.le_of_ble_eq_true rfl) (Nat.le_of_ble_eq_true rfl) dX5_readsOrder_103
    · replace h := it_f c97 h
      refine x_iconst (v := (1 : Int32)) hC dX5_readsOrder_98 (by decide) ?_
      refine x_goto (t := 103) hC dX5_readsOrder_99 (by decide) ?_
      exact x_zret hC hQ (by decide) (z_N (Option.some.inj h)) (Nat.le_of_ble_eq_true rfl) (Nat.le_of_ble_eq_true rfl) dX5_readsOrder_103
  have J_122 : ∀ (S49 : PH), j_X5_readsOrder_122 r0 S49 = some y → PX Z 1 S49 0 0 122 [(0, va_rf r0)] [] := by
    intro S49 h
    unfold j_X5_readsOrder_122 at h
    refine x_aload_n (i := 0) hC dX5_readsOrder_122 rfl 0 rfl ?_
    refine x_aload_n (i := 0) hC dX5_readsOrder_123 rfl 0 rfl ?_
    refine x_bipush (v := (7 : Int32)) hC dX5_readsOrder_124 (by decide) ?_
    replace h := dr_el h
    obtain ⟨a50, ea51, ha52, h⟩ := h
    replace h := bd_el h
    obtain ⟨v53, S54, hb55, h⟩ := h
    refine x_callV hC (st := [va_rf r0]) (mt_X5_digit _ _ _ _ hb55) ea51 ha52 kf_5 q_1099 q_1101 qs_72 q_7 q_1102 ⟨rfl, hy_X5_digit⟩ ⟨Nat.le_of_ble_eq_true rfl, Nat.le_of_ble_eq_true rfl⟩ ⟨Nat.le_of_ble_eq_true rfl, Nat.le_of_ble_eq_true rfl⟩ rfl (Nat.le_of_ble_eq_true rfl) dX5_readsOrder_126 (r_N ?_) r_NX
    show PX Z 1 S54 0 0 129 [(0, va_rf r0)] [.int v53, va_rf r0]
    replace h := dr_el h
    obtain ⟨a56, ea57, ha58, h⟩ := h
    replace h := le_el h
    obtain ⟨S59, hx60, h⟩ := h
    refine x_putI hC ea57 ha58 kf_5 8 (by decide) rfl rfl q_871 (Or.inl rfl) dX5_readsOrder_129 ?_
    refine x_tS hx60 ?_
    refine x_aload_n (i := 0) hC dX5_readsOrder_132 rfl 0 rfl ?_
    replace h := dr_el h
    obtain ⟨a61, ea62, ha63, h⟩ := h
    refine x_getI hC ea62 ha63 kf_5 8 (by decide) rfl q_871 dX5_readsOrder_133 ?_
    refine x_iconst (v := (-1 : Int32)) hC dX5_readsOrder_136 (by decide) ?_
    refine x_icmp_eq (t := 144) hC dX5_readsOrder_137 (by decide) (fun c64 => ?_) (fun c64 => ?_)
    · replace h := it_t c64 h
      refine x_iconst (v := (0 : Int32)) hC dX5_readsOrder_144 (by decide) ?_
      exact x_zret hC hQ (by decide) (z_N (Option.some.inj h)) (Nat.le_of_ble_eq_true rfl) (Nat.le_of_ble_eq_true rfl) dX5_readsOrder_145
    · replace h := it_f c64 h
      refine x_iconst (v := (1 : Int32)) hC dX5_readsOrder_140 (by decide) ?_
      refine x_goto (t := 145) hC dX5_readsOrder_141 (by decide) ?_
      exact x_zret hC hQ (by decide) (z_N (Option.some.inj h)) (Nat.le_of_ble_eq_true rfl) (Nat.le_of_ble_eq_true rfl) dX5_readsOrder_145
  have J_25 : ∀ (v5 : Option Nat) (v6 : Int32) (S7 : PH), j_X5_readsOrder_25 r0 v5 v6 S7 = some y → PX Z 1 S7 0 0 25 [(0, va_rf r0)] [.int v6, va_rf v5] := by
    intro v5 v6 S7 h
    unfold j_X5_readsOrder_25 at h
    replace h := dr_el h
    obtain ⟨a8, ea9, ha10, h⟩ := h
    replace h := le_el h
    obtain ⟨S11, hx12, h⟩ := h
    refine x_putI hC ea9 ha10 kf_5 7 (by decide) rfl rfl q_870 (Or.inl rfl) dX5_readsOrder_25 ?_
    refine x_tS hx12 ?_
    refine x_aload_n (i := 0) hC dX5_readsOrder_28 rfl 0 rfl ?_
    refine x_bipush (v := (116 : Int32)) hC dX5_readsOrder_29 (by decide) ?_
    replace h := dr_el h
    obtain ⟨a13, ea14, ha15, h⟩ := h
    replace h := bd_el h
    obtain ⟨v16, S17, hb18, h⟩ := h
    refine x_callV hC (st := []) (mt_X5_takesSign _ _ _ _ hb18) ea14 ha15 kf_5 q_1087 q_1089 qs_69 q_7 q_1090 ⟨rfl, hy_X5_takesSign⟩ ⟨Nat.le_of_ble_eq_true rfl, Nat.le_of_ble_eq_true rfl⟩ ⟨Nat.le_of_ble_eq_true rfl, Nat.le_of_ble_eq_true rfl⟩ rfl (Nat.le_of_ble_eq_true rfl) dX5_readsOrder_31 (r_N ?_) r_NX
    show PX Z 1 S17 0 0 34 [(0, va_rf r0)] [.int v16]
    refine x_if_ne (t := 46) hC dX5_readsOrder_34 (by decide) (fun c19 => ?_) (fun c19 => ?_)
    · replace h := it_f c19 h
      exact J_46 _ h
    · replace h := it_t c19 h
      refine x_aload_n (i := 0) hC dX5_readsOrder_37 rfl 0 rfl ?_
      refine x_bipush (v := (120 : Int32)) hC dX5_readsOrder_38 (by decide) ?_
      replace h := dr_el h
      obtain ⟨a28, ea29, ha30, h⟩ := h
      replace h := bd_el h
      obtain ⟨v31, S32, hb33, h⟩ := h
      refine x_callV hC (st := []) (mt_X5_takesSign _ _ _ _ hb33) ea29 ha30 kf_5 q_1087 q_1089 qs_69 q_7 q_1090 ⟨rfl, hy_X5_takesSign⟩ ⟨Nat.le_of_ble_eq_true rfl, Nat.le_of_ble_eq_true rfl⟩ ⟨Nat.le_of_ble_eq_true rfl, Nat.le_of_ble_eq_true rfl⟩ rfl (Nat.le_of_ble_eq_true rfl) dX5_readsOrder_40 (r_N ?_) r_NX
      show PX Z 1 S32 0 0 43 [(0, va_rf r0)] [.int v31]
      refine x_if_eq (t := 51) hC dX5_readsOrder_43 (by decide) (fun c34 => ?_) (fun c34 => ?_)
      · replace h := it_t c34 h
        refine x_aload_n (i := 0) hC dX5_readsOrder_51 rfl 0 rfl ?_
        refine x_bipush (v := (115 : Int32)) hC dX5_readsOrder_52 (by decide) ?_
        replace h := dr_el h
        obtain ⟨a35, ea36, ha37, h⟩ := h
        replace h := bd_el h
        obtain ⟨v38, S39, hb40, h⟩ := h
        refine x_callV hC (st := []) (mt_X5_takesSign _ _ _ _ hb40) ea36 ha37 kf_5 q_1087 q_1089 qs_69 q_7 q_1090 ⟨rfl, hy_X5_takesSign⟩ ⟨Nat.le_of_ble_eq_true rfl, Nat.le_of_ble_eq_true rfl⟩ ⟨Nat.le_of_ble_eq_true rfl, Nat.le_of_ble_eq_true rfl⟩ rfl (Nat.le_of_ble_eq_true rfl) dX5_readsOrder_54 (r_N ?_) r_NX
        show PX Z 1 S39 0 0 57 [(0, va_rf r0)] [.int v38]
        refine x_if_eq (t := 104) hC dX5_readsOrder_57 (by decide) (fun c41 => ?_) (fun c41 => ?_)
        · replace h := it_t c41 h
          refine x_aload_n (i := 0) hC dX5_readsOrder_104 rfl 0 rfl ?_
          refine x_bipush (v := (100 : Int32)) hC dX5_readsOrder_105 (by decide) ?_
          replace h := dr_el h
          obtain ⟨a42, ea43, ha44, h⟩ := h
          replace h := bd_el h
          obtain ⟨v45, S46, hb47, h⟩ := h
          refine x_callV hC (st := []) (mt_X5_takesSign _ _ _ _ hb47) ea43 ha44 kf_5 q_1087 q_1089 qs_69 q_7 q_1090 ⟨rfl, hy_X5_takesSign⟩ ⟨Nat.le_of_ble_eq_true rfl, Nat.le_of_ble_eq_true rfl⟩ ⟨Nat.le_of_ble_eq_true rfl, Nat.le_of_ble_eq_true rfl⟩ rfl (Nat.le_of_ble_eq_true rfl) dX5_readsOrder_107 (r_N ?_) r_NX
          show PX Z 1 S46 0 0 110 [(0, va_rf r0)] [.int v45]
          refine x_if_ne (t := 122) hC dX5_readsOrder_110 (by decide) (fun c48 => ?_) (fun c48 => ?_)
          · replace h := it_f c48 h
            exact J_122 _ h
          · replace h := it_t c48 h
            refine x_aload_n (i := 0) hC dX5_readsOrder_113 rfl 0 rfl ?_
            refine x_bipush (v := (114 : Int32)) hC dX5_readsOrder_114 (by decide) ?_
            replace h := dr_el h
            obtain ⟨a65, ea66, ha67, h⟩ := h
            replace h := bd_el h
            obtain ⟨v68, S69, hb70, h⟩ := h
            refine x_callV hC (st := []) (mt_X5_takesSign _ _ _ _ hb70) ea66 ha67 kf_5 q_1087 q_1089 qs_69 q_7 q_1090 ⟨rfl, hy_X5_takesSign⟩ ⟨Nat.le_of_ble_eq_true rfl, Nat.le_of_ble_eq_true rfl⟩ ⟨Nat.le_of_ble_eq_true rfl, Nat.le_of_ble_eq_true rfl⟩ rfl (Nat.le_of_ble_eq_true rfl) dX5_readsOrder_116 (r_N ?_) r_NX
            show PX Z 1 S69 0 0 119 [(0, va_rf r0)] [.int v68]
            refine x_if_eq (t := 146) hC dX5_readsOrder_119 (by decide) (fun c71 => ?_) (fun c71 => ?_)
            · replace h := it_t c71 h
              refine x_aload_n (i := 0) hC dX5_readsOrder_146 rfl 0 rfl ?_
              refine x_bipush (v := (119 : Int32)) hC dX5_readsOrder_147 (by decide) ?_
              replace h := dr_el h
              obtain ⟨a72, ea73, ha74, h⟩ := h
              replace h := bd_el h
              obtain ⟨v75, S76, hb77, h⟩ := h
              refine x_callV hC (st := []) (mt_X5_takesSign _ _ _ _ hb77) ea73 ha74 kf_5 q_1087 q_1089 qs_69 q_7 q_1090 ⟨rfl, hy_X5_takesSign⟩ ⟨Nat.le_of_ble_eq_true rfl, Nat.le_of_ble_eq_true rfl⟩ ⟨Nat.le_of_ble_eq_true rfl, Nat.le_of_ble_eq_true rfl⟩ rfl (Nat.le_of_ble_eq_true rfl) dX5_readsOrder_149 (r_N ?_) r_NX
              show PX Z 1 S76 0 0 152 [(0, va_rf r0)] [.int v75]
              replace h := ck_el h
              obtain ⟨hc78, h⟩ := h
              exact x_zret hC hQ (of_decide_eq_true hc78) (z_N (Option.some.inj h)) (Nat.le_of_ble_eq_true rfl) (Nat.le_of_ble_eq_true rfl) dX5_readsOrder_152
            · replace h := it_f c71 h
              exact J_122 _ h
        · replace h := it_f c41 h
          refine x_aload_n (i := 0) hC dX5_readsOrder_60 rfl 0 rfl ?_
          refine x_aload_n (i := 0) hC dX5_readsOrder_61 rfl 0 rfl ?_
          replace h := dr_el h
          obtain ⟨a79, ea80, ha81, h⟩ := h
          replace h := bd_el h
          obtain ⟨v82, S83, hb84, h⟩ := h
          refine x_callV hC (st := [va_rf r0]) (mt_X5_readsPair _ _ _ hb84) ea80 ha81 kf_5 q_1095 q_1097 qs_71 q_7 q_1098 ⟨rfl, hy_X5_readsPair⟩ ⟨Nat.le_of_ble_eq_true rfl, Nat.le_of_ble_eq_true rfl⟩ ⟨Nat.le_of_ble_eq_true rfl, Nat.le_of_ble_eq_true rfl⟩ rfl (Nat.le_of_ble_eq_true rfl) dX5_readsOrder_62 (r_N ?_) r_NX
          show PX Z 1 S83 0 0 65 [(0, va_rf r0)] [.int v82, va_rf r0]
          refine x_if_eq (t := 86) hC dX5_readsOrder_65 (by decide) (fun c85 => ?_) (fun c85 => ?_)
          · replace h := it_t c85 h
            refine x_iconst (v := (-1 : Int32)) hC dX5_readsOrder_86 (by decide) ?_
            exact J_87 _ _ _ h
          · replace h := it_f c85 h
            refine x_aload_n (i := 0) hC dX5_readsOrder_68 rfl 0 rfl ?_
            refine x_bipush (v := (61 : Int32)) hC dX5_readsOrder_69 (by decide) ?_
            replace h := dr_el h
            obtain ⟨a98, ea99, ha100, h⟩ := h
            replace h := bd_el h
            obtain ⟨v101, S102, hb103, h⟩ := h
            refine x_callV hC (st := [va_rf r0]) (mt_X5_takesSign _ _ _ _ hb103) ea99 ha100 kf_5 q_1087 q_1089 qs_69 q_7 q_1090 ⟨rfl, hy_X5_takesSign⟩ ⟨Nat.le_of_ble_eq_true rfl, Nat.le_of_ble_eq_true rfl⟩ ⟨Nat.le_of_ble_eq_true rfl, Nat.le_of_ble_eq_true rfl⟩ rfl (Nat.le_of_ble_eq_true rfl) dX5_readsOrder_71 (r_N ?_) r_NX
            show PX Z 1 S102 0 0 74 [(0, va_rf r0)] [.int v101, va_rf r0]
            refine x_if_eq (t := 86) hC dX5_readsOrder_74 (by decide) (fun c104 => ?_) (fun c104 => ?_)
            · replace h := it_t c104 h
              refine x_iconst (v := (-1 : Int32)) hC dX5_readsOrder_86 (by decide) ?_
              exact J_87 _ _ _ h
            · replace h := it_f c104 h
              refine x_aload_n (i := 0) hC dX5_readsOrder_77 rfl 0 rfl ?_
              refine x_bipush (v := (9 : Int32)) hC dX5_readsOrder_78 (by decide) ?_
              replace h := dr_el h
              obtain ⟨a105, ea106, ha107, h⟩ := h
              replace h := bd_el h
              obtain ⟨v108, S109, hb110, h⟩ := h
              refine x_callV hC (st := [va_rf r0]) (mt_X5_digit _ _ _ _ hb110) ea106 ha107 kf_5 q_1099 q_1101 qs_72 q_7 q_1102 ⟨rfl, hy_X5_digit⟩ ⟨Nat.le_of_ble_eq_true rfl, Nat.le_of_ble_eq_true rfl⟩ ⟨Nat.le_of_ble_eq_true rfl, Nat.le_of_ble_eq_true rfl⟩ rfl (Nat.le_of_ble_eq_true rfl) dX5_readsOrder_80 (r_N ?_) r_NX
              show PX Z 1 S109 0 0 83 [(0, va_rf r0)] [.int v108, va_rf r0]
              refine x_goto (t := 87) hC dX5_readsOrder_83 (by decide) ?_
              exact J_87 _ _ _ h
      · replace h := it_f c34 h
        exact J_46 _ h
  unfold m_X5_readsOrder at h
  refine x_aload_n (i := 0) hC dX5_readsOrder_0 rfl 0 rfl ?_
  refine x_aload_n (i := 0) hC dX5_readsOrder_1 rfl 0 rfl ?_
  replace h := dr_el h
  obtain ⟨a1, ea2, ha3, h⟩ := h
  refine x_getI hC ea2 ha3 kf_5 6 (by decide) rfl q_869 dX5_readsOrder_2 ?_
  refine x_aload_n (i := 0) hC dX5_readsOrder_5 rfl 0 rfl ?_
  refine x_getI hC ea2 ha3 kf_5 5 (by decide) rfl q_868 dX5_readsOrder_6 ?_
  refine x_icmp_ge (t := 24) hC dX5_readsOrder_9 (by decide) (fun c4 => ?_) (fun c4 => ?_)
  · replace h := it_t c4 h
    refine x_iconst (v := (0 : Int32)) hC dX5_readsOrder_24 (by decide) ?_
    exact J_25 _ _ _ h
  · replace h := it_f c4 h
    refine x_aload_n (i := 0) hC dX5_readsOrder_12 rfl 0 rfl ?_
    refine x_getR hC ea2 ha3 kf_5 4 (by decide) rfl q_867 dX5_readsOrder_13 ?_
    refine x_aload_n (i := 0) hC dX5_readsOrder_16 rfl 0 rfl ?_
    refine x_getI hC ea2 ha3 kf_5 6 (by decide) rfl q_869 dX5_readsOrder_17 ?_
    replace h := dr_el h
    obtain ⟨a111, ea112, ha113, h⟩ := h
    replace h := ck_el h
    obtain ⟨hc114, h⟩ := h
    refine x_iaload hC ea112 ha113 hc114 dX5_readsOrder_20 ?_
    refine x_goto (t := 25) hC dX5_readsOrder_21 (by decide) ?_
    exact J_25 _ _ _ h
theorem dX5_isWeek_0 : decode cX5_isWeek 0 = .ok (.aload_n 0, 1) := by decide +kernel
theorem dX5_isWeek_1 : decode cX5_isWeek 1 = .ok (.iconst 0, 1) := by decide +kernel
theorem dX5_isWeek_2 : decode cX5_isWeek 2 = .ok (.putfield 129, 3) := by decide +kernel
theorem dX5_isWeek_5 : decode cX5_isWeek 5 = .ok (.aload_n 0, 1) := by decide +kernel
theorem dX5_isWeek_6 : decode cX5_isWeek 6 = .ok (.invokevirtual 157, 3) := by decide +kernel
theorem dX5_isWeek_9 : decode cX5_isWeek 9 = .ok (.ifCond .eq 27, 3) := by decide +kernel
theorem dX5_isWeek_12 : decode cX5_isWeek 12 = .ok (.aload_n 0, 1) := by decide +kernel
theorem dX5_isWeek_13 : decode cX5_isWeek 13 = .ok (.getfield 129, 3) := by decide +kernel
theorem dX5_isWeek_16 : decode cX5_isWeek 16 = .ok (.aload_n 0, 1) := by decide +kernel
theorem dX5_isWeek_17 : decode cX5_isWeek 17 = .ok (.getfield 126, 3) := by decide +kernel
theorem dX5_isWeek_20 : decode cX5_isWeek 20 = .ok (.if_icmp .ne 5, 3) := by decide +kernel
theorem dX5_isWeek_23 : decode cX5_isWeek 23 = .ok (.iconst 1, 1) := by decide +kernel
theorem dX5_isWeek_24 : decode cX5_isWeek 24 = .ok (.ireturn, 1) := by decide +kernel
theorem dX5_isWeek_25 : decode cX5_isWeek 25 = .ok (.aload_n 0, 1) := by decide +kernel
theorem dX5_isWeek_26 : decode cX5_isWeek 26 = .ok (.bipush 59, 2) := by decide +kernel
theorem dX5_isWeek_28 : decode cX5_isWeek 28 = .ok (.invokevirtual 147, 3) := by decide +kernel
theorem dX5_isWeek_31 : decode cX5_isWeek 31 = .ok (.ifCond .ne (-26), 3) := by decide +kernel
theorem dX5_isWeek_34 : decode cX5_isWeek 34 = .ok (.iconst 0, 1) := by decide +kernel
theorem dX5_isWeek_35 : decode cX5_isWeek 35 = .ok (.ireturn, 1) := by decide +kernel
theorem dX5_isWeek_36 : decode cX5_isWeek 36 = .ok (.iconst 0, 1) := by decide +kernel
theorem dX5_isWeek_37 : decode cX5_isWeek 37 = .ok (.ireturn, 1) := by decide +kernel
set_option maxRecDepth 100000 in
set_option maxHeartbeats 4000000 in
theorem mt_X5_isWeek (r0 : Option Nat) (S0 : PH) (y : Int32 × PH) (h : m_X5_isWeek r0 S0 = some y) : MT yX5_isWeek (.code yX5_isWeek cX5_isWeek 1 (Option.some FieldType.boolean)) 5 106 0 0 [va_rf r0] S0 (oQ e_I (qN y)) := by
  refine mt_of (own := RX5) (l0 := [(0, va_rf r0)]) rfl rfl (by cases r0 <;> exact Nat.le_of_ble_eq_true rfl) (by cases r0 <;> rfl) ?_
  intro Z hC hQ hE hN
  unfold m_X5_isWeek at h
  refine x_aload_n (i := 0) hC dX5_isWeek_0 rfl 0 rfl ?_
  refine x_iconst (v := (0 : Int32)) hC dX5_isWeek_1 (by decide) ?_
  replace h := dr_el h
  obtain ⟨a1, ea2, ha3, h⟩ := h
  replace h := le_el h
  obtain ⟨S4, hx5, h⟩ := h
  refine x_putI hC ea2 ha3 kf_5 6 (by decide) rfl rfl q_869 (Or.inl rfl) dX5_isWeek_2 ?_
  refine x_tS hx5 ?_
  refine lp_sim (P := fun (t : (PH)) => PX Z 1 t 0 0 5 [(0, va_rf r0)] []) (G := fun r => r = y) ?_ h rfl
  clear h
  intro S6 x_5 h hg_5
  show PX Z 1 S6 0 0 5 [(0, va_rf r0)] []
  unfold st_X5_isWeek_5 at h
  refine x_aload_n (i := 0) hC dX5_isWeek_5 rfl 0 rfl ?_
  replace h := dr_el h
  obtain ⟨a7, ea8, ha9, h⟩ := h
  replace h := bd_el h
  obtain ⟨v10, S11, hb12, h⟩ := h
  refine x_callV hC (st := []) (mt_X5_readsOrder _ _ _ hb12) ea8 ha9 kf_5 q_1083 q_1085 qs_68 q_7 q_1086 ⟨rfl, hy_X5_readsOrder⟩ ⟨Nat.le_of_ble_eq_true rfl, Nat.le_of_ble_eq_true rfl⟩ ⟨Nat.le_of_ble_eq_true rfl, Nat.le_of_ble_eq_true rfl⟩ rfl (Nat.le_of_ble_eq_true rfl) dX5_isWeek_6 (r_N ?_) r_NX
  show PX Z 1 S11 0 0 9 [(0, va_rf r0)] [.int v10]
  refine x_if_eq (t := 36) hC dX5_isWeek_9 (by decide) (fun c13 => ?_) (fun c13 => ?_)
  · replace h := it_t c13 h
    replace h := ir_x h hg_5
    refine x_iconst (v := (0 : Int32)) hC dX5_isWeek_36 (by decide) ?_
    exact x_zret hC hQ (by decide) (z_N (Option.some.inj h)) (Nat.le_of_ble_eq_true rfl) (Nat.le_of_ble_eq_true rfl) dX5_isWeek_37
  · replace h := it_f c13 h
    refine x_aload_n (i := 0) hC dX5_isWeek_12 rfl 0 rfl ?_
    replace h := dr_el h
    obtain ⟨a14, ea15, ha16, h⟩ := h
    refine x_getI hC ea15 ha16 kf_5 6 (by decide) rfl q_869 dX5_isWeek_13 ?_
    refine x_aload_n (i := 0) hC dX5_isWeek_16 rfl 0 rfl ?_
    refine x_getI hC ea15 ha16 kf_5 5 (by decide) rfl q_868 dX5_isWeek_17 ?_
    refine x_icmp_ne (t := 25) hC dX5_isWeek_20 (by decide) (fun c17 => ?_) (fun c17 => ?_)
    · replace h := it_f c17 h
      refine x_aload_n (i := 0) hC dX5_isWeek_25 rfl 0 rfl ?_
      refine x_bipush (v := (59 : Int32)) hC dX5_isWeek_26 (by decide) ?_
      replace h := bd_el h
      obtain ⟨v18, S19, hb20, h⟩ := h
      refine x_callV hC (st := []) (mt_X5_takesSign _ _ _ _ hb20) ea15 ha16 kf_5 q_1087 q_1089 qs_69 q_7 q_1090 ⟨rfl, hy_X5_takesSign⟩ ⟨Nat.le_of_ble_eq_true rfl, Nat.le_of_ble_eq_true rfl⟩ ⟨Nat.le_of_ble_eq_true rfl, Nat.le_of_ble_eq_true rfl⟩ rfl (Nat.le_of_ble_eq_true rfl) dX5_isWeek_28 (r_N ?_) r_NX
      show PX Z 1 S19 0 0 31 [(0, va_rf r0)] [.int v18]
      refine x_if_ne (t := 5) hC dX5_isWeek_31 (by decide) (fun c21 => ?_) (fun c21 => ?_)
      · replace h := it_f c21 h
        have hb := bk_x h hg_5
        exact hb
      · replace h := it_t c21 h
        replace h := ir_x h hg_5
        refine x_iconst (v := (0 : Int32)) hC dX5_isWeek_34 (by decide) ?_
        exact x_zret hC hQ (by decide) (z_N (Option.some.inj h)) (Nat.le_of_ble_eq_true rfl) (Nat.le_of_ble_eq_true rfl) dX5_isWeek_35
    · replace h := it_t c17 h
      replace h := ir_x h hg_5
      refine x_iconst (v := (1 : Int32)) hC dX5_isWeek_23 (by decide) ?_
      exact x_zret hC hQ (by decide) (z_N (Option.some.inj h)) (Nat.le_of_ble_eq_true rfl) (Nat.le_of_ble_eq_true rfl) dX5_isWeek_24
theorem dX5_firstError_0 : decode cX5_firstError 0 = .ok (.aload_n 0, 1) := by decide +kernel
theorem dX5_firstError_1 : decode cX5_firstError 1 = .ok (.iconst 0, 1) := by decide +kernel
theorem dX5_firstError_2 : decode cX5_firstError 2 = .ok (.putfield 23, 3) := by decide +kernel
theorem dX5_firstError_5 : decode cX5_firstError 5 = .ok (.aload_n 0, 1) := by decide +kernel
theorem dX5_firstError_6 : decode cX5_firstError 6 = .ok (.invokevirtual 160, 3) := by decide +kernel
theorem dX5_firstError_9 : decode cX5_firstError 9 = .ok (.pop, 1) := by decide +kernel
theorem dX5_firstError_10 : decode cX5_firstError 10 = .ok (.aload_n 0, 1) := by decide +kernel
theorem dX5_firstError_11 : decode cX5_firstError 11 = .ok (.getfield 129, 3) := by decide +kernel
theorem dX5_firstError_14 : decode cX5_firstError 14 = .ok (.ireturn, 1) := by decide +kernel
set_option maxRecDepth 100000 in
set_option maxHeartbeats 4000000 in
theorem mt_X5_firstError (r0 : Option Nat) (S0 : PH) (y : Int32 × PH) (h : m_X5_firstError r0 S0 = some y) : MT yX5_firstError (.code yX5_firstError cX5_firstError 1 (Option.some FieldType.int)) 6 126 0 0 [va_rf r0] S0 (oQ e_I (qN y)) := by
  refine mt_of (own := RX5) (l0 := [(0, va_rf r0)]) rfl rfl (by cases r0 <;> exact Nat.le_of_ble_eq_true rfl) (by cases r0 <;> rfl) ?_
  intro Z hC hQ hE hN
  unfold m_X5_firstError at h
  refine x_aload_n (i := 0) hC dX5_firstError_0 rfl 0 rfl ?_
  refine x_iconst (v := (0 : Int32)) hC dX5_firstError_1 (by decide) ?_
  replace h := dr_el h
  obtain ⟨a1, ea2, ha3, h⟩ := h
  replace h := le_el h
  obtain ⟨S4, hx5, h⟩ := h
  refine x_putI hC ea2 ha3 kf_5 0 (by decide) rfl rfl q_863 (Or.inl rfl) dX5_firstError_2 ?_
  refine x_tS hx5 ?_
  refine x_aload_n (i := 0) hC dX5_firstError_5 rfl 0 rfl ?_
  replace h := dr_el h
  obtain ⟨a6, ea7, ha8, h⟩ := h
  replace h := bd_el h
  obtain ⟨v9, S10, hb11, h⟩ := h
  refine x_callV hC (st := []) (mt_X5_isWeek _ _ _ hb11) ea7 ha8 kf_5 q_1079 q_1081 qs_67 q_7 q_1082 ⟨rfl, hy_X5_isWeek⟩ ⟨Nat.le_of_ble_eq_true rfl, Nat.le_of_ble_eq_true rfl⟩ ⟨Nat.le_of_ble_eq_true rfl, Nat.le_of_ble_eq_true rfl⟩ rfl (Nat.le_of_ble_eq_true rfl) dX5_firstError_6 (r_N ?_) r_NX
  show PX Z 1 S10 0 0 9 [(0, va_rf r0)] [.int v9]
  refine x_pop hC dX5_firstError_9 rfl ?_
  refine x_aload_n (i := 0) hC dX5_firstError_10 rfl 0 rfl ?_
  replace h := dr_el h
  obtain ⟨a12, ea13, ha14, h⟩ := h
  refine x_getI hC ea13 ha14 kf_5 6 (by decide) rfl q_869 dX5_firstError_11 ?_
  exact x_iret hC hQ (z_N (Option.some.inj h)) (Nat.le_of_ble_eq_true rfl) (Nat.le_of_ble_eq_true rfl) dX5_firstError_14
theorem dX5_isDone_0 : decode cX5_isDone 0 = .ok (.aload_n 0, 1) := by decide +kernel
theorem dX5_isDone_1 : decode cX5_isDone 1 = .ok (.getfield 144, 3) := by decide +kernel
theorem dX5_isDone_4 : decode cX5_isDone 4 = .ok (.bipush 100, 2) := by decide +kernel
theorem dX5_isDone_6 : decode cX5_isDone 6 = .ok (.if_icmp .eq 12, 3) := by decide +kernel
theorem dX5_isDone_9 : decode cX5_isDone 9 = .ok (.aload_n 0, 1) := by decide +kernel
theorem dX5_isDone_10 : decode cX5_isDone 10 = .ok (.getfield 144, 3) := by decide +kernel
theorem dX5_isDone_13 : decode cX5_isDone 13 = .ok (.bipush 114, 2) := by decide +kernel
theorem dX5_isDone_15 : decode cX5_isDone 15 = .ok (.if_icmp .ne 10, 3) := by decide +kernel
theorem dX5_isDone_18 : decode cX5_isDone 18 = .ok (.aload_n 0, 1) := by decide +kernel
theorem dX5_isDone_19 : decode cX5_isDone 19 = .ok (.getfield 138, 3) := by decide +kernel
theorem dX5_isDone_22 : decode cX5_isDone 22 = .ok (.goto 7, 3) := by decide +kernel
theorem dX5_isDone_25 : decode cX5_isDone 25 = .ok (.aload_n 0, 1) := by decide +kernel
theorem dX5_isDone_26 : decode cX5_isDone 26 = .ok (.getfield 141, 3) := by decide +kernel
theorem dX5_isDone_29 : decode cX5_isDone 29 = .ok (.istore_n 1, 1) := by decide +kernel
theorem dX5_isDone_30 : decode cX5_isDone 30 = .ok (.aload_n 0, 1) := by decide +kernel
theorem dX5_isDone_31 : decode cX5_isDone 31 = .ok (.getfield 144, 3) := by decide +kernel
theorem dX5_isDone_34 : decode cX5_isDone 34 = .ok (.bipush 119, 2) := by decide +kernel
theorem dX5_isDone_36 : decode cX5_isDone 36 = .ok (.if_icmp .ne 48, 3) := by decide +kernel
theorem dX5_isDone_39 : decode cX5_isDone 39 = .ok (.aload_n 0, 1) := by decide +kernel
theorem dX5_isDone_40 : decode cX5_isDone 40 = .ok (.getfield 7, 3) := by decide +kernel
theorem dX5_isDone_43 : decode cX5_isDone 43 = .ok (.iconst 1, 1) := by decide +kernel
theorem dX5_isDone_44 : decode cX5_isDone 44 = .ok (.iaload, 1) := by decide +kernel
theorem dX5_isDone_45 : decode cX5_isDone 45 = .ok (.sipush 999, 3) := by decide +kernel
theorem dX5_isDone_48 : decode cX5_isDone 48 = .ok (.if_icmp .ge 7, 3) := by decide +kernel
theorem dX5_isDone_51 : decode cX5_isDone 51 = .ok (.iconst 1, 1) := by decide +kernel
theorem dX5_isDone_52 : decode cX5_isDone 52 = .ok (.goto 4, 3) := by decide +kernel
theorem dX5_isDone_55 : decode cX5_isDone 55 = .ok (.iconst 0, 1) := by decide +kernel
theorem dX5_isDone_56 : decode cX5_isDone 56 = .ok (.istore_n 2, 1) := by decide +kernel
theorem dX5_isDone_57 : decode cX5_isDone 57 = .ok (.iload_n 2, 1) := by decide +kernel
theorem dX5_isDone_58 : decode cX5_isDone 58 = .ok (.ifCond .eq 10, 3) := by decide +kernel
theorem dX5_isDone_61 : decode cX5_isDone 61 = .ok (.aload_n 0, 1) := by decide +kernel
theorem dX5_isDone_62 : decode cX5_isDone 62 = .ok (.invokevirtual 76, 3) := by decide +kernel
theorem dX5_isDone_65 : decode cX5_isDone 65 = .ok (.goto 4, 3) := by decide +kernel
theorem dX5_isDone_68 : decode cX5_isDone 68 = .ok (.iconst 0, 1) := by decide +kernel
theorem dX5_isDone_69 : decode cX5_isDone 69 = .ok (.istore_n 3, 1) := by decide +kernel
theorem dX5_isDone_70 : decode cX5_isDone 70 = .ok (.iload_n 2, 1) := by decide +kernel
theorem dX5_isDone_71 : decode cX5_isDone 71 = .ok (.ifCond .eq 11, 3) := by decide +kernel
theorem dX5_isDone_74 : decode cX5_isDone 74 = .ok (.iload_n 3, 1) := by decide +kernel
theorem dX5_isDone_75 : decode cX5_isDone 75 = .ok (.ifCond .lt 7, 3) := by decide +kernel
theorem dX5_isDone_78 : decode cX5_isDone 78 = .ok (.iconst 1, 1) := by decide +kernel
theorem dX5_isDone_79 : decode cX5_isDone 79 = .ok (.goto 4, 3) := by decide +kernel
theorem dX5_isDone_82 : decode cX5_isDone 82 = .ok (.iconst 0, 1) := by decide +kernel
theorem dX5_isDone_83 : decode cX5_isDone 83 = .ok (.ireturn, 1) := by decide +kernel
theorem dX5_isDone_84 : decode cX5_isDone 84 = .ok (.aload_n 0, 1) := by decide +kernel
theorem dX5_isDone_85 : decode cX5_isDone 85 = .ok (.iload_n 1, 1) := by decide +kernel
theorem dX5_isDone_86 : decode cX5_isDone 86 = .ok (.invokevirtual 96, 3) := by decide +kernel
theorem dX5_isDone_89 : decode cX5_isDone 89 = .ok (.ifCond .ne 5, 3) := by decide +kernel
theorem dX5_isDone_92 : decode cX5_isDone 92 = .ok (.iconst 0, 1) := by decide +kernel
theorem dX5_isDone_93 : decode cX5_isDone 93 = .ok (.ireturn, 1) := by decide +kernel
theorem dX5_isDone_94 : decode cX5_isDone 94 = .ok (.aload_n 0, 1) := by decide +kernel
theorem dX5_isDone_95 : decode cX5_isDone 95 = .ok (.getfield 144, 3) := by decide +kernel
theorem dX5_isDone_98 : decode cX5_isDone 98 = .ok (.lookupswitch 135 #[(100, 60), (114, 76), (115, 92), (116, 42)], 42) := by decide +kernel
theorem dX5_isDone_140 : decode cX5_isDone 140 = .ok (.aload_n 0, 1) := by decide +kernel
theorem dX5_isDone_141 : decode cX5_isDone 141 = .ok (.aload_n 0, 1) := by decide +kernel
theorem dX5_isDone_142 : decode cX5_isDone 142 = .ok (.getfield 138, 3) := by decide +kernel
theorem dX5_isDone_145 : decode cX5_isDone 145 = .ok (.iload_n 1, 1) := by decide +kernel
theorem dX5_isDone_146 : decode cX5_isDone 146 = .ok (.invokevirtual 99, 3) := by decide +kernel
theorem dX5_isDone_149 : decode cX5_isDone 149 = .ok (.ifCond .ne 7, 3) := by decide +kernel
theorem dX5_isDone_152 : decode cX5_isDone 152 = .ok (.iconst 1, 1) := by decide +kernel
theorem dX5_isDone_153 : decode cX5_isDone 153 = .ok (.goto 4, 3) := by decide +kernel
theorem dX5_isDone_156 : decode cX5_isDone 156 = .ok (.iconst 0, 1) := by decide +kernel
theorem dX5_isDone_157 : decode cX5_isDone 157 = .ok (.ireturn, 1) := by decide +kernel
theorem dX5_isDone_158 : decode cX5_isDone 158 = .ok (.aload_n 0, 1) := by decide +kernel
theorem dX5_isDone_159 : decode cX5_isDone 159 = .ok (.iload_n 1, 1) := by decide +kernel
theorem dX5_isDone_160 : decode cX5_isDone 160 = .ok (.invokevirtual 114, 3) := by decide +kernel
theorem dX5_isDone_163 : decode cX5_isDone 163 = .ok (.bipush 10, 2) := by decide +kernel
theorem dX5_isDone_165 : decode cX5_isDone 165 = .ok (.if_icmp .lt 7, 3) := by decide +kernel
theorem dX5_isDone_168 : decode cX5_isDone 168 = .ok (.iconst 1, 1) := by decide +kernel
theorem dX5_isDone_169 : decode cX5_isDone 169 = .ok (.goto 4, 3) := by decide +kernel
theorem dX5_isDone_172 : decode cX5_isDone 172 = .ok (.iconst 0, 1) := by decide +kernel
theorem dX5_isDone_173 : decode cX5_isDone 173 = .ok (.ireturn, 1) := by decide +kernel
theorem dX5_isDone_174 : decode cX5_isDone 174 = .ok (.aload_n 0, 1) := by decide +kernel
theorem dX5_isDone_175 : decode cX5_isDone 175 = .ok (.iload_n 1, 1) := by decide +kernel
theorem dX5_isDone_176 : decode cX5_isDone 176 = .ok (.invokevirtual 120, 3) := by decide +kernel
theorem dX5_isDone_179 : decode cX5_isDone 179 = .ok (.bipush 10, 2) := by decide +kernel
theorem dX5_isDone_181 : decode cX5_isDone 181 = .ok (.if_icmp .lt 7, 3) := by decide +kernel
theorem dX5_isDone_184 : decode cX5_isDone 184 = .ok (.iconst 1, 1) := by decide +kernel
theorem dX5_isDone_185 : decode cX5_isDone 185 = .ok (.goto 4, 3) := by decide +kernel
theorem dX5_isDone_188 : decode cX5_isDone 188 = .ok (.iconst 0, 1) := by decide +kernel
theorem dX5_isDone_189 : decode cX5_isDone 189 = .ok (.ireturn, 1) := by decide +kernel
theorem dX5_isDone_190 : decode cX5_isDone 190 = .ok (.aload_n 0, 1) := by decide +kernel
theorem dX5_isDone_191 : decode cX5_isDone 191 = .ok (.aload_n 0, 1) := by decide +kernel
theorem dX5_isDone_192 : decode cX5_isDone 192 = .ok (.getfield 138, 3) := by decide +kernel
theorem dX5_isDone_195 : decode cX5_isDone 195 = .ok (.iload_n 1, 1) := by decide +kernel
theorem dX5_isDone_196 : decode cX5_isDone 196 = .ok (.invokevirtual 102, 3) := by decide +kernel
theorem dX5_isDone_199 : decode cX5_isDone 199 = .ok (.istore_n 2, 1) := by decide +kernel
theorem dX5_isDone_200 : decode cX5_isDone 200 = .ok (.aload_n 0, 1) := by decide +kernel
theorem dX5_isDone_201 : decode cX5_isDone 201 = .ok (.iload_n 1, 1) := by decide +kernel
theorem dX5_isDone_202 : decode cX5_isDone 202 = .ok (.iconst 5, 1) := by decide +kernel
theorem dX5_isDone_203 : decode cX5_isDone 203 = .ok (.aload_n 0, 1) := by decide +kernel
theorem dX5_isDone_204 : decode cX5_isDone 204 = .ok (.getfield 138, 3) := by decide +kernel
theorem dX5_isDone_207 : decode cX5_isDone 207 = .ok (.iadd, 1) := by decide +kernel
theorem dX5_isDone_208 : decode cX5_isDone 208 = .ok (.iload_n 2, 1) := by decide +kernel
theorem dX5_isDone_209 : decode cX5_isDone 209 = .ok (.ifCond .eq 10, 3) := by decide +kernel
theorem dX5_isDone_212 : decode cX5_isDone 212 = .ok (.aload_n 0, 1) := by decide +kernel
theorem dX5_isDone_213 : decode cX5_isDone 213 = .ok (.getfield 154, 3) := by decide +kernel
theorem dX5_isDone_216 : decode cX5_isDone 216 = .ok (.goto 12, 3) := by decide +kernel
theorem dX5_isDone_219 : decode cX5_isDone 219 = .ok (.aload_n 0, 1) := by decide +kernel
theorem dX5_isDone_220 : decode cX5_isDone 220 = .ok (.aload_n 0, 1) := by decide +kernel
theorem dX5_isDone_221 : decode cX5_isDone 221 = .ok (.getfield 138, 3) := by decide +kernel
theorem dX5_isDone_224 : decode cX5_isDone 224 = .ok (.iload_n 1, 1) := by decide +kernel
theorem dX5_isDone_225 : decode cX5_isDone 225 = .ok (.invokevirtual 35, 3) := by decide +kernel
theorem dX5_isDone_228 : decode cX5_isDone 228 = .ok (.invokevirtual 63, 3) := by decide +kernel
theorem dX5_isDone_231 : decode cX5_isDone 231 = .ok (.iload_n 2, 1) := by decide +kernel
theorem dX5_isDone_232 : decode cX5_isDone 232 = .ok (.ireturn, 1) := by decide +kernel
theorem dX5_isDone_233 : decode cX5_isDone 233 = .ok (.aload_n 0, 1) := by decide +kernel
theorem dX5_isDone_234 : decode cX5_isDone 234 = .ok (.aload_n 0, 1) := by decide +kernel
theorem dX5_isDone_235 : decode cX5_isDone 235 = .ok (.getfield 138, 3) := by decide +kernel
theorem dX5_isDone_238 : decode cX5_isDone 238 = .ok (.iload_n 1, 1) := by decide +kernel
theorem dX5_isDone_239 : decode cX5_isDone 239 = .ok (.invokevirtual 35, 3) := by decide +kernel
theorem dX5_isDone_242 : decode cX5_isDone 242 = .ok (.bipush 10, 2) := by decide +kernel
theorem dX5_isDone_244 : decode cX5_isDone 244 = .ok (.if_icmp .ne 7, 3) := by decide +kernel
theorem dX5_isDone_247 : decode cX5_isDone 247 = .ok (.iconst 1, 1) := by decide +kernel
theorem dX5_isDone_248 : decode cX5_isDone 248 = .ok (.goto 4, 3) := by decide +kernel
theorem dX5_isDone_251 : decode cX5_isDone 251 = .ok (.iconst 0, 1) := by decide +kernel
theorem dX5_isDone_252 : decode cX5_isDone 252 = .ok (.istore_n 3, 1) := by decide +kernel
theorem dX5_isDone_253 : decode cX5_isDone 253 = .ok (.iload_n 3, 1) := by decide +kernel
theorem dX5_isDone_254 : decode cX5_isDone 254 = .ok (.ifCond .eq 12, 3) := by decide +kernel
theorem dX5_isDone_257 : decode cX5_isDone 257 = .ok (.aload_n 0, 1) := by decide +kernel
theorem dX5_isDone_258 : decode cX5_isDone 258 = .ok (.aload_n 0, 1) := by decide +kernel
theorem dX5_isDone_259 : decode cX5_isDone 259 = .ok (.getfield 138, 3) := by decide +kernel
theorem dX5_isDone_262 : decode cX5_isDone 262 = .ok (.iload_n 1, 1) := by decide +kernel
theorem dX5_isDone_263 : decode cX5_isDone 263 = .ok (.invokevirtual 105, 3) := by decide +kernel
theorem dX5_isDone_266 : decode cX5_isDone 266 = .ok (.iload_n 3, 1) := by decide +kernel
theorem dX5_isDone_267 : decode cX5_isDone 267 = .ok (.ireturn, 1) := by decide +kernel
set_option maxRecDepth 100000 in
set_option maxHeartbeats 4000000 in
theorem mt_X5_isDone (r0 : Option Nat) (S0 : PH) (y : Int32 × PH) (h : m_X5_isDone r0 S0 = some y) : MT yX5_isDone (.code yX5_isDone cX5_isDone 4 (Option.some FieldType.boolean)) 6 140 0 0 [va_rf r0] S0 (oQ e_I (qN y)) := by
  refine mt_of (own := RX5) (l0 := [(0, va_rf r0)]) rfl rfl (by cases r0 <;> exact Nat.le_of_ble_eq_true rfl) (by cases r0 <;> rfl) ?_
  intro Z hC hQ hE hN
  have J_69 : ∀ (v85 : Int32) (v86 : Int32) (S87 : PH), j_X5_isDone_69 r0 v85 v86 S87 = some y → PX Z 4 S87 0 0 69 [(0, va_rf r0), (2, .int v85)] [.int v86] := by
    intro v85 v86 S87 h
    unfold j_X5_isDone_69 at h
    refine x_istore_n (i := 3) (l' := [(3, .int v86), (0, va_rf r0), (2, .int v85)]) hC dX5_isDone_69 rfl (⟨fun _ => c_rf r0, ⟨fun _ => rfl, trivial⟩⟩) (by decide) rfl ?_
    refine x_iload_n (i := 2) hC dX5_isDone_70 rfl 2 rfl ?_
    refine x_if_eq (t := 82) hC dX5_isDone_71 (by decide) (fun c88 => ?_) (fun c88 => ?_)
    · replace h := it_t c88 h
      refine x_iconst (v := (0 : Int32)) hC dX5_isDone_82 (by decide) ?_
      exact x_zret hC hQ (by decide) (z_N (Option.some.inj h)) (Nat.le_of_ble_eq_true rfl) (Nat.le_of_ble_eq_true rfl) dX5_isDone_83
    · replace h := it_f c88 h
      refine x_iload_n (i := 3) hC dX5_isDone_74 rfl 0 rfl ?_
      refine x_if_lt (t := 82) hC dX5_isDone_75 (by decide) (fun c89 => ?_) (fun c89 => ?_)
      · replace h := it_t c89 h
        refine x_iconst (v := (0 : Int32)) hC dX5_isDone_82 (by decide) ?_
        exact x_zret hC hQ (by decide) (z_N (Option.some.inj h)) (Nat.le_of_ble_eq_true rfl) (Nat.le_of_ble_eq_true rfl) dX5_isDone_83
      · replace h := it_f c89 h
        refine x_iconst (v := (1 : Int32)) hC dX5_isDone_78 (by decide) ?_
        refine x_goto (t := 83) hC dX5_isDone_79 (by decide) ?_
        exact x_zret hC hQ (by decide) (z_N (Option.some.inj h)) (Nat.le_of_ble_eq_true rfl) (Nat.le_of_ble_eq_true rfl) dX5_isDone_83
  have J_56 : ∀ (v82 : Int32) (S83 : PH), j_X5_isDone_56 r0 v82 S83 = some y → PX Z 4 S83 0 0 56 [(0, va_rf r0)] [.int v82] := by
    intro v82 S83 h
    unfold j_X5_isDone_56 at h
    refine x_istore_n (i := 2) (l' := [(2, .int v82), (0, va_rf r0)]) hC dX5_isDone_56 rfl (⟨fun _ => c_rf r0, trivial⟩) (by decide) rfl ?_
    refine x_iload_n (i := 2) hC dX5_isDone_57 rfl 0 rfl ?_
    refine x_if_eq (t := 68) hC dX5_isDone_58 (by decide) (fun c84 => ?_) (fun c84 => ?_)
    · replace h := it_t c84 h
      refine x_iconst (v := (0 : Int32)) hC dX5_isDone_68 (by decide) ?_
      refine x_sub (l' := [(0, va_rf r0), (2, .int v82)]) [1, 0] rfl ?_
      exact J_69 _ _ _ h
    · replace h := it_f c84 h
      refine x_aload_n (i := 0) hC dX5_isDone_61 rfl 1 rfl ?_
      replace h := dr_el h
      obtain ⟨a90, ea91, ha92, h⟩ := h
      replace h := bd_el h
      obtain ⟨v93, S94, hb95, h⟩ := h
      refine x_callV hC (st := []) (mt_X5_weekGoes _ _ _ hb95) ea91 ha92 kf_5 q_957 q_959 qs_47 q_7 q_960 ⟨rfl, hy_X5_weekGoes⟩ ⟨Nat.le_of_ble_eq_true rfl, Nat.le_of_ble_eq_true rfl⟩ ⟨Nat.le_of_ble_eq_true rfl, Nat.le_of_ble_eq_true rfl⟩ rfl (Nat.le_of_ble_eq_true rfl) dX5_isDone_62 (r_N ?_) r_NX
      show PX Z 4 S94 0 0 65 [(2, .int v82), (0, va_rf r0)] [.int v93]
      refine x_goto (t := 69) hC dX5_isDone_65 (by decide) ?_
      refine x_sub (l' := [(0, va_rf r0), (2, .int v82)]) [1, 0] rfl ?_
      exact J_69 _ _ _ h
  have J_252 : ∀ (v65 : Int32) (v66 : Int32) (S67 : PH), j_X5_isDone_252 r0 v65 v66 S67 = some y → PX Z 4 S67 0 0 252 [(0, va_rf r0), (1, .int v65)] [.int v66] := by
    intro v65 v66 S67 h
    unfold j_X5_isDone_252 at h
    refine x_istore_n (i := 3) (l' := [(3, .int v66), (0, va_rf r0), (1, .int v65)]) hC dX5_isDone_252 rfl (⟨fun _ => c_rf r0, ⟨fun _ => rfl, trivial⟩⟩) (by decide) rfl ?_
    refine x_iload_n (i := 3) hC dX5_isDone_253 rfl 0 rfl ?_
    refine x_if_eq (t := 266) hC dX5_isDone_254 (by decide) (fun c68 => ?_) (fun c68 => ?_)
    · replace h := it_t c68 h
      refine x_iload_n (i := 3) hC dX5_isDone_266 rfl 0 rfl ?_
      replace h := ck_el h
      obtain ⟨hc69, h⟩ := h
      exact x_zret hC hQ (of_decide_eq_true hc69) (z_N (Option.some.inj h)) (Nat.le_of_ble_eq_true rfl) (Nat.le_of_ble_eq_true rfl) dX5_isDone_267
    · replace h := it_f c68 h
      refine x_aload_n (i := 0) hC dX5_isDone_257 rfl 1 rfl ?_
      refine x_aload_n (i := 0) hC dX5_isDone_258 rfl 1 rfl ?_
      replace h := dr_el h
      obtain ⟨a70, ea71, ha72, h⟩ := h
      refine x_getI hC ea71 ha72 kf_5 8 (by decide) rfl q_871 dX5_isDone_259 ?_
      refine x_iload_n (i := 1) hC dX5_isDone_262 rfl 2 rfl ?_
      replace h := bd_el h
      obtain ⟨v73, S74, hb75, h⟩ := h
      refine x_callV hC (st := []) (mt_X5_drops _ _ _ _ _ hb75) ea71 ha72 kf_5 q_1027 q_1029 qs_60 q_7 q_1030 ⟨rfl, hy_X5_drops⟩ ⟨Nat.le_of_ble_eq_true rfl, Nat.le_of_ble_eq_true rfl⟩ ⟨Nat.le_of_ble_eq_true rfl, Nat.le_of_ble_eq_true rfl⟩ rfl (Nat.le_of_ble_eq_true rfl) dX5_isDone_263 (r_N ?_) r_NX
      show PX Z 4 S74 0 0 266 [(3, .int v66), (0, va_rf r0), (1, .int v65)] []
      refine x_iload_n (i := 3) hC dX5_isDone_266 rfl 0 rfl ?_
      replace h := ck_el h
      obtain ⟨hc76, h⟩ := h
      exact x_zret hC hQ (of_decide_eq_true hc76) (z_N (Option.some.inj h)) (Nat.le_of_ble_eq_true rfl) (Nat.le_of_ble_eq_true rfl) dX5_isDone_267
  have J_228 : ∀ (v43 : Int32) (v44 : Option Nat) (v45 : Int32) (v46 : Int32) (v47 : Int32) (S48 : PH), j_X5_isDone_228 r0 v43 v44 v45 v46 v47 S48 = some y → PX Z 4 S48 0 0 228 [(0, va_rf r0), (2, .int v43)] [.int v47, .int v46, .int v45, va_rf v44] := by
    intro v43 v44 v45 v46 v47 S48 h
    unfold j_X5_isDone_228 at h
    replace h := dr_el h
    obtain ⟨a49, ea50, ha51, h⟩ := h
    replace h := bd_el h
    obtain ⟨v52, S53, hb54, h⟩ := h
    refine x_callV hC (st := []) (mt_X5_lay _ _ _ _ _ _ hb54) ea50 ha51 kf_5 q_927 q_929 qs_46 q_7 q_930 ⟨rfl, hy_X5_lay⟩ ⟨Nat.le_of_ble_eq_true rfl, Nat.le_of_ble_eq_true rfl⟩ ⟨Nat.le_of_ble_eq_true rfl, Nat.le_of_ble_eq_true rfl⟩ rfl (Nat.le_of_ble_eq_true rfl) dX5_isDone_228 (r_N ?_) r_NX
    show PX Z 4 S53 0 0 231 [(0, va_rf r0), (2, .int v43)] []
    refine x_iload_n (i := 2) hC dX5_isDone_231 rfl 1 rfl ?_
    replace h := ck_el h
    obtain ⟨hc55, h⟩ := h
    exact x_zret hC hQ (of_decide_eq_true hc55) (z_N (Option.some.inj h)) (Nat.le_of_ble_eq_true rfl) (Nat.le_of_ble_eq_true rfl) dX5_isDone_232
  have J_29 : ∀ (v9 : Int32) (S10 : PH), j_X5_isDone_29 r0 v9 S10 = some y → PX Z 4 S10 0 0 29 [(0, va_rf r0)] [.int v9] := by
    intro v9 S10 h
    unfold j_X5_isDone_29 at h
    refine x_istore_n (i := 1) (l' := [(1, .int v9), (0, va_rf r0)]) hC dX5_isDone_29 rfl (⟨fun _ => c_rf r0, trivial⟩) (by decide) rfl ?_
    refine x_aload_n (i := 0) hC dX5_isDone_30 rfl 1 rfl ?_
    replace h := dr_el h
    obtain ⟨a11, ea12, ha13, h⟩ := h
    refine x_getI hC ea12 ha13 kf_5 7 (by decide) rfl q_870 dX5_isDone_31 ?_
    refine x_bipush (v := (119 : Int32)) hC dX5_isDone_34 (by decide) ?_
    refine x_icmp_ne (t := 84) hC dX5_isDone_36 (by decide) (fun c14 => ?_) (fun c14 => ?_)
    · replace h := it_f c14 h
      refine x_aload_n (i := 0) hC dX5_isDone_84 rfl 1 rfl ?_
      refine x_iload_n (i := 1) hC dX5_isDone_85 rfl 0 rfl ?_
      replace h := bd_el h
      obtain ⟨v15, S16, hb17, h⟩ := h
      refine x_callV hC (st := []) (mt_X5_isPaper _ _ _ _ hb17) ea12 ha13 kf_5 q_969 q_971 qs_49 q_7 q_972 ⟨rfl, hy_X5_isPaper⟩ ⟨Nat.le_of_ble_eq_true rfl, Nat.le_of_ble_eq_true rfl⟩ ⟨Nat.le_of_ble_eq_true rfl, Nat.le_of_ble_eq_true rfl⟩ rfl (Nat.le_of_ble_eq_true rfl) dX5_isDone_86 (r_N ?_) r_NX
      show PX Z 4 S16 0 0 89 [(1, .int v9), (0, va_rf r0)] [.int v15]
      refine x_if_ne (t := 94) hC dX5_isDone_89 (by decide) (fun c18 => ?_) (fun c18 => ?_)
      · replace h := it_f c18 h
        refine x_aload_n (i := 0) hC dX5_isDone_94 rfl 1 rfl ?_
        replace h := dr_el h
        obtain ⟨a19, ea20, ha21, h⟩ := h
        refine x_getI hC ea20 ha21 kf_5 7 (by decide) rfl q_870 dX5_isDone_95 ?_
        rcases Decidable.em ((p_I S16 a19 7) = (100 : Int32)) with c22 | c22
        · replace h := it_t c22 h
          refine x_lookup (off := 60) (t := 158) hC dX5_isDone_98 (by decide) (by rw [c22]; decide) (by decide) ?_
          refine x_aload_n (i := 0) hC dX5_isDone_158 rfl 1 rfl ?_
          refine x_iload_n (i := 1) hC dX5_isDone_159 rfl 0 rfl ?_
          replace h := bd_el h
          obtain ⟨v23, S24, hb25, h⟩ := h
          refine x_callV hC (st := []) (mt_X5_discusses _ _ _ _ hb25) ea20 ha21 kf_5 q_1035 q_1037 qs_61 q_7 q_1038 ⟨rfl, hy_X5_discusses⟩ ⟨Nat.le_of_ble_eq_true rfl, Nat.le_of_ble_eq_true rfl⟩ ⟨Nat.le_of_ble_eq_true rfl, Nat.le_of_ble_eq_true rfl⟩ rfl (Nat.le_of_ble_eq_true rfl) dX5_isDone_160 (r_N ?_) r_NX
          show PX Z 4 S24 0 0 163 [(1, .int v9), (0, va_rf r0)] [.int v23]
          refine x_bipush (v := (10 : Int32)) hC dX5_isDone_163 (by decide) ?_
          refine x_icmp_lt (t := 172) hC dX5_isDone_165 (by decide) (fun c26 => ?_) (fun c26 => ?_)
          · replace h := it_t c26 h
            refine x_iconst (v := (0 : Int32)) hC dX5_isDone_172 (by decide) ?_
            exact x_zret hC hQ (by decide) (z_N (Option.some.inj h)) (Nat.le_of_ble_eq_true rfl) (Nat.le_of_ble_eq_true rfl) dX5_isDone_173
          · replace h := it_f c26 h
            refine x_iconst (v := (1 : Int32)) hC dX5_isDone_168 (by decide) ?_
            refine x_goto (t := 173) hC dX5_isDone_169 (by decide) ?_
            exact x_zret hC hQ (by decide) (z_N (Option.some.inj h)) (Nat.le_of_ble_eq_true rfl) (Nat.le_of_ble_eq_true rfl) dX5_isDone_173
        replace h := it_f c22 h
        rcases Decidable.em ((p_I S16 a19 7) = (114 : Int32)) with c27 | c27
        · replace h := it_t c27 h
          refine x_lookup (off := 76) (t := 174) hC dX5_isDone_98 (by decide) (by rw [c27]; decide) (by decide) ?_
          refine x_aload_n (i := 0) hC dX5_isDone_174 rfl 1 rfl ?_
          refine x_iload_n (i := 1) hC dX5_isDone_175 rfl 0 rfl ?_
          replace h := bd_el h
          obtain ⟨v28, S29, hb30, h⟩ := h
          refine x_callV hC (st := []) (mt_X5_rebuts _ _ _ _ hb30) ea20 ha21 kf_5 q_1051 q_1053 qs_64 q_7 q_1054 ⟨rfl, hy_X5_rebuts⟩ ⟨Nat.le_of_ble_eq_true rfl, Nat.le_of_ble_eq_true rfl⟩ ⟨Nat.le_of_ble_eq_true rfl, Nat.le_of_ble_eq_true rfl⟩ rfl (Nat.le_of_ble_eq_true rfl) dX5_isDone_176 (r_N ?_) r_NX
          show PX Z 4 S29 0 0 179 [(1, .int v9), (0, va_rf r0)] [.int v28]
          refine x_bipush (v := (10 : Int32)) hC dX5_isDone_179 (by decide) ?_
          refine x_icmp_lt (t := 188) hC dX5_isDone_181 (by decide) (fun c31 => ?_) (fun c31 => ?_)
          · replace h := it_t c31 h
            refine x_iconst (v := (0 : Int32)) hC dX5_isDone_188 (by decide) ?_
            exact x_zret hC hQ (by decide) (z_N (Option.some.inj h)) (Nat.le_of_ble_eq_true rfl) (Nat.le_of_ble_eq_true rfl) dX5_isDone_189
          · replace h := it_f c31 h
            refine x_iconst (v := (1 : Int32)) hC dX5_isDone_184 (by decide) ?_
            refine x_goto (t := 189) hC dX5_isDone_185 (by decide) ?_
            exact x_zret hC hQ (by decide) (z_N (Option.some.inj h)) (Nat.le_of_ble_eq_true rfl) (Nat.le_of_ble_eq_true rfl) dX5_isDone_189
        replace h := it_f c27 h
        rcases Decidable.em ((p_I S16 a19 7) = (115 : Int32)) with c32 | c32
        · replace h := it_t c32 h
          refine x_lookup (off := 92) (t := 190) hC dX5_isDone_98 (by decide) (by rw [c32]; decide) (by decide) ?_
          refine x_aload_n (i := 0) hC dX5_isDone_190 rfl 1 rfl ?_
          refine x_aload_n (i := 0) hC dX5_isDone_191 rfl 1 rfl ?_
          refine x_getI hC ea20 ha21 kf_5 8 (by decide) rfl q_871 dX5_isDone_192 ?_
          refine x_iload_n (i := 1) hC dX5_isDone_195 rfl 0 rfl ?_
          replace h := bd_el h
          obtain ⟨v33, S34, hb35, h⟩ := h
          refine x_callV hC (st := []) (mt_X5_canWrite _ _ _ _ _ hb35) ea20 ha21 kf_5 q_1019 q_1021 qs_59 q_7 q_1022 ⟨rfl, hy_X5_canWrite⟩ ⟨Nat.le_of_ble_eq_true rfl, Nat.le_of_ble_eq_true rfl⟩ ⟨Nat.le_of_ble_eq_true rfl, Nat.le_of_ble_eq_true rfl⟩ rfl (Nat.le_of_ble_eq_true rfl) dX5_isDone_196 (r_N ?_) r_NX
          show PX Z 4 S34 0 0 199 [(1, .int v9), (0, va_rf r0)] [.int v33]
          refine x_istore_n (i := 2) (l' := [(2, .int v33), (1, .int v9), (0, va_rf r0)]) hC dX5_isDone_199 rfl (⟨fun _ => rfl, ⟨fun _ => c_rf r0, trivial⟩⟩) (by decide) rfl ?_
          refine x_aload_n (i := 0) hC dX5_isDone_200 rfl 2 rfl ?_
          refine x_iload_n (i := 1) hC dX5_isDone_201 rfl 1 rfl ?_
          refine x_iconst (v := (5 : Int32)) hC dX5_isDone_202 (by decide) ?_
          refine x_aload_n (i := 0) hC dX5_isDone_203 rfl 2 rfl ?_
          replace h := dr_el h
          obtain ⟨a36, ea37, ha38, h⟩ := h
          refine x_getI hC ea37 ha38 kf_5 8 (by decide) rfl q_871 dX5_isDone_204 ?_
          refine x_iadd hC dX5_isDone_207 ?_
          refine x_iload_n (i := 2) hC dX5_isDone_208 rfl 0 rfl ?_
          refine x_if_eq (t := 219) hC dX5_isDone_209 (by decide) (fun c39 => ?_) (fun c39 => ?_)
          · replace h := it_t c39 h
            refine x_aload_n (i := 0) hC dX5_isDone_219 rfl 2 rfl ?_
            refine x_aload_n (i := 0) hC dX5_isDone_220 rfl 2 rfl ?_
            refine x_getI hC ea37 ha38 kf_5 8 (by decide) rfl q_871 dX5_isDone_221 ?_
            refine x_iload_n (i := 1) hC dX5_isDone_224 rfl 1 rfl ?_
            replace h := bd_el h
            obtain ⟨v40, S41, hb42, h⟩ := h
            refine x_callV hC (st := [.int ((5 : Int32) + (p_I S34 a36 8)), .int v9, va_rf r0]) (mt_X5_scoreOf _ _ _ _ _ hb42) ea37 ha38 kf_5 q_985 q_987 qs_53 q_7 q_988 ⟨rfl, hy_X5_scoreOf⟩ ⟨Nat.le_of_ble_eq_true rfl, Nat.le_of_ble_eq_true rfl⟩ ⟨Nat.le_of_ble_eq_true rfl, Nat.le_of_ble_eq_true rfl⟩ rfl (Nat.le_of_ble_eq_true rfl) dX5_isDone_225 (r_N ?_) r_NX
            show PX Z 4 S41 0 0 228 [(2, .int v33), (1, .int v9), (0, va_rf r0)] [.int v40, .int ((5 : Int32) + (p_I S34 a36 8)), .int v9, va_rf r0]
            refine x_sub (l' := [(0, va_rf r0), (2, .int v33)]) [2, 0] rfl ?_
            exact J_228 _ _ _ _ _ _ h
          · replace h := it_f c39 h
            refine x_aload_n (i := 0) hC dX5_isDone_212 rfl 2 rfl ?_
            refine x_getI hC ea37 ha38 kf_5 10 (by decide) rfl q_873 dX5_isDone_213 ?_
            refine x_goto (t := 228) hC dX5_isDone_216 (by decide) ?_
            refine x_sub (l' := [(0, va_rf r0), (2, .int v33)]) [2, 0] rfl ?_
            exact J_228 _ _ _ _ _ _ h
        replace h := it_f c32 h
        rcases Decidable.em ((p_I S16 a19 7) = (116 : Int32)) with c56 | c56
        · replace h := it_t c56 h
          refine x_lookup (off := 42) (t := 140) hC dX5_isDone_98 (by decide) (by rw [c56]; decide) (by decide) ?_
          refine x_aload_n (i := 0) hC dX5_isDone_140 rfl 1 rfl ?_
          refine x_aload_n (i := 0) hC dX5_isDone_141 rfl 1 rfl ?_
          refine x_getI hC ea20 ha21 kf_5 8 (by decide) rfl q_871 dX5_isDone_142 ?_
          refine x_iload_n (i := 1) hC dX5_isDone_145 rfl 0 rfl ?_
          replace h := bd_el h
          obtain ⟨v57, S58, hb59, h⟩ := h
          refine x_callV hC (st := []) (mt_X5_takes _ _ _ _ _ hb59) ea20 ha21 kf_5 q_973 q_975 qs_50 q_7 q_976 ⟨rfl, hy_X5_takes⟩ ⟨Nat.le_of_ble_eq_true rfl, Nat.le_of_ble_eq_true rfl⟩ ⟨Nat.le_of_ble_eq_true rfl, Nat.le_of_ble_eq_true rfl⟩ rfl (Nat.le_of_ble_eq_true rfl) dX5_isDone_146 (r_N ?_) r_NX
          show PX Z 4 S58 0 0 149 [(1, .int v9), (0, va_rf r0)] [.int v57]
          refine x_if_ne (t := 156) hC dX5_isDone_149 (by decide) (fun c60 => ?_) (fun c60 => ?_)
          · replace h := it_f c60 h
            refine x_iconst (v := (0 : Int32)) hC dX5_isDone_156 (by decide) ?_
            exact x_zret hC hQ (by decide) (z_N (Option.some.inj h)) (Nat.le_of_ble_eq_true rfl) (Nat.le_of_ble_eq_true rfl) dX5_isDone_157
          · replace h := it_t c60 h
            refine x_iconst (v := (1 : Int32)) hC dX5_isDone_152 (by decide) ?_
            refine x_goto (t := 157) hC dX5_isDone_153 (by decide) ?_
            exact x_zret hC hQ (by decide) (z_N (Option.some.inj h)) (Nat.le_of_ble_eq_true rfl) (Nat.le_of_ble_eq_true rfl) dX5_isDone_157
        replace h := it_f c56 h
        refine x_lookup (off := 135) (t := 233) hC dX5_isDone_98 (by decide) (by show Op.lookupswitch.offset [(100, 60), (114, 76), (115, 92), (116, 42)] _ _ = _; rw [lv_osw c22 (by decide)]; rw [lv_osw c27 (by decide)]; rw [lv_osw c32 (by decide)]; rw [lv_osw c56 (by decide)]; rfl) (by decide) ?_
        refine x_aload_n (i := 0) hC dX5_isDone_233 rfl 1 rfl ?_
        refine x_aload_n (i := 0) hC dX5_isDone_234 rfl 1 rfl ?_
        refine x_getI hC ea20 ha21 kf_5 8 (by decide) rfl q_871 dX5_isDone_235 ?_
        refine x_iload_n (i := 1) hC dX5_isDone_238 rfl 0 rfl ?_
        replace h := bd_el h
        obtain ⟨v61, S62, hb63, h⟩ := h
        refine x_callV hC (st := []) (mt_X5_scoreOf _ _ _ _ _ hb63) ea20 ha21 kf_5 q_985 q_987 qs_53 q_7 q_988 ⟨rfl, hy_X5_scoreOf⟩ ⟨Nat.le_of_ble_eq_true rfl, Nat.le_of_ble_eq_true rfl⟩ ⟨Nat.le_of_ble_eq_true rfl, Nat.le_of_ble_eq_true rfl⟩ rfl (Nat.le_of_ble_eq_true rfl) dX5_isDone_239 (r_N ?_) r_NX
        show PX Z 4 S62 0 0 242 [(1, .int v9), (0, va_rf r0)] [.int v61]
        refine x_bipush (v := (10 : Int32)) hC dX5_isDone_242 (by decide) ?_
        refine x_icmp_ne (t := 251) hC dX5_isDone_244 (by decide) (fun c64 => ?_) (fun c64 => ?_)
        · replace h := it_f c64 h
          refine x_iconst (v := (0 : Int32)) hC dX5_isDone_251 (by decide) ?_
          refine x_sub (l' := [(0, va_rf r0), (1, .int v9)]) [1, 0] rfl ?_
          exact J_252 _ _ _ h
        · replace h := it_t c64 h
          refine x_iconst (v := (1 : Int32)) hC dX5_isDone_247 (by decide) ?_
          refine x_goto (t := 252) hC dX5_isDone_248 (by decide) ?_
          refine x_sub (l' := [(0, va_rf r0), (1, .int v9)]) [1, 0] rfl ?_
          exact J_252 _ _ _ h
      · replace h := it_t c18 h
        refine x_iconst (v := (0 : Int32)) hC dX5_isDone_92 (by decide) ?_
        exact x_zret hC hQ (by decide) (z_N (Option.some.inj h)) (Nat.le_of_ble_eq_true rfl) (Nat.le_of_ble_eq_true rfl) dX5_isDone_93
    · replace h := it_t c14 h
      refine x_aload_n (i := 0) hC dX5_isDone_39 rfl 1 rfl ?_
      refine x_getR hC ea12 ha13 kf_5 1 (by decide) rfl q_864 dX5_isDone_40 ?_
      refine x_iconst (v := (1 : Int32)) hC dX5_isDone_43 (by decide) ?_
      replace h := dr_el h
      obtain ⟨a77, ea78, ha79, h⟩ := h
      replace h := ck_el h
      obtain ⟨hc80, h⟩ := h
      refine x_iaload hC ea78 ha79 hc80 dX5_isDone_44 ?_
      refine x_tI (b := (p_I S10 a77 1)) rfl ?_
      refine x_sipush (v := (999 : Int32)) hC dX5_isDone_45 (by decide) ?_
      refine x_icmp_ge (t := 55) hC dX5_isDone_48 (by decide) (fun c81 => ?_) (fun c81 => ?_)
      · replace h := it_t c81 h
        refine x_iconst (v := (0 : Int32)) hC dX5_isDone_55 (by decide) ?_
        refine x_sub (l' := [(0, va_rf r0)]) [1] rfl ?_
        exact J_56 _ _ h
      · replace h := it_f c81 h
        refine x_iconst (v := (1 : Int32)) hC dX5_isDone_51 (by decide) ?_
        refine x_goto (t := 56) hC dX5_isDone_52 (by decide) ?_
        refine x_sub (l' := [(0, va_rf r0)]) [1] rfl ?_
        exact J_56 _ _ h
  have J_18 : ∀ (S5 : PH), j_X5_isDone_18 r0 S5 = some y → PX Z 4 S5 0 0 18 [(0, va_rf r0)] [] := by
    intro S5 h
    unfold j_X5_isDone_18 at h
    refine x_aload_n (i := 0) hC dX5_isDone_18 rfl 0 rfl ?_
    replace h := dr_el h
    obtain ⟨a6, ea7, ha8, h⟩ := h
    refine x_getI hC ea7 ha8 kf_5 8 (by decide) rfl q_871 dX5_isDone_19 ?_
    refine x_goto (t := 29) hC dX5_isDone_22 (by decide) ?_
    exact J_29 _ _ h
  unfold m_X5_isDone at h
  refine x_aload_n (i := 0) hC dX5_isDone_0 rfl 0 rfl ?_
  replace h := dr_el h
  obtain ⟨a1, ea2, ha3, h⟩ := h
  refine x_getI hC ea2 ha3 kf_5 7 (by decide) rfl q_870 dX5_isDone_1 ?_
  refine x_bipush (v := (100 : Int32)) hC dX5_isDone_4 (by decide) ?_
  refine x_icmp_eq (t := 18) hC dX5_isDone_6 (by decide) (fun c4 => ?_) (fun c4 => ?_)
  · replace h := it_t c4 h
    exact J_18 _ h
  · replace h := it_f c4 h
    refine x_aload_n (i := 0) hC dX5_isDone_9 rfl 0 rfl ?_
    refine x_getI hC ea2 ha3 kf_5 7 (by decide) rfl q_870 dX5_isDone_10 ?_
    refine x_bipush (v := (114 : Int32)) hC dX5_isDone_13 (by decide) ?_
    refine x_icmp_ne (t := 25) hC dX5_isDone_15 (by decide) (fun c96 => ?_) (fun c96 => ?_)
    · replace h := it_f c96 h
      refine x_aload_n (i := 0) hC dX5_isDone_25 rfl 0 rfl ?_
      refine x_getI hC ea2 ha3 kf_5 9 (by decide) rfl q_872 dX5_isDone_26 ?_
      exact J_29 _ _ h
    · replace h := it_t c96 h
      exact J_18 _ h
theorem dX5_run_0 : decode cX5_run 0 = .ok (.aload_n 0, 1) := by decide +kernel
theorem dX5_run_1 : decode cX5_run 1 = .ok (.aload_n 0, 1) := by decide +kernel
theorem dX5_run_2 : decode cX5_run 2 = .ok (.invokevirtual 160, 3) := by decide +kernel
theorem dX5_run_5 : decode cX5_run 5 = .ok (.ifCond .eq 7, 3) := by decide +kernel
theorem dX5_run_8 : decode cX5_run 8 = .ok (.iconst 0, 1) := by decide +kernel
theorem dX5_run_9 : decode cX5_run 9 = .ok (.goto 4, 3) := by decide +kernel
theorem dX5_run_12 : decode cX5_run 12 = .ok (.iconst 1, 1) := by decide +kernel
theorem dX5_run_13 : decode cX5_run 13 = .ok (.invokevirtual 56, 3) := by decide +kernel
theorem dX5_run_16 : decode cX5_run 16 = .ok (.ifCond .ne 5, 3) := by decide +kernel
theorem dX5_run_19 : decode cX5_run 19 = .ok (.iconst 0, 1) := by decide +kernel
theorem dX5_run_20 : decode cX5_run 20 = .ok (.ireturn, 1) := by decide +kernel
theorem dX5_run_21 : decode cX5_run 21 = .ok (.aload_n 0, 1) := by decide +kernel
theorem dX5_run_22 : decode cX5_run 22 = .ok (.invokevirtual 60, 3) := by decide +kernel
theorem dX5_run_25 : decode cX5_run 25 = .ok (.aload_n 0, 1) := by decide +kernel
theorem dX5_run_26 : decode cX5_run 26 = .ok (.iconst 0, 1) := by decide +kernel
theorem dX5_run_27 : decode cX5_run 27 = .ok (.putfield 129, 3) := by decide +kernel
theorem dX5_run_30 : decode cX5_run 30 = .ok (.iconst 0, 1) := by decide +kernel
theorem dX5_run_31 : decode cX5_run 31 = .ok (.istore_n 1, 1) := by decide +kernel
theorem dX5_run_32 : decode cX5_run 32 = .ok (.aload_n 0, 1) := by decide +kernel
theorem dX5_run_33 : decode cX5_run 33 = .ok (.invokevirtual 157, 3) := by decide +kernel
theorem dX5_run_36 : decode cX5_run 36 = .ok (.ifCond .eq 23, 3) := by decide +kernel
theorem dX5_run_39 : decode cX5_run 39 = .ok (.aload_n 0, 1) := by decide +kernel
theorem dX5_run_40 : decode cX5_run 40 = .ok (.invokevirtual 163, 3) := by decide +kernel
theorem dX5_run_43 : decode cX5_run 43 = .ok (.ifCond .eq 16, 3) := by decide +kernel
theorem dX5_run_46 : decode cX5_run 46 = .ok (.iinc 1 1, 3) := by decide +kernel
theorem dX5_run_49 : decode cX5_run 49 = .ok (.aload_n 0, 1) := by decide +kernel
theorem dX5_run_50 : decode cX5_run 50 = .ok (.bipush 59, 2) := by decide +kernel
theorem dX5_run_52 : decode cX5_run 52 = .ok (.invokevirtual 147, 3) := by decide +kernel
theorem dX5_run_55 : decode cX5_run 55 = .ok (.pop, 1) := by decide +kernel
theorem dX5_run_56 : decode cX5_run 56 = .ok (.goto (-24), 3) := by decide +kernel
theorem dX5_run_59 : decode cX5_run 59 = .ok (.aload_n 0, 1) := by decide +kernel
theorem dX5_run_60 : decode cX5_run 60 = .ok (.iconst 0, 1) := by decide +kernel
theorem dX5_run_61 : decode cX5_run 61 = .ok (.putfield 126, 3) := by decide +kernel
theorem dX5_run_64 : decode cX5_run 64 = .ok (.iload_n 1, 1) := by decide +kernel
theorem dX5_run_65 : decode cX5_run 65 = .ok (.ireturn, 1) := by decide +kernel
set_option maxRecDepth 100000 in
set_option maxHeartbeats 4000000 in
theorem mt_X5_run (r0 : Option Nat) (S0 : PH) (y : Int32 × PH) (h : m_X5_run r0 S0 = some y) : MT yX5_run (.code yX5_run cX5_run 2 (Option.some FieldType.int)) 7 163 0 0 [va_rf r0] S0 (oQ e_I (qN y)) := by
  refine mt_of (own := RX5) (l0 := [(0, va_rf r0)]) rfl rfl (by cases r0 <;> exact Nat.le_of_ble_eq_true rfl) (by cases r0 <;> rfl) ?_
  intro Z hC hQ hE hN
  have J_59 : ∀ (v38 : Int32) (S39 : PH), j_X5_run_59 r0 v38 S39 = some y → PX Z 2 S39 0 0 59 [(0, va_rf r0), (1, .int v38)] [] := by
    intro v38 S39 h
    unfold j_X5_run_59 at h
    refine x_aload_n (i := 0) hC dX5_run_59 rfl 0 rfl ?_
    refine x_iconst (v := (0 : Int32)) hC dX5_run_60 (by decide) ?_
    replace h := dr_el h
    obtain ⟨a40, ea41, ha42, h⟩ := h
    replace h := le_el h
    obtain ⟨S43, hx44, h⟩ := h
    refine x_putI hC ea41 ha42 kf_5 5 (by decide) rfl rfl q_868 (Or.inl rfl) dX5_run_61 ?_
    refine x_tS hx44 ?_
    refine x_iload_n (i := 1) hC dX5_run_64 rfl 1 rfl ?_
    exact x_iret hC hQ (z_N (Option.some.inj h)) (Nat.le_of_ble_eq_true rfl) (Nat.le_of_ble_eq_true rfl) dX5_run_65
  have J_13 : ∀ (v8 : Option Nat) (v9 : Int32) (S10 : PH), j_X5_run_13 r0 v8 v9 S10 = some y → PX Z 2 S10 0 0 13 [(0, va_rf r0)] [.int v9, va_rf v8] := by
    intro v8 v9 S10 h
    unfold j_X5_run_13 at h
    replace h := dr_el h
    obtain ⟨a11, ea12, ha13, h⟩ := h
    replace h := bd_el h
    obtain ⟨v14, S15, hb16, h⟩ := h
    refine x_callV hC (st := []) (mt_X5_holds _ _ _ _ hb16) ea12 ha13 kf_5 q_915 q_917 qs_43 q_7 q_918 ⟨rfl, hy_X5_holds⟩ ⟨Nat.le_of_ble_eq_true rfl, Nat.le_of_ble_eq_true rfl⟩ ⟨Nat.le_of_ble_eq_true rfl, Nat.le_of_ble_eq_true rfl⟩ rfl (Nat.le_of_ble_eq_true rfl) dX5_run_13 (r_N ?_) r_NX
    show PX Z 2 S15 0 0 16 [(0, va_rf r0)] [.int v14]
    refine x_if_ne (t := 21) hC dX5_run_16 (by decide) (fun c17 => ?_) (fun c17 => ?_)
    · replace h := it_f c17 h
      refine x_aload_n (i := 0) hC dX5_run_21 rfl 0 rfl ?_
      replace h := dr_el h
      obtain ⟨a18, ea19, ha20, h⟩ := h
      replace h := bd_el h
      obtain ⟨v21, S22, hb23, h⟩ := h
      refine x_callV hC (st := []) (mt_X5_save _ _ _ hb23) ea19 ha20 kf_5 q_919 q_921 qs_44 q_7 q_922 ⟨rfl, hy_X5_save⟩ ⟨Nat.le_of_ble_eq_true rfl, Nat.le_of_ble_eq_true rfl⟩ ⟨Nat.le_of_ble_eq_true rfl, Nat.le_of_ble_eq_true rfl⟩ rfl (Nat.le_of_ble_eq_true rfl) dX5_run_22 (r_N ?_) r_NX
      show PX Z 2 S22 0 0 25 [(0, va_rf r0)] []
      refine x_aload_n (i := 0) hC dX5_run_25 rfl 0 rfl ?_
      refine x_iconst (v := (0 : Int32)) hC dX5_run_26 (by decide) ?_
      replace h := dr_el h
      obtain ⟨a24, ea25, ha26, h⟩ := h
      replace h := le_el h
      obtain ⟨S27, hx28, h⟩ := h
      refine x_putI hC ea25 ha26 kf_5 6 (by decide) rfl rfl q_869 (Or.inl rfl) dX5_run_27 ?_
      refine x_tS hx28 ?_
      refine x_iconst (v := (0 : Int32)) hC dX5_run_30 (by decide) ?_
      refine x_istore_n (i := 1) (l' := [(1, .int (0 : Int32)), (0, va_rf r0)]) hC dX5_run_31 rfl (⟨fun _ => c_rf r0, trivial⟩) (by decide) rfl ?_
      refine x_sub (l' := [(0, va_rf r0), (1, .int (0 : Int32))]) [1, 0] rfl ?_
      refine lp_sim (P := fun (t : (Int32 × PH)) => PX Z 2 t.2 0 0 32 [(0, va_rf r0), (1, .int t.1)] []) (G := fun r => r = y) ?_ h rfl
      clear h
      intro t x_32 h hg_32
      obtain ⟨v29, S30⟩ := t
      show PX Z 2 S30 0 0 32 [(0, va_rf r0), (1, .int v29)] []
      unfold st_X5_run_32 at h
      refine x_aload_n (i := 0) hC dX5_run_32 rfl 0 rfl ?_
      replace h := dr_el h
      obtain ⟨a31, ea32, ha33, h⟩ := h
      replace h := bd_el h
      obtain ⟨v34, S35, hb36, h⟩ := h
      refine x_callV hC (st := []) (mt_X5_readsOrder _ _ _ hb36) ea32 ha33 kf_5 q_1083 q_1085 qs_68 q_7 q_1086 ⟨rfl, hy_X5_readsOrder⟩ ⟨Nat.le_of_ble_eq_true rfl, Nat.le_of_ble_eq_true rfl⟩ ⟨Nat.le_of_ble_eq_true rfl, Nat.le_of_ble_eq_true rfl⟩ rfl (Nat.le_of_ble_eq_true rfl) dX5_run_33 (r_N ?_) r_NX
      show PX Z 2 S35 0 0 36 [(0, va_rf r0), (1, .int v29)] [.int v34]
      refine x_if_eq (t := 59) hC dX5_run_36 (by decide) (fun c37 => ?_) (fun c37 => ?_)
      · replace h := it_t c37 h
        replace h := ir_x h hg_32
        exact J_59 _ _ h
      · replace h := it_f c37 h
        refine x_aload_n (i := 0) hC dX5_run_39 rfl 0 rfl ?_
        replace h := dr_el h
        obtain ⟨a45, ea46, ha47, h⟩ := h
        replace h := bd_el h
        obtain ⟨v48, S49, hb50, h⟩ := h
        refine x_callV hC (st := []) (mt_X5_isDone _ _ _ hb50) ea46 ha47 kf_5 q_1107 q_1109 qs_73 q_7 q_1110 ⟨rfl, hy_X5_isDone⟩ ⟨Nat.le_of_ble_eq_true rfl, Nat.le_of_ble_eq_true rfl⟩ ⟨Nat.le_of_ble_eq_true rfl, Nat.le_of_ble_eq_true rfl⟩ rfl (Nat.le_of_ble_eq_true rfl) dX5_run_40 (r_N ?_) r_NX
        show PX Z 2 S49 0 0 43 [(0, va_rf r0), (1, .int v29)] [.int v48]
        refine x_if_eq (t := 59) hC dX5_run_43 (by decide) (fun c51 => ?_) (fun c51 => ?_)
        · replace h := it_t c51 h
          replace h := ir_x h hg_32
          exact J_59 _ _ h
        · replace h := it_f c51 h
          refine x_iinc (i := 1) (v := (v29 + (1 : Int32))) (l' := [(1, .int (v29 + (1 : Int32))), (0, va_rf r0)]) hC dX5_run_46 1 rfl rfl (⟨fun _ => c_rf r0, ⟨fun _ => rfl, trivial⟩⟩) (by decide) rfl ?_
          refine x_aload_n (i := 0) hC dX5_run_49 rfl 1 rfl ?_
          refine x_bipush (v := (59 : Int32)) hC dX5_run_50 (by decide) ?_
          replace h := dr_el h
          obtain ⟨a52, ea53, ha54, h⟩ := h
          replace h := bd_el h
          obtain ⟨v55, S56, hb57, h⟩ := h
          refine x_callV hC (st := []) (mt_X5_takesSign _ _ _ _ hb57) ea53 ha54 kf_5 q_1087 q_1089 qs_69 q_7 q_1090 ⟨rfl, hy_X5_takesSign⟩ ⟨Nat.le_of_ble_eq_true rfl, Nat.le_of_ble_eq_true rfl⟩ ⟨Nat.le_of_ble_eq_true rfl, Nat.le_of_ble_eq_true rfl⟩ rfl (Nat.le_of_ble_eq_true rfl) dX5_run_52 (r_N ?_) r_NX
          show PX Z 2 S56 0 0 55 [(1, .int (v29 + (1 : Int32))), (0, va_rf r0)] [.int v55]
          refine x_pop hC dX5_run_55 rfl ?_
          refine x_goto (t := 32) hC dX5_run_56 (by decide) ?_
          refine x_sub (l' := [(0, va_rf r0), (1, .int (v29 + (1 : Int32)))]) [1, 0] rfl ?_
          have hb := bk_x h hg_32
          exact hb
    · replace h := it_t c17 h
      refine x_iconst (v := (0 : Int32)) hC dX5_run_19 (by decide) ?_
      exact x_iret hC hQ (z_N (Option.some.inj h)) (Nat.le_of_ble_eq_true rfl) (Nat.le_of_ble_eq_true rfl) dX5_run_20
  unfold m_X5_run at h
  refine x_aload_n (i := 0) hC dX5_run_0 rfl 0 rfl ?_
  refine x_aload_n (i := 0) hC dX5_run_1 rfl 0 rfl ?_
  replace h := dr_el h
  obtain ⟨a1, ea2, ha3, h⟩ := h
  replace h := bd_el h
  obtain ⟨v4, S5, hb6, h⟩ := h
  refine x_callV hC (st := [va_rf r0]) (mt_X5_isWeek _ _ _ hb6) ea2 ha3 kf_5 q_1079 q_1081 qs_67 q_7 q_1082 ⟨rfl, hy_X5_isWeek⟩ ⟨Nat.le_of_ble_eq_true rfl, Nat.le_of_ble_eq_true rfl⟩ ⟨Nat.le_of_ble_eq_true rfl, Nat.le_of_ble_eq_true rfl⟩ rfl (Nat.le_of_ble_eq_true rfl) dX5_run_2 (r_N ?_) r_NX
  show PX Z 2 S5 0 0 5 [(0, va_rf r0)] [.int v4, va_rf r0]
  refine x_if_eq (t := 12) hC dX5_run_5 (by decide) (fun c7 => ?_) (fun c7 => ?_)
  · replace h := it_t c7 h
    refine x_iconst (v := (1 : Int32)) hC dX5_run_12 (by decide) ?_
    exact J_13 _ _ _ h
  · replace h := it_f c7 h
    refine x_iconst (v := (0 : Int32)) hC dX5_run_8 (by decide) ?_
    refine x_goto (t := 13) hC dX5_run_9 (by decide) ?_
    exact J_13 _ _ _ h
theorem dX5_keep_0 : decode cX5_keep 0 = .ok (.aload_n 0, 1) := by decide +kernel
theorem dX5_keep_1 : decode cX5_keep 1 = .ok (.iload_n 1, 1) := by decide +kernel
theorem dX5_keep_2 : decode cX5_keep 2 = .ok (.iconst 0, 1) := by decide +kernel
theorem dX5_keep_3 : decode cX5_keep 3 = .ok (.iconst 1, 1) := by decide +kernel
theorem dX5_keep_4 : decode cX5_keep 4 = .ok (.invokestatic 27, 3) := by decide +kernel
theorem dX5_keep_7 : decode cX5_keep 7 = .ok (.ifCond .eq 7, 3) := by decide +kernel
theorem dX5_keep_10 : decode cX5_keep 10 = .ok (.iconst 0, 1) := by decide +kernel
theorem dX5_keep_11 : decode cX5_keep 11 = .ok (.goto 4, 3) := by decide +kernel
theorem dX5_keep_14 : decode cX5_keep 14 = .ok (.iconst 1, 1) := by decide +kernel
theorem dX5_keep_15 : decode cX5_keep 15 = .ok (.invokevirtual 56, 3) := by decide +kernel
theorem dX5_keep_18 : decode cX5_keep 18 = .ok (.ifCond .ne 5, 3) := by decide +kernel
theorem dX5_keep_21 : decode cX5_keep 21 = .ok (.iconst 0, 1) := by decide +kernel
theorem dX5_keep_22 : decode cX5_keep 22 = .ok (.ireturn, 1) := by decide +kernel
theorem dX5_keep_23 : decode cX5_keep 23 = .ok (.aload_n 0, 1) := by decide +kernel
theorem dX5_keep_24 : decode cX5_keep 24 = .ok (.iconst 0, 1) := by decide +kernel
theorem dX5_keep_25 : decode cX5_keep 25 = .ok (.bipush 7, 2) := by decide +kernel
theorem dX5_keep_27 : decode cX5_keep 27 = .ok (.iload_n 1, 1) := by decide +kernel
theorem dX5_keep_28 : decode cX5_keep 28 = .ok (.iadd, 1) := by decide +kernel
theorem dX5_keep_29 : decode cX5_keep 29 = .ok (.invokevirtual 52, 3) := by decide +kernel
theorem dX5_keep_32 : decode cX5_keep 32 = .ok (.aload_n 0, 1) := by decide +kernel
theorem dX5_keep_33 : decode cX5_keep 33 = .ok (.getfield 13, 3) := by decide +kernel
theorem dX5_keep_36 : decode cX5_keep 36 = .ok (.iload_n 1, 1) := by decide +kernel
theorem dX5_keep_37 : decode cX5_keep 37 = .ok (.iconst 1, 1) := by decide +kernel
theorem dX5_keep_38 : decode cX5_keep 38 = .ok (.bastore, 1) := by decide +kernel
theorem dX5_keep_39 : decode cX5_keep 39 = .ok (.aload_n 0, 1) := by decide +kernel
theorem dX5_keep_40 : decode cX5_keep 40 = .ok (.getfield 7, 3) := by decide +kernel
theorem dX5_keep_43 : decode cX5_keep 43 = .ok (.bipush 8, 2) := by decide +kernel
theorem dX5_keep_45 : decode cX5_keep 45 = .ok (.iaload, 1) := by decide +kernel
theorem dX5_keep_46 : decode cX5_keep 46 = .ok (.ireturn, 1) := by decide +kernel
set_option maxRecDepth 100000 in
set_option maxHeartbeats 4000000 in
theorem mt_X5_keep (r0 : Option Nat) (i1 : Int32) (S0 : PH) (y : Int32 × PH) (h : m_X5_keep r0 i1 S0 = some y) : MT yX5_keep (.code yX5_keep cX5_keep 2 (Option.some FieldType.int)) 1 23 0 0 [va_rf r0, .int i1] S0 (oQ e_I (qN y)) := by
  refine mt_of (own := RX5) (l0 := [(0, va_rf r0), (1, .int i1)]) rfl rfl (by cases r0 <;> exact Nat.le_of_ble_eq_true rfl) (by cases r0 <;> rfl) ?_
  intro Z hC hQ hE hN
  have J_15 : ∀ (v5 : Option Nat) (v6 : Int32) (S7 : PH), j_X5_keep_15 r0 i1 v5 v6 S7 = some y → PX Z 2 S7 0 0 15 [(0, va_rf r0), (1, .int i1)] [.int v6, va_rf v5] := by
    intro v5 v6 S7 h
    unfold j_X5_keep_15 at h
    replace h := dr_el h
    obtain ⟨a8, ea9, ha10, h⟩ := h
    replace h := bd_el h
    obtain ⟨v11, S12, hb13, h⟩ := h
    refine x_callV hC (st := []) (mt_X5_holds _ _ _ _ hb13) ea9 ha10 kf_5 q_915 q_917 qs_43 q_7 q_918 ⟨rfl, hy_X5_holds⟩ ⟨Nat.le_of_ble_eq_true rfl, Nat.le_of_ble_eq_true rfl⟩ ⟨Nat.le_of_ble_eq_true rfl, Nat.le_of_ble_eq_true rfl⟩ rfl (Nat.le_of_ble_eq_true rfl) dX5_keep_15 (r_N ?_) r_NX
    show PX Z 2 S12 0 0 18 [(0, va_rf r0), (1, .int i1)] [.int v11]
    refine x_if_ne (t := 23) hC dX5_keep_18 (by decide) (fun c14 => ?_) (fun c14 => ?_)
    · replace h := it_f c14 h
      refine x_aload_n (i := 0) hC dX5_keep_23 rfl 0 rfl ?_
      refine x_iconst (v := (0 : Int32)) hC dX5_keep_24 (by decide) ?_
      refine x_bipush (v := (7 : Int32)) hC dX5_keep_25 (by decide) ?_
      refine x_iload_n (i := 1) hC dX5_keep_27 rfl 1 rfl ?_
      refine x_iadd hC dX5_keep_28 ?_
      replace h := dr_el h
      obtain ⟨a15, ea16, ha17, h⟩ := h
      replace h := bd_el h
      obtain ⟨v18, S19, hb20, h⟩ := h
      refine x_callV hC (st := []) (mt_X5_copies _ _ _ _ _ hb20) ea16 ha17 kf_5 q_923 q_925 qs_45 q_7 q_926 ⟨rfl, hy_X5_copies⟩ ⟨Nat.le_of_ble_eq_true rfl, Nat.le_of_ble_eq_true rfl⟩ ⟨Nat.le_of_ble_eq_true rfl, Nat.le_of_ble_eq_true rfl⟩ rfl (Nat.le_of_ble_eq_true rfl) dX5_keep_29 (r_N ?_) r_NX
      show PX Z 2 S19 0 0 32 [(0, va_rf r0), (1, .int i1)] []
      refine x_aload_n (i := 0) hC dX5_keep_32 rfl 0 rfl ?_
      replace h := dr_el h
      obtain ⟨a21, ea22, ha23, h⟩ := h
      refine x_getR hC ea22 ha23 kf_5 3 (by decide) rfl q_866 dX5_keep_33 ?_
      refine x_iload_n (i := 1) hC dX5_keep_36 rfl 1 rfl ?_
      refine x_iconst (v := (1 : Int32)) hC dX5_keep_37 (by decide) ?_
      replace h := dr_el h
      obtain ⟨a24, ea25, ha26, h⟩ := h
      replace h := ck_el h
      obtain ⟨hc27, h⟩ := h
      replace h := le_el h
      obtain ⟨S28, hx29, h⟩ := h
      refine x_bastore hC ea25 ha26 hc27 (by decide) dX5_keep_38 ?_
      refine x_tS hx29 ?_
      refine x_aload_n (i := 0) hC dX5_keep_39 rfl 0 rfl ?_
      replace h := dr_el h
      obtain ⟨a30, ea31, ha32, h⟩ := h
      refine x_getR hC ea31 ha32 kf_5 1 (by decide) rfl q_864 dX5_keep_40 ?_
      refine x_bipush (v := (8 : Int32)) hC dX5_keep_43 (by decide) ?_
      replace h := dr_el h
      obtain ⟨a33, ea34, ha35, h⟩ := h
      replace h := ck_el h
      obtain ⟨hc36, h⟩ := h
      refine x_iaload hC ea34 ha35 hc36 dX5_keep_45 ?_
      refine x_tI (b := (p_I S28 a33 8)) rfl ?_
      exact x_iret hC hQ (z_N (Option.some.inj h)) (Nat.le_of_ble_eq_true rfl) (Nat.le_of_ble_eq_true rfl) dX5_keep_46
    · replace h := it_t c14 h
      refine x_iconst (v := (0 : Int32)) hC dX5_keep_21 (by decide) ?_
      exact x_iret hC hQ (z_N (Option.some.inj h)) (Nat.le_of_ble_eq_true rfl) (Nat.le_of_ble_eq_true rfl) dX5_keep_22
  unfold m_X5_keep at h
  refine x_aload_n (i := 0) hC dX5_keep_0 rfl 0 rfl ?_
  refine x_iload_n (i := 1) hC dX5_keep_1 rfl 1 rfl ?_
  refine x_iconst (v := (0 : Int32)) hC dX5_keep_2 (by decide) ?_
  refine x_iconst (v := (1 : Int32)) hC dX5_keep_3 (by decide) ?_
  replace h := bd_el h
  obtain ⟨v1, S2, hb3, h⟩ := h
  refine x_callS hC (st := [va_rf r0]) (mt_X5_in _ _ _ _ _ hb3) q_912 q_913 q_7 q_914 hy_X5_in ⟨Nat.le_of_ble_eq_true rfl, Nat.le_of_ble_eq_true rfl⟩ ⟨Nat.le_of_ble_eq_true rfl, Nat.le_of_ble_eq_true rfl⟩ rfl (Nat.le_of_ble_eq_true rfl) dX5_keep_4 (r_N ?_) r_NX
  show PX Z 2 S2 0 0 7 [(0, va_rf r0), (1, .int i1)] [.int v1, va_rf r0]
  refine x_if_eq (t := 14) hC dX5_keep_7 (by decide) (fun c4 => ?_) (fun c4 => ?_)
  · replace h := it_t c4 h
    refine x_iconst (v := (1 : Int32)) hC dX5_keep_14 (by decide) ?_
    exact J_15 _ _ _ h
  · replace h := it_f c4 h
    refine x_iconst (v := (0 : Int32)) hC dX5_keep_10 (by decide) ?_
    refine x_goto (t := 15) hC dX5_keep_11 (by decide) ?_
    exact J_15 _ _ _ h
theorem dX5_goBack_0 : decode cX5_goBack 0 = .ok (.aload_n 0, 1) := by decide +kernel
theorem dX5_goBack_1 : decode cX5_goBack 1 = .ok (.iload_n 1, 1) := by decide +kernel
theorem dX5_goBack_2 : decode cX5_goBack 2 = .ok (.iconst 0, 1) := by decide +kernel
theorem dX5_goBack_3 : decode cX5_goBack 3 = .ok (.iconst 1, 1) := by decide +kernel
theorem dX5_goBack_4 : decode cX5_goBack 4 = .ok (.invokestatic 27, 3) := by decide +kernel
theorem dX5_goBack_7 : decode cX5_goBack 7 = .ok (.ifCond .ne 7, 3) := by decide +kernel
theorem dX5_goBack_10 : decode cX5_goBack 10 = .ok (.iconst 1, 1) := by decide +kernel
theorem dX5_goBack_11 : decode cX5_goBack 11 = .ok (.goto 17, 3) := by decide +kernel
theorem dX5_goBack_14 : decode cX5_goBack 14 = .ok (.aload_n 0, 1) := by decide +kernel
theorem dX5_goBack_15 : decode cX5_goBack 15 = .ok (.getfield 13, 3) := by decide +kernel
theorem dX5_goBack_18 : decode cX5_goBack 18 = .ok (.iload_n 1, 1) := by decide +kernel
theorem dX5_goBack_19 : decode cX5_goBack 19 = .ok (.baload, 1) := by decide +kernel
theorem dX5_goBack_20 : decode cX5_goBack 20 = .ok (.ifCond .ne 7, 3) := by decide +kernel
theorem dX5_goBack_23 : decode cX5_goBack 23 = .ok (.iconst 2, 1) := by decide +kernel
theorem dX5_goBack_24 : decode cX5_goBack 24 = .ok (.goto 4, 3) := by decide +kernel
theorem dX5_goBack_27 : decode cX5_goBack 27 = .ok (.iconst 0, 1) := by decide +kernel
theorem dX5_goBack_28 : decode cX5_goBack 28 = .ok (.invokevirtual 56, 3) := by decide +kernel
theorem dX5_goBack_31 : decode cX5_goBack 31 = .ok (.ifCond .ne 5, 3) := by decide +kernel
theorem dX5_goBack_34 : decode cX5_goBack 34 = .ok (.iconst 0, 1) := by decide +kernel
theorem dX5_goBack_35 : decode cX5_goBack 35 = .ok (.ireturn, 1) := by decide +kernel
theorem dX5_goBack_36 : decode cX5_goBack 36 = .ok (.aload_n 0, 1) := by decide +kernel
theorem dX5_goBack_37 : decode cX5_goBack 37 = .ok (.invokevirtual 60, 3) := by decide +kernel
theorem dX5_goBack_40 : decode cX5_goBack 40 = .ok (.aload_n 0, 1) := by decide +kernel
theorem dX5_goBack_41 : decode cX5_goBack 41 = .ok (.bipush 7, 2) := by decide +kernel
theorem dX5_goBack_43 : decode cX5_goBack 43 = .ok (.iload_n 1, 1) := by decide +kernel
theorem dX5_goBack_44 : decode cX5_goBack 44 = .ok (.iadd, 1) := by decide +kernel
theorem dX5_goBack_45 : decode cX5_goBack 45 = .ok (.iconst 0, 1) := by decide +kernel
theorem dX5_goBack_46 : decode cX5_goBack 46 = .ok (.invokevirtual 52, 3) := by decide +kernel
theorem dX5_goBack_49 : decode cX5_goBack 49 = .ok (.aload_n 0, 1) := by decide +kernel
theorem dX5_goBack_50 : decode cX5_goBack 50 = .ok (.getfield 7, 3) := by decide +kernel
theorem dX5_goBack_53 : decode cX5_goBack 53 = .ok (.bipush 8, 2) := by decide +kernel
theorem dX5_goBack_55 : decode cX5_goBack 55 = .ok (.iaload, 1) := by decide +kernel
theorem dX5_goBack_56 : decode cX5_goBack 56 = .ok (.ireturn, 1) := by decide +kernel
set_option maxRecDepth 100000 in
set_option maxHeartbeats 4000000 in
theorem mt_X5_goBack (r0 : Option Nat) (i1 : Int32) (S0 : PH) (y : Int32 × PH) (h : m_X5_goBack r0 i1 S0 = some y) : MT yX5_goBack (.code yX5_goBack cX5_goBack 2 (Option.some FieldType.int)) 2 44 0 0 [va_rf r0, .int i1] S0 (oQ e_I (qN y)) := by
  refine mt_of (own := RX5) (l0 := [(0, va_rf r0), (1, .int i1)]) rfl rfl (by cases r0 <;> exact Nat.le_of_ble_eq_true rfl) (by cases r0 <;> rfl) ?_
  intro Z hC hQ hE hN
  have J_28 : ∀ (v13 : Option Nat) (v14 : Int32) (S15 : PH), j_X5_goBack_28 r0 i1 v13 v14 S15 = some y → PX Z 2 S15 0 0 28 [(0, va_rf r0), (1, .int i1)] [.int v14, va_rf v13] := by
    intro v13 v14 S15 h
    unfold j_X5_goBack_28 at h
    replace h := dr_el h
    obtain ⟨a16, ea17, ha18, h⟩ := h
    replace h := bd_el h
    obtain ⟨v19, S20, hb21, h⟩ := h
    refine x_callV hC (st := []) (mt_X5_holds _ _ _ _ hb21) ea17 ha18 kf_5 q_915 q_917 qs_43 q_7 q_918 ⟨rfl, hy_X5_holds⟩ ⟨Nat.le_of_ble_eq_true rfl, Nat.le_of_ble_eq_true rfl⟩ ⟨Nat.le_of_ble_eq_true rfl, Nat.le_of_ble_eq_true rfl⟩ rfl (Nat.le_of_ble_eq_true rfl) dX5_goBack_28 (r_N ?_) r_NX
    show PX Z 2 S20 0 0 31 [(0, va_rf r0), (1, .int i1)] [.int v19]
    refine x_if_ne (t := 36) hC dX5_goBack_31 (by decide) (fun c22 => ?_) (fun c22 => ?_)
    · replace h := it_f c22 h
      refine x_aload_n (i := 0) hC dX5_goBack_36 rfl 0 rfl ?_
      replace h := dr_el h
      obtain ⟨a23, ea24, ha25, h⟩ := h
      replace h := bd_el h
      obtain ⟨v26, S27, hb28, h⟩ := h
      refine x_callV hC (st := []) (mt_X5_save _ _ _ hb28) ea24 ha25 kf_5 q_919 q_921 qs_44 q_7 q_922 ⟨rfl, hy_X5_save⟩ ⟨Nat.le_of_ble_eq_true rfl, Nat.le_of_ble_eq_true rfl⟩ ⟨Nat.le_of_ble_eq_true rfl, Nat.le_of_ble_eq_true rfl⟩ rfl (Nat.le_of_ble_eq_true rfl) dX5_goBack_37 (r_N ?_) r_NX
      show PX Z 2 S27 0 0 40 [(0, va_rf r0), (1, .int i1)] []
      refine x_aload_n (i := 0) hC dX5_goBack_40 rfl 0 rfl ?_
      refine x_bipush (v := (7 : Int32)) hC dX5_goBack_41 (by decide) ?_
      refine x_iload_n (i := 1) hC dX5_goBack_43 rfl 1 rfl ?_
      refine x_iadd hC dX5_goBack_44 ?_
      refine x_iconst (v := (0 : Int32)) hC dX5_goBack_45 (by decide) ?_
      replace h := dr_el h
      obtain ⟨a29, ea30, ha31, h⟩ := h
      replace h := bd_el h
      obtain ⟨v32, S33, hb34, h⟩ := h
      refine x_callV hC (st := []) (mt_X5_copies _ _ _ _ _ hb34) ea30 ha31 kf_5 q_923 q_925 qs_45 q_7 q_926 ⟨rfl, hy_X5_copies⟩ ⟨Nat.le_of_ble_eq_true rfl, Nat.le_of_ble_eq_true rfl⟩ ⟨Nat.le_of_ble_eq_true rfl, Nat.le_of_ble_eq_true rfl⟩ rfl (Nat.le_of_ble_eq_true rfl) dX5_goBack_46 (r_N ?_) r_NX
      show PX Z 2 S33 0 0 49 [(0, va_rf r0), (1, .int i1)] []
      refine x_aload_n (i := 0) hC dX5_goBack_49 rfl 0 rfl ?_
      replace h := dr_el h
      obtain ⟨a35, ea36, ha37, h⟩ := h
      refine x_getR hC ea36 ha37 kf_5 1 (by decide) rfl q_864 dX5_goBack_50 ?_
      refine x_bipush (v := (8 : Int32)) hC dX5_goBack_53 (by decide) ?_
      replace h := dr_el h
      obtain ⟨a38, ea39, ha40, h⟩ := h
      replace h := ck_el h
      obtain ⟨hc41, h⟩ := h
      refine x_iaload hC ea39 ha40 hc41 dX5_goBack_55 ?_
      refine x_tI (b := (p_I S33 a38 8)) rfl ?_
      exact x_iret hC hQ (z_N (Option.some.inj h)) (Nat.le_of_ble_eq_true rfl) (Nat.le_of_ble_eq_true rfl) dX5_goBack_56
    · replace h := it_t c22 h
      refine x_iconst (v := (0 : Int32)) hC dX5_goBack_34 (by decide) ?_
      exact x_iret hC hQ (z_N (Option.some.inj h)) (Nat.le_of_ble_eq_true rfl) (Nat.le_of_ble_eq_true rfl) dX5_goBack_35
  unfold m_X5_goBack at h
  refine x_aload_n (i := 0) hC dX5_goBack_0 rfl 0 rfl ?_
  refine x_iload_n (i := 1) hC dX5_goBack_1 rfl 1 rfl ?_
  refine x_iconst (v := (0 : Int32)) hC dX5_goBack_2 (by decide) ?_
  refine x_iconst (v := (1 : Int32)) hC dX5_goBack_3 (by decide) ?_
  replace h := bd_el h
  obtain ⟨v1, S2, hb3, h⟩ := h
  refine x_callS hC (st := [va_rf r0]) (mt_X5_in _ _ _ _ _ hb3) q_912 q_913 q_7 q_914 hy_X5_in ⟨Nat.le_of_ble_eq_true rfl, Nat.le_of_ble_eq_true rfl⟩ ⟨Nat.le_of_ble_eq_true rfl, Nat.le_of_ble_eq_true rfl⟩ rfl (Nat.le_of_ble_eq_true rfl) dX5_goBack_4 (r_N ?_) r_NX
  show PX Z 2 S2 0 0 7 [(0, va_rf r0), (1, .int i1)] [.int v1, va_rf r0]
  refine x_if_ne (t := 14) hC dX5_goBack_7 (by decide) (fun c4 => ?_) (fun c4 => ?_)
  · replace h := it_f c4 h
    refine x_aload_n (i := 0) hC dX5_goBack_14 rfl 0 rfl ?_
    replace h := dr_el h
    obtain ⟨a5, ea6, ha7, h⟩ := h
    refine x_getR hC ea6 ha7 kf_5 3 (by decide) rfl q_866 dX5_goBack_15 ?_
    refine x_iload_n (i := 1) hC dX5_goBack_18 rfl 1 rfl ?_
    replace h := dr_el h
    obtain ⟨a8, ea9, ha10, h⟩ := h
    replace h := ck_el h
    obtain ⟨hc11, h⟩ := h
    refine x_baload hC ea9 ha10 hc11 dX5_goBack_19 ?_
    refine x_if_ne (t := 27) hC dX5_goBack_20 (by decide) (fun c12 => ?_) (fun c12 => ?_)
    · replace h := it_f c12 h
      refine x_iconst (v := (0 : Int32)) hC dX5_goBack_27 (by decide) ?_
      exact J_28 _ _ _ h
    · replace h := it_t c12 h
      refine x_iconst (v := (2 : Int32)) hC dX5_goBack_23 (by decide) ?_
      refine x_goto (t := 28) hC dX5_goBack_24 (by decide) ?_
      exact J_28 _ _ _ h
  · replace h := it_t c4 h
    refine x_iconst (v := (1 : Int32)) hC dX5_goBack_10 (by decide) ?_
    refine x_goto (t := 28) hC dX5_goBack_11 (by decide) ?_
    exact J_28 _ _ _ h
theorem dX5_undo_0 : decode cX5_undo 0 = .ok (.aload_n 0, 1) := by decide +kernel
theorem dX5_undo_1 : decode cX5_undo 1 = .ok (.aload_n 0, 1) := by decide +kernel
theorem dX5_undo_2 : decode cX5_undo 2 = .ok (.getfield 49, 3) := by decide +kernel
theorem dX5_undo_5 : decode cX5_undo 5 = .ok (.ifCond .le 7, 3) := by decide +kernel
theorem dX5_undo_8 : decode cX5_undo 8 = .ok (.iconst 0, 1) := by decide +kernel
theorem dX5_undo_9 : decode cX5_undo 9 = .ok (.goto 4, 3) := by decide +kernel
theorem dX5_undo_12 : decode cX5_undo 12 = .ok (.iconst 1, 1) := by decide +kernel
theorem dX5_undo_13 : decode cX5_undo 13 = .ok (.invokevirtual 56, 3) := by decide +kernel
theorem dX5_undo_16 : decode cX5_undo 16 = .ok (.ifCond .ne 5, 3) := by decide +kernel
theorem dX5_undo_19 : decode cX5_undo 19 = .ok (.iconst 0, 1) := by decide +kernel
theorem dX5_undo_20 : decode cX5_undo 20 = .ok (.ireturn, 1) := by decide +kernel
theorem dX5_undo_21 : decode cX5_undo 21 = .ok (.aload_n 0, 1) := by decide +kernel
theorem dX5_undo_22 : decode cX5_undo 22 = .ok (.aload_n 0, 1) := by decide +kernel
theorem dX5_undo_23 : decode cX5_undo 23 = .ok (.getfield 49, 3) := by decide +kernel
theorem dX5_undo_26 : decode cX5_undo 26 = .ok (.iconst 0, 1) := by decide +kernel
theorem dX5_undo_27 : decode cX5_undo 27 = .ok (.invokevirtual 52, 3) := by decide +kernel
theorem dX5_undo_30 : decode cX5_undo 30 = .ok (.aload_n 0, 1) := by decide +kernel
theorem dX5_undo_31 : decode cX5_undo 31 = .ok (.dup, 1) := by decide +kernel
theorem dX5_undo_32 : decode cX5_undo 32 = .ok (.getfield 49, 3) := by decide +kernel
theorem dX5_undo_35 : decode cX5_undo 35 = .ok (.iconst 1, 1) := by decide +kernel
theorem dX5_undo_36 : decode cX5_undo 36 = .ok (.isub, 1) := by decide +kernel
theorem dX5_undo_37 : decode cX5_undo 37 = .ok (.putfield 49, 3) := by decide +kernel
theorem dX5_undo_40 : decode cX5_undo 40 = .ok (.aload_n 0, 1) := by decide +kernel
theorem dX5_undo_41 : decode cX5_undo 41 = .ok (.getfield 49, 3) := by decide +kernel
theorem dX5_undo_44 : decode cX5_undo 44 = .ok (.ireturn, 1) := by decide +kernel
set_option maxRecDepth 100000 in
set_option maxHeartbeats 4000000 in
theorem mt_X5_undo (r0 : Option Nat) (S0 : PH) (y : Int32 × PH) (h : m_X5_undo r0 S0 = some y) : MT yX5_undo (.code yX5_undo cX5_undo 1 (Option.some FieldType.int)) 1 23 0 0 [va_rf r0] S0 (oQ e_I (qN y)) := by
  refine mt_of (own := RX5) (l0 := [(0, va_rf r0)]) rfl rfl (by cases r0 <;> exact Nat.le_of_ble_eq_true rfl) (by cases r0 <;> rfl) ?_
  intro Z hC hQ hE hN
  have J_13 : ∀ (v5 : Option Nat) (v6 : Int32) (S7 : PH), j_X5_undo_13 r0 v5 v6 S7 = some y → PX Z 1 S7 0 0 13 [(0, va_rf r0)] [.int v6, va_rf v5] := by
    intro v5 v6 S7 h
    unfold j_X5_undo_13 at h
    replace h := dr_el h
    obtain ⟨a8, ea9, ha10, h⟩ := h
    replace h := bd_el h
    obtain ⟨v11, S12, hb13, h⟩ := h
    refine x_callV hC (st := []) (mt_X5_holds _ _ _ _ hb13) ea9 ha10 kf_5 q_915 q_917 qs_43 q_7 q_918 ⟨rfl, hy_X5_holds⟩ ⟨Nat.le_of_ble_eq_true rfl, Nat.le_of_ble_eq_true rfl⟩ ⟨Nat.le_of_ble_eq_true rfl, Nat.le_of_ble_eq_true rfl⟩ rfl (Nat.le_of_ble_eq_true rfl) dX5_undo_13 (r_N ?_) r_NX
    show PX Z 1 S12 0 0 16 [(0, va_rf r0)] [.int v11]
    refine x_if_ne (t := 21) hC dX5_undo_16 (by decide) (fun c14 => ?_) (fun c14 => ?_)
    · replace h := it_f c14 h
      refine x_aload_n (i := 0) hC dX5_undo_21 rfl 0 rfl ?_
      refine x_aload_n (i := 0) hC dX5_undo_22 rfl 0 rfl ?_
      replace h := dr_el h
      obtain ⟨a15, ea16, ha17, h⟩ := h
      refine x_getI hC ea16 ha17 kf_5 2 (by decide) rfl q_865 dX5_undo_23 ?_
      refine x_iconst (v := (0 : Int32)) hC dX5_undo_26 (by decide) ?_
      replace h := bd_el h
      obtain ⟨v18, S19, hb20, h⟩ := h
      refine x_callV hC (st := []) (mt_X5_copies _ _ _ _ _ hb20) ea16 ha17 kf_5 q_923 q_925 qs_45 q_7 q_926 ⟨rfl, hy_X5_copies⟩ ⟨Nat.le_of_ble_eq_true rfl, Nat.le_of_ble_eq_true rfl⟩ ⟨Nat.le_of_ble_eq_true rfl, Nat.le_of_ble_eq_true rfl⟩ rfl (Nat.le_of_ble_eq_true rfl) dX5_undo_27 (r_N ?_) r_NX
      show PX Z 1 S19 0 0 30 [(0, va_rf r0)] []
      refine x_aload_n (i := 0) hC dX5_undo_30 rfl 0 rfl ?_
      refine x_dup hC dX5_undo_31 (c_rf r0) ?_
      replace h := dr_el h
      obtain ⟨a21, ea22, ha23, h⟩ := h
      refine x_getI hC ea22 ha23 kf_5 2 (by decide) rfl q_865 dX5_undo_32 ?_
      refine x_iconst (v := (1 : Int32)) hC dX5_undo_35 (by decide) ?_
      refine x_isub hC dX5_undo_36 ?_
      replace h := le_el h
      obtain ⟨S24, hx25, h⟩ := h
      refine x_putI hC ea22 ha23 kf_5 2 (by decide) rfl rfl q_865 (Or.inl rfl) dX5_undo_37 ?_
      refine x_tS hx25 ?_
      refine x_aload_n (i := 0) hC dX5_undo_40 rfl 0 rfl ?_
      replace h := dr_el h
      obtain ⟨a26, ea27, ha28, h⟩ := h
      refine x_getI hC ea27 ha28 kf_5 2 (by decide) rfl q_865 dX5_undo_41 ?_
      exact x_iret hC hQ (z_N (Option.some.inj h)) (Nat.le_of_ble_eq_true rfl) (Nat.le_of_ble_eq_true rfl) dX5_undo_44
    · replace h := it_t c14 h
      refine x_iconst (v := (0 : Int32)) hC dX5_undo_19 (by decide) ?_
      exact x_iret hC hQ (z_N (Option.some.inj h)) (Nat.le_of_ble_eq_true rfl) (Nat.le_of_ble_eq_true rfl) dX5_undo_20
  unfold m_X5_undo at h
  refine x_aload_n (i := 0) hC dX5_undo_0 rfl 0 rfl ?_
  refine x_aload_n (i := 0) hC dX5_undo_1 rfl 0 rfl ?_
  replace h := dr_el h
  obtain ⟨a1, ea2, ha3, h⟩ := h
  refine x_getI hC ea2 ha3 kf_5 2 (by decide) rfl q_865 dX5_undo_2 ?_
  refine x_if_le (t := 12) hC dX5_undo_5 (by decide) (fun c4 => ?_) (fun c4 => ?_)
  · replace h := it_t c4 h
    refine x_iconst (v := (1 : Int32)) hC dX5_undo_12 (by decide) ?_
    exact J_13 _ _ _ h
  · replace h := it_f c4 h
    refine x_iconst (v := (0 : Int32)) hC dX5_undo_8 (by decide) ?_
    refine x_goto (t := 13) hC dX5_undo_9 (by decide) ?_
    exact J_13 _ _ _ h
theorem dX5_reviewsOf_0 : decode cX5_reviewsOf 0 = .ok (.iconst 0, 1) := by decide +kernel
theorem dX5_reviewsOf_1 : decode cX5_reviewsOf 1 = .ok (.istore_n 3, 1) := by decide +kernel
theorem dX5_reviewsOf_2 : decode cX5_reviewsOf 2 = .ok (.iconst 0, 1) := by decide +kernel
theorem dX5_reviewsOf_3 : decode cX5_reviewsOf 3 = .ok (.istore 4, 2) := by decide +kernel
theorem dX5_reviewsOf_5 : decode cX5_reviewsOf 5 = .ok (.iload 4, 2) := by decide +kernel
theorem dX5_reviewsOf_7 : decode cX5_reviewsOf 7 = .ok (.aload_n 0, 1) := by decide +kernel
theorem dX5_reviewsOf_8 : decode cX5_reviewsOf 8 = .ok (.getfield 7, 3) := by decide +kernel
theorem dX5_reviewsOf_11 : decode cX5_reviewsOf 11 = .ok (.bipush 8, 2) := by decide +kernel
theorem dX5_reviewsOf_13 : decode cX5_reviewsOf 13 = .ok (.iaload, 1) := by decide +kernel
theorem dX5_reviewsOf_14 : decode cX5_reviewsOf 14 = .ok (.if_icmp .ge 64, 3) := by decide +kernel
theorem dX5_reviewsOf_17 : decode cX5_reviewsOf 17 = .ok (.iload_n 2, 1) := by decide +kernel
theorem dX5_reviewsOf_18 : decode cX5_reviewsOf 18 = .ok (.ifCond .eq 13, 3) := by decide +kernel
theorem dX5_reviewsOf_21 : decode cX5_reviewsOf 21 = .ok (.aload_n 0, 1) := by decide +kernel
theorem dX5_reviewsOf_22 : decode cX5_reviewsOf 22 = .ok (.iload_n 1, 1) := by decide +kernel
theorem dX5_reviewsOf_23 : decode cX5_reviewsOf 23 = .ok (.iload 4, 2) := by decide +kernel
theorem dX5_reviewsOf_25 : decode cX5_reviewsOf 25 = .ok (.invokevirtual 38, 3) := by decide +kernel
theorem dX5_reviewsOf_28 : decode cX5_reviewsOf 28 = .ok (.goto 29, 3) := by decide +kernel
theorem dX5_reviewsOf_31 : decode cX5_reviewsOf 31 = .ok (.aload_n 0, 1) := by decide +kernel
theorem dX5_reviewsOf_32 : decode cX5_reviewsOf 32 = .ok (.iload 4, 2) := by decide +kernel
theorem dX5_reviewsOf_34 : decode cX5_reviewsOf 34 = .ok (.iconst 4, 1) := by decide +kernel
theorem dX5_reviewsOf_35 : decode cX5_reviewsOf 35 = .ok (.invokevirtual 31, 3) := by decide +kernel
theorem dX5_reviewsOf_38 : decode cX5_reviewsOf 38 = .ok (.ifCond .ne 18, 3) := by decide +kernel
theorem dX5_reviewsOf_41 : decode cX5_reviewsOf 41 = .ok (.aload_n 0, 1) := by decide +kernel
theorem dX5_reviewsOf_42 : decode cX5_reviewsOf 42 = .ok (.iload_n 1, 1) := by decide +kernel
theorem dX5_reviewsOf_43 : decode cX5_reviewsOf 43 = .ok (.iload 4, 2) := by decide +kernel
theorem dX5_reviewsOf_45 : decode cX5_reviewsOf 45 = .ok (.invokevirtual 35, 3) := by decide +kernel
theorem dX5_reviewsOf_48 : decode cX5_reviewsOf 48 = .ok (.iconst (-1), 1) := by decide +kernel
theorem dX5_reviewsOf_49 : decode cX5_reviewsOf 49 = .ok (.if_icmp .eq 7, 3) := by decide +kernel
theorem dX5_reviewsOf_52 : decode cX5_reviewsOf 52 = .ok (.iconst 1, 1) := by decide +kernel
theorem dX5_reviewsOf_53 : decode cX5_reviewsOf 53 = .ok (.goto 4, 3) := by decide +kernel
theorem dX5_reviewsOf_56 : decode cX5_reviewsOf 56 = .ok (.iconst 0, 1) := by decide +kernel
theorem dX5_reviewsOf_57 : decode cX5_reviewsOf 57 = .ok (.istore 5, 2) := by decide +kernel
theorem dX5_reviewsOf_59 : decode cX5_reviewsOf 59 = .ok (.iload_n 3, 1) := by decide +kernel
theorem dX5_reviewsOf_60 : decode cX5_reviewsOf 60 = .ok (.iload 5, 2) := by decide +kernel
theorem dX5_reviewsOf_62 : decode cX5_reviewsOf 62 = .ok (.ifCond .eq 7, 3) := by decide +kernel
theorem dX5_reviewsOf_65 : decode cX5_reviewsOf 65 = .ok (.iconst 1, 1) := by decide +kernel
theorem dX5_reviewsOf_66 : decode cX5_reviewsOf 66 = .ok (.goto 4, 3) := by decide +kernel
theorem dX5_reviewsOf_69 : decode cX5_reviewsOf 69 = .ok (.iconst 0, 1) := by decide +kernel
theorem dX5_reviewsOf_70 : decode cX5_reviewsOf 70 = .ok (.iadd, 1) := by decide +kernel
theorem dX5_reviewsOf_71 : decode cX5_reviewsOf 71 = .ok (.istore_n 3, 1) := by decide +kernel
theorem dX5_reviewsOf_72 : decode cX5_reviewsOf 72 = .ok (.iinc 4 1, 3) := by decide +kernel
theorem dX5_reviewsOf_75 : decode cX5_reviewsOf 75 = .ok (.goto (-70), 3) := by decide +kernel
theorem dX5_reviewsOf_78 : decode cX5_reviewsOf 78 = .ok (.iload_n 3, 1) := by decide +kernel
theorem dX5_reviewsOf_79 : decode cX5_reviewsOf 79 = .ok (.ireturn, 1) := by decide +kernel
set_option maxRecDepth 100000 in
set_option maxHeartbeats 4000000 in
theorem mt_X5_reviewsOf (r0 : Option Nat) (i1 : Int32) (i2 : Int32) (S0 : PH) (y : Int32 × PH) (h : m_X5_reviewsOf r0 i1 i2 S0 = some y) : MT yX5_reviewsOf (.code yX5_reviewsOf cX5_reviewsOf 6 (Option.some FieldType.int)) 3 66 0 0 [va_rf r0, .int i1, .int i2] S0 (oQ e_I (qN y)) := by
  refine mt_of (own := RX5) (l0 := [(0, va_rf r0), (1, .int i1), (2, .int i2)]) rfl rfl (by cases r0 <;> exact Nat.le_of_ble_eq_true rfl) (by cases r0 <;> rfl) ?_
  intro Z hC hQ hE hN
  unfold m_X5_reviewsOf at h
  refine x_iconst (v := (0 : Int32)) hC dX5_reviewsOf_0 (by decide) ?_
  refine x_istore_n (i := 3) (l' := [(3, .int (0 : Int32)), (0, va_rf r0), (1, .int i1), (2, .int i2)]) hC dX5_reviewsOf_1 rfl (⟨fun _ => c_rf r0, ⟨fun _ => rfl, ⟨fun _ => rfl, trivial⟩⟩⟩) (by decide) rfl ?_
  refine x_iconst (v := (0 : Int32)) hC dX5_reviewsOf_2 (by decide) ?_
  refine x_istore (i := 4) (l' := [(4, .int (0 : Int32)), (3, .int (0 : Int32)), (0, va_rf r0), (1, .int i1), (2, .int i2)]) hC dX5_reviewsOf_3 (⟨fun _ => rfl, ⟨fun _ => c_rf r0, ⟨fun _ => rfl, ⟨fun _ => rfl, trivial⟩⟩⟩⟩) (by decide) rfl ?_
  refine x_sub (l' := [(0, va_rf r0), (1, .int i1), (2, .int i2), (3, .int (0 : Int32)), (4, .int (0 : Int32))]) [2, 3, 4, 1, 0] rfl ?_
  refine lp_sim (P := fun (t : (Int32 × Int32 × PH)) => PX Z 6 t.2.2 0 0 5 [(0, va_rf r0), (1, .int i1), (2, .int i2), (3, .int t.1), (4, .int t.2.1)] []) (G := fun r => r = y) ?_ h rfl
  clear h
  intro t x_5 h hg_5
  obtain ⟨v1, v2, S3⟩ := t
  show PX Z 6 S3 0 0 5 [(0, va_rf r0), (1, .int i1), (2, .int i2), (3, .int v1), (4, .int v2)] []
  have J_57 : ∀ (v17 : Int32) (v18 : Int32) (v19 : Int32) (S20 : PH), j_X5_reviewsOf_57 r0 i1 i2 v17 v18 v19 S20 = some x_5 → PX Z 6 S20 0 0 57 [(0, va_rf r0), (1, .int i1), (2, .int i2), (3, .int v17), (4, .int v18)] [.int v19] := by
    intro v17 v18 v19 S20 h
    unfold j_X5_reviewsOf_57 at h
    refine x_istore (i := 5) (l' := [(5, .int v19), (0, va_rf r0), (1, .int i1), (2, .int i2), (3, .int v17), (4, .int v18)]) hC dX5_reviewsOf_57 (⟨fun _ => c_rf r0, ⟨fun _ => rfl, ⟨fun _ => rfl, ⟨fun _ => rfl, ⟨fun _ => rfl, trivial⟩⟩⟩⟩⟩) (by decide) rfl ?_
    refine x_iload_n (i := 3) hC dX5_reviewsOf_59 rfl 4 rfl ?_
    refine x_iload (i := 5) hC dX5_reviewsOf_60 0 rfl ?_
    refine x_if_eq (t := 69) hC dX5_reviewsOf_62 (by decide) (fun c21 => ?_) (fun c21 => ?_)
    · replace h := it_t c21 h
      refine x_iconst (v := (0 : Int32)) hC dX5_reviewsOf_69 (by decide) ?_
      refine x_iadd hC dX5_reviewsOf_70 ?_
      replace h := le_el h
      obtain ⟨x22, hx23, h⟩ := h
      refine x_tI hx23 ?_
      refine x_istore_n (i := 3) (l' := [(3, .int x22), (5, .int v19), (0, va_rf r0), (1, .int i1), (2, .int i2), (4, .int v18)]) hC dX5_reviewsOf_71 rfl (⟨fun _ => rfl, ⟨fun _ => c_rf r0, ⟨fun _ => rfl, ⟨fun _ => rfl, ⟨fun _ => rfl, ⟨fun _ => rfl, trivial⟩⟩⟩⟩⟩⟩) (by decide) rfl ?_
      refine x_iinc (i := 4) (v := (v18 + (1 : Int32))) (l' := [(4, .int (v18 + (1 : Int32))), (3, .int x22), (5, .int v19), (0, va_rf r0), (1, .int i1), (2, .int i2)]) hC dX5_reviewsOf_72 5 rfl rfl (⟨fun _ => rfl, ⟨fun _ => rfl, ⟨fun _ => c_rf r0, ⟨fun _ => rfl, ⟨fun _ => rfl, ⟨fun _ => rfl, trivial⟩⟩⟩⟩⟩⟩) (by decide) rfl ?_
      refine x_goto (t := 5) hC dX5_reviewsOf_75 (by decide) ?_
      refine x_sub (l' := [(0, va_rf r0), (1, .int i1), (2, .int i2), (3, .int x22), (4, .int (v18 + (1 : Int32)))]) [3, 4, 5, 1, 0] rfl ?_
      have hb := bk_x h hg_5
      exact hb
    · replace h := it_f c21 h
      refine x_iconst (v := (1 : Int32)) hC dX5_reviewsOf_65 (by decide) ?_
      refine x_goto (t := 70) hC dX5_reviewsOf_66 (by decide) ?_
      refine x_iadd hC dX5_reviewsOf_70 ?_
      replace h := le_el h
      obtain ⟨x24, hx25, h⟩ := h
      refine x_tI hx25 ?_
      refine x_istore_n (i := 3) (l' := [(3, .int x24), (5, .int v19), (0, va_rf r0), (1, .int i1), (2, .int i2), (4, .int v18)]) hC dX5_reviewsOf_71 rfl (⟨fun _ => rfl, ⟨fun _ => c_rf r0, ⟨fun _ => rfl, ⟨fun _ => rfl, ⟨fun _ => rfl, ⟨fun _ => rfl, trivial⟩⟩⟩⟩⟩⟩) (by decide) rfl ?_
      refine x_iinc (i := 4) (v := (v18 + (1 : Int32))) (l' := [(4, .int (v18 + (1 : Int32))), (3, .int x24), (5, .int v19), (0, va_rf r0), (1, .int i1), (2, .int i2)]) hC dX5_reviewsOf_72 5 rfl rfl (⟨fun _ => rfl, ⟨fun _ => rfl, ⟨fun _ => c_rf r0, ⟨fun _ => rfl, ⟨fun _ => rfl, ⟨fun _ => rfl, trivial⟩⟩⟩⟩⟩⟩) (by decide) rfl ?_
      refine x_goto (t := 5) hC dX5_reviewsOf_75 (by decide) ?_
      refine x_sub (l' := [(0, va_rf r0), (1, .int i1), (2, .int i2), (3, .int x24), (4, .int (v18 + (1 : Int32)))]) [3, 4, 5, 1, 0] rfl ?_
      have hb := bk_x h hg_5
      exact hb
  unfold st_X5_reviewsOf_5 at h
  refine x_iload (i := 4) hC dX5_reviewsOf_5 4 rfl ?_
  refine x_aload_n (i := 0) hC dX5_reviewsOf_7 rfl 0 rfl ?_
  replace h := dr_el h
  obtain ⟨a4, ea5, ha6, h⟩ := h
  refine x_getR hC ea5 ha6 kf_5 1 (by decide) rfl q_864 dX5_reviewsOf_8 ?_
  refine x_bipush (v := (8 : Int32)) hC dX5_reviewsOf_11 (by decide) ?_
  replace h := dr_el h
  obtain ⟨a7, ea8, ha9, h⟩ := h
  replace h := ck_el h
  obtain ⟨hc10, h⟩ := h
  refine x_iaload hC ea8 ha9 hc10 dX5_reviewsOf_13 ?_
  refine x_tI (b := (p_I S3 a7 8)) rfl ?_
  refine x_icmp_ge (t := 78) hC dX5_reviewsOf_14 (by decide) (fun c11 => ?_) (fun c11 => ?_)
  · replace h := it_t c11 h
    replace h := ir_x h hg_5
    refine x_iload_n (i := 3) hC dX5_reviewsOf_78 rfl 3 rfl ?_
    exact x_iret hC hQ (z_N (Option.some.inj h)) (Nat.le_of_ble_eq_true rfl) (Nat.le_of_ble_eq_true rfl) dX5_reviewsOf_79
  · replace h := it_f c11 h
    refine x_iload_n (i := 2) hC dX5_reviewsOf_17 rfl 2 rfl ?_
    refine x_if_eq (t := 31) hC dX5_reviewsOf_18 (by decide) (fun c12 => ?_) (fun c12 => ?_)
    · replace h := it_t c12 h
      refine x_aload_n (i := 0) hC dX5_reviewsOf_31 rfl 0 rfl ?_
      refine x_iload (i := 4) hC dX5_reviewsOf_32 4 rfl ?_
      refine x_iconst (v := (4 : Int32)) hC dX5_reviewsOf_34 (by decide) ?_
      replace h := bd_el h
      obtain ⟨v13, S14, hb15, h⟩ := h
      refine x_callV hC (st := []) (mt_X5_of _ _ _ _ _ hb15) ea5 ha6 kf_5 q_981 q_983 qs_52 q_7 q_984 ⟨rfl, hy_X5_of⟩ ⟨Nat.le_of_ble_eq_true rfl, Nat.le_of_ble_eq_true rfl⟩ ⟨Nat.le_of_ble_eq_true rfl, Nat.le_of_ble_eq_true rfl⟩ rfl (Nat.le_of_ble_eq_true rfl) dX5_reviewsOf_35 (r_N ?_) r_NX
      show PX Z 6 S14 0 0 38 [(0, va_rf r0), (1, .int i1), (2, .int i2), (3, .int v1), (4, .int v2)] [.int v13]
      refine x_if_ne (t := 56) hC dX5_reviewsOf_38 (by decide) (fun c16 => ?_) (fun c16 => ?_)
      · replace h := it_f c16 h
        refine x_iconst (v := (0 : Int32)) hC dX5_reviewsOf_56 (by decide) ?_
        exact J_57 _ _ _ _ h
      · replace h := it_t c16 h
        refine x_aload_n (i := 0) hC dX5_reviewsOf_41 rfl 0 rfl ?_
        refine x_iload_n (i := 1) hC dX5_reviewsOf_42 rfl 1 rfl ?_
        refine x_iload (i := 4) hC dX5_reviewsOf_43 4 rfl ?_
        replace h := dr_el h
        obtain ⟨a26, ea27, ha28, h⟩ := h
        replace h := bd_el h
        obtain ⟨v29, S30, hb31, h⟩ := h
        refine x_callV hC (st := []) (mt_X5_scoreOf _ _ _ _ _ hb31) ea27 ha28 kf_5 q_985 q_987 qs_53 q_7 q_988 ⟨rfl, hy_X5_scoreOf⟩ ⟨Nat.le_of_ble_eq_true rfl, Nat.le_of_ble_eq_true rfl⟩ ⟨Nat.le_of_ble_eq_true rfl, Nat.le_of_ble_eq_true rfl⟩ rfl (Nat.le_of_ble_eq_true rfl) dX5_reviewsOf_45 (r_N ?_) r_NX
        show PX Z 6 S30 0 0 48 [(0, va_rf r0), (1, .int i1), (2, .int i2), (3, .int v1), (4, .int v2)] [.int v29]
        refine x_iconst (v := (-1 : Int32)) hC dX5_reviewsOf_48 (by decide) ?_
        refine x_icmp_eq (t := 56) hC dX5_reviewsOf_49 (by decide) (fun c32 => ?_) (fun c32 => ?_)
        · replace h := it_t c32 h
          refine x_iconst (v := (0 : Int32)) hC dX5_reviewsOf_56 (by decide) ?_
          exact J_57 _ _ _ _ h
        · replace h := it_f c32 h
          refine x_iconst (v := (1 : Int32)) hC dX5_reviewsOf_52 (by decide) ?_
          refine x_goto (t := 57) hC dX5_reviewsOf_53 (by decide) ?_
          exact J_57 _ _ _ _ h
    · replace h := it_f c12 h
      refine x_aload_n (i := 0) hC dX5_reviewsOf_21 rfl 0 rfl ?_
      refine x_iload_n (i := 1) hC dX5_reviewsOf_22 rfl 1 rfl ?_
      refine x_iload (i := 4) hC dX5_reviewsOf_23 4 rfl ?_
      replace h := bd_el h
      obtain ⟨v33, S34, hb35, h⟩ := h
      refine x_callV hC (st := []) (mt_X5_isWritten _ _ _ _ _ hb35) ea5 ha6 kf_5 q_993 q_995 qs_55 q_7 q_996 ⟨rfl, hy_X5_isWritten⟩ ⟨Nat.le_of_ble_eq_true rfl, Nat.le_of_ble_eq_true rfl⟩ ⟨Nat.le_of_ble_eq_true rfl, Nat.le_of_ble_eq_true rfl⟩ rfl (Nat.le_of_ble_eq_true rfl) dX5_reviewsOf_25 (r_N ?_) r_NX
      show PX Z 6 S34 0 0 28 [(0, va_rf r0), (1, .int i1), (2, .int i2), (3, .int v1), (4, .int v2)] [.int v33]
      refine x_goto (t := 57) hC dX5_reviewsOf_28 (by decide) ?_
      exact J_57 _ _ _ _ h
theorem dX5_conflicts_0 : decode cX5_conflicts 0 = .ok (.iconst 0, 1) := by decide +kernel
theorem dX5_conflicts_1 : decode cX5_conflicts 1 = .ok (.istore_n 2, 1) := by decide +kernel
theorem dX5_conflicts_2 : decode cX5_conflicts 2 = .ok (.iconst 0, 1) := by decide +kernel
theorem dX5_conflicts_3 : decode cX5_conflicts 3 = .ok (.istore_n 3, 1) := by decide +kernel
theorem dX5_conflicts_4 : decode cX5_conflicts 4 = .ok (.iload_n 3, 1) := by decide +kernel
theorem dX5_conflicts_5 : decode cX5_conflicts 5 = .ok (.aload_n 0, 1) := by decide +kernel
theorem dX5_conflicts_6 : decode cX5_conflicts 6 = .ok (.getfield 7, 3) := by decide +kernel
theorem dX5_conflicts_9 : decode cX5_conflicts 9 = .ok (.bipush 8, 2) := by decide +kernel
theorem dX5_conflicts_11 : decode cX5_conflicts 11 = .ok (.iaload, 1) := by decide +kernel
theorem dX5_conflicts_12 : decode cX5_conflicts 12 = .ok (.if_icmp .ge 28, 3) := by decide +kernel
theorem dX5_conflicts_15 : decode cX5_conflicts 15 = .ok (.iload_n 2, 1) := by decide +kernel
theorem dX5_conflicts_16 : decode cX5_conflicts 16 = .ok (.aload_n 0, 1) := by decide +kernel
theorem dX5_conflicts_17 : decode cX5_conflicts 17 = .ok (.iload_n 1, 1) := by decide +kernel
theorem dX5_conflicts_18 : decode cX5_conflicts 18 = .ok (.iload_n 3, 1) := by decide +kernel
theorem dX5_conflicts_19 : decode cX5_conflicts 19 = .ok (.invokevirtual 87, 3) := by decide +kernel
theorem dX5_conflicts_22 : decode cX5_conflicts 22 = .ok (.ifCond .eq 9, 3) := by decide +kernel
theorem dX5_conflicts_25 : decode cX5_conflicts 25 = .ok (.iconst 1, 1) := by decide +kernel
theorem dX5_conflicts_26 : decode cX5_conflicts 26 = .ok (.iload_n 3, 1) := by decide +kernel
theorem dX5_conflicts_27 : decode cX5_conflicts 27 = .ok (.ishl, 1) := by decide +kernel
theorem dX5_conflicts_28 : decode cX5_conflicts 28 = .ok (.goto 4, 3) := by decide +kernel
theorem dX5_conflicts_31 : decode cX5_conflicts 31 = .ok (.iconst 0, 1) := by decide +kernel
theorem dX5_conflicts_32 : decode cX5_conflicts 32 = .ok (.ior, 1) := by decide +kernel
theorem dX5_conflicts_33 : decode cX5_conflicts 33 = .ok (.istore_n 2, 1) := by decide +kernel
theorem dX5_conflicts_34 : decode cX5_conflicts 34 = .ok (.iinc 3 1, 3) := by decide +kernel
theorem dX5_conflicts_37 : decode cX5_conflicts 37 = .ok (.goto (-33), 3) := by decide +kernel
theorem dX5_conflicts_40 : decode cX5_conflicts 40 = .ok (.iload_n 2, 1) := by decide +kernel
theorem dX5_conflicts_41 : decode cX5_conflicts 41 = .ok (.ireturn, 1) := by decide +kernel
set_option maxRecDepth 100000 in
set_option maxHeartbeats 4000000 in
theorem mt_X5_conflicts (r0 : Option Nat) (i1 : Int32) (S0 : PH) (y : Int32 × PH) (h : m_X5_conflicts r0 i1 S0 = some y) : MT yX5_conflicts (.code yX5_conflicts cX5_conflicts 4 (Option.some FieldType.int)) 3 68 0 0 [va_rf r0, .int i1] S0 (oQ e_I (qN y)) := by
  refine mt_of (own := RX5) (l0 := [(0, va_rf r0), (1, .int i1)]) rfl rfl (by cases r0 <;> exact Nat.le_of_ble_eq_true rfl) (by cases r0 <;> rfl) ?_
  intro Z hC hQ hE hN
  unfold m_X5_conflicts at h
  refine x_iconst (v := (0 : Int32)) hC dX5_conflicts_0 (by decide) ?_
  refine x_istore_n (i := 2) (l' := [(2, .int (0 : Int32)), (0, va_rf r0), (1, .int i1)]) hC dX5_conflicts_1 rfl (⟨fun _ => c_rf r0, ⟨fun _ => rfl, trivial⟩⟩) (by decide) rfl ?_
  refine x_iconst (v := (0 : Int32)) hC dX5_conflicts_2 (by decide) ?_
  refine x_istore_n (i := 3) (l' := [(3, .int (0 : Int32)), (2, .int (0 : Int32)), (0, va_rf r0), (1, .int i1)]) hC dX5_conflicts_3 rfl (⟨fun _ => rfl, ⟨fun _ => c_rf r0, ⟨fun _ => rfl, trivial⟩⟩⟩) (by decide) rfl ?_
  refine x_sub (l' := [(0, va_rf r0), (1, .int i1), (2, .int (0 : Int32)), (3, .int (0 : Int32))]) [2, 3, 1, 0] rfl ?_
  refine lp_sim (P := fun (t : (Int32 × Int32 × PH)) => PX Z 4 t.2.2 0 0 4 [(0, va_rf r0), (1, .int i1), (2, .int t.1), (3, .int t.2.1)] []) (G := fun r => r = y) ?_ h rfl
  clear h
  intro t x_4 h hg_4
  obtain ⟨v1, v2, S3⟩ := t
  show PX Z 4 S3 0 0 4 [(0, va_rf r0), (1, .int i1), (2, .int v1), (3, .int v2)] []
  unfold st_X5_conflicts_4 at h
  refine x_iload_n (i := 3) hC dX5_conflicts_4 rfl 3 rfl ?_
  refine x_aload_n (i := 0) hC dX5_conflicts_5 rfl 0 rfl ?_
  replace h := dr_el h
  obtain ⟨a4, ea5, ha6, h⟩ := h
  refine x_getR hC ea5 ha6 kf_5 1 (by decide) rfl q_864 dX5_conflicts_6 ?_
  refine x_bipush (v := (8 : Int32)) hC dX5_conflicts_9 (by decide) ?_
  replace h := dr_el h
  obtain ⟨a7, ea8, ha9, h⟩ := h
  replace h := ck_el h
  obtain ⟨hc10, h⟩ := h
  refine x_iaload hC ea8 ha9 hc10 dX5_conflicts_11 ?_
  refine x_tI (b := (p_I S3 a7 8)) rfl ?_
  refine x_icmp_ge (t := 40) hC dX5_conflicts_12 (by decide) (fun c11 => ?_) (fun c11 => ?_)
  · replace h := it_t c11 h
    replace h := ir_x h hg_4
    refine x_iload_n (i := 2) hC dX5_conflicts_40 rfl 2 rfl ?_
    exact x_iret hC hQ (z_N (Option.some.inj h)) (Nat.le_of_ble_eq_true rfl) (Nat.le_of_ble_eq_true rfl) dX5_conflicts_41
  · replace h := it_f c11 h
    refine x_iload_n (i := 2) hC dX5_conflicts_15 rfl 2 rfl ?_
    refine x_aload_n (i := 0) hC dX5_conflicts_16 rfl 0 rfl ?_
    refine x_iload_n (i := 1) hC dX5_conflicts_17 rfl 1 rfl ?_
    refine x_iload_n (i := 3) hC dX5_conflicts_18 rfl 3 rfl ?_
    replace h := bd_el h
    obtain ⟨v12, S13, hb14, h⟩ := h
    refine x_callV hC (st := [.int v1]) (mt_X5_isInConflict _ _ _ _ _ hb14) ea5 ha6 kf_5 q_1000 q_1002 qs_56 q_7 q_1003 ⟨rfl, hy_X5_isInConflict⟩ ⟨Nat.le_of_ble_eq_true rfl, Nat.le_of_ble_eq_true rfl⟩ ⟨Nat.le_of_ble_eq_true rfl, Nat.le_of_ble_eq_true rfl⟩ rfl (Nat.le_of_ble_eq_true rfl) dX5_conflicts_19 (r_N ?_) r_NX
    show PX Z 4 S13 0 0 22 [(0, va_rf r0), (1, .int i1), (2, .int v1), (3, .int v2)] [.int v12, .int v1]
    refine x_if_eq (t := 31) hC dX5_conflicts_22 (by decide) (fun c15 => ?_) (fun c15 => ?_)
    · replace h := it_t c15 h
      refine x_iconst (v := (0 : Int32)) hC dX5_conflicts_31 (by decide) ?_
      refine x_ior hC dX5_conflicts_32 ?_
      replace h := le_el h
      obtain ⟨x16, hx17, h⟩ := h
      refine x_tI hx17 ?_
      refine x_istore_n (i := 2) (l' := [(2, .int x16), (0, va_rf r0), (1, .int i1), (3, .int v2)]) hC dX5_conflicts_33 rfl (⟨fun _ => c_rf r0, ⟨fun _ => rfl, ⟨fun _ => rfl, ⟨fun _ => rfl, trivial⟩⟩⟩⟩) (by decide) rfl ?_
      refine x_iinc (i := 3) (v := (v2 + (1 : Int32))) (l' := [(3, .int (v2 + (1 : Int32))), (2, .int x16), (0, va_rf r0), (1, .int i1)]) hC dX5_conflicts_34 3 rfl rfl (⟨fun _ => rfl, ⟨fun _ => c_rf r0, ⟨fun _ => rfl, ⟨fun _ => rfl, trivial⟩⟩⟩⟩) (by decide) rfl ?_
      refine x_goto (t := 4) hC dX5_conflicts_37 (by decide) ?_
      refine x_sub (l' := [(0, va_rf r0), (1, .int i1), (2, .int x16), (3, .int (v2 + (1 : Int32)))]) [2, 3, 1, 0] rfl ?_
      have hb := bk_x h hg_4
      exact hb
    · replace h := it_f c15 h
      refine x_iconst (v := (1 : Int32)) hC dX5_conflicts_25 (by decide) ?_
      refine x_iload_n (i := 3) hC dX5_conflicts_26 rfl 3 rfl ?_
      refine x_ishl hC dX5_conflicts_27 ?_
      refine x_goto (t := 32) hC dX5_conflicts_28 (by decide) ?_
      refine x_ior hC dX5_conflicts_32 ?_
      replace h := le_el h
      obtain ⟨x18, hx19, h⟩ := h
      refine x_tI hx19 ?_
      refine x_istore_n (i := 2) (l' := [(2, .int x18), (0, va_rf r0), (1, .int i1), (3, .int v2)]) hC dX5_conflicts_33 rfl (⟨fun _ => c_rf r0, ⟨fun _ => rfl, ⟨fun _ => rfl, ⟨fun _ => rfl, trivial⟩⟩⟩⟩) (by decide) rfl ?_
      refine x_iinc (i := 3) (v := (v2 + (1 : Int32))) (l' := [(3, .int (v2 + (1 : Int32))), (2, .int x18), (0, va_rf r0), (1, .int i1)]) hC dX5_conflicts_34 3 rfl rfl (⟨fun _ => rfl, ⟨fun _ => c_rf r0, ⟨fun _ => rfl, ⟨fun _ => rfl, trivial⟩⟩⟩⟩) (by decide) rfl ?_
      refine x_goto (t := 4) hC dX5_conflicts_37 (by decide) ?_
      refine x_sub (l' := [(0, va_rf r0), (1, .int i1), (2, .int x18), (3, .int (v2 + (1 : Int32)))]) [2, 3, 1, 0] rfl ?_
      have hb := bk_x h hg_4
      exact hb
theorem dX5_ofPerson_0 : decode cX5_ofPerson 0 = .ok (.iload_n 2, 1) := by decide +kernel
theorem dX5_ofPerson_1 : decode cX5_ofPerson 1 = .ok (.tableswitch 123 0 7 #[47, 57, 67, 77, 77, 93, 103, 113], 47) := by decide +kernel
theorem dX5_ofPerson_48 : decode cX5_ofPerson 48 = .ok (.aload_n 0, 1) := by decide +kernel
theorem dX5_ofPerson_49 : decode cX5_ofPerson 49 = .ok (.getfield 7, 3) := by decide +kernel
theorem dX5_ofPerson_52 : decode cX5_ofPerson 52 = .ok (.bipush 9, 2) := by decide +kernel
theorem dX5_ofPerson_54 : decode cX5_ofPerson 54 = .ok (.iload_n 1, 1) := by decide +kernel
theorem dX5_ofPerson_55 : decode cX5_ofPerson 55 = .ok (.iadd, 1) := by decide +kernel
theorem dX5_ofPerson_56 : decode cX5_ofPerson 56 = .ok (.iaload, 1) := by decide +kernel
theorem dX5_ofPerson_57 : decode cX5_ofPerson 57 = .ok (.ireturn, 1) := by decide +kernel
theorem dX5_ofPerson_58 : decode cX5_ofPerson 58 = .ok (.aload_n 0, 1) := by decide +kernel
theorem dX5_ofPerson_59 : decode cX5_ofPerson 59 = .ok (.getfield 7, 3) := by decide +kernel
theorem dX5_ofPerson_62 : decode cX5_ofPerson 62 = .ok (.bipush 17, 2) := by decide +kernel
theorem dX5_ofPerson_64 : decode cX5_ofPerson 64 = .ok (.iload_n 1, 1) := by decide +kernel
theorem dX5_ofPerson_65 : decode cX5_ofPerson 65 = .ok (.iadd, 1) := by decide +kernel
theorem dX5_ofPerson_66 : decode cX5_ofPerson 66 = .ok (.iaload, 1) := by decide +kernel
theorem dX5_ofPerson_67 : decode cX5_ofPerson 67 = .ok (.ireturn, 1) := by decide +kernel
theorem dX5_ofPerson_68 : decode cX5_ofPerson 68 = .ok (.aload_n 0, 1) := by decide +kernel
theorem dX5_ofPerson_69 : decode cX5_ofPerson 69 = .ok (.getfield 7, 3) := by decide +kernel
theorem dX5_ofPerson_72 : decode cX5_ofPerson 72 = .ok (.bipush 25, 2) := by decide +kernel
theorem dX5_ofPerson_74 : decode cX5_ofPerson 74 = .ok (.iload_n 1, 1) := by decide +kernel
theorem dX5_ofPerson_75 : decode cX5_ofPerson 75 = .ok (.iadd, 1) := by decide +kernel
theorem dX5_ofPerson_76 : decode cX5_ofPerson 76 = .ok (.iaload, 1) := by decide +kernel
theorem dX5_ofPerson_77 : decode cX5_ofPerson 77 = .ok (.ireturn, 1) := by decide +kernel
theorem dX5_ofPerson_78 : decode cX5_ofPerson 78 = .ok (.aload_n 0, 1) := by decide +kernel
theorem dX5_ofPerson_79 : decode cX5_ofPerson 79 = .ok (.iload_n 1, 1) := by decide +kernel
theorem dX5_ofPerson_80 : decode cX5_ofPerson 80 = .ok (.iload_n 2, 1) := by decide +kernel
theorem dX5_ofPerson_81 : decode cX5_ofPerson 81 = .ok (.iconst 4, 1) := by decide +kernel
theorem dX5_ofPerson_82 : decode cX5_ofPerson 82 = .ok (.if_icmp .ne 7, 3) := by decide +kernel
theorem dX5_ofPerson_85 : decode cX5_ofPerson 85 = .ok (.iconst 1, 1) := by decide +kernel
theorem dX5_ofPerson_86 : decode cX5_ofPerson 86 = .ok (.goto 4, 3) := by decide +kernel
theorem dX5_ofPerson_89 : decode cX5_ofPerson 89 = .ok (.iconst 0, 1) := by decide +kernel
theorem dX5_ofPerson_90 : decode cX5_ofPerson 90 = .ok (.invokevirtual 166, 3) := by decide +kernel
theorem dX5_ofPerson_93 : decode cX5_ofPerson 93 = .ok (.ireturn, 1) := by decide +kernel
theorem dX5_ofPerson_94 : decode cX5_ofPerson 94 = .ok (.aload_n 0, 1) := by decide +kernel
theorem dX5_ofPerson_95 : decode cX5_ofPerson 95 = .ok (.getfield 7, 3) := by decide +kernel
theorem dX5_ofPerson_98 : decode cX5_ofPerson 98 = .ok (.bipush 33, 2) := by decide +kernel
theorem dX5_ofPerson_100 : decode cX5_ofPerson 100 = .ok (.iload_n 1, 1) := by decide +kernel
theorem dX5_ofPerson_101 : decode cX5_ofPerson 101 = .ok (.iadd, 1) := by decide +kernel
theorem dX5_ofPerson_102 : decode cX5_ofPerson 102 = .ok (.iaload, 1) := by decide +kernel
theorem dX5_ofPerson_103 : decode cX5_ofPerson 103 = .ok (.ireturn, 1) := by decide +kernel
theorem dX5_ofPerson_104 : decode cX5_ofPerson 104 = .ok (.aload_n 0, 1) := by decide +kernel
theorem dX5_ofPerson_105 : decode cX5_ofPerson 105 = .ok (.getfield 7, 3) := by decide +kernel
theorem dX5_ofPerson_108 : decode cX5_ofPerson 108 = .ok (.bipush 41, 2) := by decide +kernel
theorem dX5_ofPerson_110 : decode cX5_ofPerson 110 = .ok (.iload_n 1, 1) := by decide +kernel
theorem dX5_ofPerson_111 : decode cX5_ofPerson 111 = .ok (.iadd, 1) := by decide +kernel
theorem dX5_ofPerson_112 : decode cX5_ofPerson 112 = .ok (.iaload, 1) := by decide +kernel
theorem dX5_ofPerson_113 : decode cX5_ofPerson 113 = .ok (.ireturn, 1) := by decide +kernel
theorem dX5_ofPerson_114 : decode cX5_ofPerson 114 = .ok (.aload_n 0, 1) := by decide +kernel
theorem dX5_ofPerson_115 : decode cX5_ofPerson 115 = .ok (.getfield 7, 3) := by decide +kernel
theorem dX5_ofPerson_118 : decode cX5_ofPerson 118 = .ok (.bipush 49, 2) := by decide +kernel
theorem dX5_ofPerson_120 : decode cX5_ofPerson 120 = .ok (.iload_n 1, 1) := by decide +kernel
theorem dX5_ofPerson_121 : decode cX5_ofPerson 121 = .ok (.iadd, 1) := by decide +kernel
theorem dX5_ofPerson_122 : decode cX5_ofPerson 122 = .ok (.iaload, 1) := by decide +kernel
theorem dX5_ofPerson_123 : decode cX5_ofPerson 123 = .ok (.ireturn, 1) := by decide +kernel
theorem dX5_ofPerson_124 : decode cX5_ofPerson 124 = .ok (.aload_n 0, 1) := by decide +kernel
theorem dX5_ofPerson_125 : decode cX5_ofPerson 125 = .ok (.iload_n 1, 1) := by decide +kernel
theorem dX5_ofPerson_126 : decode cX5_ofPerson 126 = .ok (.invokevirtual 169, 3) := by decide +kernel
theorem dX5_ofPerson_129 : decode cX5_ofPerson 129 = .ok (.ireturn, 1) := by decide +kernel
set_option maxRecDepth 100000 in
set_option maxHeartbeats 4000000 in
theorem mt_X5_ofPerson (r0 : Option Nat) (i1 : Int32) (i2 : Int32) (S0 : PH) (y : Int32 × PH) (h : m_X5_ofPerson r0 i1 i2 S0 = some y) : MT yX5_ofPerson (.code yX5_ofPerson cX5_ofPerson 3 (Option.some FieldType.int)) 4 91 0 0 [va_rf r0, .int i1, .int i2] S0 (oQ e_I (qN y)) := by
  refine mt_of (own := RX5) (l0 := [(0, va_rf r0), (1, .int i1), (2, .int i2)]) rfl rfl (by cases r0 <;> exact Nat.le_of_ble_eq_true rfl) (by cases r0 <;> rfl) ?_
  intro Z hC hQ hE hN
  have J_90 : ∀ (v27 : Option Nat) (v28 : Int32) (v29 : Int32) (S30 : PH), j_X5_ofPerson_90 r0 i1 i2 v27 v28 v29 S30 = some y → PX Z 3 S30 0 0 90 [(0, va_rf r0), (1, .int i1), (2, .int i2)] [.int v29, .int v28, va_rf v27] := by
    intro v27 v28 v29 S30 h
    unfold j_X5_ofPerson_90 at h
    replace h := dr_el h
    obtain ⟨a31, ea32, ha33, h⟩ := h
    replace h := bd_el h
    obtain ⟨v34, S35, hb36, h⟩ := h
    refine x_callV hC (st := []) (mt_X5_reviewsOf _ _ _ _ _ hb36) ea32 ha33 kf_5 q_1131 q_1133 qs_75 q_7 q_1134 ⟨rfl, hy_X5_reviewsOf⟩ ⟨Nat.le_of_ble_eq_true rfl, Nat.le_of_ble_eq_true rfl⟩ ⟨Nat.le_of_ble_eq_true rfl, Nat.le_of_ble_eq_true rfl⟩ rfl (Nat.le_of_ble_eq_true rfl) dX5_ofPerson_90 (r_N ?_) r_NX
    show PX Z 3 S35 0 0 93 [(0, va_rf r0), (1, .int i1), (2, .int i2)] [.int v34]
    exact x_iret hC hQ (z_N (Option.some.inj h)) (Nat.le_of_ble_eq_true rfl) (Nat.le_of_ble_eq_true rfl) dX5_ofPerson_93
  unfold m_X5_ofPerson at h
  refine x_iload_n (i := 2) hC dX5_ofPerson_0 rfl 2 rfl ?_
  rcases Decidable.em (i2 = (0 : Int32)) with c1 | c1
  · replace h := it_t c1 h
    refine x_tabIn (off := 47) (t := 48) hC dX5_ofPerson_1 (by rw [c1]; decide) (by rw [c1]; decide) (by rw [c1]; decide) (by decide) ?_
    refine x_aload_n (i := 0) hC dX5_ofPerson_48 rfl 0 rfl ?_
    replace h := dr_el h
    obtain ⟨a2, ea3, ha4, h⟩ := h
    refine x_getR hC ea3 ha4 kf_5 1 (by decide) rfl q_864 dX5_ofPerson_49 ?_
    refine x_bipush (v := (9 : Int32)) hC dX5_ofPerson_52 (by decide) ?_
    refine x_iload_n (i := 1) hC dX5_ofPerson_54 rfl 1 rfl ?_
    refine x_iadd hC dX5_ofPerson_55 ?_
    replace h := dr_el h
    obtain ⟨a5, ea6, ha7, h⟩ := h
    replace h := ck_el h
    obtain ⟨hc8, h⟩ := h
    refine x_iaload hC ea6 ha7 hc8 dX5_ofPerson_56 ?_
    exact x_iret hC hQ (z_N (Option.some.inj h)) (Nat.le_of_ble_eq_true rfl) (Nat.le_of_ble_eq_true rfl) dX5_ofPerson_57
  replace h := it_f c1 h
  rcases Decidable.em (i2 = (1 : Int32)) with c9 | c9
  · replace h := it_t c9 h
    refine x_tabIn (off := 57) (t := 58) hC dX5_ofPerson_1 (by rw [c9]; decide) (by rw [c9]; decide) (by rw [c9]; decide) (by decide) ?_
    refine x_aload_n (i := 0) hC dX5_ofPerson_58 rfl 0 rfl ?_
    replace h := dr_el h
    obtain ⟨a10, ea11, ha12, h⟩ := h
    refine x_getR hC ea11 ha12 kf_5 1 (by decide) rfl q_864 dX5_ofPerson_59 ?_
    refine x_bipush (v := (17 : Int32)) hC dX5_ofPerson_62 (by decide) ?_
    refine x_iload_n (i := 1) hC dX5_ofPerson_64 rfl 1 rfl ?_
    refine x_iadd hC dX5_ofPerson_65 ?_
    replace h := dr_el h
    obtain ⟨a13, ea14, ha15, h⟩ := h
    replace h := ck_el h
    obtain ⟨hc16, h⟩ := h
    refine x_iaload hC ea14 ha15 hc16 dX5_ofPerson_66 ?_
    exact x_iret hC hQ (z_N (Option.some.inj h)) (Nat.le_of_ble_eq_true rfl) (Nat.le_of_ble_eq_true rfl) dX5_ofPerson_67
  replace h := it_f c9 h
  rcases Decidable.em (i2 = (2 : Int32)) with c17 | c17
  · replace h := it_t c17 h
    refine x_tabIn (off := 67) (t := 68) hC dX5_ofPerson_1 (by rw [c17]; decide) (by rw [c17]; decide) (by rw [c17]; decide) (by decide) ?_
    refine x_aload_n (i := 0) hC dX5_ofPerson_68 rfl 0 rfl ?_
    replace h := dr_el h
    obtain ⟨a18, ea19, ha20, h⟩ := h
    refine x_getR hC ea19 ha20 kf_5 1 (by decide) rfl q_864 dX5_ofPerson_69 ?_
    refine x_bipush (v := (25 : Int32)) hC dX5_ofPerson_72 (by decide) ?_
    refine x_iload_n (i := 1) hC dX5_ofPerson_74 rfl 1 rfl ?_
    refine x_iadd hC dX5_ofPerson_75 ?_
    replace h := dr_el h
    obtain ⟨a21, ea22, ha23, h⟩ := h
    replace h := ck_el h
    obtain ⟨hc24, h⟩ := h
    refine x_iaload hC ea22 ha23 hc24 dX5_ofPerson_76 ?_
    exact x_iret hC hQ (z_N (Option.some.inj h)) (Nat.le_of_ble_eq_true rfl) (Nat.le_of_ble_eq_true rfl) dX5_ofPerson_77
  replace h := it_f c17 h
  rcases Decidable.em (i2 = (3 : Int32)) with c25 | c25
  · replace h := it_t c25 h
    refine x_tabIn (off := 77) (t := 78) hC dX5_ofPerson_1 (by rw [c25]; decide) (by rw [c25]; decide) (by rw [c25]; decide) (by decide) ?_
    refine x_aload_n (i := 0) hC dX5_ofPerson_78 rfl 0 rfl ?_
    refine x_iload_n (i := 1) hC dX5_ofPerson_79 rfl 1 rfl ?_
    refine x_iload_n (i := 2) hC dX5_ofPerson_80 rfl 2 rfl ?_
    refine x_iconst (v := (4 : Int32)) hC dX5_ofPerson_81 (by decide) ?_
    refine x_icmp_ne (t := 89) hC dX5_ofPerson_82 (by decide) (fun c26 => ?_) (fun c26 => ?_)
    · replace h := it_f c26 h
      refine x_iconst (v := (0 : Int32)) hC dX5_ofPerson_89 (by decide) ?_
      exact J_90 _ _ _ _ h
    · replace h := it_t c26 h
      refine x_iconst (v := (1 : Int32)) hC dX5_ofPerson_85 (by decide) ?_
      refine x_goto (t := 90) hC dX5_ofPerson_86 (by decide) ?_
      exact J_90 _ _ _ _ h
  replace h := it_f c25 h
  rcases Decidable.em (i2 = (4 : Int32)) with c37 | c37
  · replace h := it_t c37 h
    refine x_tabIn (off := 77) (t := 78) hC dX5_ofPerson_1 (by rw [c37]; decide) (by rw [c37]; decide) (by rw [c37]; decide) (by decide) ?_
    refine x_aload_n (i := 0) hC dX5_ofPerson_78 rfl 0 rfl ?_
    refine x_iload_n (i := 1) hC dX5_ofPerson_79 rfl 1 rfl ?_
    refine x_iload_n (i := 2) hC dX5_ofPerson_80 rfl 2 rfl ?_
    refine x_iconst (v := (4 : Int32)) hC dX5_ofPerson_81 (by decide) ?_
    refine x_icmp_ne (t := 89) hC dX5_ofPerson_82 (by decide) (fun c38 => ?_) (fun c38 => ?_)
    · replace h := it_f c38 h
      refine x_iconst (v := (0 : Int32)) hC dX5_ofPerson_89 (by decide) ?_
      exact J_90 _ _ _ _ h
    · replace h := it_t c38 h
      refine x_iconst (v := (1 : Int32)) hC dX5_ofPerson_85 (by decide) ?_
      refine x_goto (t := 90) hC dX5_ofPerson_86 (by decide) ?_
      exact J_90 _ _ _ _ h
  replace h := it_f c37 h
  rcases Decidable.em (i2 = (5 : Int32)) with c39 | c39
  · replace h := it_t c39 h
    refine x_tabIn (off := 93) (t := 94) hC dX5_ofPerson_1 (by rw [c39]; decide) (by rw [c39]; decide) (by rw [c39]; decide) (by decide) ?_
    refine x_aload_n (i := 0) hC dX5_ofPerson_94 rfl 0 rfl ?_
    replace h := dr_el h
    obtain ⟨a40, ea41, ha42, h⟩ := h
    refine x_getR hC ea41 ha42 kf_5 1 (by decide) rfl q_864 dX5_ofPerson_95 ?_
    refine x_bipush (v := (33 : Int32)) hC dX5_ofPerson_98 (by decide) ?_
    refine x_iload_n (i := 1) hC dX5_ofPerson_100 rfl 1 rfl ?_
    refine x_iadd hC dX5_ofPerson_101 ?_
    replace h := dr_el h
    obtain ⟨a43, ea44, ha45, h⟩ := h
    replace h := ck_el h
    obtain ⟨hc46, h⟩ := h
    refine x_iaload hC ea44 ha45 hc46 dX5_ofPerson_102 ?_
    exact x_iret hC hQ (z_N (Option.some.inj h)) (Nat.le_of_ble_eq_true rfl) (Nat.le_of_ble_eq_true rfl) dX5_ofPerson_103
  replace h := it_f c39 h
  rcases Decidable.em (i2 = (6 : Int32)) with c47 | c47
  · replace h := it_t c47 h
    refine x_tabIn (off := 103) (t := 104) hC dX5_ofPerson_1 (by rw [c47]; decide) (by rw [c47]; decide) (by rw [c47]; decide) (by decide) ?_
    refine x_aload_n (i := 0) hC dX5_ofPerson_104 rfl 0 rfl ?_
    replace h := dr_el h
    obtain ⟨a48, ea49, ha50, h⟩ := h
    refine x_getR hC ea49 ha50 kf_5 1 (by decide) rfl q_864 dX5_ofPerson_105 ?_
    refine x_bipush (v := (41 : Int32)) hC dX5_ofPerson_108 (by decide) ?_
    refine x_iload_n (i := 1) hC dX5_ofPerson_110 rfl 1 rfl ?_
    refine x_iadd hC dX5_ofPerson_111 ?_
    replace h := dr_el h
    obtain ⟨a51, ea52, ha53, h⟩ := h
    replace h := ck_el h
    obtain ⟨hc54, h⟩ := h
    refine x_iaload hC ea52 ha53 hc54 dX5_ofPerson_112 ?_
    exact x_iret hC hQ (z_N (Option.some.inj h)) (Nat.le_of_ble_eq_true rfl) (Nat.le_of_ble_eq_true rfl) dX5_ofPerson_113
  replace h := it_f c47 h
  rcases Decidable.em (i2 = (7 : Int32)) with c55 | c55
  · replace h := it_t c55 h
    refine x_tabIn (off := 113) (t := 114) hC dX5_ofPerson_1 (by rw [c55]; decide) (by rw [c55]; decide) (by rw [c55]; decide) (by decide) ?_
    refine x_aload_n (i := 0) hC dX5_ofPerson_114 rfl 0 rfl ?_
    replace h := dr_el h
    obtain ⟨a56, ea57, ha58, h⟩ := h
    refine x_getR hC ea57 ha58 kf_5 1 (by decide) rfl q_864 dX5_ofPerson_115 ?_
    refine x_bipush (v := (49 : Int32)) hC dX5_ofPerson_118 (by decide) ?_
    refine x_iload_n (i := 1) hC dX5_ofPerson_120 rfl 1 rfl ?_
    refine x_iadd hC dX5_ofPerson_121 ?_
    replace h := dr_el h
    obtain ⟨a59, ea60, ha61, h⟩ := h
    replace h := ck_el h
    obtain ⟨hc62, h⟩ := h
    refine x_iaload hC ea60 ha61 hc62 dX5_ofPerson_122 ?_
    exact x_iret hC hQ (z_N (Option.some.inj h)) (Nat.le_of_ble_eq_true rfl) (Nat.le_of_ble_eq_true rfl) dX5_ofPerson_123
  replace h := it_f c55 h
  refine x_tabOut (t := 124) hC dX5_ofPerson_1 (tab_o 0 [(0 : Int32), (1 : Int32), (2 : Int32), (3 : Int32), (4 : Int32), (5 : Int32), (6 : Int32), (7 : Int32)] (by decide) (by decide) (List.forall_mem_cons.mpr ⟨c1, List.forall_mem_cons.mpr ⟨c9, List.forall_mem_cons.mpr ⟨c17, List.forall_mem_cons.mpr ⟨c25, List.forall_mem_cons.mpr ⟨c37, List.forall_mem_cons.mpr ⟨c39, List.forall_mem_cons.mpr ⟨c47, List.forall_mem_cons.mpr ⟨c55, fun _ q => nomatch q⟩⟩⟩⟩⟩⟩⟩⟩)) (by decide) ?_
  refine x_aload_n (i := 0) hC dX5_ofPerson_124 rfl 0 rfl ?_
  refine x_iload_n (i := 1) hC dX5_ofPerson_125 rfl 1 rfl ?_
  replace h := dr_el h
  obtain ⟨a63, ea64, ha65, h⟩ := h
  replace h := bd_el h
  obtain ⟨v66, S67, hb68, h⟩ := h
  refine x_callV hC (st := []) (mt_X5_conflicts _ _ _ _ hb68) ea64 ha65 kf_5 q_1135 q_1137 qs_76 q_7 q_1138 ⟨rfl, hy_X5_conflicts⟩ ⟨Nat.le_of_ble_eq_true rfl, Nat.le_of_ble_eq_true rfl⟩ ⟨Nat.le_of_ble_eq_true rfl, Nat.le_of_ble_eq_true rfl⟩ rfl (Nat.le_of_ble_eq_true rfl) dX5_ofPerson_126 (r_N ?_) r_NX
  show PX Z 3 S67 0 0 129 [(0, va_rf r0), (1, .int i1), (2, .int i2)] [.int v66]
  exact x_iret hC hQ (z_N (Option.some.inj h)) (Nat.le_of_ble_eq_true rfl) (Nat.le_of_ble_eq_true rfl) dX5_ofPerson_129
theorem dX5_personOf_0 : decode cX5_personOf 0 = .ok (.aload_n 0, 1) := by decide +kernel
theorem dX5_personOf_1 : decode cX5_personOf 1 = .ok (.iload_n 1, 1) := by decide +kernel
theorem dX5_personOf_2 : decode cX5_personOf 2 = .ok (.invokestatic 67, 3) := by decide +kernel
theorem dX5_personOf_5 : decode cX5_personOf 5 = .ok (.ifCond .ne 7, 3) := by decide +kernel
theorem dX5_personOf_8 : decode cX5_personOf 8 = .ok (.iconst 1, 1) := by decide +kernel
theorem dX5_personOf_9 : decode cX5_personOf 9 = .ok (.goto 18, 3) := by decide +kernel
theorem dX5_personOf_12 : decode cX5_personOf 12 = .ok (.iload_n 2, 1) := by decide +kernel
theorem dX5_personOf_13 : decode cX5_personOf 13 = .ok (.iconst 0, 1) := by decide +kernel
theorem dX5_personOf_14 : decode cX5_personOf 14 = .ok (.bipush 8, 2) := by decide +kernel
theorem dX5_personOf_16 : decode cX5_personOf 16 = .ok (.invokestatic 27, 3) := by decide +kernel
theorem dX5_personOf_19 : decode cX5_personOf 19 = .ok (.ifCond .ne 7, 3) := by decide +kernel
theorem dX5_personOf_22 : decode cX5_personOf 22 = .ok (.iconst 2, 1) := by decide +kernel
theorem dX5_personOf_23 : decode cX5_personOf 23 = .ok (.goto 4, 3) := by decide +kernel
theorem dX5_personOf_26 : decode cX5_personOf 26 = .ok (.iconst 0, 1) := by decide +kernel
theorem dX5_personOf_27 : decode cX5_personOf 27 = .ok (.invokevirtual 56, 3) := by decide +kernel
theorem dX5_personOf_30 : decode cX5_personOf 30 = .ok (.ifCond .eq 12, 3) := by decide +kernel
theorem dX5_personOf_33 : decode cX5_personOf 33 = .ok (.aload_n 0, 1) := by decide +kernel
theorem dX5_personOf_34 : decode cX5_personOf 34 = .ok (.iload_n 1, 1) := by decide +kernel
theorem dX5_personOf_35 : decode cX5_personOf 35 = .ok (.iload_n 2, 1) := by decide +kernel
theorem dX5_personOf_36 : decode cX5_personOf 36 = .ok (.invokevirtual 172, 3) := by decide +kernel
theorem dX5_personOf_39 : decode cX5_personOf 39 = .ok (.goto 4, 3) := by decide +kernel
theorem dX5_personOf_42 : decode cX5_personOf 42 = .ok (.iconst 0, 1) := by decide +kernel
theorem dX5_personOf_43 : decode cX5_personOf 43 = .ok (.ireturn, 1) := by decide +kernel
set_option maxRecDepth 100000 in
set_option maxHeartbeats 4000000 in
theorem mt_X5_personOf (r0 : Option Nat) (i1 : Int32) (i2 : Int32) (S0 : PH) (y : Int32 × PH) (h : m_X5_personOf r0 i1 i2 S0 = some y) : MT yX5_personOf (.code yX5_personOf cX5_personOf 3 (Option.some FieldType.int)) 5 113 0 0 [va_rf r0, .int i1, .int i2] S0 (oQ e_I (qN y)) := by
  refine mt_of (own := RX5) (l0 := [(0, va_rf r0), (1, .int i1), (2, .int i2)]) rfl rfl (by cases r0 <;> exact Nat.le_of_ble_eq_true rfl) (by cases r0 <;> rfl) ?_
  intro Z hC hQ hE hN
  have J_27 : ∀ (v9 : Option Nat) (v10 : Int32) (S11 : PH), j_X5_personOf_27 r0 i1 i2 v9 v10 S11 = some y → PX Z 3 S11 0 0 27 [(0, va_rf r0), (1, .int i1), (2, .int i2)] [.int v10, va_rf v9] := by
    intro v9 v10 S11 h
    unfold j_X5_personOf_27 at h
    replace h := dr_el h
    obtain ⟨a12, ea13, ha14, h⟩ := h
    replace h := bd_el h
    obtain ⟨v15, S16, hb17, h⟩ := h
    refine x_callV hC (st := []) (mt_X5_holds _ _ _ _ hb17) ea13 ha14 kf_5 q_915 q_917 qs_43 q_7 q_918 ⟨rfl, hy_X5_holds⟩ ⟨Nat.le_of_ble_eq_true rfl, Nat.le_of_ble_eq_true rfl⟩ ⟨Nat.le_of_ble_eq_true rfl, Nat.le_of_ble_eq_true rfl⟩ rfl (Nat.le_of_ble_eq_true rfl) dX5_personOf_27 (r_N ?_) r_NX
    show PX Z 3 S16 0 0 30 [(0, va_rf r0), (1, .int i1), (2, .int i2)] [.int v15]
    refine x_if_eq (t := 42) hC dX5_personOf_30 (by decide) (fun c18 => ?_) (fun c18 => ?_)
    · replace h := it_t c18 h
      refine x_iconst (v := (0 : Int32)) hC dX5_personOf_42 (by decide) ?_
      exact x_iret hC hQ (z_N (Option.some.inj h)) (Nat.le_of_ble_eq_true rfl) (Nat.le_of_ble_eq_true rfl) dX5_personOf_43
    · replace h := it_f c18 h
      refine x_aload_n (i := 0) hC dX5_personOf_33 rfl 0 rfl ?_
      refine x_iload_n (i := 1) hC dX5_personOf_34 rfl 1 rfl ?_
      refine x_iload_n (i := 2) hC dX5_personOf_35 rfl 2 rfl ?_
      replace h := dr_el h
      obtain ⟨a19, ea20, ha21, h⟩ := h
      replace h := bd_el h
      obtain ⟨v22, S23, hb24, h⟩ := h
      refine x_callV hC (st := []) (mt_X5_ofPerson _ _ _ _ _ hb24) ea20 ha21 kf_5 q_1127 q_1129 qs_74 q_7 q_1130 ⟨rfl, hy_X5_ofPerson⟩ ⟨Nat.le_of_ble_eq_true rfl, Nat.le_of_ble_eq_true rfl⟩ ⟨Nat.le_of_ble_eq_true rfl, Nat.le_of_ble_eq_true rfl⟩ rfl (Nat.le_of_ble_eq_true rfl) dX5_personOf_36 (r_N ?_) r_NX
      show PX Z 3 S23 0 0 39 [(0, va_rf r0), (1, .int i1), (2, .int i2)] [.int v22]
      refine x_goto (t := 43) hC dX5_personOf_39 (by decide) ?_
      exact x_iret hC hQ (z_N (Option.some.inj h)) (Nat.le_of_ble_eq_true rfl) (Nat.le_of_ble_eq_true rfl) dX5_personOf_43
  unfold m_X5_personOf at h
  refine x_aload_n (i := 0) hC dX5_personOf_0 rfl 0 rfl ?_
  refine x_iload_n (i := 1) hC dX5_personOf_1 rfl 1 rfl ?_
  replace h := bd_el h
  obtain ⟨v1, S2, hb3, h⟩ := h
  refine x_callS hC (st := [va_rf r0]) (mt_X5_isPerson _ _ _ hb3) q_935 q_936 q_7 q_937 hy_X5_isPerson ⟨Nat.le_of_ble_eq_true rfl, Nat.le_of_ble_eq_true rfl⟩ ⟨Nat.le_of_ble_eq_true rfl, Nat.le_of_ble_eq_true rfl⟩ rfl (Nat.le_of_ble_eq_true rfl) dX5_personOf_2 (r_N ?_) r_NX
  show PX Z 3 S2 0 0 5 [(0, va_rf r0), (1, .int i1), (2, .int i2)] [.int v1, va_rf r0]
  refine x_if_ne (t := 12) hC dX5_personOf_5 (by decide) (fun c4 => ?_) (fun c4 => ?_)
  · replace h := it_f c4 h
    refine x_iload_n (i := 2) hC dX5_personOf_12 rfl 2 rfl ?_
    refine x_iconst (v := (0 : Int32)) hC dX5_personOf_13 (by decide) ?_
    refine x_bipush (v := (8 : Int32)) hC dX5_personOf_14 (by decide) ?_
    replace h := bd_el h
    obtain ⟨v5, S6, hb7, h⟩ := h
    refine x_callS hC (st := [va_rf r0]) (mt_X5_in _ _ _ _ _ hb7) q_912 q_913 q_7 q_914 hy_X5_in ⟨Nat.le_of_ble_eq_true rfl, Nat.le_of_ble_eq_true rfl⟩ ⟨Nat.le_of_ble_eq_true rfl, Nat.le_of_ble_eq_true rfl⟩ rfl (Nat.le_of_ble_eq_true rfl) dX5_personOf_16 (r_N ?_) r_NX
    show PX Z 3 S6 0 0 19 [(0, va_rf r0), (1, .int i1), (2, .int i2)] [.int v5, va_rf r0]
    refine x_if_ne (t := 26) hC dX5_personOf_19 (by decide) (fun c8 => ?_) (fun c8 => ?_)
    · replace h := it_f c8 h
      refine x_iconst (v := (0 : Int32)) hC dX5_personOf_26 (by decide) ?_
      exact J_27 _ _ _ h
    · replace h := it_t c8 h
      refine x_iconst (v := (2 : Int32)) hC dX5_personOf_22 (by decide) ?_
      refine x_goto (t := 27) hC dX5_personOf_23 (by decide) ?_
      exact J_27 _ _ _ h
  · replace h := it_t c4 h
    refine x_iconst (v := (1 : Int32)) hC dX5_personOf_8 (by decide) ?_
    refine x_goto (t := 27) hC dX5_personOf_9 (by decide) ?_
    exact J_27 _ _ _ h
theorem dX5_difference_0 : decode cX5_difference 0 = .ok (.iconst 0, 1) := by decide +kernel
theorem dX5_difference_1 : decode cX5_difference 1 = .ok (.istore_n 2, 1) := by decide +kernel
theorem dX5_difference_2 : decode cX5_difference 2 = .ok (.iconst 0, 1) := by decide +kernel
theorem dX5_difference_3 : decode cX5_difference 3 = .ok (.istore_n 3, 1) := by decide +kernel
theorem dX5_difference_4 : decode cX5_difference 4 = .ok (.iload_n 3, 1) := by decide +kernel
theorem dX5_difference_5 : decode cX5_difference 5 = .ok (.bipush 8, 2) := by decide +kernel
theorem dX5_difference_7 : decode cX5_difference 7 = .ok (.if_icmp .ge 77, 3) := by decide +kernel
theorem dX5_difference_10 : decode cX5_difference 10 = .ok (.iconst 0, 1) := by decide +kernel
theorem dX5_difference_11 : decode cX5_difference 11 = .ok (.istore 4, 2) := by decide +kernel
theorem dX5_difference_13 : decode cX5_difference 13 = .ok (.iload 4, 2) := by decide +kernel
theorem dX5_difference_15 : decode cX5_difference 15 = .ok (.bipush 8, 2) := by decide +kernel
theorem dX5_difference_17 : decode cX5_difference 17 = .ok (.if_icmp .ge 61, 3) := by decide +kernel
theorem dX5_difference_20 : decode cX5_difference 20 = .ok (.aload_n 0, 1) := by decide +kernel
theorem dX5_difference_21 : decode cX5_difference 21 = .ok (.iload_n 3, 1) := by decide +kernel
theorem dX5_difference_22 : decode cX5_difference 22 = .ok (.iload_n 1, 1) := by decide +kernel
theorem dX5_difference_23 : decode cX5_difference 23 = .ok (.invokevirtual 38, 3) := by decide +kernel
theorem dX5_difference_26 : decode cX5_difference 26 = .ok (.ifCond .eq 30, 3) := by decide +kernel
theorem dX5_difference_29 : decode cX5_difference 29 = .ok (.aload_n 0, 1) := by decide +kernel
theorem dX5_difference_30 : decode cX5_difference 30 = .ok (.iload 4, 2) := by decide +kernel
theorem dX5_difference_32 : decode cX5_difference 32 = .ok (.iload_n 1, 1) := by decide +kernel
theorem dX5_difference_33 : decode cX5_difference 33 = .ok (.invokevirtual 38, 3) := by decide +kernel
theorem dX5_difference_36 : decode cX5_difference 36 = .ok (.ifCond .eq 20, 3) := by decide +kernel
theorem dX5_difference_39 : decode cX5_difference 39 = .ok (.aload_n 0, 1) := by decide +kernel
theorem dX5_difference_40 : decode cX5_difference 40 = .ok (.iload_n 3, 1) := by decide +kernel
theorem dX5_difference_41 : decode cX5_difference 41 = .ok (.iload_n 1, 1) := by decide +kernel
theorem dX5_difference_42 : decode cX5_difference 42 = .ok (.invokevirtual 35, 3) := by decide +kernel
theorem dX5_difference_45 : decode cX5_difference 45 = .ok (.aload_n 0, 1) := by decide +kernel
theorem dX5_difference_46 : decode cX5_difference 46 = .ok (.iload 4, 2) := by decide +kernel
theorem dX5_difference_48 : decode cX5_difference 48 = .ok (.iload_n 1, 1) := by decide +kernel
theorem dX5_difference_49 : decode cX5_difference 49 = .ok (.invokevirtual 35, 3) := by decide +kernel
theorem dX5_difference_52 : decode cX5_difference 52 = .ok (.isub, 1) := by decide +kernel
theorem dX5_difference_53 : decode cX5_difference 53 = .ok (.goto 4, 3) := by decide +kernel
theorem dX5_difference_56 : decode cX5_difference 56 = .ok (.iconst 0, 1) := by decide +kernel
theorem dX5_difference_57 : decode cX5_difference 57 = .ok (.istore 5, 2) := by decide +kernel
theorem dX5_difference_59 : decode cX5_difference 59 = .ok (.iload 5, 2) := by decide +kernel
theorem dX5_difference_61 : decode cX5_difference 61 = .ok (.iload_n 2, 1) := by decide +kernel
theorem dX5_difference_62 : decode cX5_difference 62 = .ok (.if_icmp .le 8, 3) := by decide +kernel
theorem dX5_difference_65 : decode cX5_difference 65 = .ok (.iload 5, 2) := by decide +kernel
theorem dX5_difference_67 : decode cX5_difference 67 = .ok (.goto 4, 3) := by decide +kernel
theorem dX5_difference_70 : decode cX5_difference 70 = .ok (.iload_n 2, 1) := by decide +kernel
theorem dX5_difference_71 : decode cX5_difference 71 = .ok (.istore_n 2, 1) := by decide +kernel
theorem dX5_difference_72 : decode cX5_difference 72 = .ok (.iinc 4 1, 3) := by decide +kernel
theorem dX5_difference_75 : decode cX5_difference 75 = .ok (.goto (-62), 3) := by decide +kernel
theorem dX5_difference_78 : decode cX5_difference 78 = .ok (.iinc 3 1, 3) := by decide +kernel
theorem dX5_difference_81 : decode cX5_difference 81 = .ok (.goto (-77), 3) := by decide +kernel
theorem dX5_difference_84 : decode cX5_difference 84 = .ok (.iload_n 2, 1) := by decide +kernel
theorem dX5_difference_85 : decode cX5_difference 85 = .ok (.ireturn, 1) := by decide +kernel
set_option maxRecDepth 100000 in
set_option maxHeartbeats 4000000 in
theorem mt_X5_difference (r0 : Option Nat) (i1 : Int32) (S0 : PH) (y : Int32 × PH) (h : m_X5_difference r0 i1 S0 = some y) : MT yX5_difference (.code yX5_difference cX5_difference 6 (Option.some FieldType.int)) 3 66 0 0 [va_rf r0, .int i1] S0 (oQ e_I (qN y)) := by
  refine mt_of (own := RX5) (l0 := [(0, va_rf r0), (1, .int i1)]) rfl rfl (by cases r0 <;> exact Nat.le_of_ble_eq_true rfl) (by cases r0 <;> rfl) ?_
  intro Z hC hQ hE hN
  unfold m_X5_difference at h
  refine x_iconst (v := (0 : Int32)) hC dX5_difference_0 (by decide) ?_
  refine x_istore_n (i := 2) (l' := [(2, .int (0 : Int32)), (0, va_rf r0), (1, .int i1)]) hC dX5_difference_1 rfl (⟨fun _ => c_rf r0, ⟨fun _ => rfl, trivial⟩⟩) (by decide) rfl ?_
  refine x_iconst (v := (0 : Int32)) hC dX5_difference_2 (by decide) ?_
  refine x_istore_n (i := 3) (l' := [(3, .int (0 : Int32)), (2, .int (0 : Int32)), (0, va_rf r0), (1, .int i1)]) hC dX5_difference_3 rfl (⟨fun _ => rfl, ⟨fun _ => c_rf r0, ⟨fun _ => rfl, trivial⟩⟩⟩) (by decide) rfl ?_
  refine x_sub (l' := [(0, va_rf r0), (1, .int i1), (2, .int (0 : Int32)), (3, .int (0 : Int32))]) [2, 3, 1, 0] rfl ?_
  refine lp_sim (P := fun (t : (Int32 × Int32 × PH)) => PX Z 6 t.2.2 0 0 4 [(0, va_rf r0), (1, .int i1), (2, .int t.1), (3, .int t.2.1)] []) (G := fun r => r = y) ?_ h rfl
  clear h
  intro t x_4 h hg_4
  obtain ⟨v1, v2, S3⟩ := t
  show PX Z 6 S3 0 0 4 [(0, va_rf r0), (1, .int i1), (2, .int v1), (3, .int v2)] []
  unfold st_X5_difference_4 at h
  refine x_iload_n (i := 3) hC dX5_difference_4 rfl 3 rfl ?_
  refine x_bipush (v := (8 : Int32)) hC dX5_difference_5 (by decide) ?_
  refine x_icmp_ge (t := 84) hC dX5_difference_7 (by decide) (fun c4 => ?_) (fun c4 => ?_)
  · replace h := it_t c4 h
    replace h := ir_x h hg_4
    refine x_iload_n (i := 2) hC dX5_difference_84 rfl 2 rfl ?_
    exact x_iret hC hQ (z_N (Option.some.inj h)) (Nat.le_of_ble_eq_true rfl) (Nat.le_of_ble_eq_true rfl) dX5_difference_85
  · replace h := it_f c4 h
    refine x_iconst (v := (0 : Int32)) hC dX5_difference_10 (by decide) ?_
    refine x_istore (i := 4) (l' := [(4, .int (0 : Int32)), (0, va_rf r0), (1, .int i1), (2, .int v1), (3, .int v2)]) hC dX5_difference_11 (⟨fun _ => c_rf r0, ⟨fun _ => rfl, ⟨fun _ => rfl, ⟨fun _ => rfl, trivial⟩⟩⟩⟩) (by decide) rfl ?_
    refine x_sub (l' := [(0, va_rf r0), (1, .int i1), (2, .int v1), (3, .int v2), (4, .int (0 : Int32))]) [1, 2, 3, 4, 0] rfl ?_
    refine lp_sim (P := fun (t : (Int32 × Int32 × Int32 × PH)) => PX Z 6 t.2.2.2 0 0 13 [(0, va_rf r0), (1, .int i1), (2, .int t.1), (3, .int t.2.1), (4, .int t.2.2.1)] []) (G := fun r => r = x_4) ?_ h rfl
    clear h
    intro t x_13 h hg_13
    obtain ⟨v5, v6, v7, S8⟩ := t
    show PX Z 6 S8 0 0 13 [(0, va_rf r0), (1, .int i1), (2, .int v5), (3, .int v6), (4, .int v7)] []
    have J_57 : ∀ (v17 : Int32) (v18 : Int32) (v19 : Int32) (v20 : Int32) (S21 : PH), j_X5_difference_57 r0 i1 v17 v18 v19 v20 S21 = some x_13 → PX Z 6 S21 0 0 57 [(0, va_rf r0), (1, .int i1), (2, .int v17), (3, .int v18), (4, .int v19)] [.int v20] := by
      intro v17 v18 v19 v20 S21 h
      unfold j_X5_difference_57 at h
      refine x_istore (i := 5) (l' := [(5, .int v20), (0, va_rf r0), (1, .int i1), (2, .int v17), (3, .int v18), (4, .int v19)]) hC dX5_difference_57 (⟨fun _ => c_rf r0, ⟨fun _ => rfl, ⟨fun _ => rfl, ⟨fun _ => rfl, ⟨fun _ => rfl, trivial⟩⟩⟩⟩⟩) (by decide) rfl ?_
      refine x_iload (i := 5) hC dX5_difference_59 0 rfl ?_
      refine x_iload_n (i := 2) hC dX5_difference_61 rfl 3 rfl ?_
      refine x_icmp_le (t := 70) hC dX5_difference_62 (by decide) (fun c22 => ?_) (fun c22 => ?_)
      · replace h := it_t c22 h
        refine x_iload_n (i := 2) hC dX5_difference_70 rfl 3 rfl ?_
        refine x_istore_n (i := 2) (l' := [(2, .int v17), (5, .int v20), (0, va_rf r0), (1, .int i1), (3, .int v18), (4, .int v19)]) hC dX5_difference_71 rfl (⟨fun _ => rfl, ⟨fun _ => c_rf r0, ⟨fun _ => rfl, ⟨fun _ => rfl, ⟨fun _ => rfl, ⟨fun _ => rfl, trivial⟩⟩⟩⟩⟩⟩) (by decide) rfl ?_
        refine x_iinc (i := 4) (v := (v19 + (1 : Int32))) (l' := [(4, .int (v19 + (1 : Int32))), (2, .int v17), (5, .int v20), (0, va_rf r0), (1, .int i1), (3, .int v18)]) hC dX5_difference_72 5 rfl rfl (⟨fun _ => rfl, ⟨fun _ => rfl, ⟨fun _ => c_rf r0, ⟨fun _ => rfl, ⟨fun _ => rfl, ⟨fun _ => rfl, trivial⟩⟩⟩⟩⟩⟩) (by decide) rfl ?_
        refine x_goto (t := 13) hC dX5_difference_75 (by decide) ?_
        refine x_sub (l' := [(0, va_rf r0), (1, .int i1), (2, .int v17), (3, .int v18), (4, .int (v19 + (1 : Int32)))]) [3, 4, 1, 5, 0] rfl ?_
        have hb := bk_x h hg_13
        exact hb
      · replace h := it_f c22 h
        refine x_iload (i := 5) hC dX5_difference_65 0 rfl ?_
        refine x_goto (t := 71) hC dX5_difference_67 (by decide) ?_
        refine x_istore_n (i := 2) (l' := [(2, .int v20), (5, .int v20), (0, va_rf r0), (1, .int i1), (3, .int v18), (4, .int v19)]) hC dX5_difference_71 rfl (⟨fun _ => rfl, ⟨fun _ => c_rf r0, ⟨fun _ => rfl, ⟨fun _ => rfl, ⟨fun _ => rfl, ⟨fun _ => rfl, trivial⟩⟩⟩⟩⟩⟩) (by decide) rfl ?_
        refine x_iinc (i := 4) (v := (v19 + (1 : Int32))) (l' := [(4, .int (v19 + (1 : Int32))), (2, .int v20), (5, .int v20), (0, va_rf r0), (1, .int i1), (3, .int v18)]) hC dX5_difference_72 5 rfl rfl (⟨fun _ => rfl, ⟨fun _ => rfl, ⟨fun _ => c_rf r0, ⟨fun _ => rfl, ⟨fun _ => rfl, ⟨fun _ => rfl, trivial⟩⟩⟩⟩⟩⟩) (by decide) rfl ?_
        refine x_goto (t := 13) hC dX5_difference_75 (by decide) ?_
        refine x_sub (l' := [(0, va_rf r0), (1, .int i1), (2, .int v20), (3, .int v18), (4, .int (v19 + (1 : Int32)))]) [3, 4, 1, 5, 0] rfl ?_
        have hb := bk_x h hg_13
        exact hb
    unfold st_X5_difference_13 at h
    refine x_iload (i := 4) hC dX5_difference_13 4 rfl ?_
    refine x_bipush (v := (8 : Int32)) hC dX5_difference_15 (by decide) ?_
    refine x_icmp_ge (t := 78) hC dX5_difference_17 (by decide) (fun c9 => ?_) (fun c9 => ?_)
    · replace h := it_t c9 h
      replace h := ir_x h hg_13
      refine x_iinc (i := 3) (v := (v6 + (1 : Int32))) (l' := [(3, .int (v6 + (1 : Int32))), (0, va_rf r0), (1, .int i1), (2, .int v5), (4, .int v7)]) hC dX5_difference_78 3 rfl rfl (⟨fun _ => c_rf r0, ⟨fun _ => rfl, ⟨fun _ => rfl, ⟨fun _ => rfl, ⟨fun _ => rfl, trivial⟩⟩⟩⟩⟩) (by decide) rfl ?_
      refine x_goto (t := 4) hC dX5_difference_81 (by decide) ?_
      refine x_sub (l' := [(0, va_rf r0), (1, .int i1), (2, .int v5), (3, .int (v6 + (1 : Int32)))]) [1, 2, 3, 0] rfl ?_
      have hb := bk_x h hg_4
      exact hb
    · replace h := it_f c9 h
      refine x_aload_n (i := 0) hC dX5_difference_20 rfl 0 rfl ?_
      refine x_iload_n (i := 3) hC dX5_difference_21 rfl 3 rfl ?_
      refine x_iload_n (i := 1) hC dX5_difference_22 rfl 1 rfl ?_
      replace h := dr_el h
      obtain ⟨a10, ea11, ha12, h⟩ := h
      replace h := bd_el h
      obtain ⟨v13, S14, hb15, h⟩ := h
      refine x_callV hC (st := []) (mt_X5_isWritten _ _ _ _ _ hb15) ea11 ha12 kf_5 q_993 q_995 qs_55 q_7 q_996 ⟨rfl, hy_X5_isWritten⟩ ⟨Nat.le_of_ble_eq_true rfl, Nat.le_of_ble_eq_true rfl⟩ ⟨Nat.le_of_ble_eq_true rfl, Nat.le_of_ble_eq_true rfl⟩ rfl (Nat.le_of_ble_eq_true rfl) dX5_difference_23 (r_N ?_) r_NX
      show PX Z 6 S14 0 0 26 [(0, va_rf r0), (1, .int i1), (2, .int v5), (3, .int v6), (4, .int v7)] [.int v13]
      refine x_if_eq (t := 56) hC dX5_difference_26 (by decide) (fun c16 => ?_) (fun c16 => ?_)
      · replace h := it_t c16 h
        refine x_iconst (v := (0 : Int32)) hC dX5_difference_56 (by decide) ?_
        exact J_57 _ _ _ _ _ h
      · replace h := it_f c16 h
        refine x_aload_n (i := 0) hC dX5_difference_29 rfl 0 rfl ?_
        refine x_iload (i := 4) hC dX5_difference_30 4 rfl ?_
        refine x_iload_n (i := 1) hC dX5_difference_32 rfl 1 rfl ?_
        replace h := dr_el h
        obtain ⟨a23, ea24, ha25, h⟩ := h
        replace h := bd_el h
        obtain ⟨v26, S27, hb28, h⟩ := h
        refine x_callV hC (st := []) (mt_X5_isWritten _ _ _ _ _ hb28) ea24 ha25 kf_5 q_993 q_995 qs_55 q_7 q_996 ⟨rfl, hy_X5_isWritten⟩ ⟨Nat.le_of_ble_eq_true rfl, Nat.le_of_ble_eq_true rfl⟩ ⟨Nat.le_of_ble_eq_true rfl, Nat.le_of_ble_eq_true rfl⟩ rfl (Nat.le_of_ble_eq_true rfl) dX5_difference_33 (r_N ?_) r_NX
        show PX Z 6 S27 0 0 36 [(0, va_rf r0), (1, .int i1), (2, .int v5), (3, .int v6), (4, .int v7)] [.int v26]
        refine x_if_eq (t := 56) hC dX5_difference_36 (by decide) (fun c29 => ?_) (fun c29 => ?_)
        · replace h := it_t c29 h
          refine x_iconst (v := (0 : Int32)) hC dX5_difference_56 (by decide) ?_
          exact J_57 _ _ _ _ _ h
        · replace h := it_f c29 h
          refine x_aload_n (i := 0) hC dX5_difference_39 rfl 0 rfl ?_
          refine x_iload_n (i := 3) hC dX5_difference_40 rfl 3 rfl ?_
          refine x_iload_n (i := 1) hC dX5_difference_41 rfl 1 rfl ?_
          replace h := dr_el h
          obtain ⟨a30, ea31, ha32, h⟩ := h
          replace h := bd_el h
          obtain ⟨v33, S34, hb35, h⟩ := h
          refine x_callV hC (st := []) (mt_X5_scoreOf _ _ _ _ _ hb35) ea31 ha32 kf_5 q_985 q_987 qs_53 q_7 q_988 ⟨rfl, hy_X5_scoreOf⟩ ⟨Nat.le_of_ble_eq_true rfl, Nat.le_of_ble_eq_true rfl⟩ ⟨Nat.le_of_ble_eq_true rfl, Nat.le_of_ble_eq_true rfl⟩ rfl (Nat.le_of_ble_eq_true rfl) dX5_difference_42 (r_N ?_) r_NX
          show PX Z 6 S34 0 0 45 [(0, va_rf r0), (1, .int i1), (2, .int v5), (3, .int v6), (4, .int v7)] [.int v33]
          refine x_aload_n (i := 0) hC dX5_difference_45 rfl 0 rfl ?_
          refine x_iload (i := 4) hC dX5_difference_46 4 rfl ?_
          refine x_iload_n (i := 1) hC dX5_difference_48 rfl 1 rfl ?_
          replace h := dr_el h
          obtain ⟨a36, ea37, ha38, h⟩ := h
          replace h := bd_el h
          obtain ⟨v39, S40, hb41, h⟩ := h
          refine x_callV hC (st := [.int v33]) (mt_X5_scoreOf _ _ _ _ _ hb41) ea37 ha38 kf_5 q_985 q_987 qs_53 q_7 q_988 ⟨rfl, hy_X5_scoreOf⟩ ⟨Nat.le_of_ble_eq_true rfl, Nat.le_of_ble_eq_true rfl⟩ ⟨Nat.le_of_ble_eq_true rfl, Nat.le_of_ble_eq_true rfl⟩ rfl (Nat.le_of_ble_eq_true rfl) dX5_difference_49 (r_N ?_) r_NX
          show PX Z 6 S40 0 0 52 [(0, va_rf r0), (1, .int i1), (2, .int v5), (3, .int v6), (4, .int v7)] [.int v39, .int v33]
          refine x_isub hC dX5_difference_52 ?_
          refine x_goto (t := 57) hC dX5_difference_53 (by decide) ?_
          exact J_57 _ _ _ _ _ h
theorem dX5_ofPaper_0 : decode cX5_ofPaper 0 = .ok (.iload_n 2, 1) := by decide +kernel
theorem dX5_ofPaper_1 : decode cX5_ofPaper 1 = .ok (.tableswitch 98 0 8 #[51, 51, 58, 58, 74, 80, 86, 86, 86], 51) := by decide +kernel
theorem dX5_ofPaper_52 : decode cX5_ofPaper 52 = .ok (.aload_n 0, 1) := by decide +kernel
theorem dX5_ofPaper_53 : decode cX5_ofPaper 53 = .ok (.iload_n 1, 1) := by decide +kernel
theorem dX5_ofPaper_54 : decode cX5_ofPaper 54 = .ok (.iload_n 2, 1) := by decide +kernel
theorem dX5_ofPaper_55 : decode cX5_ofPaper 55 = .ok (.invokevirtual 31, 3) := by decide +kernel
theorem dX5_ofPaper_58 : decode cX5_ofPaper 58 = .ok (.ireturn, 1) := by decide +kernel
theorem dX5_ofPaper_59 : decode cX5_ofPaper 59 = .ok (.aload_n 0, 1) := by decide +kernel
theorem dX5_ofPaper_60 : decode cX5_ofPaper 60 = .ok (.iload_n 1, 1) := by decide +kernel
theorem dX5_ofPaper_61 : decode cX5_ofPaper 61 = .ok (.iload_n 2, 1) := by decide +kernel
theorem dX5_ofPaper_62 : decode cX5_ofPaper 62 = .ok (.iconst 3, 1) := by decide +kernel
theorem dX5_ofPaper_63 : decode cX5_ofPaper 63 = .ok (.if_icmp .ne 7, 3) := by decide +kernel
theorem dX5_ofPaper_66 : decode cX5_ofPaper 66 = .ok (.iconst 1, 1) := by decide +kernel
theorem dX5_ofPaper_67 : decode cX5_ofPaper 67 = .ok (.goto 4, 3) := by decide +kernel
theorem dX5_ofPaper_70 : decode cX5_ofPaper 70 = .ok (.iconst 0, 1) := by decide +kernel
theorem dX5_ofPaper_71 : decode cX5_ofPaper 71 = .ok (.invokevirtual 80, 3) := by decide +kernel
theorem dX5_ofPaper_74 : decode cX5_ofPaper 74 = .ok (.ireturn, 1) := by decide +kernel
theorem dX5_ofPaper_75 : decode cX5_ofPaper 75 = .ok (.aload_n 0, 1) := by decide +kernel
theorem dX5_ofPaper_76 : decode cX5_ofPaper 76 = .ok (.iload_n 1, 1) := by decide +kernel
theorem dX5_ofPaper_77 : decode cX5_ofPaper 77 = .ok (.invokevirtual 111, 3) := by decide +kernel
theorem dX5_ofPaper_80 : decode cX5_ofPaper 80 = .ok (.ireturn, 1) := by decide +kernel
theorem dX5_ofPaper_81 : decode cX5_ofPaper 81 = .ok (.aload_n 0, 1) := by decide +kernel
theorem dX5_ofPaper_82 : decode cX5_ofPaper 82 = .ok (.iload_n 1, 1) := by decide +kernel
theorem dX5_ofPaper_83 : decode cX5_ofPaper 83 = .ok (.invokevirtual 175, 3) := by decide +kernel
theorem dX5_ofPaper_86 : decode cX5_ofPaper 86 = .ok (.ireturn, 1) := by decide +kernel
theorem dX5_ofPaper_87 : decode cX5_ofPaper 87 = .ok (.aload_n 0, 1) := by decide +kernel
theorem dX5_ofPaper_88 : decode cX5_ofPaper 88 = .ok (.iload_n 1, 1) := by decide +kernel
theorem dX5_ofPaper_89 : decode cX5_ofPaper 89 = .ok (.iconst 2, 1) := by decide +kernel
theorem dX5_ofPaper_90 : decode cX5_ofPaper 90 = .ok (.iload_n 2, 1) := by decide +kernel
theorem dX5_ofPaper_91 : decode cX5_ofPaper 91 = .ok (.iadd, 1) := by decide +kernel
theorem dX5_ofPaper_92 : decode cX5_ofPaper 92 = .ok (.bipush 6, 2) := by decide +kernel
theorem dX5_ofPaper_94 : decode cX5_ofPaper 94 = .ok (.isub, 1) := by decide +kernel
theorem dX5_ofPaper_95 : decode cX5_ofPaper 95 = .ok (.invokevirtual 31, 3) := by decide +kernel
theorem dX5_ofPaper_98 : decode cX5_ofPaper 98 = .ok (.ireturn, 1) := by decide +kernel
theorem dX5_ofPaper_99 : decode cX5_ofPaper 99 = .ok (.aload_n 0, 1) := by decide +kernel
theorem dX5_ofPaper_100 : decode cX5_ofPaper 100 = .ok (.iload_n 1, 1) := by decide +kernel
theorem dX5_ofPaper_101 : decode cX5_ofPaper 101 = .ok (.invokevirtual 123, 3) := by decide +kernel
theorem dX5_ofPaper_104 : decode cX5_ofPaper 104 = .ok (.ifCond .eq 7, 3) := by decide +kernel
theorem dX5_ofPaper_107 : decode cX5_ofPaper 107 = .ok (.iconst 1, 1) := by decide +kernel
theorem dX5_ofPaper_108 : decode cX5_ofPaper 108 = .ok (.goto 4, 3) := by decide +kernel
theorem dX5_ofPaper_111 : decode cX5_ofPaper 111 = .ok (.iconst 0, 1) := by decide +kernel
theorem dX5_ofPaper_112 : decode cX5_ofPaper 112 = .ok (.ireturn, 1) := by decide +kernel
set_option maxRecDepth 100000 in
set_option maxHeartbeats 4000000 in
theorem mt_X5_ofPaper (r0 : Option Nat) (i1 : Int32) (i2 : Int32) (S0 : PH) (y : Int32 × PH) (h : m_X5_ofPaper r0 i1 i2 S0 = some y) : MT yX5_ofPaper (.code yX5_ofPaper cX5_ofPaper 3 (Option.some FieldType.int)) 5 113 0 0 [va_rf r0, .int i1, .int i2] S0 (oQ e_I (qN y)) := by
  refine mt_of (own := RX5) (l0 := [(0, va_rf r0), (1, .int i1), (2, .int i2)]) rfl rfl (by cases r0 <;> exact Nat.le_of_ble_eq_true rfl) (by cases r0 <;> rfl) ?_
  intro Z hC hQ hE hN
  have J_71 : ∀ (v17 : Option Nat) (v18 : Int32) (v19 : Int32) (S20 : PH), j_X5_ofPaper_71 r0 i1 i2 v17 v18 v19 S20 = some y → PX Z 3 S20 0 0 71 [(0, va_rf r0), (1, .int i1), (2, .int i2)] [.int v19, .int v18, va_rf v17] := by
    intro v17 v18 v19 S20 h
    unfold j_X5_ofPaper_71 at h
    replace h := dr_el h
    obtain ⟨a21, ea22, ha23, h⟩ := h
    replace h := bd_el h
    obtain ⟨v24, S25, hb26, h⟩ := h
    refine x_callV hC (st := []) (mt_X5_reviewers _ _ _ _ _ hb26) ea22 ha23 kf_5 q_989 q_991 qs_54 q_7 q_992 ⟨rfl, hy_X5_reviewers⟩ ⟨Nat.le_of_ble_eq_true rfl, Nat.le_of_ble_eq_true rfl⟩ ⟨Nat.le_of_ble_eq_true rfl, Nat.le_of_ble_eq_true rfl⟩ rfl (Nat.le_of_ble_eq_true rfl) dX5_ofPaper_71 (r_N ?_) r_NX
    show PX Z 3 S25 0 0 74 [(0, va_rf r0), (1, .int i1), (2, .int i2)] [.int v24]
    exact x_iret hC hQ (z_N (Option.some.inj h)) (Nat.le_of_ble_eq_true rfl) (Nat.le_of_ble_eq_true rfl) dX5_ofPaper_74
  unfold m_X5_ofPaper at h
  refine x_iload_n (i := 2) hC dX5_ofPaper_0 rfl 2 rfl ?_
  rcases Decidable.em (i2 = (0 : Int32)) with c1 | c1
  · replace h := it_t c1 h
    refine x_tabIn (off := 51) (t := 52) hC dX5_ofPaper_1 (by rw [c1]; decide) (by rw [c1]; decide) (by rw [c1]; decide) (by decide) ?_
    refine x_aload_n (i := 0) hC dX5_ofPaper_52 rfl 0 rfl ?_
    refine x_iload_n (i := 1) hC dX5_ofPaper_53 rfl 1 rfl ?_
    refine x_iload_n (i := 2) hC dX5_ofPaper_54 rfl 2 rfl ?_
    replace h := dr_el h
    obtain ⟨a2, ea3, ha4, h⟩ := h
    replace h := bd_el h
    obtain ⟨v5, S6, hb7, h⟩ := h
    refine x_callV hC (st := []) (mt_X5_of _ _ _ _ _ hb7) ea3 ha4 kf_5 q_981 q_983 qs_52 q_7 q_984 ⟨rfl, hy_X5_of⟩ ⟨Nat.le_of_ble_eq_true rfl, Nat.le_of_ble_eq_true rfl⟩ ⟨Nat.le_of_ble_eq_true rfl, Nat.le_of_ble_eq_true rfl⟩ rfl (Nat.le_of_ble_eq_true rfl) dX5_ofPaper_55 (r_N ?_) r_NX
    show PX Z 3 S6 0 0 58 [(0, va_rf r0), (1, .int i1), (2, .int i2)] [.int v5]
    exact x_iret hC hQ (z_N (Option.some.inj h)) (Nat.le_of_ble_eq_true rfl) (Nat.le_of_ble_eq_true rfl) dX5_ofPaper_58
  replace h := it_f c1 h
  rcases Decidable.em (i2 = (1 : Int32)) with c8 | c8
  · replace h := it_t c8 h
    refine x_tabIn (off := 51) (t := 52) hC dX5_ofPaper_1 (by rw [c8]; decide) (by rw [c8]; decide) (by rw [c8]; decide) (by decide) ?_
    refine x_aload_n (i := 0) hC dX5_ofPaper_52 rfl 0 rfl ?_
    refine x_iload_n (i := 1) hC dX5_ofPaper_53 rfl 1 rfl ?_
    refine x_iload_n (i := 2) hC dX5_ofPaper_54 rfl 2 rfl ?_
    replace h := dr_el h
    obtain ⟨a9, ea10, ha11, h⟩ := h
    replace h := bd_el h
    obtain ⟨v12, S13, hb14, h⟩ := h
    refine x_callV hC (st := []) (mt_X5_of _ _ _ _ _ hb14) ea10 ha11 kf_5 q_981 q_983 qs_52 q_7 q_984 ⟨rfl, hy_X5_of⟩ ⟨Nat.le_of_ble_eq_true rfl, Nat.le_of_ble_eq_true rfl⟩ ⟨Nat.le_of_ble_eq_true rfl, Nat.le_of_ble_eq_true rfl⟩ rfl (Nat.le_of_ble_eq_true rfl) dX5_ofPaper_55 (r_N ?_) r_NX
    show PX Z 3 S13 0 0 58 [(0, va_rf r0), (1, .int i1), (2, .int i2)] [.int v12]
    exact x_iret hC hQ (z_N (Option.some.inj h)) (Nat.le_of_ble_eq_true rfl) (Nat.le_of_ble_eq_true rfl) dX5_ofPaper_58
  replace h := it_f c8 h
  rcases Decidable.em (i2 = (2 : Int32)) with c15 | c15
  · replace h := it_t c15 h
    refine x_tabIn (off := 58) (t := 59) hC dX5_ofPaper_1 (by rw [c15]; decide) (by rw [c15]; decide) (by rw [c15]; decide) (by decide) ?_
    refine x_aload_n (i := 0) hC dX5_ofPaper_59 rfl 0 rfl ?_
    refine x_iload_n (i := 1) hC dX5_ofPaper_60 rfl 1 rfl ?_
    refine x_iload_n (i := 2) hC dX5_ofPaper_61 rfl 2 rfl ?_
    refine x_iconst (v := (3 : Int32)) hC dX5_ofPaper_62 (by decide) ?_
    refine x_icmp_ne (t := 70) hC dX5_ofPaper_63 (by decide) (fun c16 => ?_) (fun c16 => ?_)
    · replace h := it_f c16 h
      refine x_iconst (v := (0 : Int32)) hC dX5_ofPaper_70 (by decide) ?_
      exact J_71 _ _ _ _ h
    · replace h := it_t c16 h
      refine x_iconst (v := (1 : Int32)) hC dX5_ofPaper_66 (by decide) ?_
      refine x_goto (t := 71) hC dX5_ofPaper_67 (by decide) ?_
      exact J_71 _ _ _ _ h
  replace h := it_f c15 h
  rcases Decidable.em (i2 = (3 : Int32)) with c27 | c27
  · replace h := it_t c27 h
    refine x_tabIn (off := 58) (t := 59) hC dX5_ofPaper_1 (by rw [c27]; decide) (by rw [c27]; decide) (by rw [c27]; decide) (by decide) ?_
    refine x_aload_n (i := 0) hC dX5_ofPaper_59 rfl 0 rfl ?_
    refine x_iload_n (i := 1) hC dX5_ofPaper_60 rfl 1 rfl ?_
    refine x_iload_n (i := 2) hC dX5_ofPaper_61 rfl 2 rfl ?_
    refine x_iconst (v := (3 : Int32)) hC dX5_ofPaper_62 (by decide) ?_
    refine x_icmp_ne (t := 70) hC dX5_ofPaper_63 (by decide) (fun c28 => ?_) (fun c28 => ?_)
    · replace h := it_f c28 h
      refine x_iconst (v := (0 : Int32)) hC dX5_ofPaper_70 (by decide) ?_
      exact J_71 _ _ _ _ h
    · replace h := it_t c28 h
      refine x_iconst (v := (1 : Int32)) hC dX5_ofPaper_66 (by decide) ?_
      refine x_goto (t := 71) hC dX5_ofPaper_67 (by decide) ?_
      exact J_71 _ _ _ _ h
  replace h := it_f c27 h
  rcases Decidable.em (i2 = (4 : Int32)) with c29 | c29
  · replace h := it_t c29 h
    refine x_tabIn (off := 74) (t := 75) hC dX5_ofPaper_1 (by rw [c29]; decide) (by rw [c29]; decide) (by rw [c29]; decide) (by decide) ?_
    refine x_aload_n (i := 0) hC dX5_ofPaper_75 rfl 0 rfl ?_
    refine x_iload_n (i := 1) hC dX5_ofPaper_76 rfl 1 rfl ?_
    replace h := dr_el h
    obtain ⟨a30, ea31, ha32, h⟩ := h
    replace h := bd_el h
    obtain ⟨v33, S34, hb35, h⟩ := h
    refine x_callV hC (st := []) (mt_X5_sumOf _ _ _ _ hb35) ea31 ha32 kf_5 q_1043 q_1045 qs_63 q_7 q_1046 ⟨rfl, hy_X5_sumOf⟩ ⟨Nat.le_of_ble_eq_true rfl, Nat.le_of_ble_eq_true rfl⟩ ⟨Nat.le_of_ble_eq_true rfl, Nat.le_of_ble_eq_true rfl⟩ rfl (Nat.le_of_ble_eq_true rfl) dX5_ofPaper_77 (r_N ?_) r_NX
    show PX Z 3 S34 0 0 80 [(0, va_rf r0), (1, .int i1), (2, .int i2)] [.int v33]
    exact x_iret hC hQ (z_N (Option.some.inj h)) (Nat.le_of_ble_eq_true rfl) (Nat.le_of_ble_eq_true rfl) dX5_ofPaper_80
  replace h := it_f c29 h
  rcases Decidable.em (i2 = (5 : Int32)) with c36 | c36
  · replace h := it_t c36 h
    refine x_tabIn (off := 80) (t := 81) hC dX5_ofPaper_1 (by rw [c36]; decide) (by rw [c36]; decide) (by rw [c36]; decide) (by decide) ?_
    refine x_aload_n (i := 0) hC dX5_ofPaper_81 rfl 0 rfl ?_
    refine x_iload_n (i := 1) hC dX5_ofPaper_82 rfl 1 rfl ?_
    replace h := dr_el h
    obtain ⟨a37, ea38, ha39, h⟩ := h
    replace h := bd_el h
    obtain ⟨v40, S41, hb42, h⟩ := h
    refine x_callV hC (st := []) (mt_X5_difference _ _ _ _ hb42) ea38 ha39 kf_5 q_1147 q_1149 qs_78 q_7 q_1150 ⟨rfl, hy_X5_difference⟩ ⟨Nat.le_of_ble_eq_true rfl, Nat.le_of_ble_eq_true rfl⟩ ⟨Nat.le_of_ble_eq_true rfl, Nat.le_of_ble_eq_true rfl⟩ rfl (Nat.le_of_ble_eq_true rfl) dX5_ofPaper_83 (r_N ?_) r_NX
    show PX Z 3 S41 0 0 86 [(0, va_rf r0), (1, .int i1), (2, .int i2)] [.int v40]
    exact x_iret hC hQ (z_N (Option.some.inj h)) (Nat.le_of_ble_eq_true rfl) (Nat.le_of_ble_eq_true rfl) dX5_ofPaper_86
  replace h := it_f c36 h
  rcases Decidable.em (i2 = (6 : Int32)) with c43 | c43
  · replace h := it_t c43 h
    refine x_tabIn (off := 86) (t := 87) hC dX5_ofPaper_1 (by rw [c43]; decide) (by rw [c43]; decide) (by rw [c43]; decide) (by decide) ?_
    refine x_aload_n (i := 0) hC dX5_ofPaper_87 rfl 0 rfl ?_
    refine x_iload_n (i := 1) hC dX5_ofPaper_88 rfl 1 rfl ?_
    refine x_iconst (v := (2 : Int32)) hC dX5_ofPaper_89 (by decide) ?_
    refine x_iload_n (i := 2) hC dX5_ofPaper_90 rfl 2 rfl ?_
    refine x_iadd hC dX5_ofPaper_91 ?_
    refine x_bipush (v := (6 : Int32)) hC dX5_ofPaper_92 (by decide) ?_
    refine x_isub hC dX5_ofPaper_94 ?_
    replace h := dr_el h
    obtain ⟨a44, ea45, ha46, h⟩ := h
    replace h := bd_el h
    obtain ⟨v47, S48, hb49, h⟩ := h
    refine x_callV hC (st := []) (mt_X5_of _ _ _ _ _ hb49) ea45 ha46 kf_5 q_981 q_983 qs_52 q_7 q_984 ⟨rfl, hy_X5_of⟩ ⟨Nat.le_of_ble_eq_true rfl, Nat.le_of_ble_eq_true rfl⟩ ⟨Nat.le_of_ble_eq_true rfl, Nat.le_of_ble_eq_true rfl⟩ rfl (Nat.le_of_ble_eq_true rfl) dX5_ofPaper_95 (r_N ?_) r_NX
    show PX Z 3 S48 0 0 98 [(0, va_rf r0), (1, .int i1), (2, .int i2)] [.int v47]
    exact x_iret hC hQ (z_N (Option.some.inj h)) (Nat.le_of_ble_eq_true rfl) (Nat.le_of_ble_eq_true rfl) dX5_ofPaper_98
  replace h := it_f c43 h
  rcases Decidable.em (i2 = (7 : Int32)) with c50 | c50
  · replace h := it_t c50 h
    refine x_tabIn (off := 86) (t := 87) hC dX5_ofPaper_1 (by rw [c50]; decide) (by rw [c50]; decide) (by rw [c50]; decide) (by decide) ?_
    refine x_aload_n (i := 0) hC dX5_ofPaper_87 rfl 0 rfl ?_
    refine x_iload_n (i := 1) hC dX5_ofPaper_88 rfl 1 rfl ?_
    refine x_iconst (v := (2 : Int32)) hC dX5_ofPaper_89 (by decide) ?_
    refine x_iload_n (i := 2) hC dX5_ofPaper_90 rfl 2 rfl ?_
    refine x_iadd hC dX5_ofPaper_91 ?_
    refine x_bipush (v := (6 : Int32)) hC dX5_ofPaper_92 (by decide) ?_
    refine x_isub hC dX5_ofPaper_94 ?_
    replace h := dr_el h
    obtain ⟨a51, ea52, ha53, h⟩ := h
    replace h := bd_el h
    obtain ⟨v54, S55, hb56, h⟩ := h
    refine x_callV hC (st := []) (mt_X5_of _ _ _ _ _ hb56) ea52 ha53 kf_5 q_981 q_983 qs_52 q_7 q_984 ⟨rfl, hy_X5_of⟩ ⟨Nat.le_of_ble_eq_true rfl, Nat.le_of_ble_eq_true rfl⟩ ⟨Nat.le_of_ble_eq_true rfl, Nat.le_of_ble_eq_true rfl⟩ rfl (Nat.le_of_ble_eq_true rfl) dX5_ofPaper_95 (r_N ?_) r_NX
    show PX Z 3 S55 0 0 98 [(0, va_rf r0), (1, .int i1), (2, .int i2)] [.int v54]
    exact x_iret hC hQ (z_N (Option.some.inj h)) (Nat.le_of_ble_eq_true rfl) (Nat.le_of_ble_eq_true rfl) dX5_ofPaper_98
  replace h := it_f c50 h
  rcases Decidable.em (i2 = (8 : Int32)) with c57 | c57
  · replace h := it_t c57 h
    refine x_tabIn (off := 86) (t := 87) hC dX5_ofPaper_1 (by rw [c57]; decide) (by rw [c57]; decide) (by rw [c57]; decide) (by decide) ?_
    refine x_aload_n (i := 0) hC dX5_ofPaper_87 rfl 0 rfl ?_
    refine x_iload_n (i := 1) hC dX5_ofPaper_88 rfl 1 rfl ?_
    refine x_iconst (v := (2 : Int32)) hC dX5_ofPaper_89 (by decide) ?_
    refine x_iload_n (i := 2) hC dX5_ofPaper_90 rfl 2 rfl ?_
    refine x_iadd hC dX5_ofPaper_91 ?_
    refine x_bipush (v := (6 : Int32)) hC dX5_ofPaper_92 (by decide) ?_
    refine x_isub hC dX5_ofPaper_94 ?_
    replace h := dr_el h
    obtain ⟨a58, ea59, ha60, h⟩ := h
    replace h := bd_el h
    obtain ⟨v61, S62, hb63, h⟩ := h
    refine x_callV hC (st := []) (mt_X5_of _ _ _ _ _ hb63) ea59 ha60 kf_5 q_981 q_983 qs_52 q_7 q_984 ⟨rfl, hy_X5_of⟩ ⟨Nat.le_of_ble_eq_true rfl, Nat.le_of_ble_eq_true rfl⟩ ⟨Nat.le_of_ble_eq_true rfl, Nat.le_of_ble_eq_true rfl⟩ rfl (Nat.le_of_ble_eq_true rfl) dX5_ofPaper_95 (r_N ?_) r_NX
    show PX Z 3 S62 0 0 98 [(0, va_rf r0), (1, .int i1), (2, .int i2)] [.int v61]
    exact x_iret hC hQ (z_N (Option.some.inj h)) (Nat.le_of_ble_eq_true rfl) (Nat.le_of_ble_eq_true rfl) dX5_ofPaper_98
  replace h := it_f c57 h
  refine x_tabOut (t := 99) hC dX5_ofPaper_1 (tab_o 0 [(0 : Int32), (1 : Int32), (2 : Int32), (3 : Int32), (4 : Int32), (5 : Int32), (6 : Int32), (7 : Int32), (8 : Int32)] (by decide) (by decide) (List.forall_mem_cons.mpr ⟨c1, List.forall_mem_cons.mpr ⟨c8, List.forall_mem_cons.mpr ⟨c15, List.forall_mem_cons.mpr ⟨c27, List.forall_mem_cons.mpr ⟨c29, List.forall_mem_cons.mpr ⟨c36, List.forall_mem_cons.mpr ⟨c43, List.forall_mem_cons.mpr ⟨c50, List.forall_mem_cons.mpr ⟨c57, fun _ q => nomatch q⟩⟩⟩⟩⟩⟩⟩⟩⟩)) (by decide) ?_
  refine x_aload_n (i := 0) hC dX5_ofPaper_99 rfl 0 rfl ?_
  refine x_iload_n (i := 1) hC dX5_ofPaper_100 rfl 1 rfl ?_
  replace h := dr_el h
  obtain ⟨a64, ea65, ha66, h⟩ := h
  replace h := bd_el h
  obtain ⟨v67, S68, hb69, h⟩ := h
  refine x_callV hC (st := []) (mt_X5_canDecide _ _ _ _ hb69) ea65 ha66 kf_5 q_1063 q_1065 qs_66 q_7 q_1066 ⟨rfl, hy_X5_canDecide⟩ ⟨Nat.le_of_ble_eq_true rfl, Nat.le_of_ble_eq_true rfl⟩ ⟨Nat.le_of_ble_eq_true rfl, Nat.le_of_ble_eq_true rfl⟩ rfl (Nat.le_of_ble_eq_true rfl) dX5_ofPaper_101 (r_N ?_) r_NX
  show PX Z 3 S68 0 0 104 [(0, va_rf r0), (1, .int i1), (2, .int i2)] [.int v67]
  refine x_if_eq (t := 111) hC dX5_ofPaper_104 (by decide) (fun c70 => ?_) (fun c70 => ?_)
  · replace h := it_t c70 h
    refine x_iconst (v := (0 : Int32)) hC dX5_ofPaper_111 (by decide) ?_
    exact x_iret hC hQ (z_N (Option.some.inj h)) (Nat.le_of_ble_eq_true rfl) (Nat.le_of_ble_eq_true rfl) dX5_ofPaper_112
  · replace h := it_f c70 h
    refine x_iconst (v := (1 : Int32)) hC dX5_ofPaper_107 (by decide) ?_
    refine x_goto (t := 112) hC dX5_ofPaper_108 (by decide) ?_
    exact x_iret hC hQ (z_N (Option.some.inj h)) (Nat.le_of_ble_eq_true rfl) (Nat.le_of_ble_eq_true rfl) dX5_ofPaper_112
theorem dX5_paperOf_0 : decode cX5_paperOf 0 = .ok (.aload_n 0, 1) := by decide +kernel
theorem dX5_paperOf_1 : decode cX5_paperOf 1 = .ok (.aload_n 0, 1) := by decide +kernel
theorem dX5_paperOf_2 : decode cX5_paperOf 2 = .ok (.iload_n 1, 1) := by decide +kernel
theorem dX5_paperOf_3 : decode cX5_paperOf 3 = .ok (.invokevirtual 96, 3) := by decide +kernel
theorem dX5_paperOf_6 : decode cX5_paperOf 6 = .ok (.ifCond .ne 7, 3) := by decide +kernel
theorem dX5_paperOf_9 : decode cX5_paperOf 9 = .ok (.iconst 1, 1) := by decide +kernel
theorem dX5_paperOf_10 : decode cX5_paperOf 10 = .ok (.goto 18, 3) := by decide +kernel
theorem dX5_paperOf_13 : decode cX5_paperOf 13 = .ok (.iload_n 2, 1) := by decide +kernel
theorem dX5_paperOf_14 : decode cX5_paperOf 14 = .ok (.iconst 0, 1) := by decide +kernel
theorem dX5_paperOf_15 : decode cX5_paperOf 15 = .ok (.bipush 9, 2) := by decide +kernel
theorem dX5_paperOf_17 : decode cX5_paperOf 17 = .ok (.invokestatic 27, 3) := by decide +kernel
theorem dX5_paperOf_20 : decode cX5_paperOf 20 = .ok (.ifCond .ne 7, 3) := by decide +kernel
theorem dX5_paperOf_23 : decode cX5_paperOf 23 = .ok (.iconst 2, 1) := by decide +kernel
theorem dX5_paperOf_24 : decode cX5_paperOf 24 = .ok (.goto 4, 3) := by decide +kernel
theorem dX5_paperOf_27 : decode cX5_paperOf 27 = .ok (.iconst 0, 1) := by decide +kernel
theorem dX5_paperOf_28 : decode cX5_paperOf 28 = .ok (.invokevirtual 56, 3) := by decide +kernel
theorem dX5_paperOf_31 : decode cX5_paperOf 31 = .ok (.ifCond .eq 12, 3) := by decide +kernel
theorem dX5_paperOf_34 : decode cX5_paperOf 34 = .ok (.aload_n 0, 1) := by decide +kernel
theorem dX5_paperOf_35 : decode cX5_paperOf 35 = .ok (.iload_n 1, 1) := by decide +kernel
theorem dX5_paperOf_36 : decode cX5_paperOf 36 = .ok (.iload_n 2, 1) := by decide +kernel
theorem dX5_paperOf_37 : decode cX5_paperOf 37 = .ok (.invokevirtual 178, 3) := by decide +kernel
theorem dX5_paperOf_40 : decode cX5_paperOf 40 = .ok (.goto 4, 3) := by decide +kernel
theorem dX5_paperOf_43 : decode cX5_paperOf 43 = .ok (.iconst 0, 1) := by decide +kernel
theorem dX5_paperOf_44 : decode cX5_paperOf 44 = .ok (.ireturn, 1) := by decide +kernel
set_option maxRecDepth 100000 in
set_option maxHeartbeats 4000000 in
theorem mt_X5_paperOf (r0 : Option Nat) (i1 : Int32) (i2 : Int32) (S0 : PH) (y : Int32 × PH) (h : m_X5_paperOf r0 i1 i2 S0 = some y) : MT yX5_paperOf (.code yX5_paperOf cX5_paperOf 3 (Option.some FieldType.int)) 6 135 0 0 [va_rf r0, .int i1, .int i2] S0 (oQ e_I (qN y)) := by
  refine mt_of (own := RX5) (l0 := [(0, va_rf r0), (1, .int i1), (2, .int i2)]) rfl rfl (by cases r0 <;> exact Nat.le_of_ble_eq_true rfl) (by cases r0 <;> rfl) ?_
  intro Z hC hQ hE hN
  have J_28 : ∀ (v12 : Option Nat) (v13 : Int32) (S14 : PH), j_X5_paperOf_28 r0 i1 i2 v12 v13 S14 = some y → PX Z 3 S14 0 0 28 [(0, va_rf r0), (1, .int i1), (2, .int i2)] [.int v13, va_rf v12] := by
    intro v12 v13 S14 h
    unfold j_X5_paperOf_28 at h
    replace h := dr_el h
    obtain ⟨a15, ea16, ha17, h⟩ := h
    replace h := bd_el h
    obtain ⟨v18, S19, hb20, h⟩ := h
    refine x_callV hC (st := []) (mt_X5_holds _ _ _ _ hb20) ea16 ha17 kf_5 q_915 q_917 qs_43 q_7 q_918 ⟨rfl, hy_X5_holds⟩ ⟨Nat.le_of_ble_eq_true rfl, Nat.le_of_ble_eq_true rfl⟩ ⟨Nat.le_of_ble_eq_true rfl, Nat.le_of_ble_eq_true rfl⟩ rfl (Nat.le_of_ble_eq_true rfl) dX5_paperOf_28 (r_N ?_) r_NX
    show PX Z 3 S19 0 0 31 [(0, va_rf r0), (1, .int i1), (2, .int i2)] [.int v18]
    refine x_if_eq (t := 43) hC dX5_paperOf_31 (by decide) (fun c21 => ?_) (fun c21 => ?_)
    · replace h := it_t c21 h
      refine x_iconst (v := (0 : Int32)) hC dX5_paperOf_43 (by decide) ?_
      exact x_iret hC hQ (z_N (Option.some.inj h)) (Nat.le_of_ble_eq_true rfl) (Nat.le_of_ble_eq_true rfl) dX5_paperOf_44
    · replace h := it_f c21 h
      refine x_aload_n (i := 0) hC dX5_paperOf_34 rfl 0 rfl ?_
      refine x_iload_n (i := 1) hC dX5_paperOf_35 rfl 1 rfl ?_
      refine x_iload_n (i := 2) hC dX5_paperOf_36 rfl 2 rfl ?_
      replace h := dr_el h
      obtain ⟨a22, ea23, ha24, h⟩ := h
      replace h := bd_el h
      obtain ⟨v25, S26, hb27, h⟩ := h
      refine x_callV hC (st := []) (mt_X5_ofPaper _ _ _ _ _ hb27) ea23 ha24 kf_5 q_1143 q_1145 qs_77 q_7 q_1146 ⟨rfl, hy_X5_ofPaper⟩ ⟨Nat.le_of_ble_eq_true rfl, Nat.le_of_ble_eq_true rfl⟩ ⟨Nat.le_of_ble_eq_true rfl, Nat.le_of_ble_eq_true rfl⟩ rfl (Nat.le_of_ble_eq_true rfl) dX5_paperOf_37 (r_N ?_) r_NX
      show PX Z 3 S26 0 0 40 [(0, va_rf r0), (1, .int i1), (2, .int i2)] [.int v25]
      refine x_goto (t := 44) hC dX5_paperOf_40 (by decide) ?_
      exact x_iret hC hQ (z_N (Option.some.inj h)) (Nat.le_of_ble_eq_true rfl) (Nat.le_of_ble_eq_true rfl) dX5_paperOf_44
  unfold m_X5_paperOf at h
  refine x_aload_n (i := 0) hC dX5_paperOf_0 rfl 0 rfl ?_
  refine x_aload_n (i := 0) hC dX5_paperOf_1 rfl 0 rfl ?_
  refine x_iload_n (i := 1) hC dX5_paperOf_2 rfl 1 rfl ?_
  replace h := dr_el h
  obtain ⟨a1, ea2, ha3, h⟩ := h
  replace h := bd_el h
  obtain ⟨v4, S5, hb6, h⟩ := h
  refine x_callV hC (st := [va_rf r0]) (mt_X5_isPaper _ _ _ _ hb6) ea2 ha3 kf_5 q_969 q_971 qs_49 q_7 q_972 ⟨rfl, hy_X5_isPaper⟩ ⟨Nat.le_of_ble_eq_true rfl, Nat.le_of_ble_eq_true rfl⟩ ⟨Nat.le_of_ble_eq_true rfl, Nat.le_of_ble_eq_true rfl⟩ rfl (Nat.le_of_ble_eq_true rfl) dX5_paperOf_3 (r_N ?_) r_NX
  show PX Z 3 S5 0 0 6 [(0, va_rf r0), (1, .int i1), (2, .int i2)] [.int v4, va_rf r0]
  refine x_if_ne (t := 13) hC dX5_paperOf_6 (by decide) (fun c7 => ?_) (fun c7 => ?_)
  · replace h := it_f c7 h
    refine x_iload_n (i := 2) hC dX5_paperOf_13 rfl 2 rfl ?_
    refine x_iconst (v := (0 : Int32)) hC dX5_paperOf_14 (by decide) ?_
    refine x_bipush (v := (9 : Int32)) hC dX5_paperOf_15 (by decide) ?_
    replace h := bd_el h
    obtain ⟨v8, S9, hb10, h⟩ := h
    refine x_callS hC (st := [va_rf r0]) (mt_X5_in _ _ _ _ _ hb10) q_912 q_913 q_7 q_914 hy_X5_in ⟨Nat.le_of_ble_eq_true rfl, Nat.le_of_ble_eq_true rfl⟩ ⟨Nat.le_of_ble_eq_true rfl, Nat.le_of_ble_eq_true rfl⟩ rfl (Nat.le_of_ble_eq_true rfl) dX5_paperOf_17 (r_N ?_) r_NX
    show PX Z 3 S9 0 0 20 [(0, va_rf r0), (1, .int i1), (2, .int i2)] [.int v8, va_rf r0]
    refine x_if_ne (t := 27) hC dX5_paperOf_20 (by decide) (fun c11 => ?_) (fun c11 => ?_)
    · replace h := it_f c11 h
      refine x_iconst (v := (0 : Int32)) hC dX5_paperOf_27 (by decide) ?_
      exact J_28 _ _ _ h
    · replace h := it_t c11 h
      refine x_iconst (v := (2 : Int32)) hC dX5_paperOf_23 (by decide) ?_
      refine x_goto (t := 28) hC dX5_paperOf_24 (by decide) ?_
      exact J_28 _ _ _ h
  · replace h := it_t c7 h
    refine x_iconst (v := (1 : Int32)) hC dX5_paperOf_9 (by decide) ?_
    refine x_goto (t := 28) hC dX5_paperOf_10 (by decide) ?_
    exact J_28 _ _ _ h
theorem dX5_score_0 : decode cX5_score 0 = .ok (.aload_n 0, 1) := by decide +kernel
theorem dX5_score_1 : decode cX5_score 1 = .ok (.iload_n 1, 1) := by decide +kernel
theorem dX5_score_2 : decode cX5_score 2 = .ok (.invokestatic 67, 3) := by decide +kernel
theorem dX5_score_5 : decode cX5_score 5 = .ok (.ifCond .eq 15, 3) := by decide +kernel
theorem dX5_score_8 : decode cX5_score 8 = .ok (.aload_n 0, 1) := by decide +kernel
theorem dX5_score_9 : decode cX5_score 9 = .ok (.iload_n 2, 1) := by decide +kernel
theorem dX5_score_10 : decode cX5_score 10 = .ok (.invokevirtual 96, 3) := by decide +kernel
theorem dX5_score_13 : decode cX5_score 13 = .ok (.ifCond .eq 7, 3) := by decide +kernel
theorem dX5_score_16 : decode cX5_score 16 = .ok (.iconst 0, 1) := by decide +kernel
theorem dX5_score_17 : decode cX5_score 17 = .ok (.goto 4, 3) := by decide +kernel
theorem dX5_score_20 : decode cX5_score 20 = .ok (.iconst 1, 1) := by decide +kernel
theorem dX5_score_21 : decode cX5_score 21 = .ok (.invokevirtual 56, 3) := by decide +kernel
theorem dX5_score_24 : decode cX5_score 24 = .ok (.ifCond .eq 12, 3) := by decide +kernel
theorem dX5_score_27 : decode cX5_score 27 = .ok (.aload_n 0, 1) := by decide +kernel
theorem dX5_score_28 : decode cX5_score 28 = .ok (.iload_n 1, 1) := by decide +kernel
theorem dX5_score_29 : decode cX5_score 29 = .ok (.iload_n 2, 1) := by decide +kernel
theorem dX5_score_30 : decode cX5_score 30 = .ok (.invokevirtual 35, 3) := by decide +kernel
theorem dX5_score_33 : decode cX5_score 33 = .ok (.goto 4, 3) := by decide +kernel
theorem dX5_score_36 : decode cX5_score 36 = .ok (.iconst 0, 1) := by decide +kernel
theorem dX5_score_37 : decode cX5_score 37 = .ok (.ireturn, 1) := by decide +kernel
set_option maxRecDepth 100000 in
set_option maxHeartbeats 4000000 in
theorem mt_X5_score (r0 : Option Nat) (i1 : Int32) (i2 : Int32) (S0 : PH) (y : Int32 × PH) (h : m_X5_score r0 i1 i2 S0 = some y) : MT yX5_score (.code yX5_score cX5_score 3 (Option.some FieldType.int)) 2 44 0 0 [va_rf r0, .int i1, .int i2] S0 (oQ e_I (qN y)) := by
  refine mt_of (own := RX5) (l0 := [(0, va_rf r0), (1, .int i1), (2, .int i2)]) rfl rfl (by cases r0 <;> exact Nat.le_of_ble_eq_true rfl) (by cases r0 <;> rfl) ?_
  intro Z hC hQ hE hN
  have J_21 : ∀ (v5 : Option Nat) (v6 : Int32) (S7 : PH), j_X5_score_21 r0 i1 i2 v5 v6 S7 = some y → PX Z 3 S7 0 0 21 [(0, va_rf r0), (1, .int i1), (2, .int i2)] [.int v6, va_rf v5] := by
    intro v5 v6 S7 h
    unfold j_X5_score_21 at h
    replace h := dr_el h
    obtain ⟨a8, ea9, ha10, h⟩ := h
    replace h := bd_el h
    obtain ⟨v11, S12, hb13, h⟩ := h
    refine x_callV hC (st := []) (mt_X5_holds _ _ _ _ hb13) ea9 ha10 kf_5 q_915 q_917 qs_43 q_7 q_918 ⟨rfl, hy_X5_holds⟩ ⟨Nat.le_of_ble_eq_true rfl, Nat.le_of_ble_eq_true rfl⟩ ⟨Nat.le_of_ble_eq_true rfl, Nat.le_of_ble_eq_true rfl⟩ rfl (Nat.le_of_ble_eq_true rfl) dX5_score_21 (r_N ?_) r_NX
    show PX Z 3 S12 0 0 24 [(0, va_rf r0), (1, .int i1), (2, .int i2)] [.int v11]
    refine x_if_eq (t := 36) hC dX5_score_24 (by decide) (fun c14 => ?_) (fun c14 => ?_)
    · replace h := it_t c14 h
      refine x_iconst (v := (0 : Int32)) hC dX5_score_36 (by decide) ?_
      exact x_iret hC hQ (z_N (Option.some.inj h)) (Nat.le_of_ble_eq_true rfl) (Nat.le_of_ble_eq_true rfl) dX5_score_37
    · replace h := it_f c14 h
      refine x_aload_n (i := 0) hC dX5_score_27 rfl 0 rfl ?_
      refine x_iload_n (i := 1) hC dX5_score_28 rfl 1 rfl ?_
      refine x_iload_n (i := 2) hC dX5_score_29 rfl 2 rfl ?_
      replace h := dr_el h
      obtain ⟨a15, ea16, ha17, h⟩ := h
      replace h := bd_el h
      obtain ⟨v18, S19, hb20, h⟩ := h
      refine x_callV hC (st := []) (mt_X5_scoreOf _ _ _ _ _ hb20) ea16 ha17 kf_5 q_985 q_987 qs_53 q_7 q_988 ⟨rfl, hy_X5_scoreOf⟩ ⟨Nat.le_of_ble_eq_true rfl, Nat.le_of_ble_eq_true rfl⟩ ⟨Nat.le_of_ble_eq_true rfl, Nat.le_of_ble_eq_true rfl⟩ rfl (Nat.le_of_ble_eq_true rfl) dX5_score_30 (r_N ?_) r_NX
      show PX Z 3 S19 0 0 33 [(0, va_rf r0), (1, .int i1), (2, .int i2)] [.int v18]
      refine x_goto (t := 37) hC dX5_score_33 (by decide) ?_
      exact x_iret hC hQ (z_N (Option.some.inj h)) (Nat.le_of_ble_eq_true rfl) (Nat.le_of_ble_eq_true rfl) dX5_score_37
  unfold m_X5_score at h
  refine x_aload_n (i := 0) hC dX5_score_0 rfl 0 rfl ?_
  refine x_iload_n (i := 1) hC dX5_score_1 rfl 1 rfl ?_
  replace h := bd_el h
  obtain ⟨v1, S2, hb3, h⟩ := h
  refine x_callS hC (st := [va_rf r0]) (mt_X5_isPerson _ _ _ hb3) q_935 q_936 q_7 q_937 hy_X5_isPerson ⟨Nat.le_of_ble_eq_true rfl, Nat.le_of_ble_eq_true rfl⟩ ⟨Nat.le_of_ble_eq_true rfl, Nat.le_of_ble_eq_true rfl⟩ rfl (Nat.le_of_ble_eq_true rfl) dX5_score_2 (r_N ?_) r_NX
  show PX Z 3 S2 0 0 5 [(0, va_rf r0), (1, .int i1), (2, .int i2)] [.int v1, va_rf r0]
  refine x_if_eq (t := 20) hC dX5_score_5 (by decide) (fun c4 => ?_) (fun c4 => ?_)
  · replace h := it_t c4 h
    refine x_iconst (v := (1 : Int32)) hC dX5_score_20 (by decide) ?_
    exact J_21 _ _ _ h
  · replace h := it_f c4 h
    refine x_aload_n (i := 0) hC dX5_score_8 rfl 0 rfl ?_
    refine x_iload_n (i := 2) hC dX5_score_9 rfl 2 rfl ?_
    replace h := dr_el h
    obtain ⟨a21, ea22, ha23, h⟩ := h
    replace h := bd_el h
    obtain ⟨v24, S25, hb26, h⟩ := h
    refine x_callV hC (st := [va_rf r0]) (mt_X5_isPaper _ _ _ _ hb26) ea22 ha23 kf_5 q_969 q_971 qs_49 q_7 q_972 ⟨rfl, hy_X5_isPaper⟩ ⟨Nat.le_of_ble_eq_true rfl, Nat.le_of_ble_eq_true rfl⟩ ⟨Nat.le_of_ble_eq_true rfl, Nat.le_of_ble_eq_true rfl⟩ rfl (Nat.le_of_ble_eq_true rfl) dX5_score_10 (r_N ?_) r_NX
    show PX Z 3 S25 0 0 13 [(0, va_rf r0), (1, .int i1), (2, .int i2)] [.int v24, va_rf r0]
    refine x_if_eq (t := 20) hC dX5_score_13 (by decide) (fun c27 => ?_) (fun c27 => ?_)
    · replace h := it_t c27 h
      refine x_iconst (v := (1 : Int32)) hC dX5_score_20 (by decide) ?_
      exact J_21 _ _ _ h
    · replace h := it_f c27 h
      refine x_iconst (v := (0 : Int32)) hC dX5_score_16 (by decide) ?_
      refine x_goto (t := 21) hC dX5_score_17 (by decide) ?_
      exact J_21 _ _ _ h
theorem dX5_sum_0 : decode cX5_sum 0 = .ok (.iconst 0, 1) := by decide +kernel
theorem dX5_sum_1 : decode cX5_sum 1 = .ok (.istore_n 2, 1) := by decide +kernel
theorem dX5_sum_2 : decode cX5_sum 2 = .ok (.iconst 0, 1) := by decide +kernel
theorem dX5_sum_3 : decode cX5_sum 3 = .ok (.istore_n 3, 1) := by decide +kernel
theorem dX5_sum_4 : decode cX5_sum 4 = .ok (.iload_n 3, 1) := by decide +kernel
theorem dX5_sum_5 : decode cX5_sum 5 = .ok (.bipush 8, 2) := by decide +kernel
theorem dX5_sum_7 : decode cX5_sum 7 = .ok (.if_icmp .ge 20, 3) := by decide +kernel
theorem dX5_sum_10 : decode cX5_sum 10 = .ok (.iload_n 2, 1) := by decide +kernel
theorem dX5_sum_11 : decode cX5_sum 11 = .ok (.aload_n 0, 1) := by decide +kernel
theorem dX5_sum_12 : decode cX5_sum 12 = .ok (.getfield 7, 3) := by decide +kernel
theorem dX5_sum_15 : decode cX5_sum 15 = .ok (.iload_n 1, 1) := by decide +kernel
theorem dX5_sum_16 : decode cX5_sum 16 = .ok (.iload_n 3, 1) := by decide +kernel
theorem dX5_sum_17 : decode cX5_sum 17 = .ok (.iadd, 1) := by decide +kernel
theorem dX5_sum_18 : decode cX5_sum 18 = .ok (.iaload, 1) := by decide +kernel
theorem dX5_sum_19 : decode cX5_sum 19 = .ok (.iadd, 1) := by decide +kernel
theorem dX5_sum_20 : decode cX5_sum 20 = .ok (.istore_n 2, 1) := by decide +kernel
theorem dX5_sum_21 : decode cX5_sum 21 = .ok (.iinc 3 1, 3) := by decide +kernel
theorem dX5_sum_24 : decode cX5_sum 24 = .ok (.goto (-20), 3) := by decide +kernel
theorem dX5_sum_27 : decode cX5_sum 27 = .ok (.iload_n 2, 1) := by decide +kernel
theorem dX5_sum_28 : decode cX5_sum 28 = .ok (.ireturn, 1) := by decide +kernel
set_option maxRecDepth 100000 in
set_option maxHeartbeats 4000000 in
theorem mt_X5_sum (r0 : Option Nat) (i1 : Int32) (S0 : PH) (y : Int32 × PH) (h : m_X5_sum r0 i1 S0 = some y) : MT yX5_sum (.code yX5_sum cX5_sum 4 (Option.some FieldType.int)) 0 0 0 0 [va_rf r0, .int i1] S0 (oQ e_I (qN y)) := by
  refine mt_of (own := RX5) (l0 := [(0, va_rf r0), (1, .int i1)]) rfl rfl (by cases r0 <;> exact Nat.le_of_ble_eq_true rfl) (by cases r0 <;> rfl) ?_
  intro Z hC hQ hE hN
  unfold m_X5_sum at h
  refine x_iconst (v := (0 : Int32)) hC dX5_sum_0 (by decide) ?_
  refine x_istore_n (i := 2) (l' := [(2, .int (0 : Int32)), (0, va_rf r0), (1, .int i1)]) hC dX5_sum_1 rfl (⟨fun _ => c_rf r0, ⟨fun _ => rfl, trivial⟩⟩) (by decide) rfl ?_
  refine x_iconst (v := (0 : Int32)) hC dX5_sum_2 (by decide) ?_
  refine x_istore_n (i := 3) (l' := [(3, .int (0 : Int32)), (2, .int (0 : Int32)), (0, va_rf r0), (1, .int i1)]) hC dX5_sum_3 rfl (⟨fun _ => rfl, ⟨fun _ => c_rf r0, ⟨fun _ => rfl, trivial⟩⟩⟩) (by decide) rfl ?_
  refine x_sub (l' := [(0, va_rf r0), (1, .int i1), (2, .int (0 : Int32)), (3, .int (0 : Int32))]) [2, 3, 1, 0] rfl ?_
  refine lp_sim (P := fun (t : (Int32 × Int32 × PH)) => PX Z 4 t.2.2 0 0 4 [(0, va_rf r0), (1, .int i1), (2, .int t.1), (3, .int t.2.1)] []) (G := fun r => r = y) ?_ h rfl
  clear h
  intro t x_4 h hg_4
  obtain ⟨v1, v2, S3⟩ := t
  show PX Z 4 S3 0 0 4 [(0, va_rf r0), (1, .int i1), (2, .int v1), (3, .int v2)] []
  unfold st_X5_sum_4 at h
  refine x_iload_n (i := 3) hC dX5_sum_4 rfl 3 rfl ?_
  refine x_bipush (v := (8 : Int32)) hC dX5_sum_5 (by decide) ?_
  refine x_icmp_ge (t := 27) hC dX5_sum_7 (by decide) (fun c4 => ?_) (fun c4 => ?_)
  · replace h := it_t c4 h
    replace h := ir_x h hg_4
    refine x_iload_n (i := 2) hC dX5_sum_27 rfl 2 rfl ?_
    exact x_iret hC hQ (z_N (Option.some.inj h)) (Nat.le_of_ble_eq_true rfl) (Nat.le_of_ble_eq_true rfl) dX5_sum_28
  · replace h := it_f c4 h
    refine x_iload_n (i := 2) hC dX5_sum_10 rfl 2 rfl ?_
    refine x_aload_n (i := 0) hC dX5_sum_11 rfl 0 rfl ?_
    replace h := dr_el h
    obtain ⟨a5, ea6, ha7, h⟩ := h
    refine x_getR hC ea6 ha7 kf_5 1 (by decide) rfl q_864 dX5_sum_12 ?_
    refine x_iload_n (i := 1) hC dX5_sum_15 rfl 1 rfl ?_
    refine x_iload_n (i := 3) hC dX5_sum_16 rfl 3 rfl ?_
    refine x_iadd hC dX5_sum_17 ?_
    replace h := dr_el h
    obtain ⟨a8, ea9, ha10, h⟩ := h
    replace h := ck_el h
    obtain ⟨hc11, h⟩ := h
    refine x_iaload hC ea9 ha10 hc11 dX5_sum_18 ?_
    refine x_iadd hC dX5_sum_19 ?_
    replace h := le_el h
    obtain ⟨x12, hx13, h⟩ := h
    refine x_tI hx13 ?_
    refine x_istore_n (i := 2) (l' := [(2, .int x12), (0, va_rf r0), (1, .int i1), (3, .int v2)]) hC dX5_sum_20 rfl (⟨fun _ => c_rf r0, ⟨fun _ => rfl, ⟨fun _ => rfl, ⟨fun _ => rfl, trivial⟩⟩⟩⟩) (by decide) rfl ?_
    refine x_iinc (i := 3) (v := (v2 + (1 : Int32))) (l' := [(3, .int (v2 + (1 : Int32))), (2, .int x12), (0, va_rf r0), (1, .int i1)]) hC dX5_sum_21 3 rfl rfl (⟨fun _ => rfl, ⟨fun _ => c_rf r0, ⟨fun _ => rfl, ⟨fun _ => rfl, trivial⟩⟩⟩⟩) (by decide) rfl ?_
    refine x_goto (t := 4) hC dX5_sum_24 (by decide) ?_
    refine x_sub (l' := [(0, va_rf r0), (1, .int i1), (2, .int x12), (3, .int (v2 + (1 : Int32)))]) [2, 3, 1, 0] rfl ?_
    have hb := bk_x h hg_4
    exact hb
theorem dX5_overPapers_0 : decode cX5_overPapers 0 = .ok (.iconst 0, 1) := by decide +kernel
theorem dX5_overPapers_1 : decode cX5_overPapers 1 = .ok (.istore_n 2, 1) := by decide +kernel
theorem dX5_overPapers_2 : decode cX5_overPapers 2 = .ok (.iconst 0, 1) := by decide +kernel
theorem dX5_overPapers_3 : decode cX5_overPapers 3 = .ok (.istore_n 3, 1) := by decide +kernel
theorem dX5_overPapers_4 : decode cX5_overPapers 4 = .ok (.iload_n 3, 1) := by decide +kernel
theorem dX5_overPapers_5 : decode cX5_overPapers 5 = .ok (.aload_n 0, 1) := by decide +kernel
theorem dX5_overPapers_6 : decode cX5_overPapers 6 = .ok (.getfield 7, 3) := by decide +kernel
theorem dX5_overPapers_9 : decode cX5_overPapers 9 = .ok (.bipush 8, 2) := by decide +kernel
theorem dX5_overPapers_11 : decode cX5_overPapers 11 = .ok (.iaload, 1) := by decide +kernel
theorem dX5_overPapers_12 : decode cX5_overPapers 12 = .ok (.if_icmp .ge 54, 3) := by decide +kernel
theorem dX5_overPapers_15 : decode cX5_overPapers 15 = .ok (.iload_n 2, 1) := by decide +kernel
theorem dX5_overPapers_16 : decode cX5_overPapers 16 = .ok (.iload_n 1, 1) := by decide +kernel
theorem dX5_overPapers_17 : decode cX5_overPapers 17 = .ok (.bipush 8, 2) := by decide +kernel
theorem dX5_overPapers_19 : decode cX5_overPapers 19 = .ok (.if_icmp .ne 20, 3) := by decide +kernel
theorem dX5_overPapers_22 : decode cX5_overPapers 22 = .ok (.aload_n 0, 1) := by decide +kernel
theorem dX5_overPapers_23 : decode cX5_overPapers 23 = .ok (.iload_n 3, 1) := by decide +kernel
theorem dX5_overPapers_24 : decode cX5_overPapers 24 = .ok (.iconst 4, 1) := by decide +kernel
theorem dX5_overPapers_25 : decode cX5_overPapers 25 = .ok (.invokevirtual 31, 3) := by decide +kernel
theorem dX5_overPapers_28 : decode cX5_overPapers 28 = .ok (.ifCond .le 7, 3) := by decide +kernel
theorem dX5_overPapers_31 : decode cX5_overPapers 31 = .ok (.iconst 1, 1) := by decide +kernel
theorem dX5_overPapers_32 : decode cX5_overPapers 32 = .ok (.goto 26, 3) := by decide +kernel
theorem dX5_overPapers_35 : decode cX5_overPapers 35 = .ok (.iconst 0, 1) := by decide +kernel
theorem dX5_overPapers_36 : decode cX5_overPapers 36 = .ok (.goto 22, 3) := by decide +kernel
theorem dX5_overPapers_39 : decode cX5_overPapers 39 = .ok (.aload_n 0, 1) := by decide +kernel
theorem dX5_overPapers_40 : decode cX5_overPapers 40 = .ok (.iload_n 3, 1) := by decide +kernel
theorem dX5_overPapers_41 : decode cX5_overPapers 41 = .ok (.iload_n 1, 1) := by decide +kernel
theorem dX5_overPapers_42 : decode cX5_overPapers 42 = .ok (.bipush 7, 2) := by decide +kernel
theorem dX5_overPapers_44 : decode cX5_overPapers 44 = .ok (.if_icmp .ne 7, 3) := by decide +kernel
theorem dX5_overPapers_47 : decode cX5_overPapers 47 = .ok (.iconst 1, 1) := by decide +kernel
theorem dX5_overPapers_48 : decode cX5_overPapers 48 = .ok (.goto 4, 3) := by decide +kernel
theorem dX5_overPapers_51 : decode cX5_overPapers 51 = .ok (.iconst 0, 1) := by decide +kernel
theorem dX5_overPapers_52 : decode cX5_overPapers 52 = .ok (.invokevirtual 80, 3) := by decide +kernel
theorem dX5_overPapers_55 : decode cX5_overPapers 55 = .ok (.invokestatic 84, 3) := by decide +kernel
theorem dX5_overPapers_58 : decode cX5_overPapers 58 = .ok (.iadd, 1) := by decide +kernel
theorem dX5_overPapers_59 : decode cX5_overPapers 59 = .ok (.istore_n 2, 1) := by decide +kernel
theorem dX5_overPapers_60 : decode cX5_overPapers 60 = .ok (.iinc 3 1, 3) := by decide +kernel
theorem dX5_overPapers_63 : decode cX5_overPapers 63 = .ok (.goto (-59), 3) := by decide +kernel
theorem dX5_overPapers_66 : decode cX5_overPapers 66 = .ok (.iload_n 2, 1) := by decide +kernel
theorem dX5_overPapers_67 : decode cX5_overPapers 67 = .ok (.ireturn, 1) := by decide +kernel
set_option maxRecDepth 100000 in
set_option maxHeartbeats 4000000 in
theorem mt_X5_overPapers (r0 : Option Nat) (i1 : Int32) (S0 : PH) (y : Int32 × PH) (h : m_X5_overPapers r0 i1 S0 = some y) : MT yX5_overPapers (.code yX5_overPapers cX5_overPapers 4 (Option.some FieldType.int)) 4 91 0 0 [va_rf r0, .int i1] S0 (oQ e_I (qN y)) := by
  refine mt_of (own := RX5) (l0 := [(0, va_rf r0), (1, .int i1)]) rfl rfl (by cases r0 <;> exact Nat.le_of_ble_eq_true rfl) (by cases r0 <;> rfl) ?_
  intro Z hC hQ hE hN
  unfold m_X5_overPapers at h
  refine x_iconst (v := (0 : Int32)) hC dX5_overPapers_0 (by decide) ?_
  refine x_istore_n (i := 2) (l' := [(2, .int (0 : Int32)), (0, va_rf r0), (1, .int i1)]) hC dX5_overPapers_1 rfl (⟨fun _ => c_rf r0, ⟨fun _ => rfl, trivial⟩⟩) (by decide) rfl ?_
  refine x_iconst (v := (0 : Int32)) hC dX5_overPapers_2 (by decide) ?_
  refine x_istore_n (i := 3) (l' := [(3, .int (0 : Int32)), (2, .int (0 : Int32)), (0, va_rf r0), (1, .int i1)]) hC dX5_overPapers_3 rfl (⟨fun _ => rfl, ⟨fun _ => c_rf r0, ⟨fun _ => rfl, trivial⟩⟩⟩) (by decide) rfl ?_
  refine x_sub (l' := [(0, va_rf r0), (1, .int i1), (2, .int (0 : Int32)), (3, .int (0 : Int32))]) [2, 3, 1, 0] rfl ?_
  refine lp_sim (P := fun (t : (Int32 × Int32 × PH)) => PX Z 4 t.2.2 0 0 4 [(0, va_rf r0), (1, .int i1), (2, .int t.1), (3, .int t.2.1)] []) (G := fun r => r = y) ?_ h rfl
  clear h
  intro t x_4 h hg_4
  obtain ⟨v1, v2, S3⟩ := t
  show PX Z 4 S3 0 0 4 [(0, va_rf r0), (1, .int i1), (2, .int v1), (3, .int v2)] []
  have J_52 : ∀ (v14 : Int32) (v15 : Int32) (v16 : Option Nat) (v17 : Int32) (v18 : Int32) (S19 : PH), j_X5_overPapers_52 r0 i1 v14 v15 v16 v17 v18 S19 = some x_4 → PX Z 4 S19 0 0 52 [(0, va_rf r0), (1, .int i1), (3, .int v14)] [.int v18, .int v17, va_rf v16, .int v15] := by
    intro v14 v15 v16 v17 v18 S19 h
    unfold j_X5_overPapers_52 at h
    replace h := dr_el h
    obtain ⟨a20, ea21, ha22, h⟩ := h
    replace h := bd_el h
    obtain ⟨v23, S24, hb25, h⟩ := h
    refine x_callV hC (st := [.int v15]) (mt_X5_reviewers _ _ _ _ _ hb25) ea21 ha22 kf_5 q_989 q_991 qs_54 q_7 q_992 ⟨rfl, hy_X5_reviewers⟩ ⟨Nat.le_of_ble_eq_true rfl, Nat.le_of_ble_eq_true rfl⟩ ⟨Nat.le_of_ble_eq_true rfl, Nat.le_of_ble_eq_true rfl⟩ rfl (Nat.le_of_ble_eq_true rfl) dX5_overPapers_52 (r_N ?_) r_NX
    show PX Z 4 S24 0 0 55 [(0, va_rf r0), (1, .int i1), (3, .int v14)] [.int v23, .int v15]
    replace h := bd_el h
    obtain ⟨v26, S27, hb28, h⟩ := h
    refine x_callS hC (st := [.int v15]) (mt_X5_ones _ _ _ hb28) q_997 q_998 q_7 q_999 hy_X5_ones ⟨Nat.le_of_ble_eq_true rfl, Nat.le_of_ble_eq_true rfl⟩ ⟨Nat.le_of_ble_eq_true rfl, Nat.le_of_ble_eq_true rfl⟩ rfl (Nat.le_of_ble_eq_true rfl) dX5_overPapers_55 (r_N ?_) r_NX
    show PX Z 4 S27 0 0 58 [(0, va_rf r0), (1, .int i1), (3, .int v14)] [.int v26, .int v15]
    refine x_iadd hC dX5_overPapers_58 ?_
    replace h := le_el h
    obtain ⟨x29, hx30, h⟩ := h
    refine x_tI hx30 ?_
    refine x_istore_n (i := 2) (l' := [(2, .int x29), (0, va_rf r0), (1, .int i1), (3, .int v14)]) hC dX5_overPapers_59 rfl (⟨fun _ => c_rf r0, ⟨fun _ => rfl, ⟨fun _ => rfl, trivial⟩⟩⟩) (by decide) rfl ?_
    refine x_iinc (i := 3) (v := (v14 + (1 : Int32))) (l' := [(3, .int (v14 + (1 : Int32))), (2, .int x29), (0, va_rf r0), (1, .int i1)]) hC dX5_overPapers_60 3 rfl rfl (⟨fun _ => rfl, ⟨fun _ => c_rf r0, ⟨fun _ => rfl, ⟨fun _ => rfl, trivial⟩⟩⟩⟩) (by decide) rfl ?_
    refine x_goto (t := 4) hC dX5_overPapers_63 (by decide) ?_
    refine x_sub (l' := [(0, va_rf r0), (1, .int i1), (2, .int x29), (3, .int (v14 + (1 : Int32)))]) [2, 3, 1, 0] rfl ?_
    have hb := bk_x h hg_4
    exact hb
  unfold st_X5_overPapers_4 at h
  refine x_iload_n (i := 3) hC dX5_overPapers_4 rfl 3 rfl ?_
  refine x_aload_n (i := 0) hC dX5_overPapers_5 rfl 0 rfl ?_
  replace h := dr_el h
  obtain ⟨a4, ea5, ha6, h⟩ := h
  refine x_getR hC ea5 ha6 kf_5 1 (by decide) rfl q_864 dX5_overPapers_6 ?_
  refine x_bipush (v := (8 : Int32)) hC dX5_overPapers_9 (by decide) ?_
  replace h := dr_el h
  obtain ⟨a7, ea8, ha9, h⟩ := h
  replace h := ck_el h
  obtain ⟨hc10, h⟩ := h
  refine x_iaload hC ea8 ha9 hc10 dX5_overPapers_11 ?_
  refine x_tI (b := (p_I S3 a7 8)) rfl ?_
  refine x_icmp_ge (t := 66) hC dX5_overPapers_12 (by decide) (fun c11 => ?_) (fun c11 => ?_)
  · replace h := it_t c11 h
    replace h := ir_x h hg_4
    refine x_iload_n (i := 2) hC dX5_overPapers_66 rfl 2 rfl ?_
    exact x_iret hC hQ (z_N (Option.some.inj h)) (Nat.le_of_ble_eq_true rfl) (Nat.le_of_ble_eq_true rfl) dX5_overPapers_67
  · replace h := it_f c11 h
    refine x_iload_n (i := 2) hC dX5_overPapers_15 rfl 2 rfl ?_
    refine x_iload_n (i := 1) hC dX5_overPapers_16 rfl 1 rfl ?_
    refine x_bipush (v := (8 : Int32)) hC dX5_overPapers_17 (by decide) ?_
    refine x_icmp_ne (t := 39) hC dX5_overPapers_19 (by decide) (fun c12 => ?_) (fun c12 => ?_)
    · replace h := it_f c12 h
      refine x_aload_n (i := 0) hC dX5_overPapers_39 rfl 0 rfl ?_
      refine x_iload_n (i := 3) hC dX5_overPapers_40 rfl 3 rfl ?_
      refine x_iload_n (i := 1) hC dX5_overPapers_41 rfl 1 rfl ?_
      refine x_bipush (v := (7 : Int32)) hC dX5_overPapers_42 (by decide) ?_
      refine x_icmp_ne (t := 51) hC dX5_overPapers_44 (by decide) (fun c13 => ?_) (fun c13 => ?_)
      · replace h := it_f c13 h
        refine x_iconst (v := (0 : Int32)) hC dX5_overPapers_51 (by decide) ?_
        refine x_sub (l' := [(0, va_rf r0), (1, .int i1), (3, .int v2)]) [0, 1, 3] rfl ?_
        exact J_52 _ _ _ _ _ _ h
      · replace h := it_t c13 h
        refine x_iconst (v := (1 : Int32)) hC dX5_overPapers_47 (by decide) ?_
        refine x_goto (t := 52) hC dX5_overPapers_48 (by decide) ?_
        refine x_sub (l' := [(0, va_rf r0), (1, .int i1), (3, .int v2)]) [0, 1, 3] rfl ?_
        exact J_52 _ _ _ _ _ _ h
    · replace h := it_t c12 h
      refine x_aload_n (i := 0) hC dX5_overPapers_22 rfl 0 rfl ?_
      refine x_iload_n (i := 3) hC dX5_overPapers_23 rfl 3 rfl ?_
      refine x_iconst (v := (4 : Int32)) hC dX5_overPapers_24 (by decide) ?_
      replace h := bd_el h
      obtain ⟨v31, S32, hb33, h⟩ := h
      refine x_callV hC (st := [.int v1]) (mt_X5_of _ _ _ _ _ hb33) ea5 ha6 kf_5 q_981 q_983 qs_52 q_7 q_984 ⟨rfl, hy_X5_of⟩ ⟨Nat.le_of_ble_eq_true rfl, Nat.le_of_ble_eq_true rfl⟩ ⟨Nat.le_of_ble_eq_true rfl, Nat.le_of_ble_eq_true rfl⟩ rfl (Nat.le_of_ble_eq_true rfl) dX5_overPapers_25 (r_N ?_) r_NX
      show PX Z 4 S32 0 0 28 [(0, va_rf r0), (1, .int i1), (2, .int v1), (3, .int v2)] [.int v31, .int v1]
      refine x_if_le (t := 35) hC dX5_overPapers_28 (by decide) (fun c34 => ?_) (fun c34 => ?_)
      · replace h := it_t c34 h
        refine x_iconst (v := (0 : Int32)) hC dX5_overPapers_35 (by decide) ?_
        refine x_goto (t := 58) hC dX5_overPapers_36 (by decide) ?_
        refine x_iadd hC dX5_overPapers_58 ?_
        replace h := le_el h
        obtain ⟨x35, hx36, h⟩ := h
        refine x_tI hx36 ?_
        refine x_istore_n (i := 2) (l' := [(2, .int x35), (0, va_rf r0), (1, .int i1), (3, .int v2)]) hC dX5_overPapers_59 rfl (⟨fun _ => c_rf r0, ⟨fun _ => rfl, ⟨fun _ => rfl, ⟨fun _ => rfl, trivial⟩⟩⟩⟩) (by decide) rfl ?_
        refine x_iinc (i := 3) (v := (v2 + (1 : Int32))) (l' := [(3, .int (v2 + (1 : Int32))), (2, .int x35), (0, va_rf r0), (1, .int i1)]) hC dX5_overPapers_60 3 rfl rfl (⟨fun _ => rfl, ⟨fun _ => c_rf r0, ⟨fun _ => rfl, ⟨fun _ => rfl, trivial⟩⟩⟩⟩) (by decide) rfl ?_
        refine x_goto (t := 4) hC dX5_overPapers_63 (by decide) ?_
        refine x_sub (l' := [(0, va_rf r0), (1, .int i1), (2, .int x35), (3, .int (v2 + (1 : Int32)))]) [2, 3, 1, 0] rfl ?_
        have hb := bk_x h hg_4
        exact hb
      · replace h := it_f c34 h
        refine x_iconst (v := (1 : Int32)) hC dX5_overPapers_31 (by decide) ?_
        refine x_goto (t := 58) hC dX5_overPapers_32 (by decide) ?_
        refine x_iadd hC dX5_overPapers_58 ?_
        replace h := le_el h
        obtain ⟨x37, hx38, h⟩ := h
        refine x_tI hx38 ?_
        refine x_istore_n (i := 2) (l' := [(2, .int x37), (0, va_rf r0), (1, .int i1), (3, .int v2)]) hC dX5_overPapers_59 rfl (⟨fun _ => c_rf r0, ⟨fun _ => rfl, ⟨fun _ => rfl, ⟨fun _ => rfl, trivial⟩⟩⟩⟩) (by decide) rfl ?_
        refine x_iinc (i := 3) (v := (v2 + (1 : Int32))) (l' := [(3, .int (v2 + (1 : Int32))), (2, .int x37), (0, va_rf r0), (1, .int i1)]) hC dX5_overPapers_60 3 rfl rfl (⟨fun _ => rfl, ⟨fun _ => c_rf r0, ⟨fun _ => rfl, ⟨fun _ => rfl, trivial⟩⟩⟩⟩) (by decide) rfl ?_
        refine x_goto (t := 4) hC dX5_overPapers_63 (by decide) ?_
        refine x_sub (l' := [(0, va_rf r0), (1, .int i1), (2, .int x37), (3, .int (v2 + (1 : Int32)))]) [2, 3, 1, 0] rfl ?_
        have hb := bk_x h hg_4
        exact hb
theorem dX5_pairs_0 : decode cX5_pairs 0 = .ok (.iconst 0, 1) := by decide +kernel
theorem dX5_pairs_1 : decode cX5_pairs 1 = .ok (.istore_n 1, 1) := by decide +kernel
theorem dX5_pairs_2 : decode cX5_pairs 2 = .ok (.iconst 0, 1) := by decide +kernel
theorem dX5_pairs_3 : decode cX5_pairs 3 = .ok (.istore_n 2, 1) := by decide +kernel
theorem dX5_pairs_4 : decode cX5_pairs 4 = .ok (.iload_n 2, 1) := by decide +kernel
theorem dX5_pairs_5 : decode cX5_pairs 5 = .ok (.bipush 8, 2) := by decide +kernel
theorem dX5_pairs_7 : decode cX5_pairs 7 = .ok (.if_icmp .ge 30, 3) := by decide +kernel
theorem dX5_pairs_10 : decode cX5_pairs 10 = .ok (.iload_n 1, 1) := by decide +kernel
theorem dX5_pairs_11 : decode cX5_pairs 11 = .ok (.aload_n 0, 1) := by decide +kernel
theorem dX5_pairs_12 : decode cX5_pairs 12 = .ok (.getfield 7, 3) := by decide +kernel
theorem dX5_pairs_15 : decode cX5_pairs 15 = .ok (.bipush 25, 2) := by decide +kernel
theorem dX5_pairs_17 : decode cX5_pairs 17 = .ok (.iload_n 2, 1) := by decide +kernel
theorem dX5_pairs_18 : decode cX5_pairs 18 = .ok (.iadd, 1) := by decide +kernel
theorem dX5_pairs_19 : decode cX5_pairs 19 = .ok (.iaload, 1) := by decide +kernel
theorem dX5_pairs_20 : decode cX5_pairs 20 = .ok (.iconst 1, 1) := by decide +kernel
theorem dX5_pairs_21 : decode cX5_pairs 21 = .ok (.iload_n 2, 1) := by decide +kernel
theorem dX5_pairs_22 : decode cX5_pairs 22 = .ok (.ishl, 1) := by decide +kernel
theorem dX5_pairs_23 : decode cX5_pairs 23 = .ok (.iconst 1, 1) := by decide +kernel
theorem dX5_pairs_24 : decode cX5_pairs 24 = .ok (.isub, 1) := by decide +kernel
theorem dX5_pairs_25 : decode cX5_pairs 25 = .ok (.iand, 1) := by decide +kernel
theorem dX5_pairs_26 : decode cX5_pairs 26 = .ok (.invokestatic 84, 3) := by decide +kernel
theorem dX5_pairs_29 : decode cX5_pairs 29 = .ok (.iadd, 1) := by decide +kernel
theorem dX5_pairs_30 : decode cX5_pairs 30 = .ok (.istore_n 1, 1) := by decide +kernel
theorem dX5_pairs_31 : decode cX5_pairs 31 = .ok (.iinc 2 1, 3) := by decide +kernel
theorem dX5_pairs_34 : decode cX5_pairs 34 = .ok (.goto (-30), 3) := by decide +kernel
theorem dX5_pairs_37 : decode cX5_pairs 37 = .ok (.iload_n 1, 1) := by decide +kernel
theorem dX5_pairs_38 : decode cX5_pairs 38 = .ok (.ireturn, 1) := by decide +kernel
set_option maxRecDepth 100000 in
set_option maxHeartbeats 4000000 in
theorem mt_X5_pairs (r0 : Option Nat) (S0 : PH) (y : Int32 × PH) (h : m_X5_pairs r0 S0 = some y) : MT yX5_pairs (.code yX5_pairs cX5_pairs 3 (Option.some FieldType.int)) 1 22 0 0 [va_rf r0] S0 (oQ e_I (qN y)) := by
  refine mt_of (own := RX5) (l0 := [(0, va_rf r0)]) rfl rfl (by cases r0 <;> exact Nat.le_of_ble_eq_true rfl) (by cases r0 <;> rfl) ?_
  intro Z hC hQ hE hN
  unfold m_X5_pairs at h
  refine x_iconst (v := (0 : Int32)) hC dX5_pairs_0 (by decide) ?_
  refine x_istore_n (i := 1) (l' := [(1, .int (0 : Int32)), (0, va_rf r0)]) hC dX5_pairs_1 rfl (⟨fun _ => c_rf r0, trivial⟩) (by decide) rfl ?_
  refine x_iconst (v := (0 : Int32)) hC dX5_pairs_2 (by decide) ?_
  refine x_istore_n (i := 2) (l' := [(2, .int (0 : Int32)), (1, .int (0 : Int32)), (0, va_rf r0)]) hC dX5_pairs_3 rfl (⟨fun _ => rfl, ⟨fun _ => c_rf r0, trivial⟩⟩) (by decide) rfl ?_
  refine x_sub (l' := [(0, va_rf r0), (1, .int (0 : Int32)), (2, .int (0 : Int32))]) [2, 1, 0] rfl ?_
  refine lp_sim (P := fun (t : (Int32 × Int32 × PH)) => PX Z 3 t.2.2 0 0 4 [(0, va_rf r0), (1, .int t.1), (2, .int t.2.1)] []) (G := fun r => r = y) ?_ h rfl
  clear h
  intro t x_4 h hg_4
  obtain ⟨v1, v2, S3⟩ := t
  show PX Z 3 S3 0 0 4 [(0, va_rf r0), (1, .int v1), (2, .int v2)] []
  unfold st_X5_pairs_4 at h
  refine x_iload_n (i := 2) hC dX5_pairs_4 rfl 2 rfl ?_
  refine x_bipush (v := (8 : Int32)) hC dX5_pairs_5 (by decide) ?_
  refine x_icmp_ge (t := 37) hC dX5_pairs_7 (by decide) (fun c4 => ?_) (fun c4 => ?_)
  · replace h := it_t c4 h
    replace h := ir_x h hg_4
    refine x_iload_n (i := 1) hC dX5_pairs_37 rfl 1 rfl ?_
    exact x_iret hC hQ (z_N (Option.some.inj h)) (Nat.le_of_ble_eq_true rfl) (Nat.le_of_ble_eq_true rfl) dX5_pairs_38
  · replace h := it_f c4 h
    refine x_iload_n (i := 1) hC dX5_pairs_10 rfl 1 rfl ?_
    refine x_aload_n (i := 0) hC dX5_pairs_11 rfl 0 rfl ?_
    replace h := dr_el h
    obtain ⟨a5, ea6, ha7, h⟩ := h
    refine x_getR hC ea6 ha7 kf_5 1 (by decide) rfl q_864 dX5_pairs_12 ?_
    refine x_bipush (v := (25 : Int32)) hC dX5_pairs_15 (by decide) ?_
    refine x_iload_n (i := 2) hC dX5_pairs_17 rfl 2 rfl ?_
    refine x_iadd hC dX5_pairs_18 ?_
    replace h := dr_el h
    obtain ⟨a8, ea9, ha10, h⟩ := h
    replace h := ck_el h
    obtain ⟨hc11, h⟩ := h
    refine x_iaload hC ea9 ha10 hc11 dX5_pairs_19 ?_
    refine x_iconst (v := (1 : Int32)) hC dX5_pairs_20 (by decide) ?_
    refine x_iload_n (i := 2) hC dX5_pairs_21 rfl 2 rfl ?_
    refine x_ishl hC dX5_pairs_22 ?_
    refine x_iconst (v := (1 : Int32)) hC dX5_pairs_23 (by decide) ?_
    refine x_isub hC dX5_pairs_24 ?_
    refine x_iand hC dX5_pairs_25 ?_
    replace h := bd_el h
    obtain ⟨v12, S13, hb14, h⟩ := h
    refine x_callS hC (st := [.int v1]) (mt_X5_ones _ _ _ hb14) q_997 q_998 q_7 q_999 hy_X5_ones ⟨Nat.le_of_ble_eq_true rfl, Nat.le_of_ble_eq_true rfl⟩ ⟨Nat.le_of_ble_eq_true rfl, Nat.le_of_ble_eq_true rfl⟩ rfl (Nat.le_of_ble_eq_true rfl) dX5_pairs_26 (r_N ?_) r_NX
    show PX Z 3 S13 0 0 29 [(0, va_rf r0), (1, .int v1), (2, .int v2)] [.int v12, .int v1]
    refine x_iadd hC dX5_pairs_29 ?_
    replace h := le_el h
    obtain ⟨x15, hx16, h⟩ := h
    refine x_tI hx16 ?_
    refine x_istore_n (i := 1) (l' := [(1, .int x15), (0, va_rf r0), (2, .int v2)]) hC dX5_pairs_30 rfl (⟨fun _ => c_rf r0, ⟨fun _ => rfl, ⟨fun _ => rfl, trivial⟩⟩⟩) (by decide) rfl ?_
    refine x_iinc (i := 2) (v := (v2 + (1 : Int32))) (l' := [(2, .int (v2 + (1 : Int32))), (1, .int x15), (0, va_rf r0)]) hC dX5_pairs_31 2 rfl rfl (⟨fun _ => rfl, ⟨fun _ => c_rf r0, ⟨fun _ => rfl, trivial⟩⟩⟩) (by decide) rfl ?_
    refine x_goto (t := 4) hC dX5_pairs_34 (by decide) ?_
    refine x_sub (l' := [(0, va_rf r0), (1, .int x15), (2, .int (v2 + (1 : Int32)))]) [2, 1, 0] rfl ?_
    have hb := bk_x h hg_4
    exact hb
theorem dX5_counted_0 : decode cX5_counted 0 = .ok (.iload_n 1, 1) := by decide +kernel
theorem dX5_counted_1 : decode cX5_counted 1 = .ok (.tableswitch 123 0 10 #[59, 67, 74, 81, 88, 95, 105, 105, 105, 111, 118], 59) := by decide +kernel
theorem dX5_counted_60 : decode cX5_counted 60 = .ok (.aload_n 0, 1) := by decide +kernel
theorem dX5_counted_61 : decode cX5_counted 61 = .ok (.getfield 7, 3) := by decide +kernel
theorem dX5_counted_64 : decode cX5_counted 64 = .ok (.bipush 8, 2) := by decide +kernel
theorem dX5_counted_66 : decode cX5_counted 66 = .ok (.iaload, 1) := by decide +kernel
theorem dX5_counted_67 : decode cX5_counted 67 = .ok (.ireturn, 1) := by decide +kernel
theorem dX5_counted_68 : decode cX5_counted 68 = .ok (.aload_n 0, 1) := by decide +kernel
theorem dX5_counted_69 : decode cX5_counted 69 = .ok (.getfield 7, 3) := by decide +kernel
theorem dX5_counted_72 : decode cX5_counted 72 = .ok (.iconst 1, 1) := by decide +kernel
theorem dX5_counted_73 : decode cX5_counted 73 = .ok (.iaload, 1) := by decide +kernel
theorem dX5_counted_74 : decode cX5_counted 74 = .ok (.ireturn, 1) := by decide +kernel
theorem dX5_counted_75 : decode cX5_counted 75 = .ok (.aload_n 0, 1) := by decide +kernel
theorem dX5_counted_76 : decode cX5_counted 76 = .ok (.getfield 7, 3) := by decide +kernel
theorem dX5_counted_79 : decode cX5_counted 79 = .ok (.iconst 0, 1) := by decide +kernel
theorem dX5_counted_80 : decode cX5_counted 80 = .ok (.iaload, 1) := by decide +kernel
theorem dX5_counted_81 : decode cX5_counted 81 = .ok (.ireturn, 1) := by decide +kernel
theorem dX5_counted_82 : decode cX5_counted 82 = .ok (.aload_n 0, 1) := by decide +kernel
theorem dX5_counted_83 : decode cX5_counted 83 = .ok (.bipush 41, 2) := by decide +kernel
theorem dX5_counted_85 : decode cX5_counted 85 = .ok (.invokevirtual 181, 3) := by decide +kernel
theorem dX5_counted_88 : decode cX5_counted 88 = .ok (.ireturn, 1) := by decide +kernel
theorem dX5_counted_89 : decode cX5_counted 89 = .ok (.aload_n 0, 1) := by decide +kernel
theorem dX5_counted_90 : decode cX5_counted 90 = .ok (.bipush 9, 2) := by decide +kernel
theorem dX5_counted_92 : decode cX5_counted 92 = .ok (.invokevirtual 181, 3) := by decide +kernel
theorem dX5_counted_95 : decode cX5_counted 95 = .ok (.ireturn, 1) := by decide +kernel
theorem dX5_counted_96 : decode cX5_counted 96 = .ok (.bipush 100, 2) := by decide +kernel
theorem dX5_counted_98 : decode cX5_counted 98 = .ok (.aload_n 0, 1) := by decide +kernel
theorem dX5_counted_99 : decode cX5_counted 99 = .ok (.getfield 7, 3) := by decide +kernel
theorem dX5_counted_102 : decode cX5_counted 102 = .ok (.iconst 2, 1) := by decide +kernel
theorem dX5_counted_103 : decode cX5_counted 103 = .ok (.iaload, 1) := by decide +kernel
theorem dX5_counted_104 : decode cX5_counted 104 = .ok (.iadd, 1) := by decide +kernel
theorem dX5_counted_105 : decode cX5_counted 105 = .ok (.ireturn, 1) := by decide +kernel
theorem dX5_counted_106 : decode cX5_counted 106 = .ok (.aload_n 0, 1) := by decide +kernel
theorem dX5_counted_107 : decode cX5_counted 107 = .ok (.iload_n 1, 1) := by decide +kernel
theorem dX5_counted_108 : decode cX5_counted 108 = .ok (.invokevirtual 184, 3) := by decide +kernel
theorem dX5_counted_111 : decode cX5_counted 111 = .ok (.ireturn, 1) := by decide +kernel
theorem dX5_counted_112 : decode cX5_counted 112 = .ok (.aload_n 0, 1) := by decide +kernel
theorem dX5_counted_113 : decode cX5_counted 113 = .ok (.getfield 7, 3) := by decide +kernel
theorem dX5_counted_116 : decode cX5_counted 116 = .ok (.iconst 3, 1) := by decide +kernel
theorem dX5_counted_117 : decode cX5_counted 117 = .ok (.iaload, 1) := by decide +kernel
theorem dX5_counted_118 : decode cX5_counted 118 = .ok (.ireturn, 1) := by decide +kernel
theorem dX5_counted_119 : decode cX5_counted 119 = .ok (.aload_n 0, 1) := by decide +kernel
theorem dX5_counted_120 : decode cX5_counted 120 = .ok (.invokevirtual 187, 3) := by decide +kernel
theorem dX5_counted_123 : decode cX5_counted 123 = .ok (.ireturn, 1) := by decide +kernel
theorem dX5_counted_124 : decode cX5_counted 124 = .ok (.aload_n 0, 1) := by decide +kernel
theorem dX5_counted_125 : decode cX5_counted 125 = .ok (.getfield 49, 3) := by decide +kernel
theorem dX5_counted_128 : decode cX5_counted 128 = .ok (.ireturn, 1) := by decide +kernel
set_option maxRecDepth 100000 in
set_option maxHeartbeats 4000000 in
theorem mt_X5_counted (r0 : Option Nat) (i1 : Int32) (S0 : PH) (y : Int32 × PH) (h : m_X5_counted r0 i1 S0 = some y) : MT yX5_counted (.code yX5_counted cX5_counted 2 (Option.some FieldType.int)) 5 114 0 0 [va_rf r0, .int i1] S0 (oQ e_I (qN y)) := by
  refine mt_of (own := RX5) (l0 := [(0, va_rf r0), (1, .int i1)]) rfl rfl (by cases r0 <;> exact Nat.le_of_ble_eq_true rfl) (by cases r0 <;> rfl) ?_
  intro Z hC hQ hE hN
  unfold m_X5_counted at h
  refine x_iload_n (i := 1) hC dX5_counted_0 rfl 1 rfl ?_
  rcases Decidable.em (i1 = (0 : Int32)) with c1 | c1
  · replace h := it_t c1 h
    refine x_tabIn (off := 59) (t := 60) hC dX5_counted_1 (by rw [c1]; decide) (by rw [c1]; decide) (by rw [c1]; decide) (by decide) ?_
    refine x_aload_n (i := 0) hC dX5_counted_60 rfl 0 rfl ?_
    replace h := dr_el h
    obtain ⟨a2, ea3, ha4, h⟩ := h
    refine x_getR hC ea3 ha4 kf_5 1 (by decide) rfl q_864 dX5_counted_61 ?_
    refine x_bipush (v := (8 : Int32)) hC dX5_counted_64 (by decide) ?_
    replace h := dr_el h
    obtain ⟨a5, ea6, ha7, h⟩ := h
    replace h := ck_el h
    obtain ⟨hc8, h⟩ := h
    refine x_iaload hC ea6 ha7 hc8 dX5_counted_66 ?_
    refine x_tI (b := (p_I S0 a5 8)) rfl ?_
    exact x_iret hC hQ (z_N (Option.some.inj h)) (Nat.le_of_ble_eq_true rfl) (Nat.le_of_ble_eq_true rfl) dX5_counted_67
  replace h := it_f c1 h
  rcases Decidable.em (i1 = (1 : Int32)) with c9 | c9
  · replace h := it_t c9 h
    refine x_tabIn (off := 67) (t := 68) hC dX5_counted_1 (by rw [c9]; decide) (by rw [c9]; decide) (by rw [c9]; decide) (by decide) ?_
    refine x_aload_n (i := 0) hC dX5_counted_68 rfl 0 rfl ?_
    replace h := dr_el h
    obtain ⟨a10, ea11, ha12, h⟩ := h
    refine x_getR hC ea11 ha12 kf_5 1 (by decide) rfl q_864 dX5_counted_69 ?_
    refine x_iconst (v := (1 : Int32)) hC dX5_counted_72 (by decide) ?_
    replace h := dr_el h
    obtain ⟨a13, ea14, ha15, h⟩ := h
    replace h := ck_el h
    obtain ⟨hc16, h⟩ := h
    refine x_iaload hC ea14 ha15 hc16 dX5_counted_73 ?_
    refine x_tI (b := (p_I S0 a13 1)) rfl ?_
    exact x_iret hC hQ (z_N (Option.some.inj h)) (Nat.le_of_ble_eq_true rfl) (Nat.le_of_ble_eq_true rfl) dX5_counted_74
  replace h := it_f c9 h
  rcases Decidable.em (i1 = (2 : Int32)) with c17 | c17
  · replace h := it_t c17 h
    refine x_tabIn (off := 74) (t := 75) hC dX5_counted_1 (by rw [c17]; decide) (by rw [c17]; decide) (by rw [c17]; decide) (by decide) ?_
    refine x_aload_n (i := 0) hC dX5_counted_75 rfl 0 rfl ?_
    replace h := dr_el h
    obtain ⟨a18, ea19, ha20, h⟩ := h
    refine x_getR hC ea19 ha20 kf_5 1 (by decide) rfl q_864 dX5_counted_76 ?_
    refine x_iconst (v := (0 : Int32)) hC dX5_counted_79 (by decide) ?_
    replace h := dr_el h
    obtain ⟨a21, ea22, ha23, h⟩ := h
    replace h := ck_el h
    obtain ⟨hc24, h⟩ := h
    refine x_iaload hC ea22 ha23 hc24 dX5_counted_80 ?_
    refine x_tI (b := (p_I S0 a21 0)) rfl ?_
    exact x_iret hC hQ (z_N (Option.some.inj h)) (Nat.le_of_ble_eq_true rfl) (Nat.le_of_ble_eq_true rfl) dX5_counted_81
  replace h := it_f c17 h
  rcases Decidable.em (i1 = (3 : Int32)) with c25 | c25
  · replace h := it_t c25 h
    refine x_tabIn (off := 81) (t := 82) hC dX5_counted_1 (by rw [c25]; decide) (by rw [c25]; decide) (by rw [c25]; decide) (by decide) ?_
    refine x_aload_n (i := 0) hC dX5_counted_82 rfl 0 rfl ?_
    refine x_bipush (v := (41 : Int32)) hC dX5_counted_83 (by decide) ?_
    replace h := dr_el h
    obtain ⟨a26, ea27, ha28, h⟩ := h
    replace h := bd_el h
    obtain ⟨v29, S30, hb31, h⟩ := h
    refine x_callV hC (st := []) (mt_X5_sum _ _ _ _ hb31) ea27 ha28 kf_5 q_1163 q_1165 qs_80 q_7 q_1166 ⟨rfl, hy_X5_sum⟩ ⟨Nat.le_of_ble_eq_true rfl, Nat.le_of_ble_eq_true rfl⟩ ⟨Nat.le_of_ble_eq_true rfl, Nat.le_of_ble_eq_true rfl⟩ rfl (Nat.le_of_ble_eq_true rfl) dX5_counted_85 (r_N ?_) r_NX
    show PX Z 2 S30 0 0 88 [(0, va_rf r0), (1, .int i1)] [.int v29]
    exact x_iret hC hQ (z_N (Option.some.inj h)) (Nat.le_of_ble_eq_true rfl) (Nat.le_of_ble_eq_true rfl) dX5_counted_88
  replace h := it_f c25 h
  rcases Decidable.em (i1 = (4 : Int32)) with c32 | c32
  · replace h := it_t c32 h
    refine x_tabIn (off := 88) (t := 89) hC dX5_counted_1 (by rw [c32]; decide) (by rw [c32]; decide) (by rw [c32]; decide) (by decide) ?_
    refine x_aload_n (i := 0) hC dX5_counted_89 rfl 0 rfl ?_
    refine x_bipush (v := (9 : Int32)) hC dX5_counted_90 (by decide) ?_
    replace h := dr_el h
    obtain ⟨a33, ea34, ha35, h⟩ := h
    replace h := bd_el h
    obtain ⟨v36, S37, hb38, h⟩ := h
    refine x_callV hC (st := []) (mt_X5_sum _ _ _ _ hb38) ea34 ha35 kf_5 q_1163 q_1165 qs_80 q_7 q_1166 ⟨rfl, hy_X5_sum⟩ ⟨Nat.le_of_ble_eq_true rfl, Nat.le_of_ble_eq_true rfl⟩ ⟨Nat.le_of_ble_eq_true rfl, Nat.le_of_ble_eq_true rfl⟩ rfl (Nat.le_of_ble_eq_true rfl) dX5_counted_92 (r_N ?_) r_NX
    show PX Z 2 S37 0 0 95 [(0, va_rf r0), (1, .int i1)] [.int v36]
    exact x_iret hC hQ (z_N (Option.some.inj h)) (Nat.le_of_ble_eq_true rfl) (Nat.le_of_ble_eq_true rfl) dX5_counted_95
  replace h := it_f c32 h
  rcases Decidable.em (i1 = (5 : Int32)) with c39 | c39
  · replace h := it_t c39 h
    refine x_tabIn (off := 95) (t := 96) hC dX5_counted_1 (by rw [c39]; decide) (by rw [c39]; decide) (by rw [c39]; decide) (by decide) ?_
    refine x_bipush (v := (100 : Int32)) hC dX5_counted_96 (by decide) ?_
    refine x_aload_n (i := 0) hC dX5_counted_98 rfl 0 rfl ?_
    replace h := dr_el h
    obtain ⟨a40, ea41, ha42, h⟩ := h
    refine x_getR hC ea41 ha42 kf_5 1 (by decide) rfl q_864 dX5_counted_99 ?_
    refine x_iconst (v := (2 : Int32)) hC dX5_counted_102 (by decide) ?_
    replace h := dr_el h
    obtain ⟨a43, ea44, ha45, h⟩ := h
    replace h := ck_el h
    obtain ⟨hc46, h⟩ := h
    refine x_iaload hC ea44 ha45 hc46 dX5_counted_103 ?_
    refine x_tI (b := (p_I S0 a43 2)) rfl ?_
    refine x_iadd hC dX5_counted_104 ?_
    exact x_iret hC hQ (z_N (Option.some.inj h)) (Nat.le_of_ble_eq_true rfl) (Nat.le_of_ble_eq_true rfl) dX5_counted_105
  replace h := it_f c39 h
  rcases Decidable.em (i1 = (6 : Int32)) with c47 | c47
  · replace h := it_t c47 h
    refine x_tabIn (off := 105) (t := 106) hC dX5_counted_1 (by rw [c47]; decide) (by rw [c47]; decide) (by rw [c47]; decide) (by decide) ?_
    refine x_aload_n (i := 0) hC dX5_counted_106 rfl 0 rfl ?_
    refine x_iload_n (i := 1) hC dX5_counted_107 rfl 1 rfl ?_
    replace h := dr_el h
    obtain ⟨a48, ea49, ha50, h⟩ := h
    replace h := bd_el h
    obtain ⟨v51, S52, hb53, h⟩ := h
    refine x_callV hC (st := []) (mt_X5_overPapers _ _ _ _ hb53) ea49 ha50 kf_5 q_1167 q_1169 qs_81 q_7 q_1170 ⟨rfl, hy_X5_overPapers⟩ ⟨Nat.le_of_ble_eq_true rfl, Nat.le_of_ble_eq_true rfl⟩ ⟨Nat.le_of_ble_eq_true rfl, Nat.le_of_ble_eq_true rfl⟩ rfl (Nat.le_of_ble_eq_true rfl) dX5_counted_108 (r_N ?_) r_NX
    show PX Z 2 S52 0 0 111 [(0, va_rf r0), (1, .int i1)] [.int v51]
    exact x_iret hC hQ (z_N (Option.some.inj h)) (Nat.le_of_ble_eq_true rfl) (Nat.le_of_ble_eq_true rfl) dX5_counted_111
  replace h := it_f c47 h
  rcases Decidable.em (i1 = (7 : Int32)) with c54 | c54
  · replace h := it_t c54 h
    refine x_tabIn (off := 105) (t := 106) hC dX5_counted_1 (by rw [c54]; decide) (by rw [c54]; decide) (by rw [c54]; decide) (by decide) ?_
    refine x_aload_n (i := 0) hC dX5_counted_106 rfl 0 rfl ?_
    refine x_iload_n (i := 1) hC dX5_counted_107 rfl 1 rfl ?_
    replace h := dr_el h
    obtain ⟨a55, ea56, ha57, h⟩ := h
    replace h := bd_el h
    obtain ⟨v58, S59, hb60, h⟩ := h
    refine x_callV hC (st := []) (mt_X5_overPapers _ _ _ _ hb60) ea56 ha57 kf_5 q_1167 q_1169 qs_81 q_7 q_1170 ⟨rfl, hy_X5_overPapers⟩ ⟨Nat.le_of_ble_eq_true rfl, Nat.le_of_ble_eq_true rfl⟩ ⟨Nat.le_of_ble_eq_true rfl, Nat.le_of_ble_eq_true rfl⟩ rfl (Nat.le_of_ble_eq_true rfl) dX5_counted_108 (r_N ?_) r_NX
    show PX Z 2 S59 0 0 111 [(0, va_rf r0), (1, .int i1)] [.int v58]
    exact x_iret hC hQ (z_N (Option.some.inj h)) (Nat.le_of_ble_eq_true rfl) (Nat.le_of_ble_eq_true rfl) dX5_counted_111
  replace h := it_f c54 h
  rcases Decidable.em (i1 = (8 : Int32)) with c61 | c61
  · replace h := it_t c61 h
    refine x_tabIn (off := 105) (t := 106) hC dX5_counted_1 (by rw [c61]; decide) (by rw [c61]; decide) (by rw [c61]; decide) (by decide) ?_
    refine x_aload_n (i := 0) hC dX5_counted_106 rfl 0 rfl ?_
    refine x_iload_n (i := 1) hC dX5_counted_107 rfl 1 rfl ?_
    replace h := dr_el h
    obtain ⟨a62, ea63, ha64, h⟩ := h
    replace h := bd_el h
    obtain ⟨v65, S66, hb67, h⟩ := h
    refine x_callV hC (st := []) (mt_X5_overPapers _ _ _ _ hb67) ea63 ha64 kf_5 q_1167 q_1169 qs_81 q_7 q_1170 ⟨rfl, hy_X5_overPapers⟩ ⟨Nat.le_of_ble_eq_true rfl, Nat.le_of_ble_eq_true rfl⟩ ⟨Nat.le_of_ble_eq_true rfl, Nat.le_of_ble_eq_true rfl⟩ rfl (Nat.le_of_ble_eq_true rfl) dX5_counted_108 (r_N ?_) r_NX
    show PX Z 2 S66 0 0 111 [(0, va_rf r0), (1, .int i1)] [.int v65]
    exact x_iret hC hQ (z_N (Option.some.inj h)) (Nat.le_of_ble_eq_true rfl) (Nat.le_of_ble_eq_true rfl) dX5_counted_111
  replace h := it_f c61 h
  rcases Decidable.em (i1 = (9 : Int32)) with c68 | c68
  · replace h := it_t c68 h
    refine x_tabIn (off := 111) (t := 112) hC dX5_counted_1 (by rw [c68]; decide) (by rw [c68]; decide) (by rw [c68]; decide) (by decide) ?_
    refine x_aload_n (i := 0) hC dX5_counted_112 rfl 0 rfl ?_
    replace h := dr_el h
    obtain ⟨a69, ea70, ha71, h⟩ := h
    refine x_getR hC ea70 ha71 kf_5 1 (by decide) rfl q_864 dX5_counted_113 ?_
    refine x_iconst (v := (3 : Int32)) hC dX5_counted_116 (by decide) ?_
    replace h := dr_el h
    obtain ⟨a72, ea73, ha74, h⟩ := h
    replace h := ck_el h
    obtain ⟨hc75, h⟩ := h
    refine x_iaload hC ea73 ha74 hc75 dX5_counted_117 ?_
    refine x_tI (b := (p_I S0 a72 3)) rfl ?_
    exact x_iret hC hQ (z_N (Option.some.inj h)) (Nat.le_of_ble_eq_true rfl) (Nat.le_of_ble_eq_true rfl) dX5_counted_118
  replace h := it_f c68 h
  rcases Decidable.em (i1 = (10 : Int32)) with c76 | c76
  · replace h := it_t c76 h
    refine x_tabIn (off := 118) (t := 119) hC dX5_counted_1 (by rw [c76]; decide) (by rw [c76]; decide) (by rw [c76]; decide) (by decide) ?_
    refine x_aload_n (i := 0) hC dX5_counted_119 rfl 0 rfl ?_
    replace h := dr_el h
    obtain ⟨a77, ea78, ha79, h⟩ := h
    replace h := bd_el h
    obtain ⟨v80, S81, hb82, h⟩ := h
    refine x_callV hC (st := []) (mt_X5_pairs _ _ _ hb82) ea78 ha79 kf_5 q_1171 q_1173 qs_82 q_7 q_1174 ⟨rfl, hy_X5_pairs⟩ ⟨Nat.le_of_ble_eq_true rfl, Nat.le_of_ble_eq_true rfl⟩ ⟨Nat.le_of_ble_eq_true rfl, Nat.le_of_ble_eq_true rfl⟩ rfl (Nat.le_of_ble_eq_true rfl) dX5_counted_120 (r_N ?_) r_NX
    show PX Z 2 S81 0 0 123 [(0, va_rf r0), (1, .int i1)] [.int v80]
    exact x_iret hC hQ (z_N (Option.some.inj h)) (Nat.le_of_ble_eq_true rfl) (Nat.le_of_ble_eq_true rfl) dX5_counted_123
  replace h := it_f c76 h
  refine x_tabOut (t := 124) hC dX5_counted_1 (tab_o 0 [(0 : Int32), (1 : Int32), (2 : Int32), (3 : Int32), (4 : Int32), (5 : Int32), (6 : Int32), (7 : Int32), (8 : Int32), (9 : Int32), (10 : Int32)] (by decide) (by decide) (List.forall_mem_cons.mpr ⟨c1, List.forall_mem_cons.mpr ⟨c9, List.forall_mem_cons.mpr ⟨c17, List.forall_mem_cons.mpr ⟨c25, List.forall_mem_cons.mpr ⟨c32, List.forall_mem_cons.mpr ⟨c39, List.forall_mem_cons.mpr ⟨c47, List.forall_mem_cons.mpr ⟨c54, List.forall_mem_cons.mpr ⟨c61, List.forall_mem_cons.mpr ⟨c68, List.forall_mem_cons.mpr ⟨c76, fun _ q => nomatch q⟩⟩⟩⟩⟩⟩⟩⟩⟩⟩⟩)) (by decide) ?_
  refine x_aload_n (i := 0) hC dX5_counted_124 rfl 0 rfl ?_
  replace h := dr_el h
  obtain ⟨a83, ea84, ha85, h⟩ := h
  refine x_getI hC ea84 ha85 kf_5 2 (by decide) rfl q_865 dX5_counted_125 ?_
  exact x_iret hC hQ (z_N (Option.some.inj h)) (Nat.le_of_ble_eq_true rfl) (Nat.le_of_ble_eq_true rfl) dX5_counted_128
theorem dX5_count_0 : decode cX5_count 0 = .ok (.aload_n 0, 1) := by decide +kernel
theorem dX5_count_1 : decode cX5_count 1 = .ok (.iload_n 1, 1) := by decide +kernel
theorem dX5_count_2 : decode cX5_count 2 = .ok (.iconst 0, 1) := by decide +kernel
theorem dX5_count_3 : decode cX5_count 3 = .ok (.bipush 11, 2) := by decide +kernel
theorem dX5_count_5 : decode cX5_count 5 = .ok (.invokestatic 27, 3) := by decide +kernel
theorem dX5_count_8 : decode cX5_count 8 = .ok (.ifCond .eq 7, 3) := by decide +kernel
theorem dX5_count_11 : decode cX5_count 11 = .ok (.iconst 0, 1) := by decide +kernel
theorem dX5_count_12 : decode cX5_count 12 = .ok (.goto 4, 3) := by decide +kernel
theorem dX5_count_15 : decode cX5_count 15 = .ok (.iconst 1, 1) := by decide +kernel
theorem dX5_count_16 : decode cX5_count 16 = .ok (.invokevirtual 56, 3) := by decide +kernel
theorem dX5_count_19 : decode cX5_count 19 = .ok (.ifCond .eq 11, 3) := by decide +kernel
theorem dX5_count_22 : decode cX5_count 22 = .ok (.aload_n 0, 1) := by decide +kernel
theorem dX5_count_23 : decode cX5_count 23 = .ok (.iload_n 1, 1) := by decide +kernel
theorem dX5_count_24 : decode cX5_count 24 = .ok (.invokevirtual 190, 3) := by decide +kernel
theorem dX5_count_27 : decode cX5_count 27 = .ok (.goto 4, 3) := by decide +kernel
theorem dX5_count_30 : decode cX5_count 30 = .ok (.iconst 0, 1) := by decide +kernel
theorem dX5_count_31 : decode cX5_count 31 = .ok (.ireturn, 1) := by decide +kernel
set_option maxRecDepth 100000 in
set_option maxHeartbeats 4000000 in
theorem mt_X5_count (r0 : Option Nat) (i1 : Int32) (S0 : PH) (y : Int32 × PH) (h : m_X5_count r0 i1 S0 = some y) : MT yX5_count (.code yX5_count cX5_count 2 (Option.some FieldType.int)) 6 135 0 0 [va_rf r0, .int i1] S0 (oQ e_I (qN y)) := by
  refine mt_of (own := RX5) (l0 := [(0, va_rf r0), (1, .int i1)]) rfl rfl (by cases r0 <;> exact Nat.le_of_ble_eq_true rfl) (by cases r0 <;> rfl) ?_
  intro Z hC hQ hE hN
  have J_16 : ∀ (v5 : Option Nat) (v6 : Int32) (S7 : PH), j_X5_count_16 r0 i1 v5 v6 S7 = some y → PX Z 2 S7 0 0 16 [(0, va_rf r0), (1, .int i1)] [.int v6, va_rf v5] := by
    intro v5 v6 S7 h
    unfold j_X5_count_16 at h
    replace h := dr_el h
    obtain ⟨a8, ea9, ha10, h⟩ := h
    replace h := bd_el h
    obtain ⟨v11, S12, hb13, h⟩ := h
    refine x_callV hC (st := []) (mt_X5_holds _ _ _ _ hb13) ea9 ha10 kf_5 q_915 q_917 qs_43 q_7 q_918 ⟨rfl, hy_X5_holds⟩ ⟨Nat.le_of_ble_eq_true rfl, Nat.le_of_ble_eq_true rfl⟩ ⟨Nat.le_of_ble_eq_true rfl, Nat.le_of_ble_eq_true rfl⟩ rfl (Nat.le_of_ble_eq_true rfl) dX5_count_16 (r_N ?_) r_NX
    show PX Z 2 S12 0 0 19 [(0, va_rf r0), (1, .int i1)] [.int v11]
    refine x_if_eq (t := 30) hC dX5_count_19 (by decide) (fun c14 => ?_) (fun c14 => ?_)
    · replace h := it_t c14 h
      refine x_iconst (v := (0 : Int32)) hC dX5_count_30 (by decide) ?_
      exact x_iret hC hQ (z_N (Option.some.inj h)) (Nat.le_of_ble_eq_true rfl) (Nat.le_of_ble_eq_true rfl) dX5_count_31
    · replace h := it_f c14 h
      refine x_aload_n (i := 0) hC dX5_count_22 rfl 0 rfl ?_
      refine x_iload_n (i := 1) hC dX5_count_23 rfl 1 rfl ?_
      replace h := dr_el h
      obtain ⟨a15, ea16, ha17, h⟩ := h
      replace h := bd_el h
      obtain ⟨v18, S19, hb20, h⟩ := h
      refine x_callV hC (st := []) (mt_X5_counted _ _ _ _ hb20) ea16 ha17 kf_5 q_1159 q_1161 qs_79 q_7 q_1162 ⟨rfl, hy_X5_counted⟩ ⟨Nat.le_of_ble_eq_true rfl, Nat.le_of_ble_eq_true rfl⟩ ⟨Nat.le_of_ble_eq_true rfl, Nat.le_of_ble_eq_true rfl⟩ rfl (Nat.le_of_ble_eq_true rfl) dX5_count_24 (r_N ?_) r_NX
      show PX Z 2 S19 0 0 27 [(0, va_rf r0), (1, .int i1)] [.int v18]
      refine x_goto (t := 31) hC dX5_count_27 (by decide) ?_
      exact x_iret hC hQ (z_N (Option.some.inj h)) (Nat.le_of_ble_eq_true rfl) (Nat.le_of_ble_eq_true rfl) dX5_count_31
  unfold m_X5_count at h
  refine x_aload_n (i := 0) hC dX5_count_0 rfl 0 rfl ?_
  refine x_iload_n (i := 1) hC dX5_count_1 rfl 1 rfl ?_
  refine x_iconst (v := (0 : Int32)) hC dX5_count_2 (by decide) ?_
  refine x_bipush (v := (11 : Int32)) hC dX5_count_3 (by decide) ?_
  replace h := bd_el h
  obtain ⟨v1, S2, hb3, h⟩ := h
  refine x_callS hC (st := [va_rf r0]) (mt_X5_in _ _ _ _ _ hb3) q_912 q_913 q_7 q_914 hy_X5_in ⟨Nat.le_of_ble_eq_true rfl, Nat.le_of_ble_eq_true rfl⟩ ⟨Nat.le_of_ble_eq_true rfl, Nat.le_of_ble_eq_true rfl⟩ rfl (Nat.le_of_ble_eq_true rfl) dX5_count_5 (r_N ?_) r_NX
  show PX Z 2 S2 0 0 8 [(0, va_rf r0), (1, .int i1)] [.int v1, va_rf r0]
  refine x_if_eq (t := 15) hC dX5_count_8 (by decide) (fun c4 => ?_) (fun c4 => ?_)
  · replace h := it_t c4 h
    refine x_iconst (v := (1 : Int32)) hC dX5_count_15 (by decide) ?_
    exact J_16 _ _ _ h
  · replace h := it_f c4 h
    refine x_iconst (v := (0 : Int32)) hC dX5_count_11 (by decide) ?_
    refine x_goto (t := 16) hC dX5_count_12 (by decide) ?_
    exact J_16 _ _ _ h
theorem dX5_setting_0 : decode cX5_setting 0 = .ok (.aload_n 0, 1) := by decide +kernel
theorem dX5_setting_1 : decode cX5_setting 1 = .ok (.iload_n 1, 1) := by decide +kernel
theorem dX5_setting_2 : decode cX5_setting 2 = .ok (.iconst 0, 1) := by decide +kernel
theorem dX5_setting_3 : decode cX5_setting 3 = .ok (.iconst 3, 1) := by decide +kernel
theorem dX5_setting_4 : decode cX5_setting 4 = .ok (.invokestatic 27, 3) := by decide +kernel
theorem dX5_setting_7 : decode cX5_setting 7 = .ok (.ifCond .eq 7, 3) := by decide +kernel
theorem dX5_setting_10 : decode cX5_setting 10 = .ok (.iconst 0, 1) := by decide +kernel
theorem dX5_setting_11 : decode cX5_setting 11 = .ok (.goto 4, 3) := by decide +kernel
theorem dX5_setting_14 : decode cX5_setting 14 = .ok (.iconst 1, 1) := by decide +kernel
theorem dX5_setting_15 : decode cX5_setting 15 = .ok (.invokevirtual 56, 3) := by decide +kernel
theorem dX5_setting_18 : decode cX5_setting 18 = .ok (.ifCond .eq 14, 3) := by decide +kernel
theorem dX5_setting_21 : decode cX5_setting 21 = .ok (.aload_n 0, 1) := by decide +kernel
theorem dX5_setting_22 : decode cX5_setting 22 = .ok (.getfield 7, 3) := by decide +kernel
theorem dX5_setting_25 : decode cX5_setting 25 = .ok (.iconst 4, 1) := by decide +kernel
theorem dX5_setting_26 : decode cX5_setting 26 = .ok (.iload_n 1, 1) := by decide +kernel
theorem dX5_setting_27 : decode cX5_setting 27 = .ok (.iadd, 1) := by decide +kernel
theorem dX5_setting_28 : decode cX5_setting 28 = .ok (.iaload, 1) := by decide +kernel
theorem dX5_setting_29 : decode cX5_setting 29 = .ok (.goto 4, 3) := by decide +kernel
theorem dX5_setting_32 : decode cX5_setting 32 = .ok (.iconst 0, 1) := by decide +kernel
theorem dX5_setting_33 : decode cX5_setting 33 = .ok (.ireturn, 1) := by decide +kernel
set_option maxRecDepth 100000 in
set_option maxHeartbeats 4000000 in
theorem mt_X5_setting (r0 : Option Nat) (i1 : Int32) (S0 : PH) (y : Int32 × PH) (h : m_X5_setting r0 i1 S0 = some y) : MT yX5_setting (.code yX5_setting cX5_setting 2 (Option.some FieldType.int)) 1 22 0 0 [va_rf r0, .int i1] S0 (oQ e_I (qN y)) := by
  refine mt_of (own := RX5) (l0 := [(0, va_rf r0), (1, .int i1)]) rfl rfl (by cases r0 <;> exact Nat.le_of_ble_eq_true rfl) (by cases r0 <;> rfl) ?_
  intro Z hC hQ hE hN
  have J_15 : ∀ (v5 : Option Nat) (v6 : Int32) (S7 : PH), j_X5_setting_15 r0 i1 v5 v6 S7 = some y → PX Z 2 S7 0 0 15 [(0, va_rf r0), (1, .int i1)] [.int v6, va_rf v5] := by
    intro v5 v6 S7 h
    unfold j_X5_setting_15 at h
    replace h := dr_el h
    obtain ⟨a8, ea9, ha10, h⟩ := h
    replace h := bd_el h
    obtain ⟨v11, S12, hb13, h⟩ := h
    refine x_callV hC (st := []) (mt_X5_holds _ _ _ _ hb13) ea9 ha10 kf_5 q_915 q_917 qs_43 q_7 q_918 ⟨rfl, hy_X5_holds⟩ ⟨Nat.le_of_ble_eq_true rfl, Nat.le_of_ble_eq_true rfl⟩ ⟨Nat.le_of_ble_eq_true rfl, Nat.le_of_ble_eq_true rfl⟩ rfl (Nat.le_of_ble_eq_true rfl) dX5_setting_15 (r_N ?_) r_NX
    show PX Z 2 S12 0 0 18 [(0, va_rf r0), (1, .int i1)] [.int v11]
    refine x_if_eq (t := 32) hC dX5_setting_18 (by decide) (fun c14 => ?_) (fun c14 => ?_)
    · replace h := it_t c14 h
      refine x_iconst (v := (0 : Int32)) hC dX5_setting_32 (by decide) ?_
      exact x_iret hC hQ (z_N (Option.some.inj h)) (Nat.le_of_ble_eq_true rfl) (Nat.le_of_ble_eq_true rfl) dX5_setting_33
    · replace h := it_f c14 h
      refine x_aload_n (i := 0) hC dX5_setting_21 rfl 0 rfl ?_
      replace h := dr_el h
      obtain ⟨a15, ea16, ha17, h⟩ := h
      refine x_getR hC ea16 ha17 kf_5 1 (by decide) rfl q_864 dX5_setting_22 ?_
      refine x_iconst (v := (4 : Int32)) hC dX5_setting_25 (by decide) ?_
      refine x_iload_n (i := 1) hC dX5_setting_26 rfl 1 rfl ?_
      refine x_iadd hC dX5_setting_27 ?_
      replace h := dr_el h
      obtain ⟨a18, ea19, ha20, h⟩ := h
      replace h := ck_el h
      obtain ⟨hc21, h⟩ := h
      refine x_iaload hC ea19 ha20 hc21 dX5_setting_28 ?_
      refine x_goto (t := 33) hC dX5_setting_29 (by decide) ?_
      exact x_iret hC hQ (z_N (Option.some.inj h)) (Nat.le_of_ble_eq_true rfl) (Nat.le_of_ble_eq_true rfl) dX5_setting_33
  unfold m_X5_setting at h
  refine x_aload_n (i := 0) hC dX5_setting_0 rfl 0 rfl ?_
  refine x_iload_n (i := 1) hC dX5_setting_1 rfl 1 rfl ?_
  refine x_iconst (v := (0 : Int32)) hC dX5_setting_2 (by decide) ?_
  refine x_iconst (v := (3 : Int32)) hC dX5_setting_3 (by decide) ?_
  replace h := bd_el h
  obtain ⟨v1, S2, hb3, h⟩ := h
  refine x_callS hC (st := [va_rf r0]) (mt_X5_in _ _ _ _ _ hb3) q_912 q_913 q_7 q_914 hy_X5_in ⟨Nat.le_of_ble_eq_true rfl, Nat.le_of_ble_eq_true rfl⟩ ⟨Nat.le_of_ble_eq_true rfl, Nat.le_of_ble_eq_true rfl⟩ rfl (Nat.le_of_ble_eq_true rfl) dX5_setting_4 (r_N ?_) r_NX
  show PX Z 2 S2 0 0 7 [(0, va_rf r0), (1, .int i1)] [.int v1, va_rf r0]
  refine x_if_eq (t := 14) hC dX5_setting_7 (by decide) (fun c4 => ?_) (fun c4 => ?_)
  · replace h := it_t c4 h
    refine x_iconst (v := (1 : Int32)) hC dX5_setting_14 (by decide) ?_
    exact J_15 _ _ _ h
  · replace h := it_f c4 h
    refine x_iconst (v := (0 : Int32)) hC dX5_setting_10 (by decide) ?_
    refine x_goto (t := 15) hC dX5_setting_11 (by decide) ?_
    exact J_15 _ _ _ h
theorem dX5_whyNot_0 : decode cX5_whyNot 0 = .ok (.aload_n 0, 1) := by decide +kernel
theorem dX5_whyNot_1 : decode cX5_whyNot 1 = .ok (.iload_n 1, 1) := by decide +kernel
theorem dX5_whyNot_2 : decode cX5_whyNot 2 = .ok (.invokestatic 67, 3) := by decide +kernel
theorem dX5_whyNot_5 : decode cX5_whyNot 5 = .ok (.ifCond .eq 15, 3) := by decide +kernel
theorem dX5_whyNot_8 : decode cX5_whyNot 8 = .ok (.aload_n 0, 1) := by decide +kernel
theorem dX5_whyNot_9 : decode cX5_whyNot 9 = .ok (.iload_n 2, 1) := by decide +kernel
theorem dX5_whyNot_10 : decode cX5_whyNot 10 = .ok (.invokevirtual 96, 3) := by decide +kernel
theorem dX5_whyNot_13 : decode cX5_whyNot 13 = .ok (.ifCond .eq 7, 3) := by decide +kernel
theorem dX5_whyNot_16 : decode cX5_whyNot 16 = .ok (.iconst 0, 1) := by decide +kernel
theorem dX5_whyNot_17 : decode cX5_whyNot 17 = .ok (.goto 4, 3) := by decide +kernel
theorem dX5_whyNot_20 : decode cX5_whyNot 20 = .ok (.iconst 1, 1) := by decide +kernel
theorem dX5_whyNot_21 : decode cX5_whyNot 21 = .ok (.invokevirtual 56, 3) := by decide +kernel
theorem dX5_whyNot_24 : decode cX5_whyNot 24 = .ok (.ifCond .eq 12, 3) := by decide +kernel
theorem dX5_whyNot_27 : decode cX5_whyNot 27 = .ok (.aload_n 0, 1) := by decide +kernel
theorem dX5_whyNot_28 : decode cX5_whyNot 28 = .ok (.iload_n 1, 1) := by decide +kernel
theorem dX5_whyNot_29 : decode cX5_whyNot 29 = .ok (.iload_n 2, 1) := by decide +kernel
theorem dX5_whyNot_30 : decode cX5_whyNot 30 = .ok (.invokevirtual 90, 3) := by decide +kernel
theorem dX5_whyNot_33 : decode cX5_whyNot 33 = .ok (.goto 4, 3) := by decide +kernel
theorem dX5_whyNot_36 : decode cX5_whyNot 36 = .ok (.iconst 0, 1) := by decide +kernel
theorem dX5_whyNot_37 : decode cX5_whyNot 37 = .ok (.ireturn, 1) := by decide +kernel
set_option maxRecDepth 100000 in
set_option maxHeartbeats 4000000 in
theorem mt_X5_whyNot (r0 : Option Nat) (i1 : Int32) (i2 : Int32) (S0 : PH) (y : Int32 × PH) (h : m_X5_whyNot r0 i1 i2 S0 = some y) : MT yX5_whyNot (.code yX5_whyNot cX5_whyNot 3 (Option.some FieldType.int)) 5 113 0 0 [va_rf r0, .int i1, .int i2] S0 (oQ e_I (qN y)) := by
  refine mt_of (own := RX5) (l0 := [(0, va_rf r0), (1, .int i1), (2, .int i2)]) rfl rfl (by cases r0 <;> exact Nat.le_of_ble_eq_true rfl) (by cases r0 <;> rfl) ?_
  intro Z hC hQ hE hN
  have J_21 : ∀ (v5 : Option Nat) (v6 : Int32) (S7 : PH), j_X5_whyNot_21 r0 i1 i2 v5 v6 S7 = some y → PX Z 3 S7 0 0 21 [(0, va_rf r0), (1, .int i1), (2, .int i2)] [.int v6, va_rf v5] := by
    intro v5 v6 S7 h
    unfold j_X5_whyNot_21 at h
    replace h := dr_el h
    obtain ⟨a8, ea9, ha10, h⟩ := h
    replace h := bd_el h
    obtain ⟨v11, S12, hb13, h⟩ := h
    refine x_callV hC (st := []) (mt_X5_holds _ _ _ _ hb13) ea9 ha10 kf_5 q_915 q_917 qs_43 q_7 q_918 ⟨rfl, hy_X5_holds⟩ ⟨Nat.le_of_ble_eq_true rfl, Nat.le_of_ble_eq_true rfl⟩ ⟨Nat.le_of_ble_eq_true rfl, Nat.le_of_ble_eq_true rfl⟩ rfl (Nat.le_of_ble_eq_true rfl) dX5_whyNot_21 (r_N ?_) r_NX
    show PX Z 3 S12 0 0 24 [(0, va_rf r0), (1, .int i1), (2, .int i2)] [.int v11]
    refine x_if_eq (t := 36) hC dX5_whyNot_24 (by decide) (fun c14 => ?_) (fun c14 => ?_)
    · replace h := it_t c14 h
      refine x_iconst (v := (0 : Int32)) hC dX5_whyNot_36 (by decide) ?_
      exact x_iret hC hQ (z_N (Option.some.inj h)) (Nat.le_of_ble_eq_true rfl) (Nat.le_of_ble_eq_true rfl) dX5_whyNot_37
    · replace h := it_f c14 h
      refine x_aload_n (i := 0) hC dX5_whyNot_27 rfl 0 rfl ?_
      refine x_iload_n (i := 1) hC dX5_whyNot_28 rfl 1 rfl ?_
      refine x_iload_n (i := 2) hC dX5_whyNot_29 rfl 2 rfl ?_
      replace h := dr_el h
      obtain ⟨a15, ea16, ha17, h⟩ := h
      replace h := bd_el h
      obtain ⟨v18, S19, hb20, h⟩ := h
      refine x_callV hC (st := []) (mt_X5_reasonFor _ _ _ _ _ hb20) ea16 ha17 kf_5 q_977 q_979 qs_51 q_7 q_980 ⟨rfl, hy_X5_reasonFor⟩ ⟨Nat.le_of_ble_eq_true rfl, Nat.le_of_ble_eq_true rfl⟩ ⟨Nat.le_of_ble_eq_true rfl, Nat.le_of_ble_eq_true rfl⟩ rfl (Nat.le_of_ble_eq_true rfl) dX5_whyNot_30 (r_N ?_) r_NX
      show PX Z 3 S19 0 0 33 [(0, va_rf r0), (1, .int i1), (2, .int i2)] [.int v18]
      refine x_goto (t := 37) hC dX5_whyNot_33 (by decide) ?_
      exact x_iret hC hQ (z_N (Option.some.inj h)) (Nat.le_of_ble_eq_true rfl) (Nat.le_of_ble_eq_true rfl) dX5_whyNot_37
  unfold m_X5_whyNot at h
  refine x_aload_n (i := 0) hC dX5_whyNot_0 rfl 0 rfl ?_
  refine x_iload_n (i := 1) hC dX5_whyNot_1 rfl 1 rfl ?_
  replace h := bd_el h
  obtain ⟨v1, S2, hb3, h⟩ := h
  refine x_callS hC (st := [va_rf r0]) (mt_X5_isPerson _ _ _ hb3) q_935 q_936 q_7 q_937 hy_X5_isPerson ⟨Nat.le_of_ble_eq_true rfl, Nat.le_of_ble_eq_true rfl⟩ ⟨Nat.le_of_ble_eq_true rfl, Nat.le_of_ble_eq_true rfl⟩ rfl (Nat.le_of_ble_eq_true rfl) dX5_whyNot_2 (r_N ?_) r_NX
  show PX Z 3 S2 0 0 5 [(0, va_rf r0), (1, .int i1), (2, .int i2)] [.int v1, va_rf r0]
  refine x_if_eq (t := 20) hC dX5_whyNot_5 (by decide) (fun c4 => ?_) (fun c4 => ?_)
  · replace h := it_t c4 h
    refine x_iconst (v := (1 : Int32)) hC dX5_whyNot_20 (by decide) ?_
    exact J_21 _ _ _ h
  · replace h := it_f c4 h
    refine x_aload_n (i := 0) hC dX5_whyNot_8 rfl 0 rfl ?_
    refine x_iload_n (i := 2) hC dX5_whyNot_9 rfl 2 rfl ?_
    replace h := dr_el h
    obtain ⟨a21, ea22, ha23, h⟩ := h
    replace h := bd_el h
    obtain ⟨v24, S25, hb26, h⟩ := h
    refine x_callV hC (st := [va_rf r0]) (mt_X5_isPaper _ _ _ _ hb26) ea22 ha23 kf_5 q_969 q_971 qs_49 q_7 q_972 ⟨rfl, hy_X5_isPaper⟩ ⟨Nat.le_of_ble_eq_true rfl, Nat.le_of_ble_eq_true rfl⟩ ⟨Nat.le_of_ble_eq_true rfl, Nat.le_of_ble_eq_true rfl⟩ rfl (Nat.le_of_ble_eq_true rfl) dX5_whyNot_10 (r_N ?_) r_NX
    show PX Z 3 S25 0 0 13 [(0, va_rf r0), (1, .int i1), (2, .int i2)] [.int v24, va_rf r0]
    refine x_if_eq (t := 20) hC dX5_whyNot_13 (by decide) (fun c27 => ?_) (fun c27 => ?_)
    · replace h := it_t c27 h
      refine x_iconst (v := (1 : Int32)) hC dX5_whyNot_20 (by decide) ?_
      exact J_21 _ _ _ h
    · replace h := it_f c27 h
      refine x_iconst (v := (0 : Int32)) hC dX5_whyNot_16 (by decide) ?_
      refine x_goto (t := 21) hC dX5_whyNot_17 (by decide) ?_
      exact J_21 _ _ _ h
theorem dX5_best_0 : decode cX5_best 0 = .ok (.iconst (-1), 1) := by decide +kernel
theorem dX5_best_1 : decode cX5_best 1 = .ok (.istore_n 2, 1) := by decide +kernel
theorem dX5_best_2 : decode cX5_best 2 = .ok (.iconst 0, 1) := by decide +kernel
theorem dX5_best_3 : decode cX5_best 3 = .ok (.istore_n 3, 1) := by decide +kernel
theorem dX5_best_4 : decode cX5_best 4 = .ok (.iload_n 3, 1) := by decide +kernel
theorem dX5_best_5 : decode cX5_best 5 = .ok (.bipush 8, 2) := by decide +kernel
theorem dX5_best_7 : decode cX5_best 7 = .ok (.if_icmp .ge 91, 3) := by decide +kernel
theorem dX5_best_10 : decode cX5_best 10 = .ok (.iload_n 2, 1) := by decide +kernel
theorem dX5_best_11 : decode cX5_best 11 = .ok (.iconst (-1), 1) := by decide +kernel
theorem dX5_best_12 : decode cX5_best 12 = .ok (.if_icmp .ne 7, 3) := by decide +kernel
theorem dX5_best_15 : decode cX5_best 15 = .ok (.iconst 1, 1) := by decide +kernel
theorem dX5_best_16 : decode cX5_best 16 = .ok (.goto 16, 3) := by decide +kernel
theorem dX5_best_19 : decode cX5_best 19 = .ok (.aload_n 0, 1) := by decide +kernel
theorem dX5_best_20 : decode cX5_best 20 = .ok (.iload_n 2, 1) := by decide +kernel
theorem dX5_best_21 : decode cX5_best 21 = .ok (.iconst 0, 1) := by decide +kernel
theorem dX5_best_22 : decode cX5_best 22 = .ok (.invokevirtual 166, 3) := by decide +kernel
theorem dX5_best_25 : decode cX5_best 25 = .ok (.aload_n 0, 1) := by decide +kernel
theorem dX5_best_26 : decode cX5_best 26 = .ok (.iload_n 3, 1) := by decide +kernel
theorem dX5_best_27 : decode cX5_best 27 = .ok (.iconst 0, 1) := by decide +kernel
theorem dX5_best_28 : decode cX5_best 28 = .ok (.invokevirtual 166, 3) := by decide +kernel
theorem dX5_best_31 : decode cX5_best 31 = .ok (.isub, 1) := by decide +kernel
theorem dX5_best_32 : decode cX5_best 32 = .ok (.istore 4, 2) := by decide +kernel
theorem dX5_best_34 : decode cX5_best 34 = .ok (.iload 4, 2) := by decide +kernel
theorem dX5_best_36 : decode cX5_best 36 = .ok (.ifCond .gt 29, 3) := by decide +kernel
theorem dX5_best_39 : decode cX5_best 39 = .ok (.iload 4, 2) := by decide +kernel
theorem dX5_best_41 : decode cX5_best 41 = .ok (.ifCond .ne 28, 3) := by decide +kernel
theorem dX5_best_44 : decode cX5_best 44 = .ok (.aload_n 0, 1) := by decide +kernel
theorem dX5_best_45 : decode cX5_best 45 = .ok (.getfield 7, 3) := by decide +kernel
theorem dX5_best_48 : decode cX5_best 48 = .ok (.bipush 9, 2) := by decide +kernel
theorem dX5_best_50 : decode cX5_best 50 = .ok (.iload_n 3, 1) := by decide +kernel
theorem dX5_best_51 : decode cX5_best 51 = .ok (.iadd, 1) := by decide +kernel
theorem dX5_best_52 : decode cX5_best 52 = .ok (.iaload, 1) := by decide +kernel
theorem dX5_best_53 : decode cX5_best 53 = .ok (.aload_n 0, 1) := by decide +kernel
theorem dX5_best_54 : decode cX5_best 54 = .ok (.getfield 7, 3) := by decide +kernel
theorem dX5_best_57 : decode cX5_best 57 = .ok (.bipush 9, 2) := by decide +kernel
theorem dX5_best_59 : decode cX5_best 59 = .ok (.iload_n 2, 1) := by decide +kernel
theorem dX5_best_60 : decode cX5_best 60 = .ok (.iadd, 1) := by decide +kernel
theorem dX5_best_61 : decode cX5_best 61 = .ok (.iaload, 1) := by decide +kernel
theorem dX5_best_62 : decode cX5_best 62 = .ok (.if_icmp .le 7, 3) := by decide +kernel
theorem dX5_best_65 : decode cX5_best 65 = .ok (.iconst 1, 1) := by decide +kernel
theorem dX5_best_66 : decode cX5_best 66 = .ok (.goto 4, 3) := by decide +kernel
theorem dX5_best_69 : decode cX5_best 69 = .ok (.iconst 0, 1) := by decide +kernel
theorem dX5_best_70 : decode cX5_best 70 = .ok (.istore 5, 2) := by decide +kernel
theorem dX5_best_72 : decode cX5_best 72 = .ok (.iload 5, 2) := by decide +kernel
theorem dX5_best_74 : decode cX5_best 74 = .ok (.ifCond .eq 16, 3) := by decide +kernel
theorem dX5_best_77 : decode cX5_best 77 = .ok (.aload_n 0, 1) := by decide +kernel
theorem dX5_best_78 : decode cX5_best 78 = .ok (.iload_n 3, 1) := by decide +kernel
theorem dX5_best_79 : decode cX5_best 79 = .ok (.iload_n 1, 1) := by decide +kernel
theorem dX5_best_80 : decode cX5_best 80 = .ok (.invokevirtual 90, 3) := by decide +kernel
theorem dX5_best_83 : decode cX5_best 83 = .ok (.ifCond .ne 7, 3) := by decide +kernel
theorem dX5_best_86 : decode cX5_best 86 = .ok (.iload_n 3, 1) := by decide +kernel
theorem dX5_best_87 : decode cX5_best 87 = .ok (.goto 4, 3) := by decide +kernel
theorem dX5_best_90 : decode cX5_best 90 = .ok (.iload_n 2, 1) := by decide +kernel
theorem dX5_best_91 : decode cX5_best 91 = .ok (.istore_n 2, 1) := by decide +kernel
theorem dX5_best_92 : decode cX5_best 92 = .ok (.iinc 3 1, 3) := by decide +kernel
theorem dX5_best_95 : decode cX5_best 95 = .ok (.goto (-91), 3) := by decide +kernel
theorem dX5_best_98 : decode cX5_best 98 = .ok (.iload_n 2, 1) := by decide +kernel
theorem dX5_best_99 : decode cX5_best 99 = .ok (.ireturn, 1) := by decide +kernel
set_option maxRecDepth 100000 in
set_option maxHeartbeats 4000000 in
theorem mt_X5_best (r0 : Option Nat) (i1 : Int32) (S0 : PH) (y : Int32 × PH) (h : m_X5_best r0 i1 S0 = some y) : MT yX5_best (.code yX5_best cX5_best 6 (Option.some FieldType.int)) 5 113 0 0 [va_rf r0, .int i1] S0 (oQ e_I (qN y)) := by
  refine mt_of (own := RX5) (l0 := [(0, va_rf r0), (1, .int i1)]) rfl rfl (by cases r0 <;> exact Nat.le_of_ble_eq_true rfl) (by cases r0 <;> rfl) ?_
  intro Z hC hQ hE hN
  unfold m_X5_best at h
  refine x_iconst (v := (-1 : Int32)) hC dX5_best_0 (by decide) ?_
  refine x_istore_n (i := 2) (l' := [(2, .int (-1 : Int32)), (0, va_rf r0), (1, .int i1)]) hC dX5_best_1 rfl (⟨fun _ => c_rf r0, ⟨fun _ => rfl, trivial⟩⟩) (by decide) rfl ?_
  refine x_iconst (v := (0 : Int32)) hC dX5_best_2 (by decide) ?_
  refine x_istore_n (i := 3) (l' := [(3, .int (0 : Int32)), (2, .int (-1 : Int32)), (0, va_rf r0), (1, .int i1)]) hC dX5_best_3 rfl (⟨fun _ => rfl, ⟨fun _ => c_rf r0, ⟨fun _ => rfl, trivial⟩⟩⟩) (by decide) rfl ?_
  refine x_sub (l' := [(0, va_rf r0), (1, .int i1), (2, .int (-1 : Int32)), (3, .int (0 : Int32))]) [2, 3, 1, 0] rfl ?_
  refine lp_sim (P := fun (t : (Int32 × Int32 × PH)) => PX Z 6 t.2.2 0 0 4 [(0, va_rf r0), (1, .int i1), (2, .int t.1), (3, .int t.2.1)] []) (G := fun r => r = y) ?_ h rfl
  clear h
  intro t x_4 h hg_4
  obtain ⟨v1, v2, S3⟩ := t
  show PX Z 6 S3 0 0 4 [(0, va_rf r0), (1, .int i1), (2, .int v1), (3, .int v2)] []
  have J_70 : ∀ (v23 : Int32) (v24 : Int32) (v25 : Int32) (S26 : PH), j_X5_best_70 r0 i1 v23 v24 v25 S26 = some x_4 → PX Z 6 S26 0 0 70 [(0, va_rf r0), (1, .int i1), (2, .int v23), (3, .int v24)] [.int v25] := by
    intro v23 v24 v25 S26 h
    unfold j_X5_best_70 at h
    refine x_istore (i := 5) (l' := [(5, .int v25), (0, va_rf r0), (1, .int i1), (2, .int v23), (3, .int v24)]) hC dX5_best_70 (⟨fun _ => c_rf r0, ⟨fun _ => rfl, ⟨fun _ => rfl, ⟨fun _ => rfl, trivial⟩⟩⟩⟩) (by decide) rfl ?_
    refine x_iload (i := 5) hC dX5_best_72 0 rfl ?_
    refine x_if_eq (t := 90) hC dX5_best_74 (by decide) (fun c27 => ?_) (fun c27 => ?_)
    · replace h := it_t c27 h
      refine x_iload_n (i := 2) hC dX5_best_90 rfl 3 rfl ?_
      refine x_istore_n (i := 2) (l' := [(2, .int v23), (5, .int v25), (0, va_rf r0), (1, .int i1), (3, .int v24)]) hC dX5_best_91 rfl (⟨fun _ => rfl, ⟨fun _ => c_rf r0, ⟨fun _ => rfl, ⟨fun _ => rfl, ⟨fun _ => rfl, trivial⟩⟩⟩⟩⟩) (by decide) rfl ?_
      refine x_iinc (i := 3) (v := (v24 + (1 : Int32))) (l' := [(3, .int (v24 + (1 : Int32))), (2, .int v23), (5, .int v25), (0, va_rf r0), (1, .int i1)]) hC dX5_best_92 4 rfl rfl (⟨fun _ => rfl, ⟨fun _ => rfl, ⟨fun _ => c_rf r0, ⟨fun _ => rfl, ⟨fun _ => rfl, trivial⟩⟩⟩⟩⟩) (by decide) rfl ?_
      refine x_goto (t := 4) hC dX5_best_95 (by decide) ?_
      refine x_sub (l' := [(0, va_rf r0), (1, .int i1), (2, .int v23), (3, .int (v24 + (1 : Int32)))]) [3, 4, 1, 0] rfl ?_
      have hb := bk_x h hg_4
      exact hb
    · replace h := it_f c27 h
      refine x_aload_n (i := 0) hC dX5_best_77 rfl 1 rfl ?_
      refine x_iload_n (i := 3) hC dX5_best_78 rfl 4 rfl ?_
      refine x_iload_n (i := 1) hC dX5_best_79 rfl 2 rfl ?_
      replace h := dr_el h
      obtain ⟨a28, ea29, ha30, h⟩ := h
      replace h := bd_el h
      obtain ⟨v31, S32, hb33, h⟩ := h
      refine x_callV hC (st := []) (mt_X5_reasonFor _ _ _ _ _ hb33) ea29 ha30 kf_5 q_977 q_979 qs_51 q_7 q_980 ⟨rfl, hy_X5_reasonFor⟩ ⟨Nat.le_of_ble_eq_true rfl, Nat.le_of_ble_eq_true rfl⟩ ⟨Nat.le_of_ble_eq_true rfl, Nat.le_of_ble_eq_true rfl⟩ rfl (Nat.le_of_ble_eq_true rfl) dX5_best_80 (r_N ?_) r_NX
      show PX Z 6 S32 0 0 83 [(5, .int v25), (0, va_rf r0), (1, .int i1), (2, .int v23), (3, .int v24)] [.int v31]
      refine x_if_ne (t := 90) hC dX5_best_83 (by decide) (fun c34 => ?_) (fun c34 => ?_)
      · replace h := it_f c34 h
        refine x_iload_n (i := 2) hC dX5_best_90 rfl 3 rfl ?_
        refine x_istore_n (i := 2) (l' := [(2, .int v23), (5, .int v25), (0, va_rf r0), (1, .int i1), (3, .int v24)]) hC dX5_best_91 rfl (⟨fun _ => rfl, ⟨fun _ => c_rf r0, ⟨fun _ => rfl, ⟨fun _ => rfl, ⟨fun _ => rfl, trivial⟩⟩⟩⟩⟩) (by decide) rfl ?_
        refine x_iinc (i := 3) (v := (v24 + (1 : Int32))) (l' := [(3, .int (v24 + (1 : Int32))), (2, .int v23), (5, .int v25), (0, va_rf r0), (1, .int i1)]) hC dX5_best_92 4 rfl rfl (⟨fun _ => rfl, ⟨fun _ => rfl, ⟨fun _ => c_rf r0, ⟨fun _ => rfl, ⟨fun _ => rfl, trivial⟩⟩⟩⟩⟩) (by decide) rfl ?_
        refine x_goto (t := 4) hC dX5_best_95 (by decide) ?_
        refine x_sub (l' := [(0, va_rf r0), (1, .int i1), (2, .int v23), (3, .int (v24 + (1 : Int32)))]) [3, 4, 1, 0] rfl ?_
        have hb := bk_x h hg_4
        exact hb
      · replace h := it_t c34 h
        refine x_iload_n (i := 3) hC dX5_best_86 rfl 4 rfl ?_
        refine x_goto (t := 91) hC dX5_best_87 (by decide) ?_
        refine x_istore_n (i := 2) (l' := [(2, .int v24), (5, .int v25), (0, va_rf r0), (1, .int i1), (3, .int v24)]) hC dX5_best_91 rfl (⟨fun _ => rfl, ⟨fun _ => c_rf r0, ⟨fun _ => rfl, ⟨fun _ => rfl, ⟨fun _ => rfl, trivial⟩⟩⟩⟩⟩) (by decide) rfl ?_
        refine x_iinc (i := 3) (v := (v24 + (1 : Int32))) (l' := [(3, .int (v24 + (1 : Int32))), (2, .int v24), (5, .int v25), (0, va_rf r0), (1, .int i1)]) hC dX5_best_92 4 rfl rfl (⟨fun _ => rfl, ⟨fun _ => rfl, ⟨fun _ => c_rf r0, ⟨fun _ => rfl, ⟨fun _ => rfl, trivial⟩⟩⟩⟩⟩) (by decide) rfl ?_
        refine x_goto (t := 4) hC dX5_best_95 (by decide) ?_
        refine x_sub (l' := [(0, va_rf r0), (1, .int i1), (2, .int v24), (3, .int (v24 + (1 : Int32)))]) [3, 4, 1, 0] rfl ?_
        have hb := bk_x h hg_4
        exact hb
  have J_32 : ∀ (v18 : Int32) (v19 : Int32) (v20 : Int32) (S21 : PH), j_X5_best_32 r0 i1 v18 v19 v20 S21 = some x_4 → PX Z 6 S21 0 0 32 [(0, va_rf r0), (1, .int i1), (2, .int v18), (3, .int v19)] [.int v20] := by
    intro v18 v19 v20 S21 h
    unfold j_X5_best_32 at h
    refine x_istore (i := 4) (l' := [(4, .int v20), (0, va_rf r0), (1, .int i1), (2, .int v18), (3, .int v19)]) hC dX5_best_32 (⟨fun _ => c_rf r0, ⟨fun _ => rfl, ⟨fun _ => rfl, ⟨fun _ => rfl, trivial⟩⟩⟩⟩) (by decide) rfl ?_
    refine x_iload (i := 4) hC dX5_best_34 0 rfl ?_
    refine x_if_gt (t := 65) hC dX5_best_36 (by decide) (fun c22 => ?_) (fun c22 => ?_)
    · replace h := it_t c22 h
      refine x_iconst (v := (1 : Int32)) hC dX5_best_65 (by decide) ?_
      refine x_goto (t := 70) hC dX5_best_66 (by decide) ?_
      refine x_sub (l' := [(0, va_rf r0), (1, .int i1), (2, .int v18), (3, .int v19)]) [1, 2, 3, 4] rfl ?_
      exact J_70 _ _ _ _ h
    · replace h := it_f c22 h
      refine x_iload (i := 4) hC dX5_best_39 0 rfl ?_
      refine x_if_ne (t := 69) hC dX5_best_41 (by decide) (fun c35 => ?_) (fun c35 => ?_)
      · replace h := it_f c35 h
        refine x_iconst (v := (0 : Int32)) hC dX5_best_69 (by decide) ?_
        refine x_sub (l' := [(0, va_rf r0), (1, .int i1), (2, .int v18), (3, .int v19)]) [1, 2, 3, 4] rfl ?_
        exact J_70 _ _ _ _ h
      · replace h := it_t c35 h
        refine x_aload_n (i := 0) hC dX5_best_44 rfl 1 rfl ?_
        replace h := dr_el h
        obtain ⟨a36, ea37, ha38, h⟩ := h
        refine x_getR hC ea37 ha38 kf_5 1 (by decide) rfl q_864 dX5_best_45 ?_
        refine x_bipush (v := (9 : Int32)) hC dX5_best_48 (by decide) ?_
        refine x_iload_n (i := 3) hC dX5_best_50 rfl 4 rfl ?_
        refine x_iadd hC dX5_best_51 ?_
        replace h := dr_el h
        obtain ⟨a39, ea40, ha41, h⟩ := h
        replace h := ck_el h
        obtain ⟨hc42, h⟩ := h
        refine x_iaload hC ea40 ha41 hc42 dX5_best_52 ?_
        refine x_aload_n (i := 0) hC dX5_best_53 rfl 1 rfl ?_
        refine x_getR hC ea37 ha38 kf_5 1 (by decide) rfl q_864 dX5_best_54 ?_
        refine x_bipush (v := (9 : Int32)) hC dX5_best_57 (by decide) ?_
        refine x_iload_n (i := 2) hC dX5_best_59 rfl 3 rfl ?_
        refine x_iadd hC dX5_best_60 ?_
        replace h := ck_el h
        obtain ⟨hc43, h⟩ := h
        refine x_iaload hC ea40 ha41 hc43 dX5_best_61 ?_
        refine x_icmp_le (t := 69) hC dX5_best_62 (by decide) (fun c44 => ?_) (fun c44 => ?_)
        · replace h := it_t c44 h
          refine x_iconst (v := (0 : Int32)) hC dX5_best_69 (by decide) ?_
          refine x_sub (l' := [(0, va_rf r0), (1, .int i1), (2, .int v18), (3, .int v19)]) [1, 2, 3, 4] rfl ?_
          exact J_70 _ _ _ _ h
        · replace h := it_f c44 h
          refine x_iconst (v := (1 : Int32)) hC dX5_best_65 (by decide) ?_
          refine x_goto (t := 70) hC dX5_best_66 (by decide) ?_
          refine x_sub (l' := [(0, va_rf r0), (1, .int i1), (2, .int v18), (3, .int v19)]) [1, 2, 3, 4] rfl ?_
          exact J_70 _ _ _ _ h
  unfold st_X5_best_4 at h
  refine x_iload_n (i := 3) hC dX5_best_4 rfl 3 rfl ?_
  refine x_bipush (v := (8 : Int32)) hC dX5_best_5 (by decide) ?_
  refine x_icmp_ge (t := 98) hC dX5_best_7 (by decide) (fun c4 => ?_) (fun c4 => ?_)
  · replace h := it_t c4 h
    replace h := ir_x h hg_4
    refine x_iload_n (i := 2) hC dX5_best_98 rfl 2 rfl ?_
    exact x_iret hC hQ (z_N (Option.some.inj h)) (Nat.le_of_ble_eq_true rfl) (Nat.le_of_ble_eq_true rfl) dX5_best_99
  · replace h := it_f c4 h
    refine x_iload_n (i := 2) hC dX5_best_10 rfl 2 rfl ?_
    refine x_iconst (v := (-1 : Int32)) hC dX5_best_11 (by decide) ?_
    refine x_icmp_ne (t := 19) hC dX5_best_12 (by decide) (fun c5 => ?_) (fun c5 => ?_)
    · replace h := it_f c5 h
      refine x_aload_n (i := 0) hC dX5_best_19 rfl 0 rfl ?_
      refine x_iload_n (i := 2) hC dX5_best_20 rfl 2 rfl ?_
      refine x_iconst (v := (0 : Int32)) hC dX5_best_21 (by decide) ?_
      replace h := dr_el h
      obtain ⟨a6, ea7, ha8, h⟩ := h
      replace h := bd_el h
      obtain ⟨v9, S10, hb11, h⟩ := h
      refine x_callV hC (st := []) (mt_X5_reviewsOf _ _ _ _ _ hb11) ea7 ha8 kf_5 q_1131 q_1133 qs_75 q_7 q_1134 ⟨rfl, hy_X5_reviewsOf⟩ ⟨Nat.le_of_ble_eq_true rfl, Nat.le_of_ble_eq_true rfl⟩ ⟨Nat.le_of_ble_eq_true rfl, Nat.le_of_ble_eq_true rfl⟩ rfl (Nat.le_of_ble_eq_true rfl) dX5_best_22 (r_N ?_) r_NX
      show PX Z 6 S10 0 0 25 [(0, va_rf r0), (1, .int i1), (2, .int v1), (3, .int v2)] [.int v9]
      refine x_aload_n (i := 0) hC dX5_best_25 rfl 0 rfl ?_
      refine x_iload_n (i := 3) hC dX5_best_26 rfl 3 rfl ?_
      refine x_iconst (v := (0 : Int32)) hC dX5_best_27 (by decide) ?_
      replace h := dr_el h
      obtain ⟨a12, ea13, ha14, h⟩ := h
      replace h := bd_el h
      obtain ⟨v15, S16, hb17, h⟩ := h
      refine x_callV hC (st := [.int v9]) (mt_X5_reviewsOf _ _ _ _ _ hb17) ea13 ha14 kf_5 q_1131 q_1133 qs_75 q_7 q_1134 ⟨rfl, hy_X5_reviewsOf⟩ ⟨Nat.le_of_ble_eq_true rfl, Nat.le_of_ble_eq_true rfl⟩ ⟨Nat.le_of_ble_eq_true rfl, Nat.le_of_ble_eq_true rfl⟩ rfl (Nat.le_of_ble_eq_true rfl) dX5_best_28 (r_N ?_) r_NX
      show PX Z 6 S16 0 0 31 [(0, va_rf r0), (1, .int i1), (2, .int v1), (3, .int v2)] [.int v15, .int v9]
      refine x_isub hC dX5_best_31 ?_
      exact J_32 _ _ _ _ h
    · replace h := it_t c5 h
      refine x_iconst (v := (1 : Int32)) hC dX5_best_15 (by decide) ?_
      refine x_goto (t := 32) hC dX5_best_16 (by decide) ?_
      exact J_32 _ _ _ _ h
