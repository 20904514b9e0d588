/-! THE WALKS: each method does what it means -/
theorem dX4_rebut_0 : decode cX4_rebut 0 = .ok (.aload_n 0, 1) := by decide +kernel
theorem dX4_rebut_1 : decode cX4_rebut 1 = .ok (.iload_n 1, 1) := by decide +kernel
theorem dX4_rebut_2 : decode cX4_rebut 2 = .ok (.invokevirtual 125, 3) := by decide +kernel
theorem dX4_rebut_5 : decode cX4_rebut 5 = .ok (.aload_n 0, 1) := by decide +kernel
theorem dX4_rebut_6 : decode cX4_rebut 6 = .ok (.getfield 19, 3) := by decide +kernel
theorem dX4_rebut_9 : decode cX4_rebut 9 = .ok (.aload_n 0, 1) := by decide +kernel
theorem dX4_rebut_10 : decode cX4_rebut 10 = .ok (.getfield 10, 3) := by decide +kernel
theorem dX4_rebut_13 : decode cX4_rebut 13 = .ok (.invokevirtual 63, 3) := by decide +kernel
theorem dX4_rebut_16 : decode cX4_rebut 16 = .ok (.aload_n 0, 1) := by decide +kernel
theorem dX4_rebut_17 : decode cX4_rebut 17 = .ok (.iload_n 1, 1) := by decide +kernel
theorem dX4_rebut_18 : decode cX4_rebut 18 = .ok (.invokevirtual 159, 3) := by decide +kernel
theorem dX4_rebut_21 : decode cX4_rebut 21 = .ok (.ireturn, 1) := by decide +kernel
set_option maxRecDepth 100000 in
set_option maxHeartbeats 4000000 in
theorem mt_X4_rebut (r0 : Option Nat) (i1 : Int32) (S0 : PH) (Q : (Nat ⊕ Int32) → PH → Prop) (h : w_X4_rebut r0 i1 S0 Q) : MT yX4_rebut (.code yX4_rebut cX4_rebut 2 (Option.some FieldType.int)) 7 111 21 173 [va_rf r0, .int i1] S0 (oQ e_I Q) := by
  refine mt_of (own := RX4) (l0 := [(0, va_rf r0), (1, .int i1)]) rfl rfl (by cases r0 <;> exact Nat.le_of_ble_eq_true rfl) (by cases r0 <;> rfl) ?_
  intro Z hC hQ hE hN
  unfold w_X4_rebut at h
  refine x_aload_n (i := 0) hC dX4_rebut_0 rfl 0 rfl ?_
  refine x_iload_n (i := 1) hC dX4_rebut_1 rfl 1 rfl ?_
  obtain ⟨a1, ea2, ha3, h⟩ := h
  replace h := wbt_el h
  obtain ⟨v4, S5, hb24, h⟩ | ⟨j6, S7, hb24, h⟩ := h
  · refine x_callV hC (st := []) (mtr_X4_requirePaper _ _ _ (v4, S5) hb24) ea2 ha3 kf_4 q_332 q_334 qs_4 q_1 q_335 ⟨rfl, hy_X4_requirePaper⟩ ⟨Nat.le_of_ble_eq_true rfl, Nat.le_of_ble_eq_true rfl⟩ ⟨Nat.le_of_ble_eq_true rfl, Nat.le_of_ble_eq_true rfl⟩ rfl (Nat.le_of_ble_eq_true rfl) dX4_rebut_2 (r_N ?_) r_NX
    show PX Z 2 S5 0 0 5 [(0, va_rf r0), (1, .int i1)] []
    refine x_aload_n (i := 0) hC dX4_rebut_5 rfl 0 rfl ?_
    obtain ⟨a8, ea9, ha10, h⟩ := h
    refine x_getR hC ea9 ha10 kf_4 1 (by decide) rfl q_173 dX4_rebut_6 ?_
    refine x_aload_n (i := 0) hC dX4_rebut_9 rfl 0 rfl ?_
    refine x_getR hC ea9 ha10 kf_4 0 (by decide) rfl q_172 dX4_rebut_10 ?_
    obtain ⟨a11, ea12, ha13, h⟩ := h
    refine x_callV hC (st := []) (mt_X0_save _ _ _ _ h) ea12 ha13 kf_0 q_280 q_281 q_282 q_4 q_283 ⟨rfl, hy_X0_save⟩ ⟨Nat.le_of_ble_eq_true rfl, Nat.le_of_ble_eq_true rfl⟩ ⟨Nat.le_of_ble_eq_true rfl, Nat.le_of_ble_eq_true rfl⟩ rfl (Nat.le_of_ble_eq_true rfl) dX4_rebut_13 (r_W (fun v14 S15 h => ?_)) (r_Wx (fun _ _ h => (wq_l h).elim))
    replace h := wq_r h
    show PX Z 2 S15 21 173 16 [(0, va_rf r0), (1, .int i1)] []
    refine x_aload_n (i := 0) hC dX4_rebut_16 rfl 0 rfl ?_
    refine x_iload_n (i := 1) hC dX4_rebut_17 rfl 1 rfl ?_
    obtain ⟨a18, ea19, ha20, h⟩ := h
    obtain ⟨v21, S22, hb23, h⟩ := h
    refine x_callV hC (st := []) (mt_X4_rebutPaper _ _ _ _ hb23) ea19 ha20 kf_4 q_601 q_603 qs_29 q_1 q_604 ⟨rfl, hy_X4_rebutPaper⟩ ⟨Nat.le_of_ble_eq_true rfl, Nat.le_of_ble_eq_true rfl⟩ ⟨Nat.le_of_ble_eq_true rfl, Nat.le_of_ble_eq_true rfl⟩ rfl (Nat.le_of_ble_eq_true rfl) dX4_rebut_18 (r_N ?_) r_NX
    show PX Z 2 S22 21 173 21 [(0, va_rf r0), (1, .int i1)] [.int v21]
    exact x_iret hC hQ (z_W h) (Nat.le_of_ble_eq_true rfl) (Nat.le_of_ble_eq_true rfl) dX4_rebut_21
  · refine x_callV hC (st := []) (mt_X4_requirePaper _ _ _ _ hb24) ea2 ha3 kf_4 q_332 q_334 qs_4 q_1 q_335 ⟨rfl, hy_X4_requirePaper⟩ ⟨Nat.le_of_ble_eq_true rfl, Nat.le_of_ble_eq_true rfl⟩ ⟨Nat.le_of_ble_eq_true rfl, Nat.le_of_ble_eq_true rfl⟩ rfl (Nat.le_of_ble_eq_true rfl) dX4_rebut_2 r_X (r_XX ?_)
    exact x_out hC hQ hE (z_Y h) (Nat.le_of_ble_eq_true rfl) (Nat.le_of_ble_eq_true rfl)
theorem dX4_canDecide_0 : decode cX4_canDecide 0 = .ok (.aload_n 0, 1) := by decide +kernel
theorem dX4_canDecide_1 : decode cX4_canDecide 1 = .ok (.getfield 10, 3) := by decide +kernel
theorem dX4_canDecide_4 : decode cX4_canDecide 4 = .ok (.getfield 167, 3) := by decide +kernel
theorem dX4_canDecide_7 : decode cX4_canDecide 7 = .ok (.iload_n 1, 1) := by decide +kernel
theorem dX4_canDecide_8 : decode cX4_canDecide 8 = .ok (.aaload, 1) := by decide +kernel
theorem dX4_canDecide_9 : decode cX4_canDecide 9 = .ok (.astore_n 2, 1) := by decide +kernel
theorem dX4_canDecide_10 : decode cX4_canDecide 10 = .ok (.aload_n 2, 1) := by decide +kernel
theorem dX4_canDecide_11 : decode cX4_canDecide 11 = .ok (.invokestatic 175, 3) := by decide +kernel
theorem dX4_canDecide_14 : decode cX4_canDecide 14 = .ok (.istore_n 3, 1) := by decide +kernel
theorem dX4_canDecide_15 : decode cX4_canDecide 15 = .ok (.aload_n 0, 1) := by decide +kernel
theorem dX4_canDecide_16 : decode cX4_canDecide 16 = .ok (.getfield 10, 3) := by decide +kernel
theorem dX4_canDecide_19 : decode cX4_canDecide 19 = .ok (.getfield 183, 3) := by decide +kernel
theorem dX4_canDecide_22 : decode cX4_canDecide 22 = .ok (.iload_n 1, 1) := by decide +kernel
theorem dX4_canDecide_23 : decode cX4_canDecide 23 = .ok (.iaload, 1) := by decide +kernel
theorem dX4_canDecide_24 : decode cX4_canDecide 24 = .ok (.ifCond .ne 31, 3) := by decide +kernel
theorem dX4_canDecide_27 : decode cX4_canDecide 27 = .ok (.iload_n 3, 1) := by decide +kernel
theorem dX4_canDecide_28 : decode cX4_canDecide 28 = .ok (.invokestatic 178, 3) := by decide +kernel
theorem dX4_canDecide_31 : decode cX4_canDecide 31 = .ok (.aload_n 0, 1) := by decide +kernel
theorem dX4_canDecide_32 : decode cX4_canDecide 32 = .ok (.getfield 10, 3) := by decide +kernel
theorem dX4_canDecide_35 : decode cX4_canDecide 35 = .ok (.getfield 102, 3) := by decide +kernel
theorem dX4_canDecide_38 : decode cX4_canDecide 38 = .ok (.iconst 0, 1) := by decide +kernel
theorem dX4_canDecide_39 : decode cX4_canDecide 39 = .ok (.iaload, 1) := by decide +kernel
theorem dX4_canDecide_40 : decode cX4_canDecide 40 = .ok (.if_icmp .lt 15, 3) := by decide +kernel
theorem dX4_canDecide_43 : decode cX4_canDecide 43 = .ok (.iload_n 3, 1) := by decide +kernel
theorem dX4_canDecide_44 : decode cX4_canDecide 44 = .ok (.aload_n 2, 1) := by decide +kernel
theorem dX4_canDecide_45 : decode cX4_canDecide 45 = .ok (.invokestatic 334, 3) := by decide +kernel
theorem dX4_canDecide_48 : decode cX4_canDecide 48 = .ok (.if_icmp .ne 7, 3) := by decide +kernel
theorem dX4_canDecide_51 : decode cX4_canDecide 51 = .ok (.iconst 1, 1) := by decide +kernel
theorem dX4_canDecide_52 : decode cX4_canDecide 52 = .ok (.goto 4, 3) := by decide +kernel
theorem dX4_canDecide_55 : decode cX4_canDecide 55 = .ok (.iconst 0, 1) := by decide +kernel
theorem dX4_canDecide_56 : decode cX4_canDecide 56 = .ok (.ireturn, 1) := by decide +kernel
set_option maxRecDepth 100000 in
set_option maxHeartbeats 4000000 in
theorem mt_X4_canDecide (r0 : Option Nat) (i1 : Int32) (S0 : PH) (y : Int32 × PH) (h : m_X4_canDecide r0 i1 S0 = some y) : MT yX4_canDecide (.code yX4_canDecide cX4_canDecide 4 (Option.some FieldType.boolean)) 2 42 0 0 [va_rf r0, .int i1] S0 (oQ e_I (qN y)) := by
  refine mt_of (own := RX4) (l0 := [(0, va_rf r0), (1, .int i1)]) rfl rfl (by cases r0 <;> exact Nat.le_of_ble_eq_true rfl) (by cases r0 <;> rfl) ?_
  intro Z hC hQ hE hN
  unfold m_X4_canDecide at h
  refine x_aload_n (i := 0) hC dX4_canDecide_0 rfl 0 rfl ?_
  replace h := dr_el h
  obtain ⟨a1, ea2, ha3, h⟩ := h
  refine x_getR hC ea2 ha3 kf_4 0 (by decide) rfl q_172 dX4_canDecide_1 ?_
  replace h := dr_el h
  obtain ⟨a4, ea5, ha6, h⟩ := h
  refine x_getR hC ea5 ha6 kf_2 10 (by decide) rfl q_57 dX4_canDecide_4 ?_
  refine x_iload_n (i := 1) hC dX4_canDecide_7 rfl 1 rfl ?_
  replace h := dr_el h
  obtain ⟨a7, ea8, ha9, h⟩ := h
  replace h := ck_el h
  obtain ⟨hc10, h⟩ := h
  refine x_aaload9 hC ea8 ha9 hc10 dX4_canDecide_8 ?_
  replace h := le_el h
  obtain ⟨r11, hx12, h⟩ := h
  refine x_tA hx12 ?_
  refine x_astore_n (i := 2) (l' := [(2, va_rf r11), (0, va_rf r0), (1, .int i1)]) hC dX4_canDecide_9 rfl (⟨fun _ => c_rf r0, ⟨fun _ => rfl, trivial⟩⟩) (by decide) rfl ?_
  refine x_aload_n (i := 2) hC dX4_canDecide_10 rfl 0 rfl ?_
  replace h := bd_el h
  obtain ⟨v13, S14, hb15, h⟩ := h
  refine x_callS hC (st := []) (mt_X4_writersIn _ _ _ hb15) q_431 q_432 q_1 q_433 hy_X4_writersIn ⟨Nat.le_of_ble_eq_true rfl, Nat.le_of_ble_eq_true rfl⟩ ⟨Nat.le_of_ble_eq_true rfl, Nat.le_of_ble_eq_true rfl⟩ rfl (Nat.le_of_ble_eq_true rfl) dX4_canDecide_11 (r_N ?_) r_NX
  show PX Z 4 S14 0 0 14 [(2, va_rf r11), (0, va_rf r0), (1, .int i1)] [.int v13]
  refine x_istore_n (i := 3) (l' := [(3, .int v13), (2, va_rf r11), (0, va_rf r0), (1, .int i1)]) hC dX4_canDecide_14 rfl (⟨fun _ => c_rf r11, ⟨fun _ => c_rf r0, ⟨fun _ => rfl, trivial⟩⟩⟩) (by decide) rfl ?_
  refine x_aload_n (i := 0) hC dX4_canDecide_15 rfl 2 rfl ?_
  replace h := dr_el h
  obtain ⟨a16, ea17, ha18, h⟩ := h
  refine x_getR hC ea17 ha18 kf_4 0 (by decide) rfl q_172 dX4_canDecide_16 ?_
  replace h := dr_el h
  obtain ⟨a19, ea20, ha21, h⟩ := h
  refine x_getR hC ea20 ha21 kf_2 9 (by decide) rfl q_55 dX4_canDecide_19 ?_
  refine x_iload_n (i := 1) hC dX4_canDecide_22 rfl 3 rfl ?_
  replace h := dr_el h
  obtain ⟨a22, ea23, ha24, h⟩ := h
  replace h := ck_el h
  obtain ⟨hc25, h⟩ := h
  refine x_iaload hC ea23 ha24 hc25 dX4_canDecide_23 ?_
  refine x_if_ne (t := 55) hC dX4_canDecide_24 (by decide) (fun c26 => ?_) (fun c26 => ?_)
  · replace h := it_f c26 h
    refine x_iconst (v := (0 : Int32)) hC dX4_canDecide_55 (by decide) ?_
    exact x_zret hC hQ (by decide) (z_N (Option.some.inj h)) (Nat.le_of_ble_eq_true rfl) (Nat.le_of_ble_eq_true rfl) dX4_canDecide_56
  · replace h := it_t c26 h
    refine x_iload_n (i := 3) hC dX4_canDecide_27 rfl 0 rfl ?_
    replace h := bd_el h
    obtain ⟨v27, S28, hb29, h⟩ := h
    refine x_callS hC (st := []) (mt_J6_bitCount_0f7a4 _ _ _ hb29) q_352 q_353 q_13 q_354 hy_J6_bitCount_0f7a4 ⟨Nat.le_of_ble_eq_true rfl, Nat.le_of_ble_eq_true rfl⟩ ⟨Nat.le_of_ble_eq_true rfl, Nat.le_of_ble_eq_true rfl⟩ rfl (Nat.le_of_ble_eq_true rfl) dX4_canDecide_28 (r_N ?_) r_NX
    show PX Z 4 S28 0 0 31 [(3, .int v13), (2, va_rf r11), (0, va_rf r0), (1, .int i1)] [.int v27]
    refine x_aload_n (i := 0) hC dX4_canDecide_31 rfl 2 rfl ?_
    replace h := dr_el h
    obtain ⟨a30, ea31, ha32, h⟩ := h
    refine x_getR hC ea31 ha32 kf_4 0 (by decide) rfl q_172 dX4_canDecide_32 ?_
    replace h := dr_el h
    obtain ⟨a33, ea34, ha35, h⟩ := h
    refine x_getR hC ea34 ha35 kf_2 11 (by decide) rfl q_59 dX4_canDecide_35 ?_
    refine x_iconst (v := (0 : Int32)) hC dX4_canDecide_38 (by decide) ?_
    replace h := dr_el h
    obtain ⟨a36, ea37, ha38, h⟩ := h
    replace h := ck_el h
    obtain ⟨hc39, h⟩ := h
    refine x_iaload hC ea37 ha38 hc39 dX4_canDecide_39 ?_
    refine x_tI (b := (p_I S28 a36 0)) rfl ?_
    refine x_icmp_lt (t := 55) hC dX4_canDecide_40 (by decide) (fun c40 => ?_) (fun c40 => ?_)
    · replace h := it_t c40 h
      refine x_iconst (v := (0 : Int32)) hC dX4_canDecide_55 (by decide) ?_
      exact x_zret hC hQ (by decide) (z_N (Option.some.inj h)) (Nat.le_of_ble_eq_true rfl) (Nat.le_of_ble_eq_true rfl) dX4_canDecide_56
    · replace h := it_f c40 h
      refine x_iload_n (i := 3) hC dX4_canDecide_43 rfl 0 rfl ?_
      refine x_aload_n (i := 2) hC dX4_canDecide_44 rfl 1 rfl ?_
      replace h := bd_el h
      obtain ⟨v41, S42, hb43, h⟩ := h
      refine x_callS hC (st := [.int v13]) (mt_X4_reviewersIn _ _ _ hb43) q_349 q_350 q_1 q_351 hy_X4_reviewersIn ⟨Nat.le_of_ble_eq_true rfl, Nat.le_of_ble_eq_true rfl⟩ ⟨Nat.le_of_ble_eq_true rfl, Nat.le_of_ble_eq_true rfl⟩ rfl (Nat.le_of_ble_eq_true rfl) dX4_canDecide_45 (r_N ?_) r_NX
      show PX Z 4 S42 0 0 48 [(3, .int v13), (2, va_rf r11), (0, va_rf r0), (1, .int i1)] [.int v41, .int v13]
      refine x_icmp_ne (t := 55) hC dX4_canDecide_48 (by decide) (fun c44 => ?_) (fun c44 => ?_)
      · replace h := it_f c44 h
        refine x_iconst (v := (0 : Int32)) hC dX4_canDecide_55 (by decide) ?_
        exact x_zret hC hQ (by decide) (z_N (Option.some.inj h)) (Nat.le_of_ble_eq_true rfl) (Nat.le_of_ble_eq_true rfl) dX4_canDecide_56
      · replace h := it_t c44 h
        refine x_iconst (v := (1 : Int32)) hC dX4_canDecide_51 (by decide) ?_
        refine x_goto (t := 56) hC dX4_canDecide_52 (by decide) ?_
        exact x_zret hC hQ (by decide) (z_N (Option.some.inj h)) (Nat.le_of_ble_eq_true rfl) (Nat.le_of_ble_eq_true rfl) dX4_canDecide_56
theorem dX4_decide_0 : decode cX4_decide 0 = .ok (.aload_n 0, 1) := by decide +kernel
theorem dX4_decide_1 : decode cX4_decide 1 = .ok (.iload_n 1, 1) := by decide +kernel
theorem dX4_decide_2 : decode cX4_decide 2 = .ok (.invokevirtual 125, 3) := by decide +kernel
theorem dX4_decide_5 : decode cX4_decide 5 = .ok (.aload_n 0, 1) := by decide +kernel
theorem dX4_decide_6 : decode cX4_decide 6 = .ok (.iload_n 1, 1) := by decide +kernel
theorem dX4_decide_7 : decode cX4_decide 7 = .ok (.invokevirtual 162, 3) := by decide +kernel
theorem dX4_decide_10 : decode cX4_decide 10 = .ok (.ifCond .ne 13, 3) := by decide +kernel
theorem dX4_decide_13 : decode cX4_decide 13 = .ok (.new 58, 3) := by decide +kernel
theorem dX4_decide_16 : decode cX4_decide 16 = .ok (.dup, 1) := by decide +kernel
theorem dX4_decide_17 : decode cX4_decide 17 = .ok (.ldc 165, 2) := by decide +kernel
theorem dX4_decide_19 : decode cX4_decide 19 = .ok (.invokespecial 62, 3) := by decide +kernel
theorem dX4_decide_22 : decode cX4_decide 22 = .ok (.athrow, 1) := by decide +kernel
theorem dX4_decide_23 : decode cX4_decide 23 = .ok (.aload_n 0, 1) := by decide +kernel
theorem dX4_decide_24 : decode cX4_decide 24 = .ok (.getfield 19, 3) := by decide +kernel
theorem dX4_decide_27 : decode cX4_decide 27 = .ok (.aload_n 0, 1) := by decide +kernel
theorem dX4_decide_28 : decode cX4_decide 28 = .ok (.getfield 10, 3) := by decide +kernel
theorem dX4_decide_31 : decode cX4_decide 31 = .ok (.invokevirtual 63, 3) := by decide +kernel
theorem dX4_decide_34 : decode cX4_decide 34 = .ok (.aload_n 0, 1) := by decide +kernel
theorem dX4_decide_35 : decode cX4_decide 35 = .ok (.getfield 10, 3) := by decide +kernel
theorem dX4_decide_38 : decode cX4_decide 38 = .ok (.getfield 167, 3) := by decide +kernel
theorem dX4_decide_41 : decode cX4_decide 41 = .ok (.iload_n 1, 1) := by decide +kernel
theorem dX4_decide_42 : decode cX4_decide 42 = .ok (.aaload, 1) := by decide +kernel
theorem dX4_decide_43 : decode cX4_decide 43 = .ok (.astore_n 2, 1) := by decide +kernel
theorem dX4_decide_44 : decode cX4_decide 44 = .ok (.aload_n 2, 1) := by decide +kernel
theorem dX4_decide_45 : decode cX4_decide 45 = .ok (.invokestatic 171, 3) := by decide +kernel
theorem dX4_decide_48 : decode cX4_decide 48 = .ok (.bipush 6, 2) := by decide +kernel
theorem dX4_decide_50 : decode cX4_decide 50 = .ok (.aload_n 2, 1) := by decide +kernel
theorem dX4_decide_51 : decode cX4_decide 51 = .ok (.invokestatic 175, 3) := by decide +kernel
theorem dX4_decide_54 : decode cX4_decide 54 = .ok (.invokestatic 178, 3) := by decide +kernel
theorem dX4_decide_57 : decode cX4_decide 57 = .ok (.imul, 1) := by decide +kernel
theorem dX4_decide_58 : decode cX4_decide 58 = .ok (.if_icmp .lt 7, 3) := by decide +kernel
theorem dX4_decide_61 : decode cX4_decide 61 = .ok (.iconst 1, 1) := by decide +kernel
theorem dX4_decide_62 : decode cX4_decide 62 = .ok (.goto 4, 3) := by decide +kernel
theorem dX4_decide_65 : decode cX4_decide 65 = .ok (.iconst 0, 1) := by decide +kernel
theorem dX4_decide_66 : decode cX4_decide 66 = .ok (.istore_n 3, 1) := by decide +kernel
theorem dX4_decide_67 : decode cX4_decide 67 = .ok (.aload_n 0, 1) := by decide +kernel
theorem dX4_decide_68 : decode cX4_decide 68 = .ok (.getfield 10, 3) := by decide +kernel
theorem dX4_decide_71 : decode cX4_decide 71 = .ok (.getfield 183, 3) := by decide +kernel
theorem dX4_decide_74 : decode cX4_decide 74 = .ok (.iload_n 1, 1) := by decide +kernel
theorem dX4_decide_75 : decode cX4_decide 75 = .ok (.iload_n 3, 1) := by decide +kernel
theorem dX4_decide_76 : decode cX4_decide 76 = .ok (.ifCond .eq 7, 3) := by decide +kernel
theorem dX4_decide_79 : decode cX4_decide 79 = .ok (.iconst 2, 1) := by decide +kernel
theorem dX4_decide_80 : decode cX4_decide 80 = .ok (.goto 4, 3) := by decide +kernel
theorem dX4_decide_83 : decode cX4_decide 83 = .ok (.iconst 1, 1) := by decide +kernel
theorem dX4_decide_84 : decode cX4_decide 84 = .ok (.iastore, 1) := by decide +kernel
theorem dX4_decide_85 : decode cX4_decide 85 = .ok (.iload_n 3, 1) := by decide +kernel
theorem dX4_decide_86 : decode cX4_decide 86 = .ok (.ifCond .eq 7, 3) := by decide +kernel
theorem dX4_decide_89 : decode cX4_decide 89 = .ok (.iconst 1, 1) := by decide +kernel
theorem dX4_decide_90 : decode cX4_decide 90 = .ok (.goto 4, 3) := by decide +kernel
theorem dX4_decide_93 : decode cX4_decide 93 = .ok (.iconst 0, 1) := by decide +kernel
theorem dX4_decide_94 : decode cX4_decide 94 = .ok (.ireturn, 1) := by decide +kernel
set_option maxRecDepth 100000 in
set_option maxHeartbeats 4000000 in
theorem mt_X4_decide (r0 : Option Nat) (i1 : Int32) (S0 : PH) (Q : (Nat ⊕ Int32) → PH → Prop) (h : w_X4_decide r0 i1 S0 Q) : MT yX4_decide (.code yX4_decide cX4_decide 4 (Option.some FieldType.int)) 7 111 21 173 [va_rf r0, .int i1] S0 (oQ e_I Q) := by
  refine mt_of (own := RX4) (l0 := [(0, va_rf r0), (1, .int i1)]) rfl rfl (by cases r0 <;> exact Nat.le_of_ble_eq_true rfl) (by cases r0 <;> rfl) ?_
  intro Z hC hQ hE hN
  have J_84 : ∀ (v56 : Int32) (v57 : Option Nat) (v58 : Int32) (v59 : Int32) (S60 : PH), wj_X4_decide_84 r0 i1 Q v56 v57 v58 v59 S60 → PX Z 4 S60 21 173 84 [(0, va_rf r0), (1, .int i1), (3, .int v56)] [.int v59, .int v58, va_rf v57] := by
    intro v56 v57 v58 v59 S60 h
    unfold wj_X4_decide_84 at h
    obtain ⟨a61, ea62, ha63, h⟩ := h
    obtain ⟨hc64, h⟩ := h
    obtain ⟨S65, hx66, h⟩ := wle_el h
    refine x_iastore hC ea62 ha63 hc64 dX4_decide_84 ?_
    refine x_tS hx66 ?_
    refine x_iload_n (i := 3) hC dX4_decide_85 rfl 2 rfl ?_
    refine x_if_eq (t := 93) hC dX4_decide_86 (by decide) (fun c67 => ?_) (fun c67 => ?_)
    · replace h := wit_t c67 h
      refine x_iconst (v := (0 : Int32)) hC dX4_decide_93 (by decide) ?_
      exact x_iret hC hQ (z_W h) (Nat.le_of_ble_eq_true rfl) (Nat.le_of_ble_eq_true rfl) dX4_decide_94
    · replace h := wit_f c67 h
      refine x_iconst (v := (1 : Int32)) hC dX4_decide_89 (by decide) ?_
      refine x_goto (t := 94) hC dX4_decide_90 (by decide) ?_
      exact x_iret hC hQ (z_W h) (Nat.le_of_ble_eq_true rfl) (Nat.le_of_ble_eq_true rfl) dX4_decide_94
  have J_66 : ∀ (v47 : Int32) (S48 : PH), wj_X4_decide_66 r0 i1 Q v47 S48 → PX Z 4 S48 21 173 66 [(0, va_rf r0), (1, .int i1)] [.int v47] := by
    intro v47 S48 h
    unfold wj_X4_decide_66 at h
    refine x_istore_n (i := 3) (l' := [(3, .int v47), (0, va_rf r0), (1, .int i1)]) hC dX4_decide_66 rfl (⟨fun _ => c_rf r0, ⟨fun _ => rfl, trivial⟩⟩) (by decide) rfl ?_
    refine x_aload_n (i := 0) hC dX4_decide_67 rfl 1 rfl ?_
    obtain ⟨a49, ea50, ha51, h⟩ := h
    refine x_getR hC ea50 ha51 kf_4 0 (by decide) rfl q_172 dX4_decide_68 ?_
    obtain ⟨a52, ea53, ha54, h⟩ := h
    refine x_getR hC ea53 ha54 kf_2 9 (by decide) rfl q_55 dX4_decide_71 ?_
    refine x_iload_n (i := 1) hC dX4_decide_74 rfl 2 rfl ?_
    refine x_iload_n (i := 3) hC dX4_decide_75 rfl 0 rfl ?_
    refine x_if_eq (t := 83) hC dX4_decide_76 (by decide) (fun c55 => ?_) (fun c55 => ?_)
    · replace h := wit_t c55 h
      refine x_iconst (v := (1 : Int32)) hC dX4_decide_83 (by decide) ?_
      refine x_sub (l' := [(0, va_rf r0), (1, .int i1), (3, .int v47)]) [1, 2, 0] rfl ?_
      exact J_84 _ _ _ _ _ h
    · replace h := wit_f c55 h
      refine x_iconst (v := (2 : Int32)) hC dX4_decide_79 (by decide) ?_
      refine x_goto (t := 84) hC dX4_decide_80 (by decide) ?_
      refine x_sub (l' := [(0, va_rf r0), (1, .int i1), (3, .int v47)]) [1, 2, 0] rfl ?_
      exact J_84 _ _ _ _ _ h
  unfold w_X4_decide at h
  refine x_aload_n (i := 0) hC dX4_decide_0 rfl 0 rfl ?_
  refine x_iload_n (i := 1) hC dX4_decide_1 rfl 1 rfl ?_
  obtain ⟨a1, ea2, ha3, h⟩ := h
  replace h := wbt_el h
  obtain ⟨v4, S5, hb68, h⟩ | ⟨j6, S7, hb68, h⟩ := h
  · refine x_callV hC (st := []) (mtr_X4_requirePaper _ _ _ (v4, S5) hb68) ea2 ha3 kf_4 q_332 q_334 qs_4 q_1 q_335 ⟨rfl, hy_X4_requirePaper⟩ ⟨Nat.le_of_ble_eq_true rfl, Nat.le_of_ble_eq_true rfl⟩ ⟨Nat.le_of_ble_eq_true rfl, Nat.le_of_ble_eq_true rfl⟩ rfl (Nat.le_of_ble_eq_true rfl) dX4_decide_2 (r_N ?_) r_NX
    show PX Z 4 S5 0 0 5 [(0, va_rf r0), (1, .int i1)] []
    refine x_aload_n (i := 0) hC dX4_decide_5 rfl 0 rfl ?_
    refine x_iload_n (i := 1) hC dX4_decide_6 rfl 1 rfl ?_
    obtain ⟨a8, ea9, ha10, h⟩ := h
    obtain ⟨v11, S12, hb13, h⟩ := h
    refine x_callV hC (st := []) (mt_X4_canDecide _ _ _ _ hb13) ea9 ha10 kf_4 q_544 q_546 qs_26 q_1 q_547 ⟨rfl, hy_X4_canDecide⟩ ⟨Nat.le_of_ble_eq_true rfl, Nat.le_of_ble_eq_true rfl⟩ ⟨Nat.le_of_ble_eq_true rfl, Nat.le_of_ble_eq_true rfl⟩ rfl (Nat.le_of_ble_eq_true rfl) dX4_decide_7 (r_N ?_) r_NX
    show PX Z 4 S12 0 0 10 [(0, va_rf r0), (1, .int i1)] [.int v11]
    refine x_if_ne (t := 23) hC dX4_decide_10 (by decide) (fun c14 => ?_) (fun c14 => ?_)
    · replace h := wit_f c14 h
      refine x_aload_n (i := 0) hC dX4_decide_23 rfl 0 rfl ?_
      obtain ⟨a15, ea16, ha17, h⟩ := h
      refine x_getR hC ea16 ha17 kf_4 1 (by decide) rfl q_173 dX4_decide_24 ?_
      refine x_aload_n (i := 0) hC dX4_decide_27 rfl 0 rfl ?_
      refine x_getR hC ea16 ha17 kf_4 0 (by decide) rfl q_172 dX4_decide_28 ?_
      obtain ⟨a18, ea19, ha20, h⟩ := h
      refine x_callV hC (st := []) (mt_X0_save _ _ _ _ h) ea19 ha20 kf_0 q_280 q_281 q_282 q_4 q_283 ⟨rfl, hy_X0_save⟩ ⟨Nat.le_of_ble_eq_true rfl, Nat.le_of_ble_eq_true rfl⟩ ⟨Nat.le_of_ble_eq_true rfl, Nat.le_of_ble_eq_true rfl⟩ rfl (Nat.le_of_ble_eq_true rfl) dX4_decide_31 (r_W (fun v21 S22 h => ?_)) (r_Wx (fun _ _ h => (wq_l h).elim))
      replace h := wq_r h
      show PX Z 4 S22 21 173 34 [(0, va_rf r0), (1, .int i1)] []
      refine x_aload_n (i := 0) hC dX4_decide_34 rfl 0 rfl ?_
      obtain ⟨a25, ea26, ha27, h⟩ := h
      refine x_getR hC ea26 ha27 kf_4 0 (by decide) rfl q_172 dX4_decide_35 ?_
      obtain ⟨a28, ea29, ha30, h⟩ := h
      refine x_getR hC ea29 ha30 kf_2 10 (by decide) rfl q_57 dX4_decide_38 ?_
      refine x_iload_n (i := 1) hC dX4_decide_41 rfl 1 rfl ?_
      obtain ⟨a31, ea32, ha33, h⟩ := h
      obtain ⟨hc34, h⟩ := h
      refine x_aaload9 hC ea32 ha33 hc34 dX4_decide_42 ?_
      obtain ⟨r35, hx36, h⟩ := wle_el h
      refine x_tA hx36 ?_
      refine x_astore_n (i := 2) (l' := [(2, va_rf r35), (0, va_rf r0), (1, .int i1)]) hC dX4_decide_43 rfl (⟨fun _ => c_rf r0, ⟨fun _ => rfl, trivial⟩⟩) (by decide) rfl ?_
      refine x_aload_n (i := 2) hC dX4_decide_44 rfl 0 rfl ?_
      obtain ⟨v37, S38, hb39, h⟩ := h
      refine x_callS hC (st := []) (mt_X4_sumIn _ _ _ hb39) q_536 q_537 q_1 q_538 hy_X4_sumIn ⟨Nat.le_of_ble_eq_true rfl, Nat.le_of_ble_eq_true rfl⟩ ⟨Nat.le_of_ble_eq_true rfl, Nat.le_of_ble_eq_true rfl⟩ rfl (Nat.le_of_ble_eq_true rfl) dX4_decide_45 (r_N ?_) r_NX
      show PX Z 4 S38 21 173 48 [(2, va_rf r35), (0, va_rf r0), (1, .int i1)] [.int v37]
      refine x_bipush (v := (6 : Int32)) hC dX4_decide_48 (by decide) ?_
      refine x_aload_n (i := 2) hC dX4_decide_50 rfl 0 rfl ?_
      obtain ⟨v40, S41, hb42, h⟩ := h
      refine x_callS hC (st := [.int (6 : Int32), .int v37]) (mt_X4_writersIn _ _ _ hb42) q_431 q_432 q_1 q_433 hy_X4_writersIn ⟨Nat.le_of_ble_eq_true rfl, Nat.le_of_ble_eq_true rfl⟩ ⟨Nat.le_of_ble_eq_true rfl, Nat.le_of_ble_eq_true rfl⟩ rfl (Nat.le_of_ble_eq_true rfl) dX4_decide_51 (r_N ?_) r_NX
      show PX Z 4 S41 21 173 54 [(2, va_rf r35), (0, va_rf r0), (1, .int i1)] [.int v40, .int (6 : Int32), .int v37]
      obtain ⟨v43, S44, hb45, h⟩ := h
      refine x_callS hC (st := [.int (6 : Int32), .int v37]) (mt_J6_bitCount_0f7a4 _ _ _ hb45) q_352 q_353 q_13 q_354 hy_J6_bitCount_0f7a4 ⟨Nat.le_of_ble_eq_true rfl, Nat.le_of_ble_eq_true rfl⟩ ⟨Nat.le_of_ble_eq_true rfl, Nat.le_of_ble_eq_true rfl⟩ rfl (Nat.le_of_ble_eq_true rfl) dX4_decide_54 (r_N ?_) r_NX
      show PX Z 4 S44 21 173 57 [(2, va_rf r35), (0, va_rf r0), (1, .int i1)] [.int v43, .int (6 : Int32), .int v37]
      refine x_imul hC dX4_decide_57 ?_
      refine x_icmp_lt (t := 65) hC dX4_decide_58 (by decide) (fun c46 => ?_) (fun c46 => ?_)
      · replace h := wit_t c46 h
        refine x_iconst (v := (0 : Int32)) hC dX4_decide_65 (by decide) ?_
        refine x_sub (l' := [(0, va_rf r0), (1, .int i1)]) [1, 2] rfl ?_
        exact J_66 _ _ h
      · replace h := wit_f c46 h
        refine x_iconst (v := (1 : Int32)) hC dX4_decide_61 (by decide) ?_
        refine x_goto (t := 66) hC dX4_decide_62 (by decide) ?_
        refine x_sub (l' := [(0, va_rf r0), (1, .int i1)]) [1, 2] rfl ?_
        exact J_66 _ _ h
    · replace h := wit_t c14 h
      exact x_throw hC hQ hE (j := 1) (z_Y h) tx_58_62_1 (List.mem_of_getElem? (i := 16) rfl) (Nat.le_of_ble_eq_true rfl) ⟨Nat.le_of_ble_eq_true rfl, Nat.le_of_ble_eq_true rfl⟩ ⟨Nat.le_of_ble_eq_true rfl, Nat.le_of_ble_eq_true rfl⟩ (Nat.le_of_ble_eq_true rfl) (Nat.le_of_ble_eq_true rfl) dX4_decide_13 dX4_decide_16 dX4_decide_17 dX4_decide_19 dX4_decide_22
  · refine x_callV hC (st := []) (mt_X4_requirePaper _ _ _ _ hb68) ea2 ha3 kf_4 q_332 q_334 qs_4 q_1 q_335 ⟨rfl, hy_X4_requirePaper⟩ ⟨Nat.le_of_ble_eq_true rfl, Nat.le_of_ble_eq_true rfl⟩ ⟨Nat.le_of_ble_eq_true rfl, Nat.le_of_ble_eq_true rfl⟩ rfl (Nat.le_of_ble_eq_true rfl) dX4_decide_2 r_X (r_XX ?_)
    exact x_out hC hQ hE (z_Y h) (Nat.le_of_ble_eq_true rfl) (Nat.le_of_ble_eq_true rfl)
theorem dX4_requireSlot_0 : decode cX4_requireSlot 0 = .ok (.iload_n 0, 1) := by decide +kernel
theorem dX4_requireSlot_1 : decode cX4_requireSlot 1 = .ok (.ifCond .lt 8, 3) := by decide +kernel
theorem dX4_requireSlot_4 : decode cX4_requireSlot 4 = .ok (.iload_n 0, 1) := by decide +kernel
theorem dX4_requireSlot_5 : decode cX4_requireSlot 5 = .ok (.iconst 2, 1) := by decide +kernel
theorem dX4_requireSlot_6 : decode cX4_requireSlot 6 = .ok (.if_icmp .lt 14, 3) := by decide +kernel
theorem dX4_requireSlot_9 : decode cX4_requireSlot 9 = .ok (.new 45, 3) := by decide +kernel
theorem dX4_requireSlot_12 : decode cX4_requireSlot 12 = .ok (.dup, 1) := by decide +kernel
theorem dX4_requireSlot_13 : decode cX4_requireSlot 13 = .ok (.ldc_w 301, 3) := by decide +kernel
theorem dX4_requireSlot_16 : decode cX4_requireSlot 16 = .ok (.invokespecial 49, 3) := by decide +kernel
theorem dX4_requireSlot_19 : decode cX4_requireSlot 19 = .ok (.athrow, 1) := by decide +kernel
theorem dX4_requireSlot_20 : decode cX4_requireSlot 20 = .ok (.return_, 1) := by decide +kernel
set_option maxRecDepth 100000 in
set_option maxHeartbeats 4000000 in
theorem mt_X4_requireSlot (i0 : Int32) (S0 : PH) (y : (Nat ⊕ Unit) × PH) (h : m_X4_requireSlot i0 S0 = some y) : MT yX4_requireSlot (.code yX4_requireSlot cX4_requireSlot 1 (Option.none : Option FieldType)) 6 90 1 6 [.int i0] S0 (oQ e_V (qT y)) := by
  refine mt_of (own := RX4) (l0 := [(0, .int i0)]) rfl rfl (by exact Nat.le_of_ble_eq_true rfl) (by rfl) ?_
  intro Z hC hQ hE hN
  have J_9 : ∀ (S2 : PH), j_X4_requireSlot_9 i0 S2 = some y → PX Z 1 S2 0 0 9 [(0, .int i0)] [] := by
    intro S2 h
    unfold j_X4_requireSlot_9 at h
    exact x_throwW hC hQ hE (j := 0) (z_X (Option.some.inj h)) tx_45_49_0 (List.mem_of_getElem? (i := 6) rfl) (Nat.le_of_ble_eq_true rfl) ⟨Nat.le_of_ble_eq_true rfl, Nat.le_of_ble_eq_true rfl⟩ ⟨Nat.le_of_ble_eq_true rfl, Nat.le_of_ble_eq_true rfl⟩ (Nat.le_of_ble_eq_true rfl) (Nat.le_of_ble_eq_true rfl) dX4_requireSlot_9 dX4_requireSlot_12 dX4_requireSlot_13 dX4_requireSlot_16 dX4_requireSlot_19
  unfold m_X4_requireSlot at h
  refine x_iload_n (i := 0) hC dX4_requireSlot_0 rfl 0 rfl ?_
  refine x_if_lt (t := 9) hC dX4_requireSlot_1 (by decide) (fun c1 => ?_) (fun c1 => ?_)
  · replace h := it_t c1 h
    exact J_9 _ h
  · replace h := it_f c1 h
    refine x_iload_n (i := 0) hC dX4_requireSlot_4 rfl 0 rfl ?_
    refine x_iconst (v := (2 : Int32)) hC dX4_requireSlot_5 (by decide) ?_
    refine x_icmp_lt (t := 20) hC dX4_requireSlot_6 (by decide) (fun c3 => ?_) (fun c3 => ?_)
    · replace h := it_t c3 h
      exact x_vret hC hQ (z_T (v := ()) (Option.some.inj h)) (Nat.le_of_ble_eq_true rfl) (Nat.le_of_ble_eq_true rfl) dX4_requireSlot_20
    · replace h := it_f c3 h
      exact J_9 _ h
set_option maxRecDepth 100000 in
set_option maxHeartbeats 4000000 in
theorem mtr_X4_requireSlot (i0 : Int32) (S0 : PH) (y0 : Unit × PH) (h : m_X4_requireSlot i0 S0 = some (.inr y0.1, y0.2)) : MT yX4_requireSlot (.code yX4_requireSlot cX4_requireSlot 1 (Option.none : Option FieldType)) 6 90 0 0 [.int i0] S0 (oQ e_V (qN y0)) := by
  generalize hyr : ((.inr y0.1 : Nat ⊕ Unit), y0.2) = y at h
  refine mt_of (own := RX4) (l0 := [(0, .int i0)]) rfl rfl (by exact Nat.le_of_ble_eq_true rfl) (by rfl) ?_
  intro Z hC hQ hE hN
  have J_9 : ∀ (S2 : PH), j_X4_requireSlot_9 i0 S2 = some y → PX Z 1 S2 0 0 9 [(0, .int i0)] [] := by
    intro S2 h
    unfold j_X4_requireSlot_9 at h
    exact z_no hyr (Option.some.inj h)
  unfold m_X4_requireSlot at h
  refine x_iload_n (i := 0) hC dX4_requireSlot_0 rfl 0 rfl ?_
  refine x_if_lt (t := 9) hC dX4_requireSlot_1 (by decide) (fun c1 => ?_) (fun c1 => ?_)
  · replace h := it_t c1 h
    exact J_9 _ h
  · replace h := it_f c1 h
    refine x_iload_n (i := 0) hC dX4_requireSlot_4 rfl 0 rfl ?_
    refine x_iconst (v := (2 : Int32)) hC dX4_requireSlot_5 (by decide) ?_
    refine x_icmp_lt (t := 20) hC dX4_requireSlot_6 (by decide) (fun c3 => ?_) (fun c3 => ?_)
    · replace h := it_t c3 h
      exact x_vret hC hQ (z_R (v := ()) hyr (Option.some.inj h)) (Nat.le_of_ble_eq_true rfl) (Nat.le_of_ble_eq_true rfl) dX4_requireSlot_20
    · replace h := it_f c3 h
      exact J_9 _ h
theorem dX4_keep_0 : decode cX4_keep 0 = .ok (.iload_n 1, 1) := by decide +kernel
theorem dX4_keep_1 : decode cX4_keep 1 = .ok (.invokestatic 207, 3) := by decide +kernel
theorem dX4_keep_4 : decode cX4_keep 4 = .ok (.aload_n 0, 1) := by decide +kernel
theorem dX4_keep_5 : decode cX4_keep 5 = .ok (.getfield 23, 3) := by decide +kernel
theorem dX4_keep_8 : decode cX4_keep 8 = .ok (.iload_n 1, 1) := by decide +kernel
theorem dX4_keep_9 : decode cX4_keep 9 = .ok (.aaload, 1) := by decide +kernel
theorem dX4_keep_10 : decode cX4_keep 10 = .ok (.astore_n 2, 1) := by decide +kernel
theorem dX4_keep_11 : decode cX4_keep 11 = .ok (.aload_n 2, 1) := by decide +kernel
theorem dX4_keep_12 : decode cX4_keep 12 = .ok (.ifnonnull 18, 3) := by decide +kernel
theorem dX4_keep_15 : decode cX4_keep 15 = .ok (.new 7, 3) := by decide +kernel
theorem dX4_keep_18 : decode cX4_keep 18 = .ok (.dup, 1) := by decide +kernel
theorem dX4_keep_19 : decode cX4_keep 19 = .ok (.invokespecial 9, 3) := by decide +kernel
theorem dX4_keep_22 : decode cX4_keep 22 = .ok (.astore_n 2, 1) := by decide +kernel
theorem dX4_keep_23 : decode cX4_keep 23 = .ok (.aload_n 0, 1) := by decide +kernel
theorem dX4_keep_24 : decode cX4_keep 24 = .ok (.getfield 23, 3) := by decide +kernel
theorem dX4_keep_27 : decode cX4_keep 27 = .ok (.iload_n 1, 1) := by decide +kernel
theorem dX4_keep_28 : decode cX4_keep 28 = .ok (.aload_n 2, 1) := by decide +kernel
theorem dX4_keep_29 : decode cX4_keep 29 = .ok (.aastore, 1) := by decide +kernel
theorem dX4_keep_30 : decode cX4_keep 30 = .ok (.aload_n 2, 1) := by decide +kernel
theorem dX4_keep_31 : decode cX4_keep 31 = .ok (.aload_n 0, 1) := by decide +kernel
theorem dX4_keep_32 : decode cX4_keep 32 = .ok (.getfield 10, 3) := by decide +kernel
theorem dX4_keep_35 : decode cX4_keep 35 = .ok (.invokevirtual 210, 3) := by decide +kernel
theorem dX4_keep_38 : decode cX4_keep 38 = .ok (.aload_n 0, 1) := by decide +kernel
theorem dX4_keep_39 : decode cX4_keep 39 = .ok (.getfield 10, 3) := by decide +kernel
theorem dX4_keep_42 : decode cX4_keep 42 = .ok (.getfield 54, 3) := by decide +kernel
theorem dX4_keep_45 : decode cX4_keep 45 = .ok (.ireturn, 1) := by decide +kernel
set_option maxRecDepth 100000 in
set_option maxHeartbeats 4000000 in
theorem mt_X4_keep (r0 : Option Nat) (i1 : Int32) (S0 : PH) (Q : (Nat ⊕ Int32) → PH → Prop) (h : w_X4_keep r0 i1 S0 Q) : MT yX4_keep (.code yX4_keep cX4_keep 3 (Option.some FieldType.int)) 7 110 21 173 [va_rf r0, .int i1] S0 (oQ e_I Q) := by
  refine mt_of (own := RX4) (l0 := [(0, va_rf r0), (1, .int i1)]) rfl rfl (by cases r0 <;> exact Nat.le_of_ble_eq_true rfl) (by cases r0 <;> rfl) ?_
  intro Z hC hQ hE hN
  have J_30 : ∀ (v15 : Option Nat) (S16 : PH), wj_X4_keep_30 r0 i1 Q v15 S16 → PX Z 3 S16 21 173 30 [(0, va_rf r0), (1, .int i1), (2, va_rf v15)] [] := by
    intro v15 S16 h
    unfold wj_X4_keep_30 at h
    refine x_aload_n (i := 2) hC dX4_keep_30 rfl 2 rfl ?_
    refine x_aload_n (i := 0) hC dX4_keep_31 rfl 0 rfl ?_
    obtain ⟨a17, ea18, ha19, h⟩ := h
    refine x_getR hC ea18 ha19 kf_4 0 (by decide) rfl q_172 dX4_keep_32 ?_
    obtain ⟨a20, ea21, ha22, h⟩ := h
    obtain ⟨v23, S24, hb25, h⟩ := h
    refine x_callV hC (st := []) (mt_X2_become _ _ _ _ hb25) ea21 ha22 kf_2 q_385 q_286 q_287 q_2 q_288 ⟨rfl, hy_X2_become⟩ ⟨Nat.le_of_ble_eq_true rfl, Nat.le_of_ble_eq_true rfl⟩ ⟨Nat.le_of_ble_eq_true rfl, Nat.le_of_ble_eq_true rfl⟩ rfl (Nat.le_of_ble_eq_true rfl) dX4_keep_35 (r_N ?_) r_NX
    show PX Z 3 S24 21 173 38 [(0, va_rf r0), (1, .int i1), (2, va_rf v15)] []
    refine x_aload_n (i := 0) hC dX4_keep_38 rfl 0 rfl ?_
    obtain ⟨a26, ea27, ha28, h⟩ := h
    refine x_getR hC ea27 ha28 kf_4 0 (by decide) rfl q_172 dX4_keep_39 ?_
    obtain ⟨a29, ea30, ha31, h⟩ := h
    refine x_getI hC ea30 ha31 kf_2 12 (by decide) rfl q_61 dX4_keep_42 ?_
    exact x_iret hC hQ (z_W h) (Nat.le_of_ble_eq_true rfl) (Nat.le_of_ble_eq_true rfl) dX4_keep_45
  unfold w_X4_keep at h
  refine x_iload_n (i := 1) hC dX4_keep_0 rfl 1 rfl ?_
  replace h := wbt_el h
  obtain ⟨v1, S2, hb57, h⟩ | ⟨j3, S4, hb57, h⟩ := h
  · refine x_callS hC (st := []) (mtr_X4_requireSlot _ _ (v1, S2) hb57) q_381 q_382 q_1 q_383 hy_X4_requireSlot ⟨Nat.le_of_ble_eq_true rfl, Nat.le_of_ble_eq_true rfl⟩ ⟨Nat.le_of_ble_eq_true rfl, Nat.le_of_ble_eq_true rfl⟩ rfl (Nat.le_of_ble_eq_true rfl) dX4_keep_1 (r_N ?_) r_NX
    show PX Z 3 S2 0 0 4 [(0, va_rf r0), (1, .int i1)] []
    refine x_aload_n (i := 0) hC dX4_keep_4 rfl 0 rfl ?_
    obtain ⟨a5, ea6, ha7, h⟩ := h
    refine x_getR hC ea6 ha7 kf_4 2 (by decide) rfl q_174 dX4_keep_5 ?_
    refine x_iload_n (i := 1) hC dX4_keep_8 rfl 1 rfl ?_
    obtain ⟨a8, ea9, ha10, h⟩ := h
    obtain ⟨hc11, h⟩ := h
    refine x_aaload8 hC ea9 ha10 hc11 dX4_keep_9 ?_
    obtain ⟨r12, hx13, h⟩ := wle_el h
    refine x_tA hx13 ?_
    refine x_astore_n (i := 2) (l' := [(2, va_rf r12), (0, va_rf r0), (1, .int i1)]) hC dX4_keep_10 rfl (⟨fun _ => c_rf r0, ⟨fun _ => rfl, trivial⟩⟩) (by decide) rfl ?_
    refine x_aload_n (i := 2) hC dX4_keep_11 rfl 0 rfl ?_
    refine x_ifnonnull (t := 30) hC dX4_keep_12 (by decide) (fun c14 => ?_) (fun c14 => ?_)
    · replace h := wit_t c14 h
      refine x_sub (l' := [(0, va_rf r0), (1, .int i1), (2, va_rf r12)]) [1, 2, 0] rfl ?_
      refine x_wid (k' := 21) (n' := 173) (by decide) (by decide) ?_
      exact J_30 _ _ h
    · replace h := wit_f c14 h
      refine x_new hC kf_2 q_23 q_24 q_2 (by decide) (Nat.le_of_ble_eq_true rfl) (Nat.le_of_ble_eq_true rfl) dX4_keep_15 (fun q32 hq33 => ?_)
      replace h := h q32 hq33
      obtain ⟨S34, hx35, h⟩ := wle_el h
      refine x_tS hx35 ?_
      refine x_dup hC dX4_keep_18 (c_rf (some q32)) ?_
      obtain ⟨a36, ea37, ha38, h⟩ := h
      refine x_callI hC (st := [va_rf (some q32)]) (mt_X2_init _ _ _ h) ea37 q_25 q_26 q_2 q_27 rfl hy_X2_init ⟨Nat.le_of_ble_eq_true rfl, Nat.le_of_ble_eq_true rfl⟩ ⟨Nat.le_of_ble_eq_true rfl, Nat.le_of_ble_eq_true rfl⟩ rfl (Nat.le_of_ble_eq_true rfl) dX4_keep_19 (r_W (fun v39 S40 h => ?_)) (r_Wx (fun _ _ h => (wq_l h).elim))
      replace h := wq_r h
      show PX Z 3 S40 21 173 22 [(2, va_rf r12), (0, va_rf r0), (1, .int i1)] [va_rf (some q32)]
      obtain ⟨r43, hx44, h⟩ := wle_el h
      refine x_tA hx44 ?_
      refine x_astore_n (i := 2) (l' := [(2, va_rf r43), (0, va_rf r0), (1, .int i1)]) hC dX4_keep_22 rfl (⟨fun _ => c_rf r12, ⟨fun _ => c_rf r0, ⟨fun _ => rfl, trivial⟩⟩⟩) (by decide) rfl ?_
      refine x_aload_n (i := 0) hC dX4_keep_23 rfl 1 rfl ?_
      obtain ⟨a45, ea46, ha47, h⟩ := h
      refine x_getR hC ea46 ha47 kf_4 2 (by decide) rfl q_174 dX4_keep_24 ?_
      refine x_iload_n (i := 1) hC dX4_keep_27 rfl 2 rfl ?_
      refine x_aload_n (i := 2) hC dX4_keep_28 rfl 0 rfl ?_
      obtain ⟨a48, ea49, ha50, h⟩ := h
      obtain ⟨a51, ea52, ha53, h⟩ := h
      obtain ⟨hc54, h⟩ := h
      obtain ⟨S55, hx56, h⟩ := wle_el h
      refine x_aastore8 (v := 0) hC ea49 ha50 ea52 ha53 hc54 dX4_keep_29 ?_
      refine x_tS hx56 ?_
      refine x_sub (l' := [(0, va_rf r0), (1, .int i1), (2, va_rf r43)]) [1, 2, 0] rfl ?_
      exact J_30 _ _ h
  · refine x_callS hC (st := []) (mt_X4_requireSlot _ _ _ hb57) q_381 q_382 q_1 q_383 hy_X4_requireSlot ⟨Nat.le_of_ble_eq_true rfl, Nat.le_of_ble_eq_true rfl⟩ ⟨Nat.le_of_ble_eq_true rfl, Nat.le_of_ble_eq_true rfl⟩ rfl (Nat.le_of_ble_eq_true rfl) dX4_keep_1 r_X (r_XX ?_)
    exact x_out hC hQ hE (z_Y h) (Nat.le_of_ble_eq_true rfl) (Nat.le_of_ble_eq_true rfl)
theorem dX4_goBack_0 : decode cX4_goBack 0 = .ok (.iload_n 1, 1) := by decide +kernel
theorem dX4_goBack_1 : decode cX4_goBack 1 = .ok (.invokestatic 207, 3) := by decide +kernel
theorem dX4_goBack_4 : decode cX4_goBack 4 = .ok (.aload_n 0, 1) := by decide +kernel
theorem dX4_goBack_5 : decode cX4_goBack 5 = .ok (.getfield 23, 3) := by decide +kernel
theorem dX4_goBack_8 : decode cX4_goBack 8 = .ok (.iload_n 1, 1) := by decide +kernel
theorem dX4_goBack_9 : decode cX4_goBack 9 = .ok (.aaload, 1) := by decide +kernel
theorem dX4_goBack_10 : decode cX4_goBack 10 = .ok (.astore_n 2, 1) := by decide +kernel
theorem dX4_goBack_11 : decode cX4_goBack 11 = .ok (.aload_n 2, 1) := by decide +kernel
theorem dX4_goBack_12 : decode cX4_goBack 12 = .ok (.ifnonnull 13, 3) := by decide +kernel
theorem dX4_goBack_15 : decode cX4_goBack 15 = .ok (.new 58, 3) := by decide +kernel
theorem dX4_goBack_18 : decode cX4_goBack 18 = .ok (.dup, 1) := by decide +kernel
theorem dX4_goBack_19 : decode cX4_goBack 19 = .ok (.ldc 213, 2) := by decide +kernel
theorem dX4_goBack_21 : decode cX4_goBack 21 = .ok (.invokespecial 62, 3) := by decide +kernel
theorem dX4_goBack_24 : decode cX4_goBack 24 = .ok (.athrow, 1) := by decide +kernel
theorem dX4_goBack_25 : decode cX4_goBack 25 = .ok (.aload_n 0, 1) := by decide +kernel
theorem dX4_goBack_26 : decode cX4_goBack 26 = .ok (.getfield 19, 3) := by decide +kernel
theorem dX4_goBack_29 : decode cX4_goBack 29 = .ok (.aload_n 0, 1) := by decide +kernel
theorem dX4_goBack_30 : decode cX4_goBack 30 = .ok (.getfield 10, 3) := by decide +kernel
theorem dX4_goBack_33 : decode cX4_goBack 33 = .ok (.invokevirtual 63, 3) := by decide +kernel
theorem dX4_goBack_36 : decode cX4_goBack 36 = .ok (.aload_n 0, 1) := by decide +kernel
theorem dX4_goBack_37 : decode cX4_goBack 37 = .ok (.getfield 10, 3) := by decide +kernel
theorem dX4_goBack_40 : decode cX4_goBack 40 = .ok (.aload_n 2, 1) := by decide +kernel
theorem dX4_goBack_41 : decode cX4_goBack 41 = .ok (.invokevirtual 210, 3) := by decide +kernel
theorem dX4_goBack_44 : decode cX4_goBack 44 = .ok (.aload_n 0, 1) := by decide +kernel
theorem dX4_goBack_45 : decode cX4_goBack 45 = .ok (.getfield 10, 3) := by decide +kernel
theorem dX4_goBack_48 : decode cX4_goBack 48 = .ok (.getfield 54, 3) := by decide +kernel
theorem dX4_goBack_51 : decode cX4_goBack 51 = .ok (.ireturn, 1) := by decide +kernel
set_option maxRecDepth 100000 in
set_option maxHeartbeats 4000000 in
theorem mt_X4_goBack (r0 : Option Nat) (i1 : Int32) (S0 : PH) (Q : (Nat ⊕ Int32) → PH → Prop) (h : w_X4_goBack r0 i1 S0 Q) : MT yX4_goBack (.code yX4_goBack cX4_goBack 3 (Option.some FieldType.int)) 7 110 21 173 [va_rf r0, .int i1] S0 (oQ e_I Q) := by
  refine mt_of (own := RX4) (l0 := [(0, va_rf r0), (1, .int i1)]) rfl rfl (by cases r0 <;> exact Nat.le_of_ble_eq_true rfl) (by cases r0 <;> rfl) ?_
  intro Z hC hQ hE hN
  unfold w_X4_goBack at h
  refine x_iload_n (i := 1) hC dX4_goBack_0 rfl 1 rfl ?_
  replace h := wbt_el h
  obtain ⟨v1, S2, hb37, h⟩ | ⟨j3, S4, hb37, h⟩ := h
  · refine x_callS hC (st := []) (mtr_X4_requireSlot _ _ (v1, S2) hb37) q_381 q_382 q_1 q_383 hy_X4_requireSlot ⟨Nat.le_of_ble_eq_true rfl, Nat.le_of_ble_eq_true rfl⟩ ⟨Nat.le_of_ble_eq_true rfl, Nat.le_of_ble_eq_true rfl⟩ rfl (Nat.le_of_ble_eq_true rfl) dX4_goBack_1 (r_N ?_) r_NX
    show PX Z 3 S2 0 0 4 [(0, va_rf r0), (1, .int i1)] []
    refine x_aload_n (i := 0) hC dX4_goBack_4 rfl 0 rfl ?_
    obtain ⟨a5, ea6, ha7, h⟩ := h
    refine x_getR hC ea6 ha7 kf_4 2 (by decide) rfl q_174 dX4_goBack_5 ?_
    refine x_iload_n (i := 1) hC dX4_goBack_8 rfl 1 rfl ?_
    obtain ⟨a8, ea9, ha10, h⟩ := h
    obtain ⟨hc11, h⟩ := h
    refine x_aaload8 hC ea9 ha10 hc11 dX4_goBack_9 ?_
    obtain ⟨r12, hx13, h⟩ := wle_el h
    refine x_tA hx13 ?_
    refine x_astore_n (i := 2) (l' := [(2, va_rf r12), (0, va_rf r0), (1, .int i1)]) hC dX4_goBack_10 rfl (⟨fun _ => c_rf r0, ⟨fun _ => rfl, trivial⟩⟩) (by decide) rfl ?_
    refine x_aload_n (i := 2) hC dX4_goBack_11 rfl 0 rfl ?_
    refine x_ifnonnull (t := 25) hC dX4_goBack_12 (by decide) (fun c14 => ?_) (fun c14 => ?_)
    · replace h := wit_t c14 h
      refine x_aload_n (i := 0) hC dX4_goBack_25 rfl 1 rfl ?_
      refine x_getR hC ea6 ha7 kf_4 1 (by decide) rfl q_173 dX4_goBack_26 ?_
      refine x_aload_n (i := 0) hC dX4_goBack_29 rfl 1 rfl ?_
      refine x_getR hC ea6 ha7 kf_4 0 (by decide) rfl q_172 dX4_goBack_30 ?_
      obtain ⟨a15, ea16, ha17, h⟩ := h
      refine x_callV hC (st := []) (mt_X0_save _ _ _ _ h) ea16 ha17 kf_0 q_280 q_281 q_282 q_4 q_283 ⟨rfl, hy_X0_save⟩ ⟨Nat.le_of_ble_eq_true rfl, Nat.le_of_ble_eq_true rfl⟩ ⟨Nat.le_of_ble_eq_true rfl, Nat.le_of_ble_eq_true rfl⟩ rfl (Nat.le_of_ble_eq_true rfl) dX4_goBack_33 (r_W (fun v18 S19 h => ?_)) (r_Wx (fun _ _ h => (wq_l h).elim))
      replace h := wq_r h
      show PX Z 3 S19 21 173 36 [(2, va_rf r12), (0, va_rf r0), (1, .int i1)] []
      refine x_aload_n (i := 0) hC dX4_goBack_36 rfl 1 rfl ?_
      obtain ⟨a22, ea23, ha24, h⟩ := h
      refine x_getR hC ea23 ha24 kf_4 0 (by decide) rfl q_172 dX4_goBack_37 ?_
      refine x_aload_n (i := 2) hC dX4_goBack_40 rfl 0 rfl ?_
      obtain ⟨a25, ea26, ha27, h⟩ := h
      obtain ⟨v28, S29, hb30, h⟩ := h
      refine x_callV hC (st := []) (mt_X2_become _ _ _ _ hb30) ea26 ha27 kf_2 q_385 q_286 q_287 q_2 q_288 ⟨rfl, hy_X2_become⟩ ⟨Nat.le_of_ble_eq_true rfl, Nat.le_of_ble_eq_true rfl⟩ ⟨Nat.le_of_ble_eq_true rfl, Nat.le_of_ble_eq_true rfl⟩ rfl (Nat.le_of_ble_eq_true rfl) dX4_goBack_41 (r_N ?_) r_NX
      show PX Z 3 S29 21 173 44 [(2, va_rf r12), (0, va_rf r0), (1, .int i1)] []
      refine x_aload_n (i := 0) hC dX4_goBack_44 rfl 1 rfl ?_
      obtain ⟨a31, ea32, ha33, h⟩ := h
      refine x_getR hC ea32 ha33 kf_4 0 (by decide) rfl q_172 dX4_goBack_45 ?_
      obtain ⟨a34, ea35, ha36, h⟩ := h
      refine x_getI hC ea35 ha36 kf_2 12 (by decide) rfl q_61 dX4_goBack_48 ?_
      exact x_iret hC hQ (z_W h) (Nat.le_of_ble_eq_true rfl) (Nat.le_of_ble_eq_true rfl) dX4_goBack_51
    · replace h := wit_f c14 h
      exact x_throw hC hQ hE (j := 1) (z_Y h) tx_58_62_1 (List.mem_of_getElem? (i := 20) rfl) (Nat.le_of_ble_eq_true rfl) ⟨Nat.le_of_ble_eq_true rfl, Nat.le_of_ble_eq_true rfl⟩ ⟨Nat.le_of_ble_eq_true rfl, Nat.le_of_ble_eq_true rfl⟩ (Nat.le_of_ble_eq_true rfl) (Nat.le_of_ble_eq_true rfl) dX4_goBack_15 dX4_goBack_18 dX4_goBack_19 dX4_goBack_21 dX4_goBack_24
  · refine x_callS hC (st := []) (mt_X4_requireSlot _ _ _ hb37) q_381 q_382 q_1 q_383 hy_X4_requireSlot ⟨Nat.le_of_ble_eq_true rfl, Nat.le_of_ble_eq_true rfl⟩ ⟨Nat.le_of_ble_eq_true rfl, Nat.le_of_ble_eq_true rfl⟩ rfl (Nat.le_of_ble_eq_true rfl) dX4_goBack_1 r_X (r_XX ?_)
    exact x_out hC hQ hE (z_Y h) (Nat.le_of_ble_eq_true rfl) (Nat.le_of_ble_eq_true rfl)
theorem dX4_undo_0 : decode cX4_undo 0 = .ok (.aload_n 0, 1) := by decide +kernel
theorem dX4_undo_1 : decode cX4_undo 1 = .ok (.getfield 19, 3) := by decide +kernel
theorem dX4_undo_4 : decode cX4_undo 4 = .ok (.invokevirtual 215, 3) := by decide +kernel
theorem dX4_undo_7 : decode cX4_undo 7 = .ok (.astore_n 1, 1) := by decide +kernel
theorem dX4_undo_8 : decode cX4_undo 8 = .ok (.aload_n 1, 1) := by decide +kernel
theorem dX4_undo_9 : decode cX4_undo 9 = .ok (.ifnonnull 13, 3) := by decide +kernel
theorem dX4_undo_12 : decode cX4_undo 12 = .ok (.new 58, 3) := by decide +kernel
theorem dX4_undo_15 : decode cX4_undo 15 = .ok (.dup, 1) := by decide +kernel
theorem dX4_undo_16 : decode cX4_undo 16 = .ok (.ldc 219, 2) := by decide +kernel
theorem dX4_undo_18 : decode cX4_undo 18 = .ok (.invokespecial 62, 3) := by decide +kernel
theorem dX4_undo_21 : decode cX4_undo 21 = .ok (.athrow, 1) := by decide +kernel
theorem dX4_undo_22 : decode cX4_undo 22 = .ok (.aload_n 0, 1) := by decide +kernel
theorem dX4_undo_23 : decode cX4_undo 23 = .ok (.getfield 10, 3) := by decide +kernel
theorem dX4_undo_26 : decode cX4_undo 26 = .ok (.aload_n 1, 1) := by decide +kernel
theorem dX4_undo_27 : decode cX4_undo 27 = .ok (.invokevirtual 210, 3) := by decide +kernel
theorem dX4_undo_30 : decode cX4_undo 30 = .ok (.aload_n 0, 1) := by decide +kernel
theorem dX4_undo_31 : decode cX4_undo 31 = .ok (.getfield 19, 3) := by decide +kernel
theorem dX4_undo_34 : decode cX4_undo 34 = .ok (.invokevirtual 221, 3) := by decide +kernel
theorem dX4_undo_37 : decode cX4_undo 37 = .ok (.aload_n 0, 1) := by decide +kernel
theorem dX4_undo_38 : decode cX4_undo 38 = .ok (.getfield 19, 3) := by decide +kernel
theorem dX4_undo_41 : decode cX4_undo 41 = .ok (.getfield 224, 3) := by decide +kernel
theorem dX4_undo_44 : decode cX4_undo 44 = .ok (.ireturn, 1) := by decide +kernel
set_option maxRecDepth 100000 in
set_option maxHeartbeats 4000000 in
theorem mt_X4_undo (r0 : Option Nat) (S0 : PH) (y : (Nat ⊕ Int32) × PH) (h : m_X4_undo r0 S0 = some y) : MT yX4_undo (.code yX4_undo cX4_undo 2 (Option.some FieldType.int)) 6 90 1 6 [va_rf r0] S0 (oQ e_I (qT y)) := by
  refine mt_of (own := RX4) (l0 := [(0, va_rf r0)]) rfl rfl (by cases r0 <;> exact Nat.le_of_ble_eq_true rfl) (by cases r0 <;> rfl) ?_
  intro Z hC hQ hE hN
  unfold m_X4_undo at h
  refine x_aload_n (i := 0) hC dX4_undo_0 rfl 0 rfl ?_
  replace h := dr_el h
  obtain ⟨a1, ea2, ha3, h⟩ := h
  refine x_getR hC ea2 ha3 kf_4 1 (by decide) rfl q_173 dX4_undo_1 ?_
  replace h := dr_el h
  obtain ⟨a4, ea5, ha6, h⟩ := h
  replace h := bd_el h
  obtain ⟨v7, S8, hb9, h⟩ := h
  refine x_callV hC (st := []) (mt_X0_latest _ _ _ hb9) ea5 ha6 kf_0 q_390 q_391 q_392 q_4 q_393 ⟨rfl, hy_X0_latest⟩ ⟨Nat.le_of_ble_eq_true rfl, Nat.le_of_ble_eq_true rfl⟩ ⟨Nat.le_of_ble_eq_true rfl, Nat.le_of_ble_eq_true rfl⟩ rfl (Nat.le_of_ble_eq_true rfl) dX4_undo_4 (r_N ?_) r_NX
  show PX Z 2 S8 0 0 7 [(0, va_rf r0)] [va_rf v7]
  refine x_astore_n (i := 1) (l' := [(1, va_rf v7), (0, va_rf r0)]) hC dX4_undo_7 rfl (⟨fun _ => c_rf r0, trivial⟩) (by decide) rfl ?_
  refine x_aload_n (i := 1) hC dX4_undo_8 rfl 0 rfl ?_
  refine x_ifnonnull (t := 22) hC dX4_undo_9 (by decide) (fun c10 => ?_) (fun c10 => ?_)
  · replace h := it_t c10 h
    refine x_aload_n (i := 0) hC dX4_undo_22 rfl 1 rfl ?_
    replace h := dr_el h
    obtain ⟨a11, ea12, ha13, h⟩ := h
    refine x_getR hC ea12 ha13 kf_4 0 (by decide) rfl q_172 dX4_undo_23 ?_
    refine x_aload_n (i := 1) hC dX4_undo_26 rfl 0 rfl ?_
    replace h := dr_el h
    obtain ⟨a14, ea15, ha16, h⟩ := h
    replace h := bd_el h
    obtain ⟨v17, S18, hb19, h⟩ := h
    refine x_callV hC (st := []) (mt_X2_become _ _ _ _ hb19) ea15 ha16 kf_2 q_385 q_286 q_287 q_2 q_288 ⟨rfl, hy_X2_become⟩ ⟨Nat.le_of_ble_eq_true rfl, Nat.le_of_ble_eq_true rfl⟩ ⟨Nat.le_of_ble_eq_true rfl, Nat.le_of_ble_eq_true rfl⟩ rfl (Nat.le_of_ble_eq_true rfl) dX4_undo_27 (r_N ?_) r_NX
    show PX Z 2 S18 0 0 30 [(1, va_rf v7), (0, va_rf r0)] []
    refine x_aload_n (i := 0) hC dX4_undo_30 rfl 1 rfl ?_
    replace h := dr_el h
    obtain ⟨a20, ea21, ha22, h⟩ := h
    refine x_getR hC ea21 ha22 kf_4 1 (by decide) rfl q_173 dX4_undo_31 ?_
    replace h := dr_el h
    obtain ⟨a23, ea24, ha25, h⟩ := h
    replace h := bd_el h
    obtain ⟨v26, S27, hb28, h⟩ := h
    refine x_callV hC (st := []) (mt_X0_dropLatest _ _ _ hb28) ea24 ha25 kf_0 q_399 q_400 q_401 q_4 q_402 ⟨rfl, hy_X0_dropLatest⟩ ⟨Nat.le_of_ble_eq_true rfl, Nat.le_of_ble_eq_true rfl⟩ ⟨Nat.le_of_ble_eq_true rfl, Nat.le_of_ble_eq_true rfl⟩ rfl (Nat.le_of_ble_eq_true rfl) dX4_undo_34 (r_N ?_) r_NX
    show PX Z 2 S27 0 0 37 [(1, va_rf v7), (0, va_rf r0)] []
    refine x_aload_n (i := 0) hC dX4_undo_37 rfl 1 rfl ?_
    replace h := dr_el h
    obtain ⟨a29, ea30, ha31, h⟩ := h
    refine x_getR hC ea30 ha31 kf_4 1 (by decide) rfl q_173 dX4_undo_38 ?_
    replace h := dr_el h
    obtain ⟨a32, ea33, ha34, h⟩ := h
    refine x_getI hC ea33 ha34 kf_0 2 (by decide) rfl q_117 dX4_undo_41 ?_
    exact x_iret hC hQ (z_T (Option.some.inj h)) (Nat.le_of_ble_eq_true rfl) (Nat.le_of_ble_eq_true rfl) dX4_undo_44
  · replace h := it_f c10 h
    exact x_throw hC hQ hE (j := 1) (z_X (Option.some.inj h)) tx_58_62_1 (List.mem_of_getElem? (i := 7) rfl) (Nat.le_of_ble_eq_true rfl) ⟨Nat.le_of_ble_eq_true rfl, Nat.le_of_ble_eq_true rfl⟩ ⟨Nat.le_of_ble_eq_true rfl, Nat.le_of_ble_eq_true rfl⟩ (Nat.le_of_ble_eq_true rfl) (Nat.le_of_ble_eq_true rfl) dX4_undo_12 dX4_undo_15 dX4_undo_16 dX4_undo_18 dX4_undo_21
set_option maxRecDepth 100000 in
set_option maxHeartbeats 4000000 in
theorem mtr_X4_undo (r0 : Option Nat) (S0 : PH) (y0 : Int32 × PH) (h : m_X4_undo r0 S0 = some (.inr y0.1, y0.2)) : MT yX4_undo (.code yX4_undo cX4_undo 2 (Option.some FieldType.int)) 6 90 0 0 [va_rf r0] S0 (oQ e_I (qN y0)) := by
  generalize hyr : ((.inr y0.1 : Nat ⊕ Int32), y0.2) = y at h
  refine mt_of (own := RX4) (l0 := [(0, va_rf r0)]) rfl rfl (by cases r0 <;> exact Nat.le_of_ble_eq_true rfl) (by cases r0 <;> rfl) ?_
  intro Z hC hQ hE hN
  unfold m_X4_undo at h
  refine x_aload_n (i := 0) hC dX4_undo_0 rfl 0 rfl ?_
  replace h := dr_el h
  obtain ⟨a1, ea2, ha3, h⟩ := h
  refine x_getR hC ea2 ha3 kf_4 1 (by decide) rfl q_173 dX4_undo_1 ?_
  replace h := dr_el h
  obtain ⟨a4, ea5, ha6, h⟩ := h
  replace h := bd_el h
  obtain ⟨v7, S8, hb9, h⟩ := h
  refine x_callV hC (st := []) (mt_X0_latest _ _ _ hb9) ea5 ha6 kf_0 q_390 q_391 q_392 q_4 q_393 ⟨rfl, hy_X0_latest⟩ ⟨Nat.le_of_ble_eq_true rfl, Nat.le_of_ble_eq_true rfl⟩ ⟨Nat.le_of_ble_eq_true rfl, Nat.le_of_ble_eq_true rfl⟩ rfl (Nat.le_of_ble_eq_true rfl) dX4_undo_4 (r_N ?_) r_NX
  show PX Z 2 S8 0 0 7 [(0, va_rf r0)] [va_rf v7]
  refine x_astore_n (i := 1) (l' := [(1, va_rf v7), (0, va_rf r0)]) hC dX4_undo_7 rfl (⟨fun _ => c_rf r0, trivial⟩) (by decide) rfl ?_
  refine x_aload_n (i := 1) hC dX4_undo_8 rfl 0 rfl ?_
  refine x_ifnonnull (t := 22) hC dX4_undo_9 (by decide) (fun c10 => ?_) (fun c10 => ?_)
  · replace h := it_t c10 h
    refine x_aload_n (i := 0) hC dX4_undo_22 rfl 1 rfl ?_
    replace h := dr_el h
    obtain ⟨a11, ea12, ha13, h⟩ := h
    refine x_getR hC ea12 ha13 kf_4 0 (by decide) rfl q_172 dX4_undo_23 ?_
    refine x_aload_n (i := 1) hC dX4_undo_26 rfl 0 rfl ?_
    replace h := dr_el h
    obtain ⟨a14, ea15, ha16, h⟩ := h
    replace h := bd_el h
    obtain ⟨v17, S18, hb19, h⟩ := h
    refine x_callV hC (st := []) (mt_X2_become _ _ _ _ hb19) ea15 ha16 kf_2 q_385 q_286 q_287 q_2 q_288 ⟨rfl, hy_X2_become⟩ ⟨Nat.le_of_ble_eq_true rfl, Nat.le_of_ble_eq_true rfl⟩ ⟨Nat.le_of_ble_eq_true rfl, Nat.le_of_ble_eq_true rfl⟩ rfl (Nat.le_of_ble_eq_true rfl) dX4_undo_27 (r_N ?_) r_NX
    show PX Z 2 S18 0 0 30 [(1, va_rf v7), (0, va_rf r0)] []
    refine x_aload_n (i := 0) hC dX4_undo_30 rfl 1 rfl ?_
    replace h := dr_el h
    obtain ⟨a20, ea21, ha22, h⟩ := h
    refine x_getR hC ea21 ha22 kf_4 1 (by decide) rfl q_173 dX4_undo_31 ?_
    replace h := dr_el h
    obtain ⟨a23, ea24, ha25, h⟩ := h
    replace h := bd_el h
    obtain ⟨v26, S27, hb28, h⟩ := h
    refine x_callV hC (st := []) (mt_X0_dropLatest _ _ _ hb28) ea24 ha25 kf_0 q_399 q_400 q_401 q_4 q_402 ⟨rfl, hy_X0_dropLatest⟩ ⟨Nat.le_of_ble_eq_true rfl, Nat.le_of_ble_eq_true rfl⟩ ⟨Nat.le_of_ble_eq_true rfl, Nat.le_of_ble_eq_true rfl⟩ rfl (Nat.le_of_ble_eq_true rfl) dX4_undo_34 (r_N ?_) r_NX
    show PX Z 2 S27 0 0 37 [(1, va_rf v7), (0, va_rf r0)] []
    refine x_aload_n (i := 0) hC dX4_undo_37 rfl 1 rfl ?_
    replace h := dr_el h
    obtain ⟨a29, ea30, ha31, h⟩ := h
    refine x_getR hC ea30 ha31 kf_4 1 (by decide) rfl q_173 dX4_undo_38 ?_
    replace h := dr_el h
    obtain ⟨a32, ea33, ha34, h⟩ := h
    refine x_getI hC ea33 ha34 kf_0 2 (by decide) rfl q_117 dX4_undo_41 ?_
    exact x_iret hC hQ (z_R hyr (Option.some.inj h)) (Nat.le_of_ble_eq_true rfl) (Nat.le_of_ble_eq_true rfl) dX4_undo_44
  · replace h := it_f c10 h
    exact z_no hyr (Option.some.inj h)
theorem dX4_loadOf_0 : decode cX4_loadOf 0 = .ok (.iconst 0, 1) := by decide +kernel
theorem dX4_loadOf_1 : decode cX4_loadOf 1 = .ok (.istore_n 2, 1) := by decide +kernel
theorem dX4_loadOf_2 : decode cX4_loadOf 2 = .ok (.iconst 0, 1) := by decide +kernel
theorem dX4_loadOf_3 : decode cX4_loadOf 3 = .ok (.istore_n 3, 1) := by decide +kernel
theorem dX4_loadOf_4 : decode cX4_loadOf 4 = .ok (.iload_n 3, 1) := by decide +kernel
theorem dX4_loadOf_5 : decode cX4_loadOf 5 = .ok (.bipush 8, 2) := by decide +kernel
theorem dX4_loadOf_7 : decode cX4_loadOf 7 = .ok (.if_icmp .ge 39, 3) := by decide +kernel
theorem dX4_loadOf_10 : decode cX4_loadOf 10 = .ok (.aload_n 0, 1) := by decide +kernel
theorem dX4_loadOf_11 : decode cX4_loadOf 11 = .ok (.getfield 10, 3) := by decide +kernel
theorem dX4_loadOf_14 : decode cX4_loadOf 14 = .ok (.getfield 167, 3) := by decide +kernel
theorem dX4_loadOf_17 : decode cX4_loadOf 17 = .ok (.iload_n 3, 1) := by decide +kernel
theorem dX4_loadOf_18 : decode cX4_loadOf 18 = .ok (.aaload, 1) := by decide +kernel
theorem dX4_loadOf_19 : decode cX4_loadOf 19 = .ok (.iload_n 1, 1) := by decide +kernel
theorem dX4_loadOf_20 : decode cX4_loadOf 20 = .ok (.iaload, 1) := by decide +kernel
theorem dX4_loadOf_21 : decode cX4_loadOf 21 = .ok (.iconst (-1), 1) := by decide +kernel
theorem dX4_loadOf_22 : decode cX4_loadOf 22 = .ok (.if_icmp .eq 18, 3) := by decide +kernel
theorem dX4_loadOf_25 : decode cX4_loadOf 25 = .ok (.aload_n 0, 1) := by decide +kernel
theorem dX4_loadOf_26 : decode cX4_loadOf 26 = .ok (.getfield 10, 3) := by decide +kernel
theorem dX4_loadOf_29 : decode cX4_loadOf 29 = .ok (.getfield 183, 3) := by decide +kernel
theorem dX4_loadOf_32 : decode cX4_loadOf 32 = .ok (.iload_n 3, 1) := by decide +kernel
theorem dX4_loadOf_33 : decode cX4_loadOf 33 = .ok (.iaload, 1) := by decide +kernel
theorem dX4_loadOf_34 : decode cX4_loadOf 34 = .ok (.ifCond .ne 6, 3) := by decide +kernel
theorem dX4_loadOf_37 : decode cX4_loadOf 37 = .ok (.iinc 2 1, 3) := by decide +kernel
theorem dX4_loadOf_40 : decode cX4_loadOf 40 = .ok (.iinc 3 1, 3) := by decide +kernel
theorem dX4_loadOf_43 : decode cX4_loadOf 43 = .ok (.goto (-39), 3) := by decide +kernel
theorem dX4_loadOf_46 : decode cX4_loadOf 46 = .ok (.iload_n 2, 1) := by decide +kernel
theorem dX4_loadOf_47 : decode cX4_loadOf 47 = .ok (.ireturn, 1) := by decide +kernel
set_option maxRecDepth 100000 in
set_option maxHeartbeats 4000000 in
theorem mt_X4_loadOf (r0 : Option Nat) (i1 : Int32) (S0 : PH) (y : Int32 × PH) (h : m_X4_loadOf r0 i1 S0 = some y) : MT yX4_loadOf (.code yX4_loadOf cX4_loadOf 4 (Option.some FieldType.int)) 0 0 0 0 [va_rf r0, .int i1] S0 (oQ e_I (qN y)) := by
  refine mt_of (own := RX4) (l0 := [(0, va_rf r0), (1, .int i1)]) rfl rfl (by cases r0 <;> exact Nat.le_of_ble_eq_true rfl) (by cases r0 <;> rfl) ?_
  intro Z hC hQ hE hN
  unfold m_X4_loadOf at h
  refine x_iconst (v := (0 : Int32)) hC dX4_loadOf_0 (by decide) ?_
  refine x_istore_n (i := 2) (l' := [(2, .int (0 : Int32)), (0, va_rf r0), (1, .int i1)]) hC dX4_loadOf_1 rfl (⟨fun _ => c_rf r0, ⟨fun _ => rfl, trivial⟩⟩) (by decide) rfl ?_
  refine x_iconst (v := (0 : Int32)) hC dX4_loadOf_2 (by decide) ?_
  refine x_istore_n (i := 3) (l' := [(3, .int (0 : Int32)), (2, .int (0 : Int32)), (0, va_rf r0), (1, .int i1)]) hC dX4_loadOf_3 rfl (⟨fun _ => rfl, ⟨fun _ => c_rf r0, ⟨fun _ => rfl, trivial⟩⟩⟩) (by decide) rfl ?_
  refine x_sub (l' := [(0, va_rf r0), (1, .int i1), (2, .int (0 : Int32)), (3, .int (0 : Int32))]) [2, 3, 1, 0] rfl ?_
  refine lp_sim (P := fun (t : (Int32 × Int32 × PH)) => PX Z 4 t.2.2 0 0 4 [(0, va_rf r0), (1, .int i1), (2, .int t.1), (3, .int t.2.1)] []) (G := fun r => r = y) ?_ h rfl
  clear h
  intro t x_4 h hg_4
  obtain ⟨v1, v2, S3⟩ := t
  show PX Z 4 S3 0 0 4 [(0, va_rf r0), (1, .int i1), (2, .int v1), (3, .int v2)] []
  unfold st_X4_loadOf_4 at h
  refine x_iload_n (i := 3) hC dX4_loadOf_4 rfl 3 rfl ?_
  refine x_bipush (v := (8 : Int32)) hC dX4_loadOf_5 (by decide) ?_
  refine x_icmp_ge (t := 46) hC dX4_loadOf_7 (by decide) (fun c4 => ?_) (fun c4 => ?_)
  · replace h := it_t c4 h
    replace h := ir_x h hg_4
    refine x_iload_n (i := 2) hC dX4_loadOf_46 rfl 2 rfl ?_
    exact x_iret hC hQ (z_N (Option.some.inj h)) (Nat.le_of_ble_eq_true rfl) (Nat.le_of_ble_eq_true rfl) dX4_loadOf_47
  · replace h := it_f c4 h
    refine x_aload_n (i := 0) hC dX4_loadOf_10 rfl 0 rfl ?_
    replace h := dr_el h
    obtain ⟨a5, ea6, ha7, h⟩ := h
    refine x_getR hC ea6 ha7 kf_4 0 (by decide) rfl q_172 dX4_loadOf_11 ?_
    replace h := dr_el h
    obtain ⟨a8, ea9, ha10, h⟩ := h
    refine x_getR hC ea9 ha10 kf_2 10 (by decide) rfl q_57 dX4_loadOf_14 ?_
    refine x_iload_n (i := 3) hC dX4_loadOf_17 rfl 3 rfl ?_
    replace h := dr_el h
    obtain ⟨a11, ea12, ha13, h⟩ := h
    replace h := ck_el h
    obtain ⟨hc14, h⟩ := h
    refine x_aaload9 hC ea12 ha13 hc14 dX4_loadOf_18 ?_
    refine x_iload_n (i := 1) hC dX4_loadOf_19 rfl 1 rfl ?_
    replace h := dr_el h
    obtain ⟨a15, ea16, ha17, h⟩ := h
    replace h := ck_el h
    obtain ⟨hc18, h⟩ := h
    refine x_iaload hC ea16 ha17 hc18 dX4_loadOf_20 ?_
    refine x_iconst (v := (-1 : Int32)) hC dX4_loadOf_21 (by decide) ?_
    refine x_icmp_eq (t := 40) hC dX4_loadOf_22 (by decide) (fun c19 => ?_) (fun c19 => ?_)
    · replace h := it_t c19 h
      refine x_iinc (i := 3) (v := (v2 + (1 : Int32))) (l' := [(3, .int (v2 + (1 : Int32))), (0, va_rf r0), (1, .int i1), (2, .int v1)]) hC dX4_loadOf_40 3 rfl rfl (⟨fun _ => c_rf r0, ⟨fun _ => rfl, ⟨fun _ => rfl, ⟨fun _ => rfl, trivial⟩⟩⟩⟩) (by decide) rfl ?_
      refine x_goto (t := 4) hC dX4_loadOf_43 (by decide) ?_
      refine x_sub (l' := [(0, va_rf r0), (1, .int i1), (2, .int v1), (3, .int (v2 + (1 : Int32)))]) [1, 2, 3, 0] rfl ?_
      have hb := bk_x h hg_4
      exact hb
    · replace h := it_f c19 h
      refine x_aload_n (i := 0) hC dX4_loadOf_25 rfl 0 rfl ?_
      refine x_getR hC ea6 ha7 kf_4 0 (by decide) rfl q_172 dX4_loadOf_26 ?_
      refine x_getR hC ea9 ha10 kf_2 9 (by decide) rfl q_55 dX4_loadOf_29 ?_
      refine x_iload_n (i := 3) hC dX4_loadOf_32 rfl 3 rfl ?_
      replace h := dr_el h
      obtain ⟨a20, ea21, ha22, h⟩ := h
      replace h := ck_el h
      obtain ⟨hc23, h⟩ := h
      refine x_iaload hC ea21 ha22 hc23 dX4_loadOf_33 ?_
      refine x_if_ne (t := 40) hC dX4_loadOf_34 (by decide) (fun c24 => ?_) (fun c24 => ?_)
      · replace h := it_f c24 h
        refine x_iinc (i := 3) (v := (v2 + (1 : Int32))) (l' := [(3, .int (v2 + (1 : Int32))), (0, va_rf r0), (1, .int i1), (2, .int v1)]) hC dX4_loadOf_40 3 rfl rfl (⟨fun _ => c_rf r0, ⟨fun _ => rfl, ⟨fun _ => rfl, ⟨fun _ => rfl, trivial⟩⟩⟩⟩) (by decide) rfl ?_
        refine x_goto (t := 4) hC dX4_loadOf_43 (by decide) ?_
        refine x_sub (l' := [(0, va_rf r0), (1, .int i1), (2, .int v1), (3, .int (v2 + (1 : Int32)))]) [1, 2, 3, 0] rfl ?_
        have hb := bk_x h hg_4
        exact hb
      · replace h := it_t c24 h
        refine x_iinc (i := 2) (v := (v1 + (1 : Int32))) (l' := [(2, .int (v1 + (1 : Int32))), (0, va_rf r0), (1, .int i1), (3, .int v2)]) hC dX4_loadOf_37 2 rfl rfl (⟨fun _ => c_rf r0, ⟨fun _ => rfl, ⟨fun _ => rfl, ⟨fun _ => rfl, trivial⟩⟩⟩⟩) (by decide) rfl ?_
        refine x_iinc (i := 3) (v := (v2 + (1 : Int32))) (l' := [(3, .int (v2 + (1 : Int32))), (2, .int (v1 + (1 : Int32))), (0, va_rf r0), (1, .int i1)]) hC dX4_loadOf_40 3 rfl rfl (⟨fun _ => rfl, ⟨fun _ => c_rf r0, ⟨fun _ => rfl, ⟨fun _ => rfl, trivial⟩⟩⟩⟩) (by decide) rfl ?_
        refine x_goto (t := 4) hC dX4_loadOf_43 (by decide) ?_
        refine x_sub (l' := [(0, va_rf r0), (1, .int i1), (2, .int (v1 + (1 : Int32))), (3, .int (v2 + (1 : Int32)))]) [2, 3, 1, 0] rfl ?_
        have hb := bk_x h hg_4
        exact hb
theorem dX4_writtenBy_0 : decode cX4_writtenBy 0 = .ok (.iconst 0, 1) := by decide +kernel
theorem dX4_writtenBy_1 : decode cX4_writtenBy 1 = .ok (.istore_n 2, 1) := by decide +kernel
theorem dX4_writtenBy_2 : decode cX4_writtenBy 2 = .ok (.iconst 0, 1) := by decide +kernel
theorem dX4_writtenBy_3 : decode cX4_writtenBy 3 = .ok (.istore_n 3, 1) := by decide +kernel
theorem dX4_writtenBy_4 : decode cX4_writtenBy 4 = .ok (.iload_n 3, 1) := by decide +kernel
theorem dX4_writtenBy_5 : decode cX4_writtenBy 5 = .ok (.bipush 8, 2) := by decide +kernel
theorem dX4_writtenBy_7 : decode cX4_writtenBy 7 = .ok (.if_icmp .ge 29, 3) := by decide +kernel
theorem dX4_writtenBy_10 : decode cX4_writtenBy 10 = .ok (.aload_n 0, 1) := by decide +kernel
theorem dX4_writtenBy_11 : decode cX4_writtenBy 11 = .ok (.getfield 10, 3) := by decide +kernel
theorem dX4_writtenBy_14 : decode cX4_writtenBy 14 = .ok (.getfield 167, 3) := by decide +kernel
theorem dX4_writtenBy_17 : decode cX4_writtenBy 17 = .ok (.iload_n 3, 1) := by decide +kernel
theorem dX4_writtenBy_18 : decode cX4_writtenBy 18 = .ok (.aaload, 1) := by decide +kernel
theorem dX4_writtenBy_19 : decode cX4_writtenBy 19 = .ok (.iload_n 1, 1) := by decide +kernel
theorem dX4_writtenBy_20 : decode cX4_writtenBy 20 = .ok (.iaload, 1) := by decide +kernel
theorem dX4_writtenBy_21 : decode cX4_writtenBy 21 = .ok (.invokestatic 132, 3) := by decide +kernel
theorem dX4_writtenBy_24 : decode cX4_writtenBy 24 = .ok (.ifCond .eq 6, 3) := by decide +kernel
theorem dX4_writtenBy_27 : decode cX4_writtenBy 27 = .ok (.iinc 2 1, 3) := by decide +kernel
theorem dX4_writtenBy_30 : decode cX4_writtenBy 30 = .ok (.iinc 3 1, 3) := by decide +kernel
theorem dX4_writtenBy_33 : decode cX4_writtenBy 33 = .ok (.goto (-29), 3) := by decide +kernel
theorem dX4_writtenBy_36 : decode cX4_writtenBy 36 = .ok (.iload_n 2, 1) := by decide +kernel
theorem dX4_writtenBy_37 : decode cX4_writtenBy 37 = .ok (.ireturn, 1) := by decide +kernel
set_option maxRecDepth 100000 in
set_option maxHeartbeats 4000000 in
theorem mt_X4_writtenBy (r0 : Option Nat) (i1 : Int32) (S0 : PH) (y : Int32 × PH) (h : m_X4_writtenBy r0 i1 S0 = some y) : MT yX4_writtenBy (.code yX4_writtenBy cX4_writtenBy 4 (Option.some FieldType.int)) 1 20 0 0 [va_rf r0, .int i1] S0 (oQ e_I (qN y)) := by
  refine mt_of (own := RX4) (l0 := [(0, va_rf r0), (1, .int i1)]) rfl rfl (by cases r0 <;> exact Nat.le_of_ble_eq_true rfl) (by cases r0 <;> rfl) ?_
  intro Z hC hQ hE hN
  unfold m_X4_writtenBy at h
  refine x_iconst (v := (0 : Int32)) hC dX4_writtenBy_0 (by decide) ?_
  refine x_istore_n (i := 2) (l' := [(2, .int (0 : Int32)), (0, va_rf r0), (1, .int i1)]) hC dX4_writtenBy_1 rfl (⟨fun _ => c_rf r0, ⟨fun _ => rfl, trivial⟩⟩) (by decide) rfl ?_
  refine x_iconst (v := (0 : Int32)) hC dX4_writtenBy_2 (by decide) ?_
  refine x_istore_n (i := 3) (l' := [(3, .int (0 : Int32)), (2, .int (0 : Int32)), (0, va_rf r0), (1, .int i1)]) hC dX4_writtenBy_3 rfl (⟨fun _ => rfl, ⟨fun _ => c_rf r0, ⟨fun _ => rfl, trivial⟩⟩⟩) (by decide) rfl ?_
  refine x_sub (l' := [(0, va_rf r0), (1, .int i1), (2, .int (0 : Int32)), (3, .int (0 : Int32))]) [2, 3, 1, 0] rfl ?_
  refine lp_sim (P := fun (t : (Int32 × Int32 × PH)) => PX Z 4 t.2.2 0 0 4 [(0, va_rf r0), (1, .int i1), (2, .int t.1), (3, .int t.2.1)] []) (G := fun r => r = y) ?_ h rfl
  clear h
  intro t x_4 h hg_4
  obtain ⟨v1, v2, S3⟩ := t
  show PX Z 4 S3 0 0 4 [(0, va_rf r0), (1, .int i1), (2, .int v1), (3, .int v2)] []
  unfold st_X4_writtenBy_4 at h
  refine x_iload_n (i := 3) hC dX4_writtenBy_4 rfl 3 rfl ?_
  refine x_bipush (v := (8 : Int32)) hC dX4_writtenBy_5 (by decide) ?_
  refine x_icmp_ge (t := 36) hC dX4_writtenBy_7 (by decide) (fun c4 => ?_) (fun c4 => ?_)
  · replace h := it_t c4 h
    replace h := ir_x h hg_4
    refine x_iload_n (i := 2) hC dX4_writtenBy_36 rfl 2 rfl ?_
    exact x_iret hC hQ (z_N (Option.some.inj h)) (Nat.le_of_ble_eq_true rfl) (Nat.le_of_ble_eq_true rfl) dX4_writtenBy_37
  · replace h := it_f c4 h
    refine x_aload_n (i := 0) hC dX4_writtenBy_10 rfl 0 rfl ?_
    replace h := dr_el h
    obtain ⟨a5, ea6, ha7, h⟩ := h
    refine x_getR hC ea6 ha7 kf_4 0 (by decide) rfl q_172 dX4_writtenBy_11 ?_
    replace h := dr_el h
    obtain ⟨a8, ea9, ha10, h⟩ := h
    refine x_getR hC ea9 ha10 kf_2 10 (by decide) rfl q_57 dX4_writtenBy_14 ?_
    refine x_iload_n (i := 3) hC dX4_writtenBy_17 rfl 3 rfl ?_
    replace h := dr_el h
    obtain ⟨a11, ea12, ha13, h⟩ := h
    replace h := ck_el h
    obtain ⟨hc14, h⟩ := h
    refine x_aaload9 hC ea12 ha13 hc14 dX4_writtenBy_18 ?_
    refine x_iload_n (i := 1) hC dX4_writtenBy_19 rfl 1 rfl ?_
    replace h := dr_el h
    obtain ⟨a15, ea16, ha17, h⟩ := h
    replace h := ck_el h
    obtain ⟨hc18, h⟩ := h
    refine x_iaload hC ea16 ha17 hc18 dX4_writtenBy_20 ?_
    replace h := bd_el h
    obtain ⟨v19, S20, hb21, h⟩ := h
    refine x_callS hC (st := []) (mt_X4_isScore _ _ _ hb21) q_434 q_435 q_1 q_436 hy_X4_isScore ⟨Nat.le_of_ble_eq_true rfl, Nat.le_of_ble_eq_true rfl⟩ ⟨Nat.le_of_ble_eq_true rfl, Nat.le_of_ble_eq_true rfl⟩ rfl (Nat.le_of_ble_eq_true rfl) dX4_writtenBy_21 (r_N ?_) r_NX
    show PX Z 4 S20 0 0 24 [(0, va_rf r0), (1, .int i1), (2, .int v1), (3, .int v2)] [.int v19]
    refine x_if_eq (t := 30) hC dX4_writtenBy_24 (by decide) (fun c22 => ?_) (fun c22 => ?_)
    · replace h := it_t c22 h
      refine x_iinc (i := 3) (v := (v2 + (1 : Int32))) (l' := [(3, .int (v2 + (1 : Int32))), (0, va_rf r0), (1, .int i1), (2, .int v1)]) hC dX4_writtenBy_30 3 rfl rfl (⟨fun _ => c_rf r0, ⟨fun _ => rfl, ⟨fun _ => rfl, ⟨fun _ => rfl, trivial⟩⟩⟩⟩) (by decide) rfl ?_
      refine x_goto (t := 4) hC dX4_writtenBy_33 (by decide) ?_
      refine x_sub (l' := [(0, va_rf r0), (1, .int i1), (2, .int v1), (3, .int (v2 + (1 : Int32)))]) [1, 2, 3, 0] rfl ?_
      have hb := bk_x h hg_4
      exact hb
    · replace h := it_f c22 h
      refine x_iinc (i := 2) (v := (v1 + (1 : Int32))) (l' := [(2, .int (v1 + (1 : Int32))), (0, va_rf r0), (1, .int i1), (3, .int v2)]) hC dX4_writtenBy_27 2 rfl rfl (⟨fun _ => c_rf r0, ⟨fun _ => rfl, ⟨fun _ => rfl, ⟨fun _ => rfl, trivial⟩⟩⟩⟩) (by decide) rfl ?_
      refine x_iinc (i := 3) (v := (v2 + (1 : Int32))) (l' := [(3, .int (v2 + (1 : Int32))), (2, .int (v1 + (1 : Int32))), (0, va_rf r0), (1, .int i1)]) hC dX4_writtenBy_30 3 rfl rfl (⟨fun _ => rfl, ⟨fun _ => c_rf r0, ⟨fun _ => rfl, ⟨fun _ => rfl, trivial⟩⟩⟩⟩) (by decide) rfl ?_
      refine x_goto (t := 4) hC dX4_writtenBy_33 (by decide) ?_
      refine x_sub (l' := [(0, va_rf r0), (1, .int i1), (2, .int (v1 + (1 : Int32))), (3, .int (v2 + (1 : Int32)))]) [2, 3, 1, 0] rfl ?_
      have hb := bk_x h hg_4
      exact hb
theorem dX4_papersInConflict_0 : decode cX4_papersInConflict 0 = .ok (.iconst 0, 1) := by decide +kernel
theorem dX4_papersInConflict_1 : decode cX4_papersInConflict 1 = .ok (.istore_n 2, 1) := by decide +kernel
theorem dX4_papersInConflict_2 : decode cX4_papersInConflict 2 = .ok (.iconst 0, 1) := by decide +kernel
theorem dX4_papersInConflict_3 : decode cX4_papersInConflict 3 = .ok (.istore_n 3, 1) := by decide +kernel
theorem dX4_papersInConflict_4 : decode cX4_papersInConflict 4 = .ok (.iload_n 3, 1) := by decide +kernel
theorem dX4_papersInConflict_5 : decode cX4_papersInConflict 5 = .ok (.bipush 8, 2) := by decide +kernel
theorem dX4_papersInConflict_7 : decode cX4_papersInConflict 7 = .ok (.if_icmp .ge 38, 3) := by decide +kernel
theorem dX4_papersInConflict_10 : decode cX4_papersInConflict 10 = .ok (.iload_n 3, 1) := by decide +kernel
theorem dX4_papersInConflict_11 : decode cX4_papersInConflict 11 = .ok (.aload_n 0, 1) := by decide +kernel
theorem dX4_papersInConflict_12 : decode cX4_papersInConflict 12 = .ok (.getfield 10, 3) := by decide +kernel
theorem dX4_papersInConflict_15 : decode cX4_papersInConflict 15 = .ok (.getfield 54, 3) := by decide +kernel
theorem dX4_papersInConflict_18 : decode cX4_papersInConflict 18 = .ok (.if_icmp .ge 27, 3) := by decide +kernel
theorem dX4_papersInConflict_21 : decode cX4_papersInConflict 21 = .ok (.aload_n 0, 1) := by decide +kernel
theorem dX4_papersInConflict_22 : decode cX4_papersInConflict 22 = .ok (.iload_n 3, 1) := by decide +kernel
theorem dX4_papersInConflict_23 : decode cX4_papersInConflict 23 = .ok (.invokevirtual 325, 3) := by decide +kernel
theorem dX4_papersInConflict_26 : decode cX4_papersInConflict 26 = .ok (.iload_n 1, 1) := by decide +kernel
theorem dX4_papersInConflict_27 : decode cX4_papersInConflict 27 = .ok (.invokestatic 87, 3) := by decide +kernel
theorem dX4_papersInConflict_30 : decode cX4_papersInConflict 30 = .ok (.ifCond .eq 9, 3) := by decide +kernel
theorem dX4_papersInConflict_33 : decode cX4_papersInConflict 33 = .ok (.iload_n 2, 1) := by decide +kernel
theorem dX4_papersInConflict_34 : decode cX4_papersInConflict 34 = .ok (.iconst 1, 1) := by decide +kernel
theorem dX4_papersInConflict_35 : decode cX4_papersInConflict 35 = .ok (.iload_n 3, 1) := by decide +kernel
theorem dX4_papersInConflict_36 : decode cX4_papersInConflict 36 = .ok (.ishl, 1) := by decide +kernel
theorem dX4_papersInConflict_37 : decode cX4_papersInConflict 37 = .ok (.ior, 1) := by decide +kernel
theorem dX4_papersInConflict_38 : decode cX4_papersInConflict 38 = .ok (.istore_n 2, 1) := by decide +kernel
theorem dX4_papersInConflict_39 : decode cX4_papersInConflict 39 = .ok (.iinc 3 1, 3) := by decide +kernel
theorem dX4_papersInConflict_42 : decode cX4_papersInConflict 42 = .ok (.goto (-38), 3) := by decide +kernel
theorem dX4_papersInConflict_45 : decode cX4_papersInConflict 45 = .ok (.iload_n 2, 1) := by decide +kernel
theorem dX4_papersInConflict_46 : decode cX4_papersInConflict 46 = .ok (.ireturn, 1) := by decide +kernel
set_option maxRecDepth 100000 in
set_option maxHeartbeats 4000000 in
theorem mt_X4_papersInConflict (r0 : Option Nat) (i1 : Int32) (S0 : PH) (y : Int32 × PH) (h : m_X4_papersInConflict r0 i1 S0 = some y) : MT yX4_papersInConflict (.code yX4_papersInConflict cX4_papersInConflict 4 (Option.some FieldType.int)) 3 67 0 0 [va_rf r0, .int i1] S0 (oQ e_I (qN y)) := by
  refine mt_of (own := RX4) (l0 := [(0, va_rf r0), (1, .int i1)]) rfl rfl (by cases r0 <;> exact Nat.le_of_ble_eq_true rfl) (by cases r0 <;> rfl) ?_
  intro Z hC hQ hE hN
  unfold m_X4_papersInConflict at h
  refine x_iconst (v := (0 : Int32)) hC dX4_papersInConflict_0 (by decide) ?_
  refine x_istore_n (i := 2) (l' := [(2, .int (0 : Int32)), (0, va_rf r0), (1, .int i1)]) hC dX4_papersInConflict_1 rfl (⟨fun _ => c_rf r0, ⟨fun _ => rfl, trivial⟩⟩) (by decide) rfl ?_
  refine x_iconst (v := (0 : Int32)) hC dX4_papersInConflict_2 (by decide) ?_
  refine x_istore_n (i := 3) (l' := [(3, .int (0 : Int32)), (2, .int (0 : Int32)), (0, va_rf r0), (1, .int i1)]) hC dX4_papersInConflict_3 rfl (⟨fun _ => rfl, ⟨fun _ => c_rf r0, ⟨fun _ => rfl, trivial⟩⟩⟩) (by decide) rfl ?_
  refine x_sub (l' := [(0, va_rf r0), (1, .int i1), (2, .int (0 : Int32)), (3, .int (0 : Int32))]) [2, 3, 1, 0] rfl ?_
  refine lp_sim (P := fun (t : (Int32 × Int32 × PH)) => PX Z 4 t.2.2 0 0 4 [(0, va_rf r0), (1, .int i1), (2, .int t.1), (3, .int t.2.1)] []) (G := fun r => r = y) ?_ h rfl
  clear h
  intro t x_4 h hg_4
  obtain ⟨v1, v2, S3⟩ := t
  show PX Z 4 S3 0 0 4 [(0, va_rf r0), (1, .int i1), (2, .int v1), (3, .int v2)] []
  unfold st_X4_papersInConflict_4 at h
  refine x_iload_n (i := 3) hC dX4_papersInConflict_4 rfl 3 rfl ?_
  refine x_bipush (v := (8 : Int32)) hC dX4_papersInConflict_5 (by decide) ?_
  refine x_icmp_ge (t := 45) hC dX4_papersInConflict_7 (by decide) (fun c4 => ?_) (fun c4 => ?_)
  · replace h := it_t c4 h
    replace h := ir_x h hg_4
    refine x_iload_n (i := 2) hC dX4_papersInConflict_45 rfl 2 rfl ?_
    exact x_iret hC hQ (z_N (Option.some.inj h)) (Nat.le_of_ble_eq_true rfl) (Nat.le_of_ble_eq_true rfl) dX4_papersInConflict_46
  · replace h := it_f c4 h
    refine x_iload_n (i := 3) hC dX4_papersInConflict_10 rfl 3 rfl ?_
    refine x_aload_n (i := 0) hC dX4_papersInConflict_11 rfl 0 rfl ?_
    replace h := dr_el h
    obtain ⟨a5, ea6, ha7, h⟩ := h
    refine x_getR hC ea6 ha7 kf_4 0 (by decide) rfl q_172 dX4_papersInConflict_12 ?_
    replace h := dr_el h
    obtain ⟨a8, ea9, ha10, h⟩ := h
    refine x_getI hC ea9 ha10 kf_2 12 (by decide) rfl q_61 dX4_papersInConflict_15 ?_
    refine x_icmp_ge (t := 45) hC dX4_papersInConflict_18 (by decide) (fun c11 => ?_) (fun c11 => ?_)
    · replace h := it_t c11 h
      replace h := ir_x h hg_4
      refine x_iload_n (i := 2) hC dX4_papersInConflict_45 rfl 2 rfl ?_
      exact x_iret hC hQ (z_N (Option.some.inj h)) (Nat.le_of_ble_eq_true rfl) (Nat.le_of_ble_eq_true rfl) dX4_papersInConflict_46
    · replace h := it_f c11 h
      refine x_aload_n (i := 0) hC dX4_papersInConflict_21 rfl 0 rfl ?_
      refine x_iload_n (i := 3) hC dX4_papersInConflict_22 rfl 3 rfl ?_
      replace h := bd_el h
      obtain ⟨v12, S13, hb14, h⟩ := h
      refine x_callV hC (st := []) (mt_X4_personsInConflict _ _ _ _ hb14) ea6 ha7 kf_4 q_358 q_360 qs_8 q_1 q_361 ⟨rfl, hy_X4_personsInConflict⟩ ⟨Nat.le_of_ble_eq_true rfl, Nat.le_of_ble_eq_true rfl⟩ ⟨Nat.le_of_ble_eq_true rfl, Nat.le_of_ble_eq_true rfl⟩ rfl (Nat.le_of_ble_eq_true rfl) dX4_papersInConflict_23 (r_N ?_) r_NX
      show PX Z 4 S13 0 0 26 [(0, va_rf r0), (1, .int i1), (2, .int v1), (3, .int v2)] [.int v12]
      refine x_iload_n (i := 1) hC dX4_papersInConflict_26 rfl 1 rfl ?_
      replace h := bd_el h
      obtain ⟨v15, S16, hb17, h⟩ := h
      refine x_callS hC (st := []) (mt_X4_has _ _ _ _ hb17) q_366 q_367 q_1 q_368 hy_X4_has ⟨Nat.le_of_ble_eq_true rfl, Nat.le_of_ble_eq_true rfl⟩ ⟨Nat.le_of_ble_eq_true rfl, Nat.le_of_ble_eq_true rfl⟩ rfl (Nat.le_of_ble_eq_true rfl) dX4_papersInConflict_27 (r_N ?_) r_NX
      show PX Z 4 S16 0 0 30 [(0, va_rf r0), (1, .int i1), (2, .int v1), (3, .int v2)] [.int v15]
      refine x_if_eq (t := 39) hC dX4_papersInConflict_30 (by decide) (fun c18 => ?_) (fun c18 => ?_)
      · replace h := it_t c18 h
        refine x_iinc (i := 3) (v := (v2 + (1 : Int32))) (l' := [(3, .int (v2 + (1 : Int32))), (0, va_rf r0), (1, .int i1), (2, .int v1)]) hC dX4_papersInConflict_39 3 rfl rfl (⟨fun _ => c_rf r0, ⟨fun _ => rfl, ⟨fun _ => rfl, ⟨fun _ => rfl, trivial⟩⟩⟩⟩) (by decide) rfl ?_
        refine x_goto (t := 4) hC dX4_papersInConflict_42 (by decide) ?_
        refine x_sub (l' := [(0, va_rf r0), (1, .int i1), (2, .int v1), (3, .int (v2 + (1 : Int32)))]) [1, 2, 3, 0] rfl ?_
        have hb := bk_x h hg_4
        exact hb
      · replace h := it_f c18 h
        refine x_iload_n (i := 2) hC dX4_papersInConflict_33 rfl 2 rfl ?_
        refine x_iconst (v := (1 : Int32)) hC dX4_papersInConflict_34 (by decide) ?_
        refine x_iload_n (i := 3) hC dX4_papersInConflict_35 rfl 3 rfl ?_
        refine x_ishl hC dX4_papersInConflict_36 ?_
        refine x_ior hC dX4_papersInConflict_37 ?_
        replace h := le_el h
        obtain ⟨x19, hx20, h⟩ := h
        refine x_tI hx20 ?_
        refine x_istore_n (i := 2) (l' := [(2, .int x19), (0, va_rf r0), (1, .int i1), (3, .int v2)]) hC dX4_papersInConflict_38 rfl (⟨fun _ => c_rf r0, ⟨fun _ => rfl, ⟨fun _ => rfl, ⟨fun _ => rfl, trivial⟩⟩⟩⟩) (by decide) rfl ?_
        refine x_iinc (i := 3) (v := (v2 + (1 : Int32))) (l' := [(3, .int (v2 + (1 : Int32))), (2, .int x19), (0, va_rf r0), (1, .int i1)]) hC dX4_papersInConflict_39 3 rfl rfl (⟨fun _ => rfl, ⟨fun _ => c_rf r0, ⟨fun _ => rfl, ⟨fun _ => rfl, trivial⟩⟩⟩⟩) (by decide) rfl ?_
        refine x_goto (t := 4) hC dX4_papersInConflict_42 (by decide) ?_
        refine x_sub (l' := [(0, va_rf r0), (1, .int i1), (2, .int x19), (3, .int (v2 + (1 : Int32)))]) [2, 3, 1, 0] rfl ?_
        have hb := bk_x h hg_4
        exact hb
theorem dX4_personProperty_0 : decode cX4_personProperty 0 = .ok (.iload_n 2, 1) := by decide +kernel
theorem dX4_personProperty_1 : decode cX4_personProperty 1 = .ok (.tableswitch 115 0 7 #[47, 53, 63, 73, 79, 85, 95, 105], 47) := by decide +kernel
theorem dX4_personProperty_48 : decode cX4_personProperty 48 = .ok (.aload_n 0, 1) := by decide +kernel
theorem dX4_personProperty_49 : decode cX4_personProperty 49 = .ok (.iload_n 1, 1) := by decide +kernel
theorem dX4_personProperty_50 : decode cX4_personProperty 50 = .ok (.invokevirtual 316, 3) := by decide +kernel
theorem dX4_personProperty_53 : decode cX4_personProperty 53 = .ok (.ireturn, 1) := by decide +kernel
theorem dX4_personProperty_54 : decode cX4_personProperty 54 = .ok (.aload_n 0, 1) := by decide +kernel
theorem dX4_personProperty_55 : decode cX4_personProperty 55 = .ok (.getfield 10, 3) := by decide +kernel
theorem dX4_personProperty_58 : decode cX4_personProperty 58 = .ok (.getfield 79, 3) := by decide +kernel
theorem dX4_personProperty_61 : decode cX4_personProperty 61 = .ok (.iload_n 1, 1) := by decide +kernel
theorem dX4_personProperty_62 : decode cX4_personProperty 62 = .ok (.iaload, 1) := by decide +kernel
theorem dX4_personProperty_63 : decode cX4_personProperty 63 = .ok (.ireturn, 1) := by decide +kernel
theorem dX4_personProperty_64 : decode cX4_personProperty 64 = .ok (.aload_n 0, 1) := by decide +kernel
theorem dX4_personProperty_65 : decode cX4_personProperty 65 = .ok (.getfield 10, 3) := by decide +kernel
theorem dX4_personProperty_68 : decode cX4_personProperty 68 = .ok (.getfield 84, 3) := by decide +kernel
theorem dX4_personProperty_71 : decode cX4_personProperty 71 = .ok (.iload_n 1, 1) := by decide +kernel
theorem dX4_personProperty_72 : decode cX4_personProperty 72 = .ok (.iaload, 1) := by decide +kernel
theorem dX4_personProperty_73 : decode cX4_personProperty 73 = .ok (.ireturn, 1) := by decide +kernel
theorem dX4_personProperty_74 : decode cX4_personProperty 74 = .ok (.aload_n 0, 1) := by decide +kernel
theorem dX4_personProperty_75 : decode cX4_personProperty 75 = .ok (.iload_n 1, 1) := by decide +kernel
theorem dX4_personProperty_76 : decode cX4_personProperty 76 = .ok (.invokevirtual 384, 3) := by decide +kernel
theorem dX4_personProperty_79 : decode cX4_personProperty 79 = .ok (.ireturn, 1) := by decide +kernel
theorem dX4_personProperty_80 : decode cX4_personProperty 80 = .ok (.aload_n 0, 1) := by decide +kernel
theorem dX4_personProperty_81 : decode cX4_personProperty 81 = .ok (.iload_n 1, 1) := by decide +kernel
theorem dX4_personProperty_82 : decode cX4_personProperty 82 = .ok (.invokevirtual 387, 3) := by decide +kernel
theorem dX4_personProperty_85 : decode cX4_personProperty 85 = .ok (.ireturn, 1) := by decide +kernel
theorem dX4_personProperty_86 : decode cX4_personProperty 86 = .ok (.aload_n 0, 1) := by decide +kernel
theorem dX4_personProperty_87 : decode cX4_personProperty 87 = .ok (.getfield 10, 3) := by decide +kernel
theorem dX4_personProperty_90 : decode cX4_personProperty 90 = .ok (.getfield 310, 3) := by decide +kernel
theorem dX4_personProperty_93 : decode cX4_personProperty 93 = .ok (.iload_n 1, 1) := by decide +kernel
theorem dX4_personProperty_94 : decode cX4_personProperty 94 = .ok (.iaload, 1) := by decide +kernel
theorem dX4_personProperty_95 : decode cX4_personProperty 95 = .ok (.ireturn, 1) := by decide +kernel
theorem dX4_personProperty_96 : decode cX4_personProperty 96 = .ok (.aload_n 0, 1) := by decide +kernel
theorem dX4_personProperty_97 : decode cX4_personProperty 97 = .ok (.getfield 10, 3) := by decide +kernel
theorem dX4_personProperty_100 : decode cX4_personProperty 100 = .ok (.getfield 313, 3) := by decide +kernel
theorem dX4_personProperty_103 : decode cX4_personProperty 103 = .ok (.iload_n 1, 1) := by decide +kernel
theorem dX4_personProperty_104 : decode cX4_personProperty 104 = .ok (.iaload, 1) := by decide +kernel
theorem dX4_personProperty_105 : decode cX4_personProperty 105 = .ok (.ireturn, 1) := by decide +kernel
theorem dX4_personProperty_106 : decode cX4_personProperty 106 = .ok (.aload_n 0, 1) := by decide +kernel
theorem dX4_personProperty_107 : decode cX4_personProperty 107 = .ok (.getfield 10, 3) := by decide +kernel
theorem dX4_personProperty_110 : decode cX4_personProperty 110 = .ok (.getfield 337, 3) := by decide +kernel
theorem dX4_personProperty_113 : decode cX4_personProperty 113 = .ok (.iload_n 1, 1) := by decide +kernel
theorem dX4_personProperty_114 : decode cX4_personProperty 114 = .ok (.iaload, 1) := by decide +kernel
theorem dX4_personProperty_115 : decode cX4_personProperty 115 = .ok (.ireturn, 1) := by decide +kernel
theorem dX4_personProperty_116 : decode cX4_personProperty 116 = .ok (.aload_n 0, 1) := by decide +kernel
theorem dX4_personProperty_117 : decode cX4_personProperty 117 = .ok (.iload_n 1, 1) := by decide +kernel
theorem dX4_personProperty_118 : decode cX4_personProperty 118 = .ok (.invokevirtual 390, 3) := by decide +kernel
theorem dX4_personProperty_121 : decode cX4_personProperty 121 = .ok (.ireturn, 1) := by decide +kernel
set_option maxRecDepth 100000 in
set_option maxHeartbeats 4000000 in
theorem mt_X4_personProperty (r0 : Option Nat) (i1 : Int32) (i2 : Int32) (S0 : PH) (y : Int32 × PH) (h : m_X4_personProperty r0 i1 i2 S0 = some y) : MT yX4_personProperty (.code yX4_personProperty cX4_personProperty 3 (Option.some FieldType.int)) 4 90 0 0 [va_rf r0, .int i1, .int i2] S0 (oQ e_I (qN y)) := by
  refine mt_of (own := RX4) (l0 := [(0, va_rf r0), (1, .int i1), (2, .int i2)]) rfl rfl (by cases r0 <;> exact Nat.le_of_ble_eq_true rfl) (by cases r0 <;> rfl) ?_
  intro Z hC hQ hE hN
  unfold m_X4_personProperty at h
  refine x_iload_n (i := 2) hC dX4_personProperty_0 rfl 2 rfl ?_
  rcases Decidable.em (i2 = (0 : Int32)) with c1 | c1
  · replace h := it_t c1 h
    refine x_tabIn (off := 47) (t := 48) hC dX4_personProperty_1 (by rw [c1]; decide) (by rw [c1]; decide) (by rw [c1]; decide) (by decide) ?_
    refine x_aload_n (i := 0) hC dX4_personProperty_48 rfl 0 rfl ?_
    refine x_iload_n (i := 1) hC dX4_personProperty_49 rfl 1 rfl ?_
    replace h := dr_el h
    obtain ⟨a2, ea3, ha4, h⟩ := h
    replace h := bd_el h
    obtain ⟨v5, S6, hb7, h⟩ := h
    refine x_callV hC (st := []) (mt_X4_tokensOf _ _ _ _ hb7) ea3 ha4 kf_4 q_369 q_371 qs_10 q_1 q_372 ⟨rfl, hy_X4_tokensOf⟩ ⟨Nat.le_of_ble_eq_true rfl, Nat.le_of_ble_eq_true rfl⟩ ⟨Nat.le_of_ble_eq_true rfl, Nat.le_of_ble_eq_true rfl⟩ rfl (Nat.le_of_ble_eq_true rfl) dX4_personProperty_50 (r_N ?_) r_NX
    show PX Z 3 S6 0 0 53 [(0, va_rf r0), (1, .int i1), (2, .int i2)] [.int v5]
    exact x_iret hC hQ (z_N (Option.some.inj h)) (Nat.le_of_ble_eq_true rfl) (Nat.le_of_ble_eq_true rfl) dX4_personProperty_53
  replace h := it_f c1 h
  rcases Decidable.em (i2 = (1 : Int32)) with c8 | c8
  · replace h := it_t c8 h
    refine x_tabIn (off := 53) (t := 54) hC dX4_personProperty_1 (by rw [c8]; decide) (by rw [c8]; decide) (by rw [c8]; decide) (by decide) ?_
    refine x_aload_n (i := 0) hC dX4_personProperty_54 rfl 0 rfl ?_
    replace h := dr_el h
    obtain ⟨a9, ea10, ha11, h⟩ := h
    refine x_getR hC ea10 ha11 kf_4 0 (by decide) rfl q_172 dX4_personProperty_55 ?_
    replace h := dr_el h
    obtain ⟨a12, ea13, ha14, h⟩ := h
    refine x_getR hC ea13 ha14 kf_2 0 (by decide) rfl q_37 dX4_personProperty_58 ?_
    refine x_iload_n (i := 1) hC dX4_personProperty_61 rfl 1 rfl ?_
    replace h := dr_el h
    obtain ⟨a15, ea16, ha17, h⟩ := h
    replace h := ck_el h
    obtain ⟨hc18, h⟩ := h
    refine x_iaload hC ea16 ha17 hc18 dX4_personProperty_62 ?_
    exact x_iret hC hQ (z_N (Option.some.inj h)) (Nat.le_of_ble_eq_true rfl) (Nat.le_of_ble_eq_true rfl) dX4_personProperty_63
  replace h := it_f c8 h
  rcases Decidable.em (i2 = (2 : Int32)) with c19 | c19
  · replace h := it_t c19 h
    refine x_tabIn (off := 63) (t := 64) hC dX4_personProperty_1 (by rw [c19]; decide) (by rw [c19]; decide) (by rw [c19]; decide) (by decide) ?_
    refine x_aload_n (i := 0) hC dX4_personProperty_64 rfl 0 rfl ?_
    replace h := dr_el h
    obtain ⟨a20, ea21, ha22, h⟩ := h
    refine x_getR hC ea21 ha22 kf_4 0 (by decide) rfl q_172 dX4_personProperty_65 ?_
    replace h := dr_el h
    obtain ⟨a23, ea24, ha25, h⟩ := h
    refine x_getR hC ea24 ha25 kf_2 1 (by decide) rfl q_39 dX4_personProperty_68 ?_
    refine x_iload_n (i := 1) hC dX4_personProperty_71 rfl 1 rfl ?_
    replace h := dr_el h
    obtain ⟨a26, ea27, ha28, h⟩ := h
    replace h := ck_el h
    obtain ⟨hc29, h⟩ := h
    refine x_iaload hC ea27 ha28 hc29 dX4_personProperty_72 ?_
    exact x_iret hC hQ (z_N (Option.some.inj h)) (Nat.le_of_ble_eq_true rfl) (Nat.le_of_ble_eq_true rfl) dX4_personProperty_73
  replace h := it_f c19 h
  rcases Decidable.em (i2 = (3 : Int32)) with c30 | c30
  · replace h := it_t c30 h
    refine x_tabIn (off := 73) (t := 74) hC dX4_personProperty_1 (by rw [c30]; decide) (by rw [c30]; decide) (by rw [c30]; decide) (by decide) ?_
    refine x_aload_n (i := 0) hC dX4_personProperty_74 rfl 0 rfl ?_
    refine x_iload_n (i := 1) hC dX4_personProperty_75 rfl 1 rfl ?_
    replace h := dr_el h
    obtain ⟨a31, ea32, ha33, h⟩ := h
    replace h := bd_el h
    obtain ⟨v34, S35, hb36, h⟩ := h
    refine x_callV hC (st := []) (mt_X4_loadOf _ _ _ _ hb36) ea32 ha33 kf_4 q_515 q_517 qs_22 q_1 q_518 ⟨rfl, hy_X4_loadOf⟩ ⟨Nat.le_of_ble_eq_true rfl, Nat.le_of_ble_eq_true rfl⟩ ⟨Nat.le_of_ble_eq_true rfl, Nat.le_of_ble_eq_true rfl⟩ rfl (Nat.le_of_ble_eq_true rfl) dX4_personProperty_76 (r_N ?_) r_NX
    show PX Z 3 S35 0 0 79 [(0, va_rf r0), (1, .int i1), (2, .int i2)] [.int v34]
    exact x_iret hC hQ (z_N (Option.some.inj h)) (Nat.le_of_ble_eq_true rfl) (Nat.le_of_ble_eq_true rfl) dX4_personProperty_79
  replace h := it_f c30 h
  rcases Decidable.em (i2 = (4 : Int32)) with c37 | c37
  · replace h := it_t c37 h
    refine x_tabIn (off := 79) (t := 80) hC dX4_personProperty_1 (by rw [c37]; decide) (by rw [c37]; decide) (by rw [c37]; decide) (by decide) ?_
    refine x_aload_n (i := 0) hC dX4_personProperty_80 rfl 0 rfl ?_
    refine x_iload_n (i := 1) hC dX4_personProperty_81 rfl 1 rfl ?_
    replace h := dr_el h
    obtain ⟨a38, ea39, ha40, h⟩ := h
    replace h := bd_el h
    obtain ⟨v41, S42, hb43, h⟩ := h
    refine x_callV hC (st := []) (mt_X4_writtenBy _ _ _ _ hb43) ea39 ha40 kf_4 q_519 q_521 qs_23 q_1 q_522 ⟨rfl, hy_X4_writtenBy⟩ ⟨Nat.le_of_ble_eq_true rfl, Nat.le_of_ble_eq_true rfl⟩ ⟨Nat.le_of_ble_eq_true rfl, Nat.le_of_ble_eq_true rfl⟩ rfl (Nat.le_of_ble_eq_true rfl) dX4_personProperty_82 (r_N ?_) r_NX
    show PX Z 3 S42 0 0 85 [(0, va_rf r0), (1, .int i1), (2, .int i2)] [.int v41]
    exact x_iret hC hQ (z_N (Option.some.inj h)) (Nat.le_of_ble_eq_true rfl) (Nat.le_of_ble_eq_true rfl) dX4_personProperty_85
  replace h := it_f c37 h
  rcases Decidable.em (i2 = (5 : Int32)) with c44 | c44
  · replace h := it_t c44 h
    refine x_tabIn (off := 85) (t := 86) hC dX4_personProperty_1 (by rw [c44]; decide) (by rw [c44]; decide) (by rw [c44]; decide) (by decide) ?_
    refine x_aload_n (i := 0) hC dX4_personProperty_86 rfl 0 rfl ?_
    replace h := dr_el h
    obtain ⟨a45, ea46, ha47, h⟩ := h
    refine x_getR hC ea46 ha47 kf_4 0 (by decide) rfl q_172 dX4_personProperty_87 ?_
    replace h := dr_el h
    obtain ⟨a48, ea49, ha50, h⟩ := h
    refine x_getR hC ea49 ha50 kf_2 2 (by decide) rfl q_41 dX4_personProperty_90 ?_
    refine x_iload_n (i := 1) hC dX4_personProperty_93 rfl 1 rfl ?_
    replace h := dr_el h
    obtain ⟨a51, ea52, ha53, h⟩ := h
    replace h := ck_el h
    obtain ⟨hc54, h⟩ := h
    refine x_iaload hC ea52 ha53 hc54 dX4_personProperty_94 ?_
    exact x_iret hC hQ (z_N (Option.some.inj h)) (Nat.le_of_ble_eq_true rfl) (Nat.le_of_ble_eq_true rfl) dX4_personProperty_95
  replace h := it_f c44 h
  rcases Decidable.em (i2 = (6 : Int32)) with c55 | c55
  · replace h := it_t c55 h
    refine x_tabIn (off := 95) (t := 96) hC dX4_personProperty_1 (by rw [c55]; decide) (by rw [c55]; decide) (by rw [c55]; decide) (by decide) ?_
    refine x_aload_n (i := 0) hC dX4_personProperty_96 rfl 0 rfl ?_
    replace h := dr_el h
    obtain ⟨a56, ea57, ha58, h⟩ := h
    refine x_getR hC ea57 ha58 kf_4 0 (by decide) rfl q_172 dX4_personProperty_97 ?_
    replace h := dr_el h
    obtain ⟨a59, ea60, ha61, h⟩ := h
    refine x_getR hC ea60 ha61 kf_2 3 (by decide) rfl q_43 dX4_personProperty_100 ?_
    refine x_iload_n (i := 1) hC dX4_personProperty_103 rfl 1 rfl ?_
    replace h := dr_el h
    obtain ⟨a62, ea63, ha64, h⟩ := h
    replace h := ck_el h
    obtain ⟨hc65, h⟩ := h
    refine x_iaload hC ea63 ha64 hc65 dX4_personProperty_104 ?_
    exact x_iret hC hQ (z_N (Option.some.inj h)) (Nat.le_of_ble_eq_true rfl) (Nat.le_of_ble_eq_true rfl) dX4_personProperty_105
  replace h := it_f c55 h
  rcases Decidable.em (i2 = (7 : Int32)) with c66 | c66
  · replace h := it_t c66 h
    refine x_tabIn (off := 105) (t := 106) hC dX4_personProperty_1 (by rw [c66]; decide) (by rw [c66]; decide) (by rw [c66]; decide) (by decide) ?_
    refine x_aload_n (i := 0) hC dX4_personProperty_106 rfl 0 rfl ?_
    replace h := dr_el h
    obtain ⟨a67, ea68, ha69, h⟩ := h
    refine x_getR hC ea68 ha69 kf_4 0 (by decide) rfl q_172 dX4_personProperty_107 ?_
    replace h := dr_el h
    obtain ⟨a70, ea71, ha72, h⟩ := h
    refine x_getR hC ea71 ha72 kf_2 4 (by decide) rfl q_45 dX4_personProperty_110 ?_
    refine x_iload_n (i := 1) hC dX4_personProperty_113 rfl 1 rfl ?_
    replace h := dr_el h
    obtain ⟨a73, ea74, ha75, h⟩ := h
    replace h := ck_el h
    obtain ⟨hc76, h⟩ := h
    refine x_iaload hC ea74 ha75 hc76 dX4_personProperty_114 ?_
    exact x_iret hC hQ (z_N (Option.some.inj h)) (Nat.le_of_ble_eq_true rfl) (Nat.le_of_ble_eq_true rfl) dX4_personProperty_115
  replace h := it_f c66 h
  refine x_tabOut (t := 116) hC dX4_personProperty_1 (tab_o 0 [(0 : Int32), (1 : Int32), (2 : Int32), (3 : Int32), (4 : Int32), (5 : Int32), (6 : Int32), (7 : Int32)] (by decide) (by decide) (List.forall_mem_cons.mpr ⟨c1, List.forall_mem_cons.mpr ⟨c8, List.forall_mem_cons.mpr ⟨c19, List.forall_mem_cons.mpr ⟨c30, List.forall_mem_cons.mpr ⟨c37, List.forall_mem_cons.mpr ⟨c44, List.forall_mem_cons.mpr ⟨c55, List.forall_mem_cons.mpr ⟨c66, fun _ q => nomatch q⟩⟩⟩⟩⟩⟩⟩⟩)) (by decide) ?_
  refine x_aload_n (i := 0) hC dX4_personProperty_116 rfl 0 rfl ?_
  refine x_iload_n (i := 1) hC dX4_personProperty_117 rfl 1 rfl ?_
  replace h := dr_el h
  obtain ⟨a77, ea78, ha79, h⟩ := h
  replace h := bd_el h
  obtain ⟨v80, S81, hb82, h⟩ := h
  refine x_callV hC (st := []) (mt_X4_papersInConflict _ _ _ _ hb82) ea78 ha79 kf_4 q_523 q_525 qs_24 q_1 q_526 ⟨rfl, hy_X4_papersInConflict⟩ ⟨Nat.le_of_ble_eq_true rfl, Nat.le_of_ble_eq_true rfl⟩ ⟨Nat.le_of_ble_eq_true rfl, Nat.le_of_ble_eq_true rfl⟩ rfl (Nat.le_of_ble_eq_true rfl) dX4_personProperty_118 (r_N ?_) r_NX
  show PX Z 3 S81 0 0 121 [(0, va_rf r0), (1, .int i1), (2, .int i2)] [.int v80]
  exact x_iret hC hQ (z_N (Option.some.inj h)) (Nat.le_of_ble_eq_true rfl) (Nat.le_of_ble_eq_true rfl) dX4_personProperty_121
theorem dX4_personOf_0 : decode cX4_personOf 0 = .ok (.iload_n 1, 1) := by decide +kernel
theorem dX4_personOf_1 : decode cX4_personOf 1 = .ok (.invokestatic 73, 3) := by decide +kernel
theorem dX4_personOf_4 : decode cX4_personOf 4 = .ok (.iload_n 2, 1) := by decide +kernel
theorem dX4_personOf_5 : decode cX4_personOf 5 = .ok (.ifCond .lt 9, 3) := by decide +kernel
theorem dX4_personOf_8 : decode cX4_personOf 8 = .ok (.iload_n 2, 1) := by decide +kernel
theorem dX4_personOf_9 : decode cX4_personOf 9 = .ok (.bipush 9, 2) := by decide +kernel
theorem dX4_personOf_11 : decode cX4_personOf 11 = .ok (.if_icmp .lt 13, 3) := by decide +kernel
theorem dX4_personOf_14 : decode cX4_personOf 14 = .ok (.new 45, 3) := by decide +kernel
theorem dX4_personOf_17 : decode cX4_personOf 17 = .ok (.dup, 1) := by decide +kernel
theorem dX4_personOf_18 : decode cX4_personOf 18 = .ok (.ldc 227, 2) := by decide +kernel
theorem dX4_personOf_20 : decode cX4_personOf 20 = .ok (.invokespecial 49, 3) := by decide +kernel
theorem dX4_personOf_23 : decode cX4_personOf 23 = .ok (.athrow, 1) := by decide +kernel
theorem dX4_personOf_24 : decode cX4_personOf 24 = .ok (.aload_n 0, 1) := by decide +kernel
theorem dX4_personOf_25 : decode cX4_personOf 25 = .ok (.iload_n 1, 1) := by decide +kernel
theorem dX4_personOf_26 : decode cX4_personOf 26 = .ok (.iload_n 2, 1) := by decide +kernel
theorem dX4_personOf_27 : decode cX4_personOf 27 = .ok (.invokevirtual 229, 3) := by decide +kernel
theorem dX4_personOf_30 : decode cX4_personOf 30 = .ok (.ireturn, 1) := by decide +kernel
set_option maxRecDepth 100000 in
set_option maxHeartbeats 4000000 in
theorem mt_X4_personOf (r0 : Option Nat) (i1 : Int32) (i2 : Int32) (S0 : PH) (y : (Nat ⊕ Int32) × PH) (h : m_X4_personOf r0 i1 i2 S0 = some y) : MT yX4_personOf (.code yX4_personOf cX4_personOf 3 (Option.some FieldType.int)) 7 112 1 6 [va_rf r0, .int i1, .int i2] S0 (oQ e_I (qT y)) := by
  refine mt_of (own := RX4) (l0 := [(0, va_rf r0), (1, .int i1), (2, .int i2)]) rfl rfl (by cases r0 <;> exact Nat.le_of_ble_eq_true rfl) (by cases r0 <;> rfl) ?_
  intro Z hC hQ hE hN
  have J_14 : ∀ (S6 : PH), j_X4_personOf_14 r0 i1 i2 S6 = some y → PX Z 3 S6 0 0 14 [(0, va_rf r0), (1, .int i1), (2, .int i2)] [] := by
    intro S6 h
    unfold j_X4_personOf_14 at h
    exact x_throw hC hQ hE (j := 0) (z_X (Option.some.inj h)) tx_45_49_0 (List.mem_of_getElem? (i := 10) rfl) (Nat.le_of_ble_eq_true rfl) ⟨Nat.le_of_ble_eq_true rfl, Nat.le_of_ble_eq_true rfl⟩ ⟨Nat.le_of_ble_eq_true rfl, Nat.le_of_ble_eq_true rfl⟩ (Nat.le_of_ble_eq_true rfl) (Nat.le_of_ble_eq_true rfl) dX4_personOf_14 dX4_personOf_17 dX4_personOf_18 dX4_personOf_20 dX4_personOf_23
  unfold m_X4_personOf at h
  refine x_iload_n (i := 1) hC dX4_personOf_0 rfl 1 rfl ?_
  replace h := bt_el h
  obtain ⟨v1, S2, hb14, h⟩ | ⟨j3, S4, hb14, h⟩ := h
  · refine x_callS hC (st := []) (mtr_X4_requirePerson _ _ (v1, S2) hb14) q_313 q_314 q_1 q_315 hy_X4_requirePerson ⟨Nat.le_of_ble_eq_true rfl, Nat.le_of_ble_eq_true rfl⟩ ⟨Nat.le_of_ble_eq_true rfl, Nat.le_of_ble_eq_true rfl⟩ rfl (Nat.le_of_ble_eq_true rfl) dX4_personOf_1 (r_N ?_) r_NX
    show PX Z 3 S2 0 0 4 [(0, va_rf r0), (1, .int i1), (2, .int i2)] []
    refine x_iload_n (i := 2) hC dX4_personOf_4 rfl 2 rfl ?_
    refine x_if_lt (t := 14) hC dX4_personOf_5 (by decide) (fun c5 => ?_) (fun c5 => ?_)
    · replace h := it_t c5 h
      exact J_14 _ h
    · replace h := it_f c5 h
      refine x_iload_n (i := 2) hC dX4_personOf_8 rfl 2 rfl ?_
      refine x_bipush (v := (9 : Int32)) hC dX4_personOf_9 (by decide) ?_
      refine x_icmp_lt (t := 24) hC dX4_personOf_11 (by decide) (fun c7 => ?_) (fun c7 => ?_)
      · replace h := it_t c7 h
        refine x_aload_n (i := 0) hC dX4_personOf_24 rfl 0 rfl ?_
        refine x_iload_n (i := 1) hC dX4_personOf_25 rfl 1 rfl ?_
        refine x_iload_n (i := 2) hC dX4_personOf_26 rfl 2 rfl ?_
        replace h := dr_el h
        obtain ⟨a8, ea9, ha10, h⟩ := h
        replace h := bd_el h
        obtain ⟨v11, S12, hb13, h⟩ := h
        refine x_callV hC (st := []) (mt_X4_personProperty _ _ _ _ _ hb13) ea9 ha10 kf_4 q_511 q_513 qs_21 q_1 q_514 ⟨rfl, hy_X4_personProperty⟩ ⟨Nat.le_of_ble_eq_true rfl, Nat.le_of_ble_eq_true rfl⟩ ⟨Nat.le_of_ble_eq_true rfl, Nat.le_of_ble_eq_true rfl⟩ rfl (Nat.le_of_ble_eq_true rfl) dX4_personOf_27 (r_N ?_) r_NX
        show PX Z 3 S12 0 0 30 [(0, va_rf r0), (1, .int i1), (2, .int i2)] [.int v11]
        exact x_iret hC hQ (z_T (Option.some.inj h)) (Nat.le_of_ble_eq_true rfl) (Nat.le_of_ble_eq_true rfl) dX4_personOf_30
      · replace h := it_f c7 h
        exact J_14 _ h
  · refine x_callS hC (st := []) (mt_X4_requirePerson _ _ _ hb14) q_313 q_314 q_1 q_315 hy_X4_requirePerson ⟨Nat.le_of_ble_eq_true rfl, Nat.le_of_ble_eq_true rfl⟩ ⟨Nat.le_of_ble_eq_true rfl, Nat.le_of_ble_eq_true rfl⟩ rfl (Nat.le_of_ble_eq_true rfl) dX4_personOf_1 r_X (r_XX ?_)
    exact x_out hC hQ hE (z_X (Option.some.inj h)) (Nat.le_of_ble_eq_true rfl) (Nat.le_of_ble_eq_true rfl)
set_option maxRecDepth 100000 in
set_option maxHeartbeats 4000000 in
theorem mtr_X4_personOf (r0 : Option Nat) (i1 : Int32) (i2 : Int32) (S0 : PH) (y0 : Int32 × PH) (h : m_X4_personOf r0 i1 i2 S0 = some (.inr y0.1, y0.2)) : MT yX4_personOf (.code yX4_personOf cX4_personOf 3 (Option.some FieldType.int)) 7 112 0 0 [va_rf r0, .int i1, .int i2] S0 (oQ e_I (qN y0)) := by
  generalize hyr : ((.inr y0.1 : Nat ⊕ Int32), y0.2) = y at h
  refine mt_of (own := RX4) (l0 := [(0, va_rf r0), (1, .int i1), (2, .int i2)]) rfl rfl (by cases r0 <;> exact Nat.le_of_ble_eq_true rfl) (by cases r0 <;> rfl) ?_
  intro Z hC hQ hE hN
  have J_14 : ∀ (S6 : PH), j_X4_personOf_14 r0 i1 i2 S6 = some y → PX Z 3 S6 0 0 14 [(0, va_rf r0), (1, .int i1), (2, .int i2)] [] := by
    intro S6 h
    unfold j_X4_personOf_14 at h
    exact z_no hyr (Option.some.inj h)
  unfold m_X4_personOf at h
  refine x_iload_n (i := 1) hC dX4_personOf_0 rfl 1 rfl ?_
  replace h := bt_el h
  obtain ⟨v1, S2, hb14, h⟩ | ⟨j3, S4, hb14, h⟩ := h
  · refine x_callS hC (st := []) (mtr_X4_requirePerson _ _ (v1, S2) hb14) q_313 q_314 q_1 q_315 hy_X4_requirePerson ⟨Nat.le_of_ble_eq_true rfl, Nat.le_of_ble_eq_true rfl⟩ ⟨Nat.le_of_ble_eq_true rfl, Nat.le_of_ble_eq_true rfl⟩ rfl (Nat.le_of_ble_eq_true rfl) dX4_personOf_1 (r_N ?_) r_NX
    show PX Z 3 S2 0 0 4 [(0, va_rf r0), (1, .int i1), (2, .int i2)] []
    refine x_iload_n (i := 2) hC dX4_personOf_4 rfl 2 rfl ?_
    refine x_if_lt (t := 14) hC dX4_personOf_5 (by decide) (fun c5 => ?_) (fun c5 => ?_)
    · replace h := it_t c5 h
      exact J_14 _ h
    · replace h := it_f c5 h
      refine x_iload_n (i := 2) hC dX4_personOf_8 rfl 2 rfl ?_
      refine x_bipush (v := (9 : Int32)) hC dX4_personOf_9 (by decide) ?_
      refine x_icmp_lt (t := 24) hC dX4_personOf_11 (by decide) (fun c7 => ?_) (fun c7 => ?_)
      · replace h := it_t c7 h
        refine x_aload_n (i := 0) hC dX4_personOf_24 rfl 0 rfl ?_
        refine x_iload_n (i := 1) hC dX4_personOf_25 rfl 1 rfl ?_
        refine x_iload_n (i := 2) hC dX4_personOf_26 rfl 2 rfl ?_
        replace h := dr_el h
        obtain ⟨a8, ea9, ha10, h⟩ := h
        replace h := bd_el h
        obtain ⟨v11, S12, hb13, h⟩ := h
        refine x_callV hC (st := []) (mt_X4_personProperty _ _ _ _ _ hb13) ea9 ha10 kf_4 q_511 q_513 qs_21 q_1 q_514 ⟨rfl, hy_X4_personProperty⟩ ⟨Nat.le_of_ble_eq_true rfl, Nat.le_of_ble_eq_true rfl⟩ ⟨Nat.le_of_ble_eq_true rfl, Nat.le_of_ble_eq_true rfl⟩ rfl (Nat.le_of_ble_eq_true rfl) dX4_personOf_27 (r_N ?_) r_NX
        show PX Z 3 S12 0 0 30 [(0, va_rf r0), (1, .int i1), (2, .int i2)] [.int v11]
        exact x_iret hC hQ (z_R hyr (Option.some.inj h)) (Nat.le_of_ble_eq_true rfl) (Nat.le_of_ble_eq_true rfl) dX4_personOf_30
      · replace h := it_f c7 h
        exact J_14 _ h
  · exact z_no hyr (Option.some.inj h)
theorem dX4_spreadIn_0 : decode cX4_spreadIn 0 = .ok (.bipush 9, 2) := by decide +kernel
theorem dX4_spreadIn_2 : decode cX4_spreadIn 2 = .ok (.istore_n 1, 1) := by decide +kernel
theorem dX4_spreadIn_3 : decode cX4_spreadIn 3 = .ok (.iconst 0, 1) := by decide +kernel
theorem dX4_spreadIn_4 : decode cX4_spreadIn 4 = .ok (.istore_n 2, 1) := by decide +kernel
theorem dX4_spreadIn_5 : decode cX4_spreadIn 5 = .ok (.iconst 0, 1) := by decide +kernel
theorem dX4_spreadIn_6 : decode cX4_spreadIn 6 = .ok (.istore_n 3, 1) := by decide +kernel
theorem dX4_spreadIn_7 : decode cX4_spreadIn 7 = .ok (.iload_n 3, 1) := by decide +kernel
theorem dX4_spreadIn_8 : decode cX4_spreadIn 8 = .ok (.aload_n 0, 1) := by decide +kernel
theorem dX4_spreadIn_9 : decode cX4_spreadIn 9 = .ok (.arraylength, 1) := by decide +kernel
theorem dX4_spreadIn_10 : decode cX4_spreadIn 10 = .ok (.if_icmp .ge 34, 3) := by decide +kernel
theorem dX4_spreadIn_13 : decode cX4_spreadIn 13 = .ok (.aload_n 0, 1) := by decide +kernel
theorem dX4_spreadIn_14 : decode cX4_spreadIn 14 = .ok (.iload_n 3, 1) := by decide +kernel
theorem dX4_spreadIn_15 : decode cX4_spreadIn 15 = .ok (.iaload, 1) := by decide +kernel
theorem dX4_spreadIn_16 : decode cX4_spreadIn 16 = .ok (.invokestatic 132, 3) := by decide +kernel
theorem dX4_spreadIn_19 : decode cX4_spreadIn 19 = .ok (.ifCond .eq 19, 3) := by decide +kernel
theorem dX4_spreadIn_22 : decode cX4_spreadIn 22 = .ok (.iload_n 1, 1) := by decide +kernel
theorem dX4_spreadIn_23 : decode cX4_spreadIn 23 = .ok (.aload_n 0, 1) := by decide +kernel
theorem dX4_spreadIn_24 : decode cX4_spreadIn 24 = .ok (.iload_n 3, 1) := by decide +kernel
theorem dX4_spreadIn_25 : decode cX4_spreadIn 25 = .ok (.iaload, 1) := by decide +kernel
theorem dX4_spreadIn_26 : decode cX4_spreadIn 26 = .ok (.invokestatic 374, 3) := by decide +kernel
theorem dX4_spreadIn_29 : decode cX4_spreadIn 29 = .ok (.istore_n 1, 1) := by decide +kernel
theorem dX4_spreadIn_30 : decode cX4_spreadIn 30 = .ok (.iload_n 2, 1) := by decide +kernel
theorem dX4_spreadIn_31 : decode cX4_spreadIn 31 = .ok (.aload_n 0, 1) := by decide +kernel
theorem dX4_spreadIn_32 : decode cX4_spreadIn 32 = .ok (.iload_n 3, 1) := by decide +kernel
theorem dX4_spreadIn_33 : decode cX4_spreadIn 33 = .ok (.iaload, 1) := by decide +kernel
theorem dX4_spreadIn_34 : decode cX4_spreadIn 34 = .ok (.invokestatic 379, 3) := by decide +kernel
theorem dX4_spreadIn_37 : decode cX4_spreadIn 37 = .ok (.istore_n 2, 1) := by decide +kernel
theorem dX4_spreadIn_38 : decode cX4_spreadIn 38 = .ok (.iinc 3 1, 3) := by decide +kernel
theorem dX4_spreadIn_41 : decode cX4_spreadIn 41 = .ok (.goto (-34), 3) := by decide +kernel
theorem dX4_spreadIn_44 : decode cX4_spreadIn 44 = .ok (.iconst 0, 1) := by decide +kernel
theorem dX4_spreadIn_45 : decode cX4_spreadIn 45 = .ok (.iload_n 2, 1) := by decide +kernel
theorem dX4_spreadIn_46 : decode cX4_spreadIn 46 = .ok (.iload_n 1, 1) := by decide +kernel
theorem dX4_spreadIn_47 : decode cX4_spreadIn 47 = .ok (.isub, 1) := by decide +kernel
theorem dX4_spreadIn_48 : decode cX4_spreadIn 48 = .ok (.invokestatic 379, 3) := by decide +kernel
theorem dX4_spreadIn_51 : decode cX4_spreadIn 51 = .ok (.ireturn, 1) := by decide +kernel
set_option maxRecDepth 100000 in
set_option maxHeartbeats 4000000 in
theorem mt_X4_spreadIn (r0 : Option Nat) (S0 : PH) (y : Int32 × PH) (h : m_X4_spreadIn r0 S0 = some y) : MT yX4_spreadIn (.code yX4_spreadIn cX4_spreadIn 4 (Option.some FieldType.int)) 1 21 0 0 [va_rf r0] S0 (oQ e_I (qN y)) := by
  refine mt_of (own := RX4) (l0 := [(0, va_rf r0)]) rfl rfl (by cases r0 <;> exact Nat.le_of_ble_eq_true rfl) (by cases r0 <;> rfl) ?_
  intro Z hC hQ hE hN
  unfold m_X4_spreadIn at h
  refine x_bipush (v := (9 : Int32)) hC dX4_spreadIn_0 (by decide) ?_
  refine x_istore_n (i := 1) (l' := [(1, .int (9 : Int32)), (0, va_rf r0)]) hC dX4_spreadIn_2 rfl (⟨fun _ => c_rf r0, trivial⟩) (by decide) rfl ?_
  refine x_iconst (v := (0 : Int32)) hC dX4_spreadIn_3 (by decide) ?_
  refine x_istore_n (i := 2) (l' := [(2, .int (0 : Int32)), (1, .int (9 : Int32)), (0, va_rf r0)]) hC dX4_spreadIn_4 rfl (⟨fun _ => rfl, ⟨fun _ => c_rf r0, trivial⟩⟩) (by decide) rfl ?_
  refine x_iconst (v := (0 : Int32)) hC dX4_spreadIn_5 (by decide) ?_
  refine x_istore_n (i := 3) (l' := [(3, .int (0 : Int32)), (2, .int (0 : Int32)), (1, .int (9 : Int32)), (0, va_rf r0)]) hC dX4_spreadIn_6 rfl (⟨fun _ => rfl, ⟨fun _ => rfl, ⟨fun _ => c_rf r0, trivial⟩⟩⟩) (by decide) rfl ?_
  refine x_sub (l' := [(0, va_rf r0), (1, .int (9 : Int32)), (2, .int (0 : Int32)), (3, .int (0 : Int32))]) [3, 2, 1, 0] rfl ?_
  refine lp_sim (P := fun (t : (Int32 × Int32 × Int32 × PH)) => PX Z 4 t.2.2.2 0 0 7 [(0, va_rf r0), (1, .int t.1), (2, .int t.2.1), (3, .int t.2.2.1)] []) (G := fun r => r = y) ?_ h rfl
  clear h
  intro t x_7 h hg_7
  obtain ⟨v1, v2, v3, S4⟩ := t
  show PX Z 4 S4 0 0 7 [(0, va_rf r0), (1, .int v1), (2, .int v2), (3, .int v3)] []
  unfold st_X4_spreadIn_7 at h
  refine x_iload_n (i := 3) hC dX4_spreadIn_7 rfl 3 rfl ?_
  refine x_aload_n (i := 0) hC dX4_spreadIn_8 rfl 0 rfl ?_
  replace h := dr_el h
  obtain ⟨a5, ea6, ha7, h⟩ := h
  refine x_alen6 hC ea6 ha7 dX4_spreadIn_9 ?_
  refine x_icmp_ge (t := 44) hC dX4_spreadIn_10 (by decide) (fun c8 => ?_) (fun c8 => ?_)
  · replace h := it_t c8 h
    replace h := ir_x h hg_7
    refine x_iconst (v := (0 : Int32)) hC dX4_spreadIn_44 (by decide) ?_
    refine x_iload_n (i := 2) hC dX4_spreadIn_45 rfl 2 rfl ?_
    refine x_iload_n (i := 1) hC dX4_spreadIn_46 rfl 1 rfl ?_
    refine x_isub hC dX4_spreadIn_47 ?_
    refine x_mm (lo := false) hC q_543 q_maxs q_mai q_maxc (Nat.le_of_ble_eq_true rfl) ⟨Nat.le_of_ble_eq_true rfl, Nat.le_of_ble_eq_true rfl⟩ ⟨Nat.le_of_ble_eq_true rfl, Nat.le_of_ble_eq_true rfl⟩ dX4_spreadIn_48 ?_
    refine x_tI (b := (mmax (0 : Int32) (v2 - v1))) rfl ?_
    exact x_iret hC hQ (z_N (Option.some.inj h)) (Nat.le_of_ble_eq_true rfl) (Nat.le_of_ble_eq_true rfl) dX4_spreadIn_51
  · replace h := it_f c8 h
    refine x_aload_n (i := 0) hC dX4_spreadIn_13 rfl 0 rfl ?_
    refine x_iload_n (i := 3) hC dX4_spreadIn_14 rfl 3 rfl ?_
    replace h := ck_el h
    obtain ⟨hc9, h⟩ := h
    refine x_iaload hC ea6 ha7 hc9 dX4_spreadIn_15 ?_
    replace h := bd_el h
    obtain ⟨v10, S11, hb12, h⟩ := h
    refine x_callS hC (st := []) (mt_X4_isScore _ _ _ hb12) q_434 q_435 q_1 q_436 hy_X4_isScore ⟨Nat.le_of_ble_eq_true rfl, Nat.le_of_ble_eq_true rfl⟩ ⟨Nat.le_of_ble_eq_true rfl, Nat.le_of_ble_eq_true rfl⟩ rfl (Nat.le_of_ble_eq_true rfl) dX4_spreadIn_16 (r_N ?_) r_NX
    show PX Z 4 S11 0 0 19 [(0, va_rf r0), (1, .int v1), (2, .int v2), (3, .int v3)] [.int v10]
    refine x_if_eq (t := 38) hC dX4_spreadIn_19 (by decide) (fun c13 => ?_) (fun c13 => ?_)
    · replace h := it_t c13 h
      refine x_iinc (i := 3) (v := (v3 + (1 : Int32))) (l' := [(3, .int (v3 + (1 : Int32))), (0, va_rf r0), (1, .int v1), (2, .int v2)]) hC dX4_spreadIn_38 3 rfl rfl (⟨fun _ => c_rf r0, ⟨fun _ => rfl, ⟨fun _ => rfl, ⟨fun _ => rfl, trivial⟩⟩⟩⟩) (by decide) rfl ?_
      refine x_goto (t := 7) hC dX4_spreadIn_41 (by decide) ?_
      refine x_sub (l' := [(0, va_rf r0), (1, .int v1), (2, .int v2), (3, .int (v3 + (1 : Int32)))]) [1, 2, 3, 0] rfl ?_
      have hb := bk_x h hg_7
      exact hb
    · replace h := it_f c13 h
      refine x_iload_n (i := 1) hC dX4_spreadIn_22 rfl 1 rfl ?_
      refine x_aload_n (i := 0) hC dX4_spreadIn_23 rfl 0 rfl ?_
      refine x_iload_n (i := 3) hC dX4_spreadIn_24 rfl 3 rfl ?_
      replace h := dr_el h
      obtain ⟨a14, ea15, ha16, h⟩ := h
      replace h := ck_el h
      obtain ⟨hc17, h⟩ := h
      refine x_iaload hC ea15 ha16 hc17 dX4_spreadIn_25 ?_
      refine x_mm (lo := true) hC q_542 q_mins q_mai q_minc (Nat.le_of_ble_eq_true rfl) ⟨Nat.le_of_ble_eq_true rfl, Nat.le_of_ble_eq_true rfl⟩ ⟨Nat.le_of_ble_eq_true rfl, Nat.le_of_ble_eq_true rfl⟩ dX4_spreadIn_26 ?_
      refine x_tI (b := (mmin v1 (p_I S11 a14 (Int32.toNatClampNeg v3)))) rfl ?_
      replace h := le_el h
      obtain ⟨x18, hx19, h⟩ := h
      refine x_tI hx19 ?_
      refine x_istore_n (i := 1) (l' := [(1, .int x18), (0, va_rf r0), (2, .int v2), (3, .int v3)]) hC dX4_spreadIn_29 rfl (⟨fun _ => c_rf r0, ⟨fun _ => rfl, ⟨fun _ => rfl, ⟨fun _ => rfl, trivial⟩⟩⟩⟩) (by decide) rfl ?_
      refine x_iload_n (i := 2) hC dX4_spreadIn_30 rfl 2 rfl ?_
      refine x_aload_n (i := 0) hC dX4_spreadIn_31 rfl 1 rfl ?_
      refine x_iload_n (i := 3) hC dX4_spreadIn_32 rfl 3 rfl ?_
      replace h := ck_el h
      obtain ⟨hc20, h⟩ := h
      refine x_iaload hC ea15 ha16 hc20 dX4_spreadIn_33 ?_
      refine x_mm (lo := false) hC q_543 q_maxs q_mai q_maxc (Nat.le_of_ble_eq_true rfl) ⟨Nat.le_of_ble_eq_true rfl, Nat.le_of_ble_eq_true rfl⟩ ⟨Nat.le_of_ble_eq_true rfl, Nat.le_of_ble_eq_true rfl⟩ dX4_spreadIn_34 ?_
      refine x_tI (b := (mmax v2 (p_I S11 a14 (Int32.toNatClampNeg v3)))) rfl ?_
      replace h := le_el h
      obtain ⟨x21, hx22, h⟩ := h
      refine x_tI hx22 ?_
      refine x_istore_n (i := 2) (l' := [(2, .int x21), (1, .int x18), (0, va_rf r0), (3, .int v3)]) hC dX4_spreadIn_37 rfl (⟨fun _ => rfl, ⟨fun _ => c_rf r0, ⟨fun _ => rfl, ⟨fun _ => rfl, trivial⟩⟩⟩⟩) (by decide) rfl ?_
      refine x_iinc (i := 3) (v := (v3 + (1 : Int32))) (l' := [(3, .int (v3 + (1 : Int32))), (2, .int x21), (1, .int x18), (0, va_rf r0)]) hC dX4_spreadIn_38 3 rfl rfl (⟨fun _ => rfl, ⟨fun _ => rfl, ⟨fun _ => c_rf r0, ⟨fun _ => rfl, trivial⟩⟩⟩⟩) (by decide) rfl ?_
      refine x_goto (t := 7) hC dX4_spreadIn_41 (by decide) ?_
      refine x_sub (l' := [(0, va_rf r0), (1, .int x18), (2, .int x21), (3, .int (v3 + (1 : Int32)))]) [3, 2, 1, 0] rfl ?_
      have hb := bk_x h hg_7
      exact hb
theorem dX4_paperProperty_0 : decode cX4_paperProperty 0 = .ok (.aload_n 0, 1) := by decide +kernel
theorem dX4_paperProperty_1 : decode cX4_paperProperty 1 = .ok (.getfield 10, 3) := by decide +kernel
theorem dX4_paperProperty_4 : decode cX4_paperProperty 4 = .ok (.getfield 167, 3) := by decide +kernel
theorem dX4_paperProperty_7 : decode cX4_paperProperty 7 = .ok (.iload_n 1, 1) := by decide +kernel
theorem dX4_paperProperty_8 : decode cX4_paperProperty 8 = .ok (.aaload, 1) := by decide +kernel
theorem dX4_paperProperty_9 : decode cX4_paperProperty 9 = .ok (.astore_n 3, 1) := by decide +kernel
theorem dX4_paperProperty_10 : decode cX4_paperProperty 10 = .ok (.iload_n 2, 1) := by decide +kernel
theorem dX4_paperProperty_11 : decode cX4_paperProperty 11 = .ok (.tableswitch 119 0 8 #[49, 59, 69, 74, 79, 84, 89, 99, 109], 49) := by decide +kernel
theorem dX4_paperProperty_60 : decode cX4_paperProperty 60 = .ok (.aload_n 0, 1) := by decide +kernel
theorem dX4_paperProperty_61 : decode cX4_paperProperty 61 = .ok (.getfield 10, 3) := by decide +kernel
theorem dX4_paperProperty_64 : decode cX4_paperProperty 64 = .ok (.getfield 67, 3) := by decide +kernel
theorem dX4_paperProperty_67 : decode cX4_paperProperty 67 = .ok (.iload_n 1, 1) := by decide +kernel
theorem dX4_paperProperty_68 : decode cX4_paperProperty 68 = .ok (.iaload, 1) := by decide +kernel
theorem dX4_paperProperty_69 : decode cX4_paperProperty 69 = .ok (.ireturn, 1) := by decide +kernel
theorem dX4_paperProperty_70 : decode cX4_paperProperty 70 = .ok (.aload_n 0, 1) := by decide +kernel
theorem dX4_paperProperty_71 : decode cX4_paperProperty 71 = .ok (.getfield 10, 3) := by decide +kernel
theorem dX4_paperProperty_74 : decode cX4_paperProperty 74 = .ok (.getfield 70, 3) := by decide +kernel
theorem dX4_paperProperty_77 : decode cX4_paperProperty 77 = .ok (.iload_n 1, 1) := by decide +kernel
theorem dX4_paperProperty_78 : decode cX4_paperProperty 78 = .ok (.iaload, 1) := by decide +kernel
theorem dX4_paperProperty_79 : decode cX4_paperProperty 79 = .ok (.ireturn, 1) := by decide +kernel
theorem dX4_paperProperty_80 : decode cX4_paperProperty 80 = .ok (.aload_n 3, 1) := by decide +kernel
theorem dX4_paperProperty_81 : decode cX4_paperProperty 81 = .ok (.invokestatic 334, 3) := by decide +kernel
theorem dX4_paperProperty_84 : decode cX4_paperProperty 84 = .ok (.ireturn, 1) := by decide +kernel
theorem dX4_paperProperty_85 : decode cX4_paperProperty 85 = .ok (.aload_n 3, 1) := by decide +kernel
theorem dX4_paperProperty_86 : decode cX4_paperProperty 86 = .ok (.invokestatic 175, 3) := by decide +kernel
theorem dX4_paperProperty_89 : decode cX4_paperProperty 89 = .ok (.ireturn, 1) := by decide +kernel
theorem dX4_paperProperty_90 : decode cX4_paperProperty 90 = .ok (.aload_n 3, 1) := by decide +kernel
theorem dX4_paperProperty_91 : decode cX4_paperProperty 91 = .ok (.invokestatic 171, 3) := by decide +kernel
theorem dX4_paperProperty_94 : decode cX4_paperProperty 94 = .ok (.ireturn, 1) := by decide +kernel
theorem dX4_paperProperty_95 : decode cX4_paperProperty 95 = .ok (.aload_n 3, 1) := by decide +kernel
theorem dX4_paperProperty_96 : decode cX4_paperProperty 96 = .ok (.invokestatic 393, 3) := by decide +kernel
theorem dX4_paperProperty_99 : decode cX4_paperProperty 99 = .ok (.ireturn, 1) := by decide +kernel
theorem dX4_paperProperty_100 : decode cX4_paperProperty 100 = .ok (.aload_n 0, 1) := by decide +kernel
theorem dX4_paperProperty_101 : decode cX4_paperProperty 101 = .ok (.getfield 10, 3) := by decide +kernel
theorem dX4_paperProperty_104 : decode cX4_paperProperty 104 = .ok (.getfield 343, 3) := by decide +kernel
theorem dX4_paperProperty_107 : decode cX4_paperProperty 107 = .ok (.iload_n 1, 1) := by decide +kernel
theorem dX4_paperProperty_108 : decode cX4_paperProperty 108 = .ok (.iaload, 1) := by decide +kernel
theorem dX4_paperProperty_109 : decode cX4_paperProperty 109 = .ok (.ireturn, 1) := by decide +kernel
theorem dX4_paperProperty_110 : decode cX4_paperProperty 110 = .ok (.aload_n 0, 1) := by decide +kernel
theorem dX4_paperProperty_111 : decode cX4_paperProperty 111 = .ok (.getfield 10, 3) := by decide +kernel
theorem dX4_paperProperty_114 : decode cX4_paperProperty 114 = .ok (.getfield 356, 3) := by decide +kernel
theorem dX4_paperProperty_117 : decode cX4_paperProperty 117 = .ok (.iload_n 1, 1) := by decide +kernel
theorem dX4_paperProperty_118 : decode cX4_paperProperty 118 = .ok (.iaload, 1) := by decide +kernel
theorem dX4_paperProperty_119 : decode cX4_paperProperty 119 = .ok (.ireturn, 1) := by decide +kernel
theorem dX4_paperProperty_120 : decode cX4_paperProperty 120 = .ok (.aload_n 0, 1) := by decide +kernel
theorem dX4_paperProperty_121 : decode cX4_paperProperty 121 = .ok (.getfield 10, 3) := by decide +kernel
theorem dX4_paperProperty_124 : decode cX4_paperProperty 124 = .ok (.getfield 183, 3) := by decide +kernel
theorem dX4_paperProperty_127 : decode cX4_paperProperty 127 = .ok (.iload_n 1, 1) := by decide +kernel
theorem dX4_paperProperty_128 : decode cX4_paperProperty 128 = .ok (.iaload, 1) := by decide +kernel
theorem dX4_paperProperty_129 : decode cX4_paperProperty 129 = .ok (.ireturn, 1) := by decide +kernel
theorem dX4_paperProperty_130 : decode cX4_paperProperty 130 = .ok (.aload_n 0, 1) := by decide +kernel
theorem dX4_paperProperty_131 : decode cX4_paperProperty 131 = .ok (.iload_n 1, 1) := by decide +kernel
theorem dX4_paperProperty_132 : decode cX4_paperProperty 132 = .ok (.invokevirtual 162, 3) := by decide +kernel
theorem dX4_paperProperty_135 : decode cX4_paperProperty 135 = .ok (.ifCond .eq 7, 3) := by decide +kernel
theorem dX4_paperProperty_138 : decode cX4_paperProperty 138 = .ok (.iconst 1, 1) := by decide +kernel
theorem dX4_paperProperty_139 : decode cX4_paperProperty 139 = .ok (.goto 4, 3) := by decide +kernel
theorem dX4_paperProperty_142 : decode cX4_paperProperty 142 = .ok (.iconst 0, 1) := by decide +kernel
theorem dX4_paperProperty_143 : decode cX4_paperProperty 143 = .ok (.ireturn, 1) := by decide +kernel
set_option maxRecDepth 100000 in
set_option maxHeartbeats 4000000 in
theorem mt_X4_paperProperty (r0 : Option Nat) (i1 : Int32) (i2 : Int32) (S0 : PH) (y : Int32 × PH) (h : m_X4_paperProperty r0 i1 i2 S0 = some y) : MT yX4_paperProperty (.code yX4_paperProperty cX4_paperProperty 4 (Option.some FieldType.int)) 3 65 0 0 [va_rf r0, .int i1, .int i2] S0 (oQ e_I (qN y)) := by
  refine mt_of (own := RX4) (l0 := [(0, va_rf r0), (1, .int i1), (2, .int i2)]) rfl rfl (by cases r0 <;> exact Nat.le_of_ble_eq_true rfl) (by cases r0 <;> rfl) ?_
  intro Z hC hQ hE hN
  unfold m_X4_paperProperty at h
  refine x_aload_n (i := 0) hC dX4_paperProperty_0 rfl 0 rfl ?_
  replace h := dr_el h
  obtain ⟨a1, ea2, ha3, h⟩ := h
  refine x_getR hC ea2 ha3 kf_4 0 (by decide) rfl q_172 dX4_paperProperty_1 ?_
  replace h := dr_el h
  obtain ⟨a4, ea5, ha6, h⟩ := h
  refine x_getR hC ea5 ha6 kf_2 10 (by decide) rfl q_57 dX4_paperProperty_4 ?_
  refine x_iload_n (i := 1) hC dX4_paperProperty_7 rfl 1 rfl ?_
  replace h := dr_el h
  obtain ⟨a7, ea8, ha9, h⟩ := h
  replace h := ck_el h
  obtain ⟨hc10, h⟩ := h
  refine x_aaload9 hC ea8 ha9 hc10 dX4_paperProperty_8 ?_
  replace h := le_el h
  obtain ⟨r11, hx12, h⟩ := h
  refine x_tA hx12 ?_
  refine x_astore_n (i := 3) (l' := [(3, va_rf r11), (0, va_rf r0), (1, .int i1), (2, .int i2)]) hC dX4_paperProperty_9 rfl (⟨fun _ => c_rf r0, ⟨fun _ => rfl, ⟨fun _ => rfl, trivial⟩⟩⟩) (by decide) rfl ?_
  refine x_iload_n (i := 2) hC dX4_paperProperty_10 rfl 3 rfl ?_
  rcases Decidable.em (i2 = (0 : Int32)) with c13 | c13
  · replace h := it_t c13 h
    refine x_tabIn (off := 49) (t := 60) hC dX4_paperProperty_11 (by rw [c13]; decide) (by rw [c13]; decide) (by rw [c13]; decide) (by decide) ?_
    refine x_aload_n (i := 0) hC dX4_paperProperty_60 rfl 1 rfl ?_
    refine x_getR hC ea2 ha3 kf_4 0 (by decide) rfl q_172 dX4_paperProperty_61 ?_
    refine x_getR hC ea5 ha6 kf_2 5 (by decide) rfl q_47 dX4_paperProperty_64 ?_
    refine x_iload_n (i := 1) hC dX4_paperProperty_67 rfl 2 rfl ?_
    replace h := dr_el h
    obtain ⟨a14, ea15, ha16, h⟩ := h
    replace h := ck_el h
    obtain ⟨hc17, h⟩ := h
    refine x_iaload hC ea15 ha16 hc17 dX4_paperProperty_68 ?_
    exact x_iret hC hQ (z_N (Option.some.inj h)) (Nat.le_of_ble_eq_true rfl) (Nat.le_of_ble_eq_true rfl) dX4_paperProperty_69
  replace h := it_f c13 h
  rcases Decidable.em (i2 = (1 : Int32)) with c18 | c18
  · replace h := it_t c18 h
    refine x_tabIn (off := 59) (t := 70) hC dX4_paperProperty_11 (by rw [c18]; decide) (by rw [c18]; decide) (by rw [c18]; decide) (by decide) ?_
    refine x_aload_n (i := 0) hC dX4_paperProperty_70 rfl 1 rfl ?_
    refine x_getR hC ea2 ha3 kf_4 0 (by decide) rfl q_172 dX4_paperProperty_71 ?_
    refine x_getR hC ea5 ha6 kf_2 6 (by decide) rfl q_49 dX4_paperProperty_74 ?_
    refine x_iload_n (i := 1) hC dX4_paperProperty_77 rfl 2 rfl ?_
    replace h := dr_el h
    obtain ⟨a19, ea20, ha21, h⟩ := h
    replace h := ck_el h
    obtain ⟨hc22, h⟩ := h
    refine x_iaload hC ea20 ha21 hc22 dX4_paperProperty_78 ?_
    exact x_iret hC hQ (z_N (Option.some.inj h)) (Nat.le_of_ble_eq_true rfl) (Nat.le_of_ble_eq_true rfl) dX4_paperProperty_79
  replace h := it_f c18 h
  rcases Decidable.em (i2 = (2 : Int32)) with c23 | c23
  · replace h := it_t c23 h
    refine x_tabIn (off := 69) (t := 80) hC dX4_paperProperty_11 (by rw [c23]; decide) (by rw [c23]; decide) (by rw [c23]; decide) (by decide) ?_
    refine x_aload_n (i := 3) hC dX4_paperProperty_80 rfl 0 rfl ?_
    replace h := bd_el h
    obtain ⟨v24, S25, hb26, h⟩ := h
    refine x_callS hC (st := []) (mt_X4_reviewersIn _ _ _ hb26) q_349 q_350 q_1 q_351 hy_X4_reviewersIn ⟨Nat.le_of_ble_eq_true rfl, Nat.le_of_ble_eq_true rfl⟩ ⟨Nat.le_of_ble_eq_true rfl, Nat.le_of_ble_eq_true rfl⟩ rfl (Nat.le_of_ble_eq_true rfl) dX4_paperProperty_81 (r_N ?_) r_NX
    show PX Z 4 S25 0 0 84 [(3, va_rf r11), (0, va_rf r0), (1, .int i1), (2, .int i2)] [.int v24]
    exact x_iret hC hQ (z_N (Option.some.inj h)) (Nat.le_of_ble_eq_true rfl) (Nat.le_of_ble_eq_true rfl) dX4_paperProperty_84
  replace h := it_f c23 h
  rcases Decidable.em (i2 = (3 : Int32)) with c27 | c27
  · replace h := it_t c27 h
    refine x_tabIn (off := 74) (t := 85) hC dX4_paperProperty_11 (by rw [c27]; decide) (by rw [c27]; decide) (by rw [c27]; decide) (by decide) ?_
    refine x_aload_n (i := 3) hC dX4_paperProperty_85 rfl 0 rfl ?_
    replace h := bd_el h
    obtain ⟨v28, S29, hb30, h⟩ := h
    refine x_callS hC (st := []) (mt_X4_writersIn _ _ _ hb30) q_431 q_432 q_1 q_433 hy_X4_writersIn ⟨Nat.le_of_ble_eq_true rfl, Nat.le_of_ble_eq_true rfl⟩ ⟨Nat.le_of_ble_eq_true rfl, Nat.le_of_ble_eq_true rfl⟩ rfl (Nat.le_of_ble_eq_true rfl) dX4_paperProperty_86 (r_N ?_) r_NX
    show PX Z 4 S29 0 0 89 [(3, va_rf r11), (0, va_rf r0), (1, .int i1), (2, .int i2)] [.int v28]
    exact x_iret hC hQ (z_N (Option.some.inj h)) (Nat.le_of_ble_eq_true rfl) (Nat.le_of_ble_eq_true rfl) dX4_paperProperty_89
  replace h := it_f c27 h
  rcases Decidable.em (i2 = (4 : Int32)) with c31 | c31
  · replace h := it_t c31 h
    refine x_tabIn (off := 79) (t := 90) hC dX4_paperProperty_11 (by rw [c31]; decide) (by rw [c31]; decide) (by rw [c31]; decide) (by decide) ?_
    refine x_aload_n (i := 3) hC dX4_paperProperty_90 rfl 0 rfl ?_
    replace h := bd_el h
    obtain ⟨v32, S33, hb34, h⟩ := h
    refine x_callS hC (st := []) (mt_X4_sumIn _ _ _ hb34) q_536 q_537 q_1 q_538 hy_X4_sumIn ⟨Nat.le_of_ble_eq_true rfl, Nat.le_of_ble_eq_true rfl⟩ ⟨Nat.le_of_ble_eq_true rfl, Nat.le_of_ble_eq_true rfl⟩ rfl (Nat.le_of_ble_eq_true rfl) dX4_paperProperty_91 (r_N ?_) r_NX
    show PX Z 4 S33 0 0 94 [(3, va_rf r11), (0, va_rf r0), (1, .int i1), (2, .int i2)] [.int v32]
    exact x_iret hC hQ (z_N (Option.some.inj h)) (Nat.le_of_ble_eq_true rfl) (Nat.le_of_ble_eq_true rfl) dX4_paperProperty_94
  replace h := it_f c31 h
  rcases Decidable.em (i2 = (5 : Int32)) with c35 | c35
  · replace h := it_t c35 h
    refine x_tabIn (off := 84) (t := 95) hC dX4_paperProperty_11 (by rw [c35]; decide) (by rw [c35]; decide) (by rw [c35]; decide) (by decide) ?_
    refine x_aload_n (i := 3) hC dX4_paperProperty_95 rfl 0 rfl ?_
    replace h := bd_el h
    obtain ⟨v36, S37, hb38, h⟩ := h
    refine x_callS hC (st := []) (mt_X4_spreadIn _ _ _ hb38) q_539 q_540 q_1 q_541 hy_X4_spreadIn ⟨Nat.le_of_ble_eq_true rfl, Nat.le_of_ble_eq_true rfl⟩ ⟨Nat.le_of_ble_eq_true rfl, Nat.le_of_ble_eq_true rfl⟩ rfl (Nat.le_of_ble_eq_true rfl) dX4_paperProperty_96 (r_N ?_) r_NX
    show PX Z 4 S37 0 0 99 [(3, va_rf r11), (0, va_rf r0), (1, .int i1), (2, .int i2)] [.int v36]
    exact x_iret hC hQ (z_N (Option.some.inj h)) (Nat.le_of_ble_eq_true rfl) (Nat.le_of_ble_eq_true rfl) dX4_paperProperty_99
  replace h := it_f c35 h
  rcases Decidable.em (i2 = (6 : Int32)) with c39 | c39
  · replace h := it_t c39 h
    refine x_tabIn (off := 89) (t := 100) hC dX4_paperProperty_11 (by rw [c39]; decide) (by rw [c39]; decide) (by rw [c39]; decide) (by decide) ?_
    refine x_aload_n (i := 0) hC dX4_paperProperty_100 rfl 1 rfl ?_
    refine x_getR hC ea2 ha3 kf_4 0 (by decide) rfl q_172 dX4_paperProperty_101 ?_
    refine x_getR hC ea5 ha6 kf_2 7 (by decide) rfl q_51 dX4_paperProperty_104 ?_
    refine x_iload_n (i := 1) hC dX4_paperProperty_107 rfl 2 rfl ?_
    replace h := dr_el h
    obtain ⟨a40, ea41, ha42, h⟩ := h
    replace h := ck_el h
    obtain ⟨hc43, h⟩ := h
    refine x_iaload hC ea41 ha42 hc43 dX4_paperProperty_108 ?_
    exact x_iret hC hQ (z_N (Option.some.inj h)) (Nat.le_of_ble_eq_true rfl) (Nat.le_of_ble_eq_true rfl) dX4_paperProperty_109
  replace h := it_f c39 h
  rcases Decidable.em (i2 = (7 : Int32)) with c44 | c44
  · replace h := it_t c44 h
    refine x_tabIn (off := 99) (t := 110) hC dX4_paperProperty_11 (by rw [c44]; decide) (by rw [c44]; decide) (by rw [c44]; decide) (by decide) ?_
    refine x_aload_n (i := 0) hC dX4_paperProperty_110 rfl 1 rfl ?_
    refine x_getR hC ea2 ha3 kf_4 0 (by decide) rfl q_172 dX4_paperProperty_111 ?_
    refine x_getR hC ea5 ha6 kf_2 8 (by decide) rfl q_53 dX4_paperProperty_114 ?_
    refine x_iload_n (i := 1) hC dX4_paperProperty_117 rfl 2 rfl ?_
    replace h := dr_el h
    obtain ⟨a45, ea46, ha47, h⟩ := h
    replace h := ck_el h
    obtain ⟨hc48, h⟩ := h
    refine x_iaload hC ea46 ha47 hc48 dX4_paperProperty_118 ?_
    exact x_iret hC hQ (z_N (Option.some.inj h)) (Nat.le_of_ble_eq_true rfl) (Nat.le_of_ble_eq_true rfl) dX4_paperProperty_119
  replace h := it_f c44 h
  rcases Decidable.em (i2 = (8 : Int32)) with c49 | c49
  · replace h := it_t c49 h
    refine x_tabIn (off := 109) (t := 120) hC dX4_paperProperty_11 (by rw [c49]; decide) (by rw [c49]; decide) (by rw [c49]; decide) (by decide) ?_
    refine x_aload_n (i := 0) hC dX4_paperProperty_120 rfl 1 rfl ?_
    refine x_getR hC ea2 ha3 kf_4 0 (by decide) rfl q_172 dX4_paperProperty_121 ?_
    refine x_getR hC ea5 ha6 kf_2 9 (by decide) rfl q_55 dX4_paperProperty_124 ?_
    refine x_iload_n (i := 1) hC dX4_paperProperty_127 rfl 2 rfl ?_
    replace h := dr_el h
    obtain ⟨a50, ea51, ha52, h⟩ := h
    replace h := ck_el h
    obtain ⟨hc53, h⟩ := h
    refine x_iaload hC ea51 ha52 hc53 dX4_paperProperty_128 ?_
    exact x_iret hC hQ (z_N (Option.some.inj h)) (Nat.le_of_ble_eq_true rfl) (Nat.le_of_ble_eq_true rfl) dX4_paperProperty_129
  replace h := it_f c49 h
  refine x_tabOut (t := 130) hC dX4_paperProperty_11 (tab_o 0 [(0 : Int32), (1 : Int32), (2 : Int32), (3 : Int32), (4 : Int32), (5 : Int32), (6 : Int32), (7 : Int32), (8 : Int32)] (by decide) (by decide) (List.forall_mem_cons.mpr ⟨c13, List.forall_mem_cons.mpr ⟨c18, List.forall_mem_cons.mpr ⟨c23, List.forall_mem_cons.mpr ⟨c27, List.forall_mem_cons.mpr ⟨c31, List.forall_mem_cons.mpr ⟨c35, List.forall_mem_cons.mpr ⟨c39, List.forall_mem_cons.mpr ⟨c44, List.forall_mem_cons.mpr ⟨c49, fun _ q => nomatch q⟩⟩⟩⟩⟩⟩⟩⟩⟩)) (by decide) ?_
  refine x_aload_n (i := 0) hC dX4_paperProperty_130 rfl 1 rfl ?_
  refine x_iload_n (i := 1) hC dX4_paperProperty_131 rfl 2 rfl ?_
  replace h := bd_el h
  obtain ⟨v54, S55, hb56, h⟩ := h
  refine x_callV hC (st := []) (mt_X4_canDecide _ _ _ _ hb56) ea2 ha3 kf_4 q_544 q_546 qs_26 q_1 q_547 ⟨rfl, hy_X4_canDecide⟩ ⟨Nat.le_of_ble_eq_true rfl, Nat.le_of_ble_eq_true rfl⟩ ⟨Nat.le_of_ble_eq_true rfl, Nat.le_of_ble_eq_true rfl⟩ rfl (Nat.le_of_ble_eq_true rfl) dX4_paperProperty_132 (r_N ?_) r_NX
  show PX Z 4 S55 0 0 135 [(3, va_rf r11), (0, va_rf r0), (1, .int i1), (2, .int i2)] [.int v54]
  refine x_if_eq (t := 142) hC dX4_paperProperty_135 (by decide) (fun c57 => ?_) (fun c57 => ?_)
  · replace h := it_t c57 h
    refine x_iconst (v := (0 : Int32)) hC dX4_paperProperty_142 (by decide) ?_
    exact x_iret hC hQ (z_N (Option.some.inj h)) (Nat.le_of_ble_eq_true rfl) (Nat.le_of_ble_eq_true rfl) dX4_paperProperty_143
  · replace h := it_f c57 h
    refine x_iconst (v := (1 : Int32)) hC dX4_paperProperty_138 (by decide) ?_
    refine x_goto (t := 143) hC dX4_paperProperty_139 (by decide) ?_
    exact x_iret hC hQ (z_N (Option.some.inj h)) (Nat.le_of_ble_eq_true rfl) (Nat.le_of_ble_eq_true rfl) dX4_paperProperty_143
theorem dX4_paperOf_0 : decode cX4_paperOf 0 = .ok (.aload_n 0, 1) := by decide +kernel
theorem dX4_paperOf_1 : decode cX4_paperOf 1 = .ok (.iload_n 1, 1) := by decide +kernel
theorem dX4_paperOf_2 : decode cX4_paperOf 2 = .ok (.invokevirtual 125, 3) := by decide +kernel
theorem dX4_paperOf_5 : decode cX4_paperOf 5 = .ok (.iload_n 2, 1) := by decide +kernel
theorem dX4_paperOf_6 : decode cX4_paperOf 6 = .ok (.ifCond .lt 9, 3) := by decide +kernel
theorem dX4_paperOf_9 : decode cX4_paperOf 9 = .ok (.iload_n 2, 1) := by decide +kernel
theorem dX4_paperOf_10 : decode cX4_paperOf 10 = .ok (.bipush 10, 2) := by decide +kernel
theorem dX4_paperOf_12 : decode cX4_paperOf 12 = .ok (.if_icmp .lt 13, 3) := by decide +kernel
theorem dX4_paperOf_15 : decode cX4_paperOf 15 = .ok (.new 45, 3) := by decide +kernel
theorem dX4_paperOf_18 : decode cX4_paperOf 18 = .ok (.dup, 1) := by decide +kernel
theorem dX4_paperOf_19 : decode cX4_paperOf 19 = .ok (.ldc 232, 2) := by decide +kernel
theorem dX4_paperOf_21 : decode cX4_paperOf 21 = .ok (.invokespecial 49, 3) := by decide +kernel
theorem dX4_paperOf_24 : decode cX4_paperOf 24 = .ok (.athrow, 1) := by decide +kernel
theorem dX4_paperOf_25 : decode cX4_paperOf 25 = .ok (.aload_n 0, 1) := by decide +kernel
theorem dX4_paperOf_26 : decode cX4_paperOf 26 = .ok (.iload_n 1, 1) := by decide +kernel
theorem dX4_paperOf_27 : decode cX4_paperOf 27 = .ok (.iload_n 2, 1) := by decide +kernel
theorem dX4_paperOf_28 : decode cX4_paperOf 28 = .ok (.invokevirtual 234, 3) := by decide +kernel
theorem dX4_paperOf_31 : decode cX4_paperOf 31 = .ok (.ireturn, 1) := by decide +kernel
set_option maxRecDepth 100000 in
set_option maxHeartbeats 4000000 in
theorem mt_X4_paperOf (r0 : Option Nat) (i1 : Int32) (i2 : Int32) (S0 : PH) (y : (Nat ⊕ Int32) × PH) (h : m_X4_paperOf r0 i1 i2 S0 = some y) : MT yX4_paperOf (.code yX4_paperOf cX4_paperOf 3 (Option.some FieldType.int)) 7 111 1 6 [va_rf r0, .int i1, .int i2] S0 (oQ e_I (qT y)) := by
  refine mt_of (own := RX4) (l0 := [(0, va_rf r0), (1, .int i1), (2, .int i2)]) rfl rfl (by cases r0 <;> exact Nat.le_of_ble_eq_true rfl) (by cases r0 <;> rfl) ?_
  intro Z hC hQ hE hN
  have J_15 : ∀ (S9 : PH), j_X4_paperOf_15 r0 i1 i2 S9 = some y → PX Z 3 S9 0 0 15 [(0, va_rf r0), (1, .int i1), (2, .int i2)] [] := by
    intro S9 h
    unfold j_X4_paperOf_15 at h
    exact x_throw hC hQ hE (j := 0) (z_X (Option.some.inj h)) tx_45_49_0 (List.mem_of_getElem? (i := 11) rfl) (Nat.le_of_ble_eq_true rfl) ⟨Nat.le_of_ble_eq_true rfl, Nat.le_of_ble_eq_true rfl⟩ ⟨Nat.le_of_ble_eq_true rfl, Nat.le_of_ble_eq_true rfl⟩ (Nat.le_of_ble_eq_true rfl) (Nat.le_of_ble_eq_true rfl) dX4_paperOf_15 dX4_paperOf_18 dX4_paperOf_19 dX4_paperOf_21 dX4_paperOf_24
  unfold m_X4_paperOf at h
  refine x_aload_n (i := 0) hC dX4_paperOf_0 rfl 0 rfl ?_
  refine x_iload_n (i := 1) hC dX4_paperOf_1 rfl 1 rfl ?_
  replace h := dr_el h
  obtain ⟨a1, ea2, ha3, h⟩ := h
  replace h := bt_el h
  obtain ⟨v4, S5, hb17, h⟩ | ⟨j6, S7, hb17, h⟩ := h
  · refine x_callV hC (st := []) (mtr_X4_requirePaper _ _ _ (v4, S5) hb17) ea2 ha3 kf_4 q_332 q_334 qs_4 q_1 q_335 ⟨rfl, hy_X4_requirePaper⟩ ⟨Nat.le_of_ble_eq_true rfl, Nat.le_of_ble_eq_true rfl⟩ ⟨Nat.le_of_ble_eq_true rfl, Nat.le_of_ble_eq_true rfl⟩ rfl (Nat.le_of_ble_eq_true rfl) dX4_paperOf_2 (r_N ?_) r_NX
    show PX Z 3 S5 0 0 5 [(0, va_rf r0), (1, .int i1), (2, .int i2)] []
    refine x_iload_n (i := 2) hC dX4_paperOf_5 rfl 2 rfl ?_
    refine x_if_lt (t := 15) hC dX4_paperOf_6 (by decide) (fun c8 => ?_) (fun c8 => ?_)
    · replace h := it_t c8 h
      exact J_15 _ h
    · replace h := it_f c8 h
      refine x_iload_n (i := 2) hC dX4_paperOf_9 rfl 2 rfl ?_
      refine x_bipush (v := (10 : Int32)) hC dX4_paperOf_10 (by decide) ?_
      refine x_icmp_lt (t := 25) hC dX4_paperOf_12 (by decide) (fun c10 => ?_) (fun c10 => ?_)
      · replace h := it_t c10 h
        refine x_aload_n (i := 0) hC dX4_paperOf_25 rfl 0 rfl ?_
        refine x_iload_n (i := 1) hC dX4_paperOf_26 rfl 1 rfl ?_
        refine x_iload_n (i := 2) hC dX4_paperOf_27 rfl 2 rfl ?_
        replace h := dr_el h
        obtain ⟨a11, ea12, ha13, h⟩ := h
        replace h := bd_el h
        obtain ⟨v14, S15, hb16, h⟩ := h
        refine x_callV hC (st := []) (mt_X4_paperProperty _ _ _ _ _ hb16) ea12 ha13 kf_4 q_532 q_534 qs_25 q_1 q_535 ⟨rfl, hy_X4_paperProperty⟩ ⟨Nat.le_of_ble_eq_true rfl, Nat.le_of_ble_eq_true rfl⟩ ⟨Nat.le_of_ble_eq_true rfl, Nat.le_of_ble_eq_true rfl⟩ rfl (Nat.le_of_ble_eq_true rfl) dX4_paperOf_28 (r_N ?_) r_NX
        show PX Z 3 S15 0 0 31 [(0, va_rf r0), (1, .int i1), (2, .int i2)] [.int v14]
        exact x_iret hC hQ (z_T (Option.some.inj h)) (Nat.le_of_ble_eq_true rfl) (Nat.le_of_ble_eq_true rfl) dX4_paperOf_31
      · replace h := it_f c10 h
        exact J_15 _ h
  · refine x_callV hC (st := []) (mt_X4_requirePaper _ _ _ _ hb17) ea2 ha3 kf_4 q_332 q_334 qs_4 q_1 q_335 ⟨rfl, hy_X4_requirePaper⟩ ⟨Nat.le_of_ble_eq_true rfl, Nat.le_of_ble_eq_true rfl⟩ ⟨Nat.le_of_ble_eq_true rfl, Nat.le_of_ble_eq_true rfl⟩ rfl (Nat.le_of_ble_eq_true rfl) dX4_paperOf_2 r_X (r_XX ?_)
    exact x_out hC hQ hE (z_X (Option.some.inj h)) (Nat.le_of_ble_eq_true rfl) (Nat.le_of_ble_eq_true rfl)
set_option maxRecDepth 100000 in
set_option maxHeartbeats 4000000 in
theorem mtr_X4_paperOf (r0 : Option Nat) (i1 : Int32) (i2 : Int32) (S0 : PH) (y0 : Int32 × PH) (h : m_X4_paperOf r0 i1 i2 S0 = some (.inr y0.1, y0.2)) : MT yX4_paperOf (.code yX4_paperOf cX4_paperOf 3 (Option.some FieldType.int)) 7 111 0 0 [va_rf r0, .int i1, .int i2] S0 (oQ e_I (qN y0)) := by
  generalize hyr : ((.inr y0.1 : Nat ⊕ Int32), y0.2) = y at h
  refine mt_of (own := RX4) (l0 := [(0, va_rf r0), (1, .int i1), (2, .int i2)]) rfl rfl (by cases r0 <;> exact Nat.le_of_ble_eq_true rfl) (by cases r0 <;> rfl) ?_
  intro Z hC hQ hE hN
  have J_15 : ∀ (S9 : PH), j_X4_paperOf_15 r0 i1 i2 S9 = some y → PX Z 3 S9 0 0 15 [(0, va_rf r0), (1, .int i1), (2, .int i2)] [] := by
    intro S9 h
    unfold j_X4_paperOf_15 at h
    exact z_no hyr (Option.some.inj h)
  unfold m_X4_paperOf at h
  refine x_aload_n (i := 0) hC dX4_paperOf_0 rfl 0 rfl ?_
  refine x_iload_n (i := 1) hC dX4_paperOf_1 rfl 1 rfl ?_
  replace h := dr_el h
  obtain ⟨a1, ea2, ha3, h⟩ := h
  replace h := bt_el h
  obtain ⟨v4, S5, hb17, h⟩ | ⟨j6, S7, hb17, h⟩ := h
  · refine x_callV hC (st := []) (mtr_X4_requirePaper _ _ _ (v4, S5) hb17) ea2 ha3 kf_4 q_332 q_334 qs_4 q_1 q_335 ⟨rfl, hy_X4_requirePaper⟩ ⟨Nat.le_of_ble_eq_true rfl, Nat.le_of_ble_eq_true rfl⟩ ⟨Nat.le_of_ble_eq_true rfl, Nat.le_of_ble_eq_true rfl⟩ rfl (Nat.le_of_ble_eq_true rfl) dX4_paperOf_2 (r_N ?_) r_NX
    show PX Z 3 S5 0 0 5 [(0, va_rf r0), (1, .int i1), (2, .int i2)] []
    refine x_iload_n (i := 2) hC dX4_paperOf_5 rfl 2 rfl ?_
    refine x_if_lt (t := 15) hC dX4_paperOf_6 (by decide) (fun c8 => ?_) (fun c8 => ?_)
    · replace h := it_t c8 h
      exact J_15 _ h
    · replace h := it_f c8 h
      refine x_iload_n (i := 2) hC dX4_paperOf_9 rfl 2 rfl ?_
      refine x_bipush (v := (10 : Int32)) hC dX4_paperOf_10 (by decide) ?_
      refine x_icmp_lt (t := 25) hC dX4_paperOf_12 (by decide) (fun c10 => ?_) (fun c10 => ?_)
      · replace h := it_t c10 h
        refine x_aload_n (i := 0) hC dX4_paperOf_25 rfl 0 rfl ?_
        refine x_iload_n (i := 1) hC dX4_paperOf_26 rfl 1 rfl ?_
        refine x_iload_n (i := 2) hC dX4_paperOf_27 rfl 2 rfl ?_
        replace h := dr_el h
        obtain ⟨a11, ea12, ha13, h⟩ := h
        replace h := bd_el h
        obtain ⟨v14, S15, hb16, h⟩ := h
        refine x_callV hC (st := []) (mt_X4_paperProperty _ _ _ _ _ hb16) ea12 ha13 kf_4 q_532 q_534 qs_25 q_1 q_535 ⟨rfl, hy_X4_paperProperty⟩ ⟨Nat.le_of_ble_eq_true rfl, Nat.le_of_ble_eq_true rfl⟩ ⟨Nat.le_of_ble_eq_true rfl, Nat.le_of_ble_eq_true rfl⟩ rfl (Nat.le_of_ble_eq_true rfl) dX4_paperOf_28 (r_N ?_) r_NX
        show PX Z 3 S15 0 0 31 [(0, va_rf r0), (1, .int i1), (2, .int i2)] [.int v14]
        exact x_iret hC hQ (z_R hyr (Option.some.inj h)) (Nat.le_of_ble_eq_true rfl) (Nat.le_of_ble_eq_true rfl) dX4_paperOf_31
      · replace h := it_f c10 h
        exact J_15 _ h
  · exact z_no hyr (Option.some.inj h)
theorem dX4_score_0 : decode cX4_score 0 = .ok (.iload_n 1, 1) := by decide +kernel
theorem dX4_score_1 : decode cX4_score 1 = .ok (.invokestatic 73, 3) := by decide +kernel
theorem dX4_score_4 : decode cX4_score 4 = .ok (.aload_n 0, 1) := by decide +kernel
theorem dX4_score_5 : decode cX4_score 5 = .ok (.iload_n 2, 1) := by decide +kernel
theorem dX4_score_6 : decode cX4_score 6 = .ok (.invokevirtual 125, 3) := by decide +kernel
theorem dX4_score_9 : decode cX4_score 9 = .ok (.aload_n 0, 1) := by decide +kernel
theorem dX4_score_10 : decode cX4_score 10 = .ok (.getfield 10, 3) := by decide +kernel
theorem dX4_score_13 : decode cX4_score 13 = .ok (.getfield 167, 3) := by decide +kernel
theorem dX4_score_16 : decode cX4_score 16 = .ok (.iload_n 2, 1) := by decide +kernel
theorem dX4_score_17 : decode cX4_score 17 = .ok (.aaload, 1) := by decide +kernel
theorem dX4_score_18 : decode cX4_score 18 = .ok (.iload_n 1, 1) := by decide +kernel
theorem dX4_score_19 : decode cX4_score 19 = .ok (.iaload, 1) := by decide +kernel
theorem dX4_score_20 : decode cX4_score 20 = .ok (.ireturn, 1) := by decide +kernel
set_option maxRecDepth 100000 in
set_option maxHeartbeats 4000000 in
theorem mt_X4_score (r0 : Option Nat) (i1 : Int32) (i2 : Int32) (S0 : PH) (y : (Nat ⊕ Int32) × PH) (h : m_X4_score r0 i1 i2 S0 = some y) : MT yX4_score (.code yX4_score cX4_score 3 (Option.some FieldType.int)) 7 111 1 6 [va_rf r0, .int i1, .int i2] S0 (oQ e_I (qT y)) := by
  refine mt_of (own := RX4) (l0 := [(0, va_rf r0), (1, .int i1), (2, .int i2)]) rfl rfl (by cases r0 <;> exact Nat.le_of_ble_eq_true rfl) (by cases r0 <;> rfl) ?_
  intro Z hC hQ hE hN
  unfold m_X4_score at h
  refine x_iload_n (i := 1) hC dX4_score_0 rfl 1 rfl ?_
  replace h := bt_el h
  obtain ⟨v1, S2, hb27, h⟩ | ⟨j3, S4, hb27, h⟩ := h
  · refine x_callS hC (st := []) (mtr_X4_requirePerson _ _ (v1, S2) hb27) q_313 q_314 q_1 q_315 hy_X4_requirePerson ⟨Nat.le_of_ble_eq_true rfl, Nat.le_of_ble_eq_true rfl⟩ ⟨Nat.le_of_ble_eq_true rfl, Nat.le_of_ble_eq_true rfl⟩ rfl (Nat.le_of_ble_eq_true rfl) dX4_score_1 (r_N ?_) r_NX
    show PX Z 3 S2 0 0 4 [(0, va_rf r0), (1, .int i1), (2, .int i2)] []
    refine x_aload_n (i := 0) hC dX4_score_4 rfl 0 rfl ?_
    refine x_iload_n (i := 2) hC dX4_score_5 rfl 2 rfl ?_
    replace h := dr_el h
    obtain ⟨a5, ea6, ha7, h⟩ := h
    replace h := bt_el h
    obtain ⟨v8, S9, hb26, h⟩ | ⟨j10, S11, hb26, h⟩ := h
    · refine x_callV hC (st := []) (mtr_X4_requirePaper _ _ _ (v8, S9) hb26) ea6 ha7 kf_4 q_332 q_334 qs_4 q_1 q_335 ⟨rfl, hy_X4_requirePaper⟩ ⟨Nat.le_of_ble_eq_true rfl, Nat.le_of_ble_eq_true rfl⟩ ⟨Nat.le_of_ble_eq_true rfl, Nat.le_of_ble_eq_true rfl⟩ rfl (Nat.le_of_ble_eq_true rfl) dX4_score_6 (r_N ?_) r_NX
      show PX Z 3 S9 0 0 9 [(0, va_rf r0), (1, .int i1), (2, .int i2)] []
      refine x_aload_n (i := 0) hC dX4_score_9 rfl 0 rfl ?_
      replace h := dr_el h
      obtain ⟨a12, ea13, ha14, h⟩ := h
      refine x_getR hC ea13 ha14 kf_4 0 (by decide) rfl q_172 dX4_score_10 ?_
      replace h := dr_el h
      obtain ⟨a15, ea16, ha17, h⟩ := h
      refine x_getR hC ea16 ha17 kf_2 10 (by decide) rfl q_57 dX4_score_13 ?_
      refine x_iload_n (i := 2) hC dX4_score_16 rfl 2 rfl ?_
      replace h := dr_el h
      obtain ⟨a18, ea19, ha20, h⟩ := h
      replace h := ck_el h
      obtain ⟨hc21, h⟩ := h
      refine x_aaload9 hC ea19 ha20 hc21 dX4_score_17 ?_
      refine x_iload_n (i := 1) hC dX4_score_18 rfl 1 rfl ?_
      replace h := dr_el h
      obtain ⟨a22, ea23, ha24, h⟩ := h
      replace h := ck_el h
      obtain ⟨hc25, h⟩ := h
      refine x_iaload hC ea23 ha24 hc25 dX4_score_19 ?_
      exact x_iret hC hQ (z_T (Option.some.inj h)) (Nat.le_of_ble_eq_true rfl) (Nat.le_of_ble_eq_true rfl) dX4_score_20
    · refine x_callV hC (st := []) (mt_X4_requirePaper _ _ _ _ hb26) ea6 ha7 kf_4 q_332 q_334 qs_4 q_1 q_335 ⟨rfl, hy_X4_requirePaper⟩ ⟨Nat.le_of_ble_eq_true rfl, Nat.le_of_ble_eq_true rfl⟩ ⟨Nat.le_of_ble_eq_true rfl, Nat.le_of_ble_eq_true rfl⟩ rfl (Nat.le_of_ble_eq_true rfl) dX4_score_6 r_X (r_XX ?_)
      exact x_out hC hQ hE (z_X (Option.some.inj h)) (Nat.le_of_ble_eq_true rfl) (Nat.le_of_ble_eq_true rfl)
  · refine x_callS hC (st := []) (mt_X4_requirePerson _ _ _ hb27) q_313 q_314 q_1 q_315 hy_X4_requirePerson ⟨Nat.le_of_ble_eq_true rfl, Nat.le_of_ble_eq_true rfl⟩ ⟨Nat.le_of_ble_eq_true rfl, Nat.le_of_ble_eq_true rfl⟩ rfl (Nat.le_of_ble_eq_true rfl) dX4_score_1 r_X (r_XX ?_)
    exact x_out hC hQ hE (z_X (Option.some.inj h)) (Nat.le_of_ble_eq_true rfl) (Nat.le_of_ble_eq_true rfl)
set_option maxRecDepth 100000 in
set_option maxHeartbeats 4000000 in
theorem mtr_X4_score (r0 : Option Nat) (i1 : Int32) (i2 : Int32) (S0 : PH) (y0 : Int32 × PH) (h : m_X4_score r0 i1 i2 S0 = some (.inr y0.1, y0.2)) : MT yX4_score (.code yX4_score cX4_score 3 (Option.some FieldType.int)) 7 111 0 0 [va_rf r0, .int i1, .int i2] S0 (oQ e_I (qN y0)) := by
  generalize hyr : ((.inr y0.1 : Nat ⊕ Int32), y0.2) = y at h
  refine mt_of (own := RX4) (l0 := [(0, va_rf r0), (1, .int i1), (2, .int i2)]) rfl rfl (by cases r0 <;> exact Nat.le_of_ble_eq_true rfl) (by cases r0 <;> rfl) ?_
  intro Z hC hQ hE hN
  unfold m_X4_score at h
  refine x_iload_n (i := 1) hC dX4_score_0 rfl 1 rfl ?_
  replace h := bt_el h
  obtain ⟨v1, S2, hb27, h⟩ | ⟨j3, S4, hb27, h⟩ := h
  · refine x_callS hC (st := []) (mtr_X4_requirePerson _ _ (v1, S2) hb27) q_313 q_314 q_1 q_315 hy_X4_requirePerson ⟨Nat.le_of_ble_eq_true rfl, Nat.le_of_ble_eq_true rfl⟩ ⟨Nat.le_of_ble_eq_true rfl, Nat.le_of_ble_eq_true rfl⟩ rfl (Nat.le_of_ble_eq_true rfl) dX4_score_1 (r_N ?_) r_NX
    show PX Z 3 S2 0 0 4 [(0, va_rf r0), (1, .int i1), (2, .int i2)] []
    refine x_aload_n (i := 0) hC dX4_score_4 rfl 0 rfl ?_
    refine x_iload_n (i := 2) hC dX4_score_5 rfl 2 rfl ?_
    replace h := dr_el h
    obtain ⟨a5, ea6, ha7, h⟩ := h
    replace h := bt_el h
    obtain ⟨v8, S9, hb26, h⟩ | ⟨j10, S11, hb26, h⟩ := h
    · refine x_callV hC (st := []) (mtr_X4_requirePaper _ _ _ (v8, S9) hb26) ea6 ha7 kf_4 q_332 q_334 qs_4 q_1 q_335 ⟨rfl, hy_X4_requirePaper⟩ ⟨Nat.le_of_ble_eq_true rfl, Nat.le_of_ble_eq_true rfl⟩ ⟨Nat.le_of_ble_eq_true rfl, Nat.le_of_ble_eq_true rfl⟩ rfl (Nat.le_of_ble_eq_true rfl) dX4_score_6 (r_N ?_) r_NX
      show PX Z 3 S9 0 0 9 [(0, va_rf r0), (1, .int i1), (2, .int i2)] []
      refine x_aload_n (i := 0) hC dX4_score_9 rfl 0 rfl ?_
      replace h := dr_el h
      obtain ⟨a12, ea13, ha14, h⟩ := h
      refine x_getR hC ea13 ha14 kf_4 0 (by decide) rfl q_172 dX4_score_10 ?_
      replace h := dr_el h
      obtain ⟨a15, ea16, ha17, h⟩ := h
      refine x_getR hC ea16 ha17 kf_2 10 (by decide) rfl q_57 dX4_score_13 ?_
      refine x_iload_n (i := 2) hC dX4_score_16 rfl 2 rfl ?_
      replace h := dr_el h
      obtain ⟨a18, ea19, ha20, h⟩ := h
      replace h := ck_el h
      obtain ⟨hc21, h⟩ := h
      refine x_aaload9 hC ea19 ha20 hc21 dX4_score_17 ?_
      refine x_iload_n (i := 1) hC dX4_score_18 rfl 1 rfl ?_
      replace h := dr_el h
      obtain ⟨a22, ea23, ha24, h⟩ := h
      replace h := ck_el h
      obtain ⟨hc25, h⟩ := h
      refine x_iaload hC ea23 ha24 hc25 dX4_score_19 ?_
      exact x_iret hC hQ (z_R hyr (Option.some.inj h)) (Nat.le_of_ble_eq_true rfl) (Nat.le_of_ble_eq_true rfl) dX4_score_20
    · exact z_no hyr (Option.some.inj h)
  · exact z_no hyr (Option.some.inj h)
theorem dX4_allSpent_0 : decode cX4_allSpent 0 = .ok (.iconst 0, 1) := by decide +kernel
theorem dX4_allSpent_1 : decode cX4_allSpent 1 = .ok (.istore_n 1, 1) := by decide +kernel
theorem dX4_allSpent_2 : decode cX4_allSpent 2 = .ok (.iconst 0, 1) := by decide +kernel
theorem dX4_allSpent_3 : decode cX4_allSpent 3 = .ok (.istore_n 2, 1) := by decide +kernel
theorem dX4_allSpent_4 : decode cX4_allSpent 4 = .ok (.iload_n 2, 1) := by decide +kernel
theorem dX4_allSpent_5 : decode cX4_allSpent 5 = .ok (.bipush 8, 2) := by decide +kernel
theorem dX4_allSpent_7 : decode cX4_allSpent 7 = .ok (.if_icmp .ge 21, 3) := by decide +kernel
theorem dX4_allSpent_10 : decode cX4_allSpent 10 = .ok (.iload_n 1, 1) := by decide +kernel
theorem dX4_allSpent_11 : decode cX4_allSpent 11 = .ok (.aload_n 0, 1) := by decide +kernel
theorem dX4_allSpent_12 : decode cX4_allSpent 12 = .ok (.getfield 10, 3) := by decide +kernel
theorem dX4_allSpent_15 : decode cX4_allSpent 15 = .ok (.getfield 313, 3) := by decide +kernel
theorem dX4_allSpent_18 : decode cX4_allSpent 18 = .ok (.iload_n 2, 1) := by decide +kernel
theorem dX4_allSpent_19 : decode cX4_allSpent 19 = .ok (.iaload, 1) := by decide +kernel
theorem dX4_allSpent_20 : decode cX4_allSpent 20 = .ok (.iadd, 1) := by decide +kernel
theorem dX4_allSpent_21 : decode cX4_allSpent 21 = .ok (.istore_n 1, 1) := by decide +kernel
theorem dX4_allSpent_22 : decode cX4_allSpent 22 = .ok (.iinc 2 1, 3) := by decide +kernel
theorem dX4_allSpent_25 : decode cX4_allSpent 25 = .ok (.goto (-21), 3) := by decide +kernel
theorem dX4_allSpent_28 : decode cX4_allSpent 28 = .ok (.iload_n 1, 1) := by decide +kernel
theorem dX4_allSpent_29 : decode cX4_allSpent 29 = .ok (.ireturn, 1) := by decide +kernel
set_option maxRecDepth 100000 in
set_option maxHeartbeats 4000000 in
theorem mt_X4_allSpent (r0 : Option Nat) (S0 : PH) (y : Int32 × PH) (h : m_X4_allSpent r0 S0 = some y) : MT yX4_allSpent (.code yX4_allSpent cX4_allSpent 3 (Option.some FieldType.int)) 0 0 0 0 [va_rf r0] S0 (oQ e_I (qN y)) := by
  refine mt_of (own := RX4) (l0 := [(0, va_rf r0)]) rfl rfl (by cases r0 <;> exact Nat.le_of_ble_eq_true rfl) (by cases r0 <;> rfl) ?_
  intro Z hC hQ hE hN
  unfold m_X4_allSpent at h
  refine x_iconst (v := (0 : Int32)) hC dX4_allSpent_0 (by decide) ?_
  refine x_istore_n (i := 1) (l' := [(1, .int (0 : Int32)), (0, va_rf r0)]) hC dX4_allSpent_1 rfl (⟨fun _ => c_rf r0, trivial⟩) (by decide) rfl ?_
  refine x_iconst (v := (0 : Int32)) hC dX4_allSpent_2 (by decide) ?_
  refine x_istore_n (i := 2) (l' := [(2, .int (0 : Int32)), (1, .int (0 : Int32)), (0, va_rf r0)]) hC dX4_allSpent_3 rfl (⟨fun _ => rfl, ⟨fun _ => c_rf r0, trivial⟩⟩) (by decide) rfl ?_
  refine x_sub (l' := [(0, va_rf r0), (1, .int (0 : Int32)), (2, .int (0 : Int32))]) [2, 1, 0] rfl ?_
  refine lp_sim (P := fun (t : (Int32 × Int32 × PH)) => PX Z 3 t.2.2 0 0 4 [(0, va_rf r0), (1, .int t.1), (2, .int t.2.1)] []) (G := fun r => r = y) ?_ h rfl
  clear h
  intro t x_4 h hg_4
  obtain ⟨v1, v2, S3⟩ := t
  show PX Z 3 S3 0 0 4 [(0, va_rf r0), (1, .int v1), (2, .int v2)] []
  unfold st_X4_allSpent_4 at h
  refine x_iload_n (i := 2) hC dX4_allSpent_4 rfl 2 rfl ?_
  refine x_bipush (v := (8 : Int32)) hC dX4_allSpent_5 (by decide) ?_
  refine x_icmp_ge (t := 28) hC dX4_allSpent_7 (by decide) (fun c4 => ?_) (fun c4 => ?_)
  · replace h := it_t c4 h
    replace h := ir_x h hg_4
    refine x_iload_n (i := 1) hC dX4_allSpent_28 rfl 1 rfl ?_
    exact x_iret hC hQ (z_N (Option.some.inj h)) (Nat.le_of_ble_eq_true rfl) (Nat.le_of_ble_eq_true rfl) dX4_allSpent_29
  · replace h := it_f c4 h
    refine x_iload_n (i := 1) hC dX4_allSpent_10 rfl 1 rfl ?_
    refine x_aload_n (i := 0) hC dX4_allSpent_11 rfl 0 rfl ?_
    replace h := dr_el h
    obtain ⟨a5, ea6, ha7, h⟩ := h
    refine x_getR hC ea6 ha7 kf_4 0 (by decide) rfl q_172 dX4_allSpent_12 ?_
    replace h := dr_el h
    obtain ⟨a8, ea9, ha10, h⟩ := h
    refine x_getR hC ea9 ha10 kf_2 3 (by decide) rfl q_43 dX4_allSpent_15 ?_
    refine x_iload_n (i := 2) hC dX4_allSpent_18 rfl 2 rfl ?_
    replace h := dr_el h
    obtain ⟨a11, ea12, ha13, h⟩ := h
    replace h := ck_el h
    obtain ⟨hc14, h⟩ := h
    refine x_iaload hC ea12 ha13 hc14 dX4_allSpent_19 ?_
    refine x_iadd hC dX4_allSpent_20 ?_
    replace h := le_el h
    obtain ⟨x15, hx16, h⟩ := h
    refine x_tI hx16 ?_
    refine x_istore_n (i := 1) (l' := [(1, .int x15), (0, va_rf r0), (2, .int v2)]) hC dX4_allSpent_21 rfl (⟨fun _ => c_rf r0, ⟨fun _ => rfl, ⟨fun _ => rfl, trivial⟩⟩⟩) (by decide) rfl ?_
    refine x_iinc (i := 2) (v := (v2 + (1 : Int32))) (l' := [(2, .int (v2 + (1 : Int32))), (1, .int x15), (0, va_rf r0)]) hC dX4_allSpent_22 2 rfl rfl (⟨fun _ => rfl, ⟨fun _ => c_rf r0, ⟨fun _ => rfl, trivial⟩⟩⟩) (by decide) rfl ?_
    refine x_goto (t := 4) hC dX4_allSpent_25 (by decide) ?_
    refine x_sub (l' := [(0, va_rf r0), (1, .int x15), (2, .int (v2 + (1 : Int32)))]) [2, 1, 0] rfl ?_
    have hb := bk_x h hg_4
    exact hb
theorem dX4_allTokens_0 : decode cX4_allTokens 0 = .ok (.iconst 0, 1) := by decide +kernel
theorem dX4_allTokens_1 : decode cX4_allTokens 1 = .ok (.istore_n 1, 1) := by decide +kernel
theorem dX4_allTokens_2 : decode cX4_allTokens 2 = .ok (.iconst 0, 1) := by decide +kernel
theorem dX4_allTokens_3 : decode cX4_allTokens 3 = .ok (.istore_n 2, 1) := by decide +kernel
theorem dX4_allTokens_4 : decode cX4_allTokens 4 = .ok (.iload_n 2, 1) := by decide +kernel
theorem dX4_allTokens_5 : decode cX4_allTokens 5 = .ok (.bipush 8, 2) := by decide +kernel
theorem dX4_allTokens_7 : decode cX4_allTokens 7 = .ok (.if_icmp .ge 17, 3) := by decide +kernel
theorem dX4_allTokens_10 : decode cX4_allTokens 10 = .ok (.iload_n 1, 1) := by decide +kernel
theorem dX4_allTokens_11 : decode cX4_allTokens 11 = .ok (.aload_n 0, 1) := by decide +kernel
theorem dX4_allTokens_12 : decode cX4_allTokens 12 = .ok (.iload_n 2, 1) := by decide +kernel
theorem dX4_allTokens_13 : decode cX4_allTokens 13 = .ok (.invokevirtual 316, 3) := by decide +kernel
theorem dX4_allTokens_16 : decode cX4_allTokens 16 = .ok (.iadd, 1) := by decide +kernel
theorem dX4_allTokens_17 : decode cX4_allTokens 17 = .ok (.istore_n 1, 1) := by decide +kernel
theorem dX4_allTokens_18 : decode cX4_allTokens 18 = .ok (.iinc 2 1, 3) := by decide +kernel
theorem dX4_allTokens_21 : decode cX4_allTokens 21 = .ok (.goto (-17), 3) := by decide +kernel
theorem dX4_allTokens_24 : decode cX4_allTokens 24 = .ok (.iload_n 1, 1) := by decide +kernel
theorem dX4_allTokens_25 : decode cX4_allTokens 25 = .ok (.ireturn, 1) := by decide +kernel
set_option maxRecDepth 100000 in
set_option maxHeartbeats 4000000 in
theorem mt_X4_allTokens (r0 : Option Nat) (S0 : PH) (y : Int32 × PH) (h : m_X4_allTokens r0 S0 = some y) : MT yX4_allTokens (.code yX4_allTokens cX4_allTokens 3 (Option.some FieldType.int)) 1 21 0 0 [va_rf r0] S0 (oQ e_I (qN y)) := by
  refine mt_of (own := RX4) (l0 := [(0, va_rf r0)]) rfl rfl (by cases r0 <;> exact Nat.le_of_ble_eq_true rfl) (by cases r0 <;> rfl) ?_
  intro Z hC hQ hE hN
  unfold m_X4_allTokens at h
  refine x_iconst (v := (0 : Int32)) hC dX4_allTokens_0 (by decide) ?_
  refine x_istore_n (i := 1) (l' := [(1, .int (0 : Int32)), (0, va_rf r0)]) hC dX4_allTokens_1 rfl (⟨fun _ => c_rf r0, trivial⟩) (by decide) rfl ?_
  refine x_iconst (v := (0 : Int32)) hC dX4_allTokens_2 (by decide) ?_
  refine x_istore_n (i := 2) (l' := [(2, .int (0 : Int32)), (1, .int (0 : Int32)), (0, va_rf r0)]) hC dX4_allTokens_3 rfl (⟨fun _ => rfl, ⟨fun _ => c_rf r0, trivial⟩⟩) (by decide) rfl ?_
  refine x_sub (l' := [(0, va_rf r0), (1, .int (0 : Int32)), (2, .int (0 : Int32))]) [2, 1, 0] rfl ?_
  refine lp_sim (P := fun (t : (Int32 × Int32 × PH)) => PX Z 3 t.2.2 0 0 4 [(0, va_rf r0), (1, .int t.1), (2, .int t.2.1)] []) (G := fun r => r = y) ?_ h rfl
  clear h
  intro t x_4 h hg_4
  obtain ⟨v1, v2, S3⟩ := t
  show PX Z 3 S3 0 0 4 [(0, va_rf r0), (1, .int v1), (2, .int v2)] []
  unfold st_X4_allTokens_4 at h
  refine x_iload_n (i := 2) hC dX4_allTokens_4 rfl 2 rfl ?_
  refine x_bipush (v := (8 : Int32)) hC dX4_allTokens_5 (by decide) ?_
  refine x_icmp_ge (t := 24) hC dX4_allTokens_7 (by decide) (fun c4 => ?_) (fun c4 => ?_)
  · replace h := it_t c4 h
    replace h := ir_x h hg_4
    refine x_iload_n (i := 1) hC dX4_allTokens_24 rfl 1 rfl ?_
    exact x_iret hC hQ (z_N (Option.some.inj h)) (Nat.le_of_ble_eq_true rfl) (Nat.le_of_ble_eq_true rfl) dX4_allTokens_25
  · replace h := it_f c4 h
    refine x_iload_n (i := 1) hC dX4_allTokens_10 rfl 1 rfl ?_
    refine x_aload_n (i := 0) hC dX4_allTokens_11 rfl 0 rfl ?_
    refine x_iload_n (i := 2) hC dX4_allTokens_12 rfl 2 rfl ?_
    replace h := dr_el h
    obtain ⟨a5, ea6, ha7, h⟩ := h
    replace h := bd_el h
    obtain ⟨v8, S9, hb10, h⟩ := h
    refine x_callV hC (st := [.int v1]) (mt_X4_tokensOf _ _ _ _ hb10) ea6 ha7 kf_4 q_369 q_371 qs_10 q_1 q_372 ⟨rfl, hy_X4_tokensOf⟩ ⟨Nat.le_of_ble_eq_true rfl, Nat.le_of_ble_eq_true rfl⟩ ⟨Nat.le_of_ble_eq_true rfl, Nat.le_of_ble_eq_true rfl⟩ rfl (Nat.le_of_ble_eq_true rfl) dX4_allTokens_13 (r_N ?_) r_NX
    show PX Z 3 S9 0 0 16 [(0, va_rf r0), (1, .int v1), (2, .int v2)] [.int v8, .int v1]
    refine x_iadd hC dX4_allTokens_16 ?_
    replace h := le_el h
    obtain ⟨x11, hx12, h⟩ := h
    refine x_tI hx12 ?_
    refine x_istore_n (i := 1) (l' := [(1, .int x11), (0, va_rf r0), (2, .int v2)]) hC dX4_allTokens_17 rfl (⟨fun _ => c_rf r0, ⟨fun _ => rfl, ⟨fun _ => rfl, trivial⟩⟩⟩) (by decide) rfl ?_
    refine x_iinc (i := 2) (v := (v2 + (1 : Int32))) (l' := [(2, .int (v2 + (1 : Int32))), (1, .int x11), (0, va_rf r0)]) hC dX4_allTokens_18 2 rfl rfl (⟨fun _ => rfl, ⟨fun _ => c_rf r0, ⟨fun _ => rfl, trivial⟩⟩⟩) (by decide) rfl ?_
    refine x_goto (t := 4) hC dX4_allTokens_21 (by decide) ?_
    refine x_sub (l' := [(0, va_rf r0), (1, .int x11), (2, .int (v2 + (1 : Int32)))]) [2, 1, 0] rfl ?_
    have hb := bk_x h hg_4
    exact hb
theorem dX4_allReviews_0 : decode cX4_allReviews 0 = .ok (.iconst 0, 1) := by decide +kernel
theorem dX4_allReviews_1 : decode cX4_allReviews 1 = .ok (.istore_n 1, 1) := by decide +kernel
theorem dX4_allReviews_2 : decode cX4_allReviews 2 = .ok (.iconst 0, 1) := by decide +kernel
theorem dX4_allReviews_3 : decode cX4_allReviews 3 = .ok (.istore_n 2, 1) := by decide +kernel
theorem dX4_allReviews_4 : decode cX4_allReviews 4 = .ok (.iload_n 2, 1) := by decide +kernel
theorem dX4_allReviews_5 : decode cX4_allReviews 5 = .ok (.bipush 8, 2) := by decide +kernel
theorem dX4_allReviews_7 : decode cX4_allReviews 7 = .ok (.if_icmp .ge 27, 3) := by decide +kernel
theorem dX4_allReviews_10 : decode cX4_allReviews 10 = .ok (.iload_n 1, 1) := by decide +kernel
theorem dX4_allReviews_11 : decode cX4_allReviews 11 = .ok (.aload_n 0, 1) := by decide +kernel
theorem dX4_allReviews_12 : decode cX4_allReviews 12 = .ok (.getfield 10, 3) := by decide +kernel
theorem dX4_allReviews_15 : decode cX4_allReviews 15 = .ok (.getfield 167, 3) := by decide +kernel
theorem dX4_allReviews_18 : decode cX4_allReviews 18 = .ok (.iload_n 2, 1) := by decide +kernel
theorem dX4_allReviews_19 : decode cX4_allReviews 19 = .ok (.aaload, 1) := by decide +kernel
theorem dX4_allReviews_20 : decode cX4_allReviews 20 = .ok (.invokestatic 334, 3) := by decide +kernel
theorem dX4_allReviews_23 : decode cX4_allReviews 23 = .ok (.invokestatic 178, 3) := by decide +kernel
theorem dX4_allReviews_26 : decode cX4_allReviews 26 = .ok (.iadd, 1) := by decide +kernel
theorem dX4_allReviews_27 : decode cX4_allReviews 27 = .ok (.istore_n 1, 1) := by decide +kernel
theorem dX4_allReviews_28 : decode cX4_allReviews 28 = .ok (.iinc 2 1, 3) := by decide +kernel
theorem dX4_allReviews_31 : decode cX4_allReviews 31 = .ok (.goto (-27), 3) := by decide +kernel
theorem dX4_allReviews_34 : decode cX4_allReviews 34 = .ok (.iload_n 1, 1) := by decide +kernel
theorem dX4_allReviews_35 : decode cX4_allReviews 35 = .ok (.ireturn, 1) := by decide +kernel
set_option maxRecDepth 100000 in
set_option maxHeartbeats 4000000 in
theorem mt_X4_allReviews (r0 : Option Nat) (S0 : PH) (y : Int32 × PH) (h : m_X4_allReviews r0 S0 = some y) : MT yX4_allReviews (.code yX4_allReviews cX4_allReviews 3 (Option.some FieldType.int)) 1 22 0 0 [va_rf r0] S0 (oQ e_I (qN y)) := by
  refine mt_of (own := RX4) (l0 := [(0, va_rf r0)]) rfl rfl (by cases r0 <;> exact Nat.le_of_ble_eq_true rfl) (by cases r0 <;> rfl) ?_
  intro Z hC hQ hE hN
  unfold m_X4_allReviews at h
  refine x_iconst (v := (0 : Int32)) hC dX4_allReviews_0 (by decide) ?_
  refine x_istore_n (i := 1) (l' := [(1, .int (0 : Int32)), (0, va_rf r0)]) hC dX4_allReviews_1 rfl (⟨fun _ => c_rf r0, trivial⟩) (by decide) rfl ?_
  refine x_iconst (v := (0 : Int32)) hC dX4_allReviews_2 (by decide) ?_
  refine x_istore_n (i := 2) (l' := [(2, .int (0 : Int32)), (1, .int (0 : Int32)), (0, va_rf r0)]) hC dX4_allReviews_3 rfl (⟨fun _ => rfl, ⟨fun _ => c_rf r0, trivial⟩⟩) (by decide) rfl ?_
  refine x_sub (l' := [(0, va_rf r0), (1, .int (0 : Int32)), (2, .int (0 : Int32))]) [2, 1, 0] rfl ?_
  refine lp_sim (P := fun (t : (Int32 × Int32 × PH)) => PX Z 3 t.2.2 0 0 4 [(0, va_rf r0), (1, .int t.1), (2, .int t.2.1)] []) (G := fun r => r = y) ?_ h rfl
  clear h
  intro t x_4 h hg_4
  obtain ⟨v1, v2, S3⟩ := t
  show PX Z 3 S3 0 0 4 [(0, va_rf r0), (1, .int v1), (2, .int v2)] []
  unfold st_X4_allReviews_4 at h
  refine x_iload_n (i := 2) hC dX4_allReviews_4 rfl 2 rfl ?_
  refine x_bipush (v := (8 : Int32)) hC dX4_allReviews_5 (by decide) ?_
  refine x_icmp_ge (t := 34) hC dX4_allReviews_7 (by decide) (fun c4 => ?_) (fun c4 => ?_)
  · replace h := it_t c4 h
    replace h := ir_x h hg_4
    refine x_iload_n (i := 1) hC dX4_allReviews_34 rfl 1 rfl ?_
    exact x_iret hC hQ (z_N (Option.some.inj h)) (Nat.le_of_ble_eq_true rfl) (Nat.le_of_ble_eq_true rfl) dX4_allReviews_35
  · replace h := it_f c4 h
    refine x_iload_n (i := 1) hC dX4_allReviews_10 rfl 1 rfl ?_
    refine x_aload_n (i := 0) hC dX4_allReviews_11 rfl 0 rfl ?_
    replace h := dr_el h
    obtain ⟨a5, ea6, ha7, h⟩ := h
    refine x_getR hC ea6 ha7 kf_4 0 (by decide) rfl q_172 dX4_allReviews_12 ?_
    replace h := dr_el h
    obtain ⟨a8, ea9, ha10, h⟩ := h
    refine x_getR hC ea9 ha10 kf_2 10 (by decide) rfl q_57 dX4_allReviews_15 ?_
    refine x_iload_n (i := 2) hC dX4_allReviews_18 rfl 2 rfl ?_
    replace h := dr_el h
    obtain ⟨a11, ea12, ha13, h⟩ := h
    replace h := ck_el h
    obtain ⟨hc14, h⟩ := h
    refine x_aaload9 hC ea12 ha13 hc14 dX4_allReviews_19 ?_
    replace h := bd_el h
    obtain ⟨v15, S16, hb17, h⟩ := h
    refine x_callS hC (st := [.int v1]) (mt_X4_reviewersIn _ _ _ hb17) q_349 q_350 q_1 q_351 hy_X4_reviewersIn ⟨Nat.le_of_ble_eq_true rfl, Nat.le_of_ble_eq_true rfl⟩ ⟨Nat.le_of_ble_eq_true rfl, Nat.le_of_ble_eq_true rfl⟩ rfl (Nat.le_of_ble_eq_true rfl) dX4_allReviews_20 (r_N ?_) r_NX
    show PX Z 3 S16 0 0 23 [(0, va_rf r0), (1, .int v1), (2, .int v2)] [.int v15, .int v1]
    replace h := bd_el h
    obtain ⟨v18, S19, hb20, h⟩ := h
    refine x_callS hC (st := [.int v1]) (mt_J6_bitCount_0f7a4 _ _ _ hb20) q_352 q_353 q_13 q_354 hy_J6_bitCount_0f7a4 ⟨Nat.le_of_ble_eq_true rfl, Nat.le_of_ble_eq_true rfl⟩ ⟨Nat.le_of_ble_eq_true rfl, Nat.le_of_ble_eq_true rfl⟩ rfl (Nat.le_of_ble_eq_true rfl) dX4_allReviews_23 (r_N ?_) r_NX
    show PX Z 3 S19 0 0 26 [(0, va_rf r0), (1, .int v1), (2, .int v2)] [.int v18, .int v1]
    refine x_iadd hC dX4_allReviews_26 ?_
    replace h := le_el h
    obtain ⟨x21, hx22, h⟩ := h
    refine x_tI hx22 ?_
    refine x_istore_n (i := 1) (l' := [(1, .int x21), (0, va_rf r0), (2, .int v2)]) hC dX4_allReviews_27 rfl (⟨fun _ => c_rf r0, ⟨fun _ => rfl, ⟨fun _ => rfl, trivial⟩⟩⟩) (by decide) rfl ?_
    refine x_iinc (i := 2) (v := (v2 + (1 : Int32))) (l' := [(2, .int (v2 + (1 : Int32))), (1, .int x21), (0, va_rf r0)]) hC dX4_allReviews_28 2 rfl rfl (⟨fun _ => rfl, ⟨fun _ => c_rf r0, ⟨fun _ => rfl, trivial⟩⟩⟩) (by decide) rfl ?_
    refine x_goto (t := 4) hC dX4_allReviews_31 (by decide) ?_
    refine x_sub (l' := [(0, va_rf r0), (1, .int x21), (2, .int (v2 + (1 : Int32)))]) [2, 1, 0] rfl ?_
    have hb := bk_x h hg_4
    exact hb
theorem dX4_allWritten_0 : decode cX4_allWritten 0 = .ok (.iconst 0, 1) := by decide +kernel
theorem dX4_allWritten_1 : decode cX4_allWritten 1 = .ok (.istore_n 1, 1) := by decide +kernel
theorem dX4_allWritten_2 : decode cX4_allWritten 2 = .ok (.iconst 0, 1) := by decide +kernel
theorem dX4_allWritten_3 : decode cX4_allWritten 3 = .ok (.istore_n 2, 1) := by decide +kernel
theorem dX4_allWritten_4 : decode cX4_allWritten 4 = .ok (.iload_n 2, 1) := by decide +kernel
theorem dX4_allWritten_5 : decode cX4_allWritten 5 = .ok (.bipush 8, 2) := by decide +kernel
theorem dX4_allWritten_7 : decode cX4_allWritten 7 = .ok (.if_icmp .ge 27, 3) := by decide +kernel
theorem dX4_allWritten_10 : decode cX4_allWritten 10 = .ok (.iload_n 1, 1) := by decide +kernel
theorem dX4_allWritten_11 : decode cX4_allWritten 11 = .ok (.aload_n 0, 1) := by decide +kernel
theorem dX4_allWritten_12 : decode cX4_allWritten 12 = .ok (.getfield 10, 3) := by decide +kernel
theorem dX4_allWritten_15 : decode cX4_allWritten 15 = .ok (.getfield 167, 3) := by decide +kernel
theorem dX4_allWritten_18 : decode cX4_allWritten 18 = .ok (.iload_n 2, 1) := by decide +kernel
theorem dX4_allWritten_19 : decode cX4_allWritten 19 = .ok (.aaload, 1) := by decide +kernel
theorem dX4_allWritten_20 : decode cX4_allWritten 20 = .ok (.invokestatic 175, 3) := by decide +kernel
theorem dX4_allWritten_23 : decode cX4_allWritten 23 = .ok (.invokestatic 178, 3) := by decide +kernel
theorem dX4_allWritten_26 : decode cX4_allWritten 26 = .ok (.iadd, 1) := by decide +kernel
theorem dX4_allWritten_27 : decode cX4_allWritten 27 = .ok (.istore_n 1, 1) := by decide +kernel
theorem dX4_allWritten_28 : decode cX4_allWritten 28 = .ok (.iinc 2 1, 3) := by decide +kernel
theorem dX4_allWritten_31 : decode cX4_allWritten 31 = .ok (.goto (-27), 3) := by decide +kernel
theorem dX4_allWritten_34 : decode cX4_allWritten 34 = .ok (.iload_n 1, 1) := by decide +kernel
theorem dX4_allWritten_35 : decode cX4_allWritten 35 = .ok (.ireturn, 1) := by decide +kernel
set_option maxRecDepth 100000 in
set_option maxHeartbeats 4000000 in
theorem mt_X4_allWritten (r0 : Option Nat) (S0 : PH) (y : Int32 × PH) (h : m_X4_allWritten r0 S0 = some y) : MT yX4_allWritten (.code yX4_allWritten cX4_allWritten 3 (Option.some FieldType.int)) 2 42 0 0 [va_rf r0] S0 (oQ e_I (qN y)) := by
  refine mt_of (own := RX4) (l0 := [(0, va_rf r0)]) rfl rfl (by cases r0 <;> exact Nat.le_of_ble_eq_true rfl) (by cases r0 <;> rfl) ?_
  intro Z hC hQ hE hN
  unfold m_X4_allWritten at h
  refine x_iconst (v := (0 : Int32)) hC dX4_allWritten_0 (by decide) ?_
  refine x_istore_n (i := 1) (l' := [(1, .int (0 : Int32)), (0, va_rf r0)]) hC dX4_allWritten_1 rfl (⟨fun _ => c_rf r0, trivial⟩) (by decide) rfl ?_
  refine x_iconst (v := (0 : Int32)) hC dX4_allWritten_2 (by decide) ?_
  refine x_istore_n (i := 2) (l' := [(2, .int (0 : Int32)), (1, .int (0 : Int32)), (0, va_rf r0)]) hC dX4_allWritten_3 rfl (⟨fun _ => rfl, ⟨fun _ => c_rf r0, trivial⟩⟩) (by decide) rfl ?_
  refine x_sub (l' := [(0, va_rf r0), (1, .int (0 : Int32)), (2, .int (0 : Int32))]) [2, 1, 0] rfl ?_
  refine lp_sim (P := fun (t : (Int32 × Int32 × PH)) => PX Z 3 t.2.2 0 0 4 [(0, va_rf r0), (1, .int t.1), (2, .int t.2.1)] []) (G := fun r => r = y) ?_ h rfl
  clear h
  intro t x_4 h hg_4
  obtain ⟨v1, v2, S3⟩ := t
  show PX Z 3 S3 0 0 4 [(0, va_rf r0), (1, .int v1), (2, .int v2)] []
  unfold st_X4_allWritten_4 at h
  refine x_iload_n (i := 2) hC dX4_allWritten_4 rfl 2 rfl ?_
  refine x_bipush (v := (8 : Int32)) hC dX4_allWritten_5 (by decide) ?_
  refine x_icmp_ge (t := 34) hC dX4_allWritten_7 (by decide) (fun c4 => ?_) (fun c4 => ?_)
  · replace h := it_t c4 h
    replace h := ir_x h hg_4
    refine x_iload_n (i := 1) hC dX4_allWritten_34 rfl 1 rfl ?_
    exact x_iret hC hQ (z_N (Option.some.inj h)) (Nat.le_of_ble_eq_true rfl) (Nat.le_of_ble_eq_true rfl) dX4_allWritten_35
  · replace h := it_f c4 h
    refine x_iload_n (i := 1) hC dX4_allWritten_10 rfl 1 rfl ?_
    refine x_aload_n (i := 0) hC dX4_allWritten_11 rfl 0 rfl ?_
    replace h := dr_el h
    obtain ⟨a5, ea6, ha7, h⟩ := h
    refine x_getR hC ea6 ha7 kf_4 0 (by decide) rfl q_172 dX4_allWritten_12 ?_
    replace h := dr_el h
    obtain ⟨a8, ea9, ha10, h⟩ := h
    refine x_getR hC ea9 ha10 kf_2 10 (by decide) rfl q_57 dX4_allWritten_15 ?_
    refine x_iload_n (i := 2) hC dX4_allWritten_18 rfl 2 rfl ?_
    replace h := dr_el h
    obtain ⟨a11, ea12, ha13, h⟩ := h
    replace h := ck_el h
    obtain ⟨hc14, h⟩ := h
    refine x_aaload9 hC ea12 ha13 hc14 dX4_allWritten_19 ?_
    replace h := bd_el h
    obtain ⟨v15, S16, hb17, h⟩ := h
    refine x_callS hC (st := [.int v1]) (mt_X4_writersIn _ _ _ hb17) q_431 q_432 q_1 q_433 hy_X4_writersIn ⟨Nat.le_of_ble_eq_true rfl, Nat.le_of_ble_eq_true rfl⟩ ⟨Nat.le_of_ble_eq_true rfl, Nat.le_of_ble_eq_true rfl⟩ rfl (Nat.le_of_ble_eq_true rfl) dX4_allWritten_20 (r_N ?_) r_NX
    show PX Z 3 S16 0 0 23 [(0, va_rf r0), (1, .int v1), (2, .int v2)] [.int v15, .int v1]
    replace h := bd_el h
    obtain ⟨v18, S19, hb20, h⟩ := h
    refine x_callS hC (st := [.int v1]) (mt_J6_bitCount_0f7a4 _ _ _ hb20) q_352 q_353 q_13 q_354 hy_J6_bitCount_0f7a4 ⟨Nat.le_of_ble_eq_true rfl, Nat.le_of_ble_eq_true rfl⟩ ⟨Nat.le_of_ble_eq_true rfl, Nat.le_of_ble_eq_true rfl⟩ rfl (Nat.le_of_ble_eq_true rfl) dX4_allWritten_23 (r_N ?_) r_NX
    show PX Z 3 S19 0 0 26 [(0, va_rf r0), (1, .int v1), (2, .int v2)] [.int v18, .int v1]
    refine x_iadd hC dX4_allWritten_26 ?_
    replace h := le_el h
    obtain ⟨x21, hx22, h⟩ := h
    refine x_tI hx22 ?_
    refine x_istore_n (i := 1) (l' := [(1, .int x21), (0, va_rf r0), (2, .int v2)]) hC dX4_allWritten_27 rfl (⟨fun _ => c_rf r0, ⟨fun _ => rfl, ⟨fun _ => rfl, trivial⟩⟩⟩) (by decide) rfl ?_
    refine x_iinc (i := 2) (v := (v2 + (1 : Int32))) (l' := [(2, .int (v2 + (1 : Int32))), (1, .int x21), (0, va_rf r0)]) hC dX4_allWritten_28 2 rfl rfl (⟨fun _ => rfl, ⟨fun _ => c_rf r0, ⟨fun _ => rfl, trivial⟩⟩⟩) (by decide) rfl ?_
    refine x_goto (t := 4) hC dX4_allWritten_31 (by decide) ?_
    refine x_sub (l' := [(0, va_rf r0), (1, .int x21), (2, .int (v2 + (1 : Int32)))]) [2, 1, 0] rfl ?_
    have hb := bk_x h hg_4
    exact hb
theorem dX4_decidedPapers_0 : decode cX4_decidedPapers 0 = .ok (.iconst 0, 1) := by decide +kernel
theorem dX4_decidedPapers_1 : decode cX4_decidedPapers 1 = .ok (.istore_n 1, 1) := by decide +kernel
theorem dX4_decidedPapers_2 : decode cX4_decidedPapers 2 = .ok (.iconst 0, 1) := by decide +kernel
theorem dX4_decidedPapers_3 : decode cX4_decidedPapers 3 = .ok (.istore_n 2, 1) := by decide +kernel
theorem dX4_decidedPapers_4 : decode cX4_decidedPapers 4 = .ok (.iload_n 2, 1) := by decide +kernel
theorem dX4_decidedPapers_5 : decode cX4_decidedPapers 5 = .ok (.bipush 8, 2) := by decide +kernel
theorem dX4_decidedPapers_7 : decode cX4_decidedPapers 7 = .ok (.if_icmp .ge 24, 3) := by decide +kernel
theorem dX4_decidedPapers_10 : decode cX4_decidedPapers 10 = .ok (.aload_n 0, 1) := by decide +kernel
theorem dX4_decidedPapers_11 : decode cX4_decidedPapers 11 = .ok (.getfield 10, 3) := by decide +kernel
theorem dX4_decidedPapers_14 : decode cX4_decidedPapers 14 = .ok (.getfield 183, 3) := by decide +kernel
theorem dX4_decidedPapers_17 : decode cX4_decidedPapers 17 = .ok (.iload_n 2, 1) := by decide +kernel
theorem dX4_decidedPapers_18 : decode cX4_decidedPapers 18 = .ok (.iaload, 1) := by decide +kernel
theorem dX4_decidedPapers_19 : decode cX4_decidedPapers 19 = .ok (.ifCond .eq 6, 3) := by decide +kernel
theorem dX4_decidedPapers_22 : decode cX4_decidedPapers 22 = .ok (.iinc 1 1, 3) := by decide +kernel
theorem dX4_decidedPapers_25 : decode cX4_decidedPapers 25 = .ok (.iinc 2 1, 3) := by decide +kernel
theorem dX4_decidedPapers_28 : decode cX4_decidedPapers 28 = .ok (.goto (-24), 3) := by decide +kernel
theorem dX4_decidedPapers_31 : decode cX4_decidedPapers 31 = .ok (.iload_n 1, 1) := by decide +kernel
theorem dX4_decidedPapers_32 : decode cX4_decidedPapers 32 = .ok (.ireturn, 1) := by decide +kernel
set_option maxRecDepth 100000 in
set_option maxHeartbeats 4000000 in
theorem mt_X4_decidedPapers (r0 : Option Nat) (S0 : PH) (y : Int32 × PH) (h : m_X4_decidedPapers r0 S0 = some y) : MT yX4_decidedPapers (.code yX4_decidedPapers cX4_decidedPapers 3 (Option.some FieldType.int)) 0 0 0 0 [va_rf r0] S0 (oQ e_I (qN y)) := by
  refine mt_of (own := RX4) (l0 := [(0, va_rf r0)]) rfl rfl (by cases r0 <;> exact Nat.le_of_ble_eq_true rfl) (by cases r0 <;> rfl) ?_
  intro Z hC hQ hE hN
  unfold m_X4_decidedPapers at h
  refine x_iconst (v := (0 : Int32)) hC dX4_decidedPapers_0 (by decide) ?_
  refine x_istore_n (i := 1) (l' := [(1, .int (0 : Int32)), (0, va_rf r0)]) hC dX4_decidedPapers_1 rfl (⟨fun _ => c_rf r0, trivial⟩) (by decide) rfl ?_
  refine x_iconst (v := (0 : Int32)) hC dX4_decidedPapers_2 (by decide) ?_
  refine x_istore_n (i := 2) (l' := [(2, .int (0 : Int32)), (1, .int (0 : Int32)), (0, va_rf r0)]) hC dX4_decidedPapers_3 rfl (⟨fun _ => rfl, ⟨fun _ => c_rf r0, trivial⟩⟩) (by decide) rfl ?_
  refine x_sub (l' := [(0, va_rf r0), (1, .int (0 : Int32)), (2, .int (0 : Int32))]) [2, 1, 0] rfl ?_
  refine lp_sim (P := fun (t : (Int32 × Int32 × PH)) => PX Z 3 t.2.2 0 0 4 [(0, va_rf r0), (1, .int t.1), (2, .int t.2.1)] []) (G := fun r => r = y) ?_ h rfl
  clear h
  intro t x_4 h hg_4
  obtain ⟨v1, v2, S3⟩ := t
  show PX Z 3 S3 0 0 4 [(0, va_rf r0), (1, .int v1), (2, .int v2)] []
  unfold st_X4_decidedPapers_4 at h
  refine x_iload_n (i := 2) hC dX4_decidedPapers_4 rfl 2 rfl ?_
  refine x_bipush (v := (8 : Int32)) hC dX4_decidedPapers_5 (by decide) ?_
  refine x_icmp_ge (t := 31) hC dX4_decidedPapers_7 (by decide) (fun c4 => ?_) (fun c4 => ?_)
  · replace h := it_t c4 h
    replace h := ir_x h hg_4
    refine x_iload_n (i := 1) hC dX4_decidedPapers_31 rfl 1 rfl ?_
    exact x_iret hC hQ (z_N (Option.some.inj h)) (Nat.le_of_ble_eq_true rfl) (Nat.le_of_ble_eq_true rfl) dX4_decidedPapers_32
  · replace h := it_f c4 h
    refine x_aload_n (i := 0) hC dX4_decidedPapers_10 rfl 0 rfl ?_
    replace h := dr_el h
    obtain ⟨a5, ea6, ha7, h⟩ := h
    refine x_getR hC ea6 ha7 kf_4 0 (by decide) rfl q_172 dX4_decidedPapers_11 ?_
    replace h := dr_el h
    obtain ⟨a8, ea9, ha10, h⟩ := h
    refine x_getR hC ea9 ha10 kf_2 9 (by decide) rfl q_55 dX4_decidedPapers_14 ?_
    refine x_iload_n (i := 2) hC dX4_decidedPapers_17 rfl 2 rfl ?_
    replace h := dr_el h
    obtain ⟨a11, ea12, ha13, h⟩ := h
    replace h := ck_el h
    obtain ⟨hc14, h⟩ := h
    refine x_iaload hC ea12 ha13 hc14 dX4_decidedPapers_18 ?_
    refine x_if_eq (t := 25) hC dX4_decidedPapers_19 (by decide) (fun c15 => ?_) (fun c15 => ?_)
    · replace h := it_t c15 h
      refine x_iinc (i := 2) (v := (v2 + (1 : Int32))) (l' := [(2, .int (v2 + (1 : Int32))), (0, va_rf r0), (1, .int v1)]) hC dX4_decidedPapers_25 2 rfl rfl (⟨fun _ => c_rf r0, ⟨fun _ => rfl, ⟨fun _ => rfl, trivial⟩⟩⟩) (by decide) rfl ?_
      refine x_goto (t := 4) hC dX4_decidedPapers_28 (by decide) ?_
      refine x_sub (l' := [(0, va_rf r0), (1, .int v1), (2, .int (v2 + (1 : Int32)))]) [1, 2, 0] rfl ?_
      have hb := bk_x h hg_4
      exact hb
    · replace h := it_f c15 h
      refine x_iinc (i := 1) (v := (v1 + (1 : Int32))) (l' := [(1, .int (v1 + (1 : Int32))), (0, va_rf r0), (2, .int v2)]) hC dX4_decidedPapers_22 1 rfl rfl (⟨fun _ => c_rf r0, ⟨fun _ => rfl, ⟨fun _ => rfl, trivial⟩⟩⟩) (by decide) rfl ?_
      refine x_iinc (i := 2) (v := (v2 + (1 : Int32))) (l' := [(2, .int (v2 + (1 : Int32))), (1, .int (v1 + (1 : Int32))), (0, va_rf r0)]) hC dX4_decidedPapers_25 2 rfl rfl (⟨fun _ => rfl, ⟨fun _ => c_rf r0, ⟨fun _ => rfl, trivial⟩⟩⟩) (by decide) rfl ?_
      refine x_goto (t := 4) hC dX4_decidedPapers_28 (by decide) ?_
      refine x_sub (l' := [(0, va_rf r0), (1, .int (v1 + (1 : Int32))), (2, .int (v2 + (1 : Int32)))]) [2, 1, 0] rfl ?_
      have hb := bk_x h hg_4
      exact hb
theorem dX4_pairsWorked_0 : decode cX4_pairsWorked 0 = .ok (.iconst 0, 1) := by decide +kernel
theorem dX4_pairsWorked_1 : decode cX4_pairsWorked 1 = .ok (.istore_n 1, 1) := by decide +kernel
theorem dX4_pairsWorked_2 : decode cX4_pairsWorked 2 = .ok (.iconst 0, 1) := by decide +kernel
theorem dX4_pairsWorked_3 : decode cX4_pairsWorked 3 = .ok (.istore_n 2, 1) := by decide +kernel
theorem dX4_pairsWorked_4 : decode cX4_pairsWorked 4 = .ok (.iload_n 2, 1) := by decide +kernel
theorem dX4_pairsWorked_5 : decode cX4_pairsWorked 5 = .ok (.bipush 8, 2) := by decide +kernel
theorem dX4_pairsWorked_7 : decode cX4_pairsWorked 7 = .ok (.if_icmp .ge 24, 3) := by decide +kernel
theorem dX4_pairsWorked_10 : decode cX4_pairsWorked 10 = .ok (.iload_n 1, 1) := by decide +kernel
theorem dX4_pairsWorked_11 : decode cX4_pairsWorked 11 = .ok (.aload_n 0, 1) := by decide +kernel
theorem dX4_pairsWorked_12 : decode cX4_pairsWorked 12 = .ok (.getfield 10, 3) := by decide +kernel
theorem dX4_pairsWorked_15 : decode cX4_pairsWorked 15 = .ok (.getfield 84, 3) := by decide +kernel
theorem dX4_pairsWorked_18 : decode cX4_pairsWorked 18 = .ok (.iload_n 2, 1) := by decide +kernel
theorem dX4_pairsWorked_19 : decode cX4_pairsWorked 19 = .ok (.iaload, 1) := by decide +kernel
theorem dX4_pairsWorked_20 : decode cX4_pairsWorked 20 = .ok (.invokestatic 178, 3) := by decide +kernel
theorem dX4_pairsWorked_23 : decode cX4_pairsWorked 23 = .ok (.iadd, 1) := by decide +kernel
theorem dX4_pairsWorked_24 : decode cX4_pairsWorked 24 = .ok (.istore_n 1, 1) := by decide +kernel
theorem dX4_pairsWorked_25 : decode cX4_pairsWorked 25 = .ok (.iinc 2 1, 3) := by decide +kernel
theorem dX4_pairsWorked_28 : decode cX4_pairsWorked 28 = .ok (.goto (-24), 3) := by decide +kernel
theorem dX4_pairsWorked_31 : decode cX4_pairsWorked 31 = .ok (.iload_n 1, 1) := by decide +kernel
theorem dX4_pairsWorked_32 : decode cX4_pairsWorked 32 = .ok (.iconst 2, 1) := by decide +kernel
theorem dX4_pairsWorked_33 : decode cX4_pairsWorked 33 = .ok (.idiv, 1) := by decide +kernel
theorem dX4_pairsWorked_34 : decode cX4_pairsWorked 34 = .ok (.ireturn, 1) := by decide +kernel
set_option maxRecDepth 100000 in
set_option maxHeartbeats 4000000 in
theorem mt_X4_pairsWorked (r0 : Option Nat) (S0 : PH) (y : Int32 × PH) (h : m_X4_pairsWorked r0 S0 = some y) : MT yX4_pairsWorked (.code yX4_pairsWorked cX4_pairsWorked 3 (Option.some FieldType.int)) 1 20 0 0 [va_rf r0] S0 (oQ e_I (qN y)) := by
  refine mt_of (own := RX4) (l0 := [(0, va_rf r0)]) rfl rfl (by cases r0 <;> exact Nat.le_of_ble_eq_true rfl) (by cases r0 <;> rfl) ?_
  intro Z hC hQ hE hN
  unfold m_X4_pairsWorked at h
  refine x_iconst (v := (0 : Int32)) hC dX4_pairsWorked_0 (by decide) ?_
  refine x_istore_n (i := 1) (l' := [(1, .int (0 : Int32)), (0, va_rf r0)]) hC dX4_pairsWorked_1 rfl (⟨fun _ => c_rf r0, trivial⟩) (by decide) rfl ?_
  refine x_iconst (v := (0 : Int32)) hC dX4_pairsWorked_2 (by decide) ?_
  refine x_istore_n (i := 2) (l' := [(2, .int (0 : Int32)), (1, .int (0 : Int32)), (0, va_rf r0)]) hC dX4_pairsWorked_3 rfl (⟨fun _ => rfl, ⟨fun _ => c_rf r0, trivial⟩⟩) (by decide) rfl ?_
  refine x_sub (l' := [(0, va_rf r0), (1, .int (0 : Int32)), (2, .int (0 : Int32))]) [2, 1, 0] rfl ?_
  refine lp_sim (P := fun (t : (Int32 × Int32 × PH)) => PX Z 3 t.2.2 0 0 4 [(0, va_rf r0), (1, .int t.1), (2, .int t.2.1)] []) (G := fun r => r = y) ?_ h rfl
  clear h
  intro t x_4 h hg_4
  obtain ⟨v1, v2, S3⟩ := t
  show PX Z 3 S3 0 0 4 [(0, va_rf r0), (1, .int v1), (2, .int v2)] []
  unfold st_X4_pairsWorked_4 at h
  refine x_iload_n (i := 2) hC dX4_pairsWorked_4 rfl 2 rfl ?_
  refine x_bipush (v := (8 : Int32)) hC dX4_pairsWorked_5 (by decide) ?_
  refine x_icmp_ge (t := 31) hC dX4_pairsWorked_7 (by decide) (fun c4 => ?_) (fun c4 => ?_)
  · replace h := it_t c4 h
    replace h := ir_x h hg_4
    refine x_iload_n (i := 1) hC dX4_pairsWorked_31 rfl 1 rfl ?_
    refine x_iconst (v := (2 : Int32)) hC dX4_pairsWorked_32 (by decide) ?_
    refine x_idiv hC dX4_pairsWorked_33 (by decide) ?_
    exact x_iret hC hQ (z_N (Option.some.inj h)) (Nat.le_of_ble_eq_true rfl) (Nat.le_of_ble_eq_true rfl) dX4_pairsWorked_34
  · replace h := it_f c4 h
    refine x_iload_n (i := 1) hC dX4_pairsWorked_10 rfl 1 rfl ?_
    refine x_aload_n (i := 0) hC dX4_pairsWorked_11 rfl 0 rfl ?_
    replace h := dr_el h
    obtain ⟨a5, ea6, ha7, h⟩ := h
    refine x_getR hC ea6 ha7 kf_4 0 (by decide) rfl q_172 dX4_pairsWorked_12 ?_
    replace h := dr_el h
    obtain ⟨a8, ea9, ha10, h⟩ := h
    refine x_getR hC ea9 ha10 kf_2 1 (by decide) rfl q_39 dX4_pairsWorked_15 ?_
    refine x_iload_n (i := 2) hC dX4_pairsWorked_18 rfl 2 rfl ?_
    replace h := dr_el h
    obtain ⟨a11, ea12, ha13, h⟩ := h
    replace h := ck_el h
    obtain ⟨hc14, h⟩ := h
    refine x_iaload hC ea12 ha13 hc14 dX4_pairsWorked_19 ?_
    replace h := bd_el h
    obtain ⟨v15, S16, hb17, h⟩ := h
    refine x_callS hC (st := [.int v1]) (mt_J6_bitCount_0f7a4 _ _ _ hb17) q_352 q_353 q_13 q_354 hy_J6_bitCount_0f7a4 ⟨Nat.le_of_ble_eq_true rfl, Nat.le_of_ble_eq_true rfl⟩ ⟨Nat.le_of_ble_eq_true rfl, Nat.le_of_ble_eq_true rfl⟩ rfl (Nat.le_of_ble_eq_true rfl) dX4_pairsWorked_20 (r_N ?_) r_NX
    show PX Z 3 S16 0 0 23 [(0, va_rf r0), (1, .int v1), (2, .int v2)] [.int v15, .int v1]
    refine x_iadd hC dX4_pairsWorked_23 ?_
    replace h := le_el h
    obtain ⟨x18, hx19, h⟩ := h
    refine x_tI hx19 ?_
    refine x_istore_n (i := 1) (l' := [(1, .int x18), (0, va_rf r0), (2, .int v2)]) hC dX4_pairsWorked_24 rfl (⟨fun _ => c_rf r0, ⟨fun _ => rfl, ⟨fun _ => rfl, trivial⟩⟩⟩) (by decide) rfl ?_
    refine x_iinc (i := 2) (v := (v2 + (1 : Int32))) (l' := [(2, .int (v2 + (1 : Int32))), (1, .int x18), (0, va_rf r0)]) hC dX4_pairsWorked_25 2 rfl rfl (⟨fun _ => rfl, ⟨fun _ => c_rf r0, ⟨fun _ => rfl, trivial⟩⟩⟩) (by decide) rfl ?_
    refine x_goto (t := 4) hC dX4_pairsWorked_28 (by decide) ?_
    refine x_sub (l' := [(0, va_rf r0), (1, .int x18), (2, .int (v2 + (1 : Int32)))]) [2, 1, 0] rfl ?_
    have hb := bk_x h hg_4
    exact hb
theorem dX4_number_0 : decode cX4_number 0 = .ok (.iload_n 1, 1) := by decide +kernel
theorem dX4_number_1 : decode cX4_number 1 = .ok (.tableswitch 132 0 10 #[59, 67, 75, 83, 88, 93, 104, 109, 114, 119, 127], 59) := by decide +kernel
theorem dX4_number_60 : decode cX4_number 60 = .ok (.aload_n 0, 1) := by decide +kernel
theorem dX4_number_61 : decode cX4_number 61 = .ok (.getfield 10, 3) := by decide +kernel
theorem dX4_number_64 : decode cX4_number 64 = .ok (.getfield 54, 3) := by decide +kernel
theorem dX4_number_67 : decode cX4_number 67 = .ok (.ireturn, 1) := by decide +kernel
theorem dX4_number_68 : decode cX4_number 68 = .ok (.aload_n 0, 1) := by decide +kernel
theorem dX4_number_69 : decode cX4_number 69 = .ok (.getfield 10, 3) := by decide +kernel
theorem dX4_number_72 : decode cX4_number 72 = .ok (.getfield 303, 3) := by decide +kernel
theorem dX4_number_75 : decode cX4_number 75 = .ok (.ireturn, 1) := by decide +kernel
theorem dX4_number_76 : decode cX4_number 76 = .ok (.aload_n 0, 1) := by decide +kernel
theorem dX4_number_77 : decode cX4_number 77 = .ok (.getfield 10, 3) := by decide +kernel
theorem dX4_number_80 : decode cX4_number 80 = .ok (.getfield 112, 3) := by decide +kernel
theorem dX4_number_83 : decode cX4_number 83 = .ok (.ireturn, 1) := by decide +kernel
theorem dX4_number_84 : decode cX4_number 84 = .ok (.aload_n 0, 1) := by decide +kernel
theorem dX4_number_85 : decode cX4_number 85 = .ok (.invokevirtual 319, 3) := by decide +kernel
theorem dX4_number_88 : decode cX4_number 88 = .ok (.ireturn, 1) := by decide +kernel
theorem dX4_number_89 : decode cX4_number 89 = .ok (.aload_n 0, 1) := by decide +kernel
theorem dX4_number_90 : decode cX4_number 90 = .ok (.invokevirtual 396, 3) := by decide +kernel
theorem dX4_number_93 : decode cX4_number 93 = .ok (.ireturn, 1) := by decide +kernel
theorem dX4_number_94 : decode cX4_number 94 = .ok (.bipush 100, 2) := by decide +kernel
theorem dX4_number_96 : decode cX4_number 96 = .ok (.aload_n 0, 1) := by decide +kernel
theorem dX4_number_97 : decode cX4_number 97 = .ok (.getfield 10, 3) := by decide +kernel
theorem dX4_number_100 : decode cX4_number 100 = .ok (.getfield 107, 3) := by decide +kernel
theorem dX4_number_103 : decode cX4_number 103 = .ok (.iadd, 1) := by decide +kernel
theorem dX4_number_104 : decode cX4_number 104 = .ok (.ireturn, 1) := by decide +kernel
theorem dX4_number_105 : decode cX4_number 105 = .ok (.aload_n 0, 1) := by decide +kernel
theorem dX4_number_106 : decode cX4_number 106 = .ok (.invokevirtual 399, 3) := by decide +kernel
theorem dX4_number_109 : decode cX4_number 109 = .ok (.ireturn, 1) := by decide +kernel
theorem dX4_number_110 : decode cX4_number 110 = .ok (.aload_n 0, 1) := by decide +kernel
theorem dX4_number_111 : decode cX4_number 111 = .ok (.invokevirtual 402, 3) := by decide +kernel
theorem dX4_number_114 : decode cX4_number 114 = .ok (.ireturn, 1) := by decide +kernel
theorem dX4_number_115 : decode cX4_number 115 = .ok (.aload_n 0, 1) := by decide +kernel
theorem dX4_number_116 : decode cX4_number 116 = .ok (.invokevirtual 405, 3) := by decide +kernel
theorem dX4_number_119 : decode cX4_number 119 = .ok (.ireturn, 1) := by decide +kernel
theorem dX4_number_120 : decode cX4_number 120 = .ok (.aload_n 0, 1) := by decide +kernel
theorem dX4_number_121 : decode cX4_number 121 = .ok (.getfield 10, 3) := by decide +kernel
theorem dX4_number_124 : decode cX4_number 124 = .ok (.getfield 331, 3) := by decide +kernel
theorem dX4_number_127 : decode cX4_number 127 = .ok (.ireturn, 1) := by decide +kernel
theorem dX4_number_128 : decode cX4_number 128 = .ok (.aload_n 0, 1) := by decide +kernel
theorem dX4_number_129 : decode cX4_number 129 = .ok (.invokevirtual 408, 3) := by decide +kernel
theorem dX4_number_132 : decode cX4_number 132 = .ok (.ireturn, 1) := by decide +kernel
theorem dX4_number_133 : decode cX4_number 133 = .ok (.aload_n 0, 1) := by decide +kernel
theorem dX4_number_134 : decode cX4_number 134 = .ok (.getfield 19, 3) := by decide +kernel
theorem dX4_number_137 : decode cX4_number 137 = .ok (.getfield 224, 3) := by decide +kernel
theorem dX4_number_140 : decode cX4_number 140 = .ok (.ireturn, 1) := by decide +kernel
set_option maxRecDepth 100000 in
set_option maxHeartbeats 4000000 in
theorem mt_X4_number (r0 : Option Nat) (i1 : Int32) (S0 : PH) (y : Int32 × PH) (h : m_X4_number r0 i1 S0 = some y) : MT yX4_number (.code yX4_number cX4_number 2 (Option.some FieldType.int)) 3 64 0 0 [va_rf r0, .int i1] S0 (oQ e_I (qN y)) := by
  refine mt_of (own := RX4) (l0 := [(0, va_rf r0), (1, .int i1)]) rfl rfl (by cases r0 <;> exact Nat.le_of_ble_eq_true rfl) (by cases r0 <;> rfl) ?_
  intro Z hC hQ hE hN
  unfold m_X4_number at h
  refine x_iload_n (i := 1) hC dX4_number_0 rfl 1 rfl ?_
  rcases Decidable.em (i1 = (0 : Int32)) with c1 | c1
  · replace h := it_t c1 h
    refine x_tabIn (off := 59) (t := 60) hC dX4_number_1 (by rw [c1]; decide) (by rw [c1]; decide) (by rw [c1]; decide) (by decide) ?_
    refine x_aload_n (i := 0) hC dX4_number_60 rfl 0 rfl ?_
    replace h := dr_el h
    obtain ⟨a2, ea3, ha4, h⟩ := h
    refine x_getR hC ea3 ha4 kf_4 0 (by decide) rfl q_172 dX4_number_61 ?_
    replace h := dr_el h
    obtain ⟨a5, ea6, ha7, h⟩ := h
    refine x_getI hC ea6 ha7 kf_2 12 (by decide) rfl q_61 dX4_number_64 ?_
    exact x_iret hC hQ (z_N (Option.some.inj h)) (Nat.le_of_ble_eq_true rfl) (Nat.le_of_ble_eq_true rfl) dX4_number_67
  replace h := it_f c1 h
  rcases Decidable.em (i1 = (1 : Int32)) with c8 | c8
  · replace h := it_t c8 h
    refine x_tabIn (off := 67) (t := 68) hC dX4_number_1 (by rw [c8]; decide) (by rw [c8]; decide) (by rw [c8]; decide) (by decide) ?_
    refine x_aload_n (i := 0) hC dX4_number_68 rfl 0 rfl ?_
    replace h := dr_el h
    obtain ⟨a9, ea10, ha11, h⟩ := h
    refine x_getR hC ea10 ha11 kf_4 0 (by decide) rfl q_172 dX4_number_69 ?_
    replace h := dr_el h
    obtain ⟨a12, ea13, ha14, h⟩ := h
    refine x_getI hC ea13 ha14 kf_2 13 (by decide) rfl q_63 dX4_number_72 ?_
    exact x_iret hC hQ (z_N (Option.some.inj h)) (Nat.le_of_ble_eq_true rfl) (Nat.le_of_ble_eq_true rfl) dX4_number_75
  replace h := it_f c8 h
  rcases Decidable.em (i1 = (2 : Int32)) with c15 | c15
  · replace h := it_t c15 h
    refine x_tabIn (off := 75) (t := 76) hC dX4_number_1 (by rw [c15]; decide) (by rw [c15]; decide) (by rw [c15]; decide) (by decide) ?_
    refine x_aload_n (i := 0) hC dX4_number_76 rfl 0 rfl ?_
    replace h := dr_el h
    obtain ⟨a16, ea17, ha18, h⟩ := h
    refine x_getR hC ea17 ha18 kf_4 0 (by decide) rfl q_172 dX4_number_77 ?_
    replace h := dr_el h
    obtain ⟨a19, ea20, ha21, h⟩ := h
    refine x_getI hC ea20 ha21 kf_2 14 (by decide) rfl q_65 dX4_number_80 ?_
    exact x_iret hC hQ (z_N (Option.some.inj h)) (Nat.le_of_ble_eq_true rfl) (Nat.le_of_ble_eq_true rfl) dX4_number_83
  replace h := it_f c15 h
  rcases Decidable.em (i1 = (3 : Int32)) with c22 | c22
  · replace h := it_t c22 h
    refine x_tabIn (off := 83) (t := 84) hC dX4_number_1 (by rw [c22]; decide) (by rw [c22]; decide) (by rw [c22]; decide) (by decide) ?_
    refine x_aload_n (i := 0) hC dX4_number_84 rfl 0 rfl ?_
    replace h := dr_el h
    obtain ⟨a23, ea24, ha25, h⟩ := h
    replace h := bd_el h
    obtain ⟨v26, S27, hb28, h⟩ := h
    refine x_callV hC (st := []) (mt_X4_allSpent _ _ _ hb28) ea24 ha25 kf_4 q_415 q_417 qs_13 q_1 q_418 ⟨rfl, hy_X4_allSpent⟩ ⟨Nat.le_of_ble_eq_true rfl, Nat.le_of_ble_eq_true rfl⟩ ⟨Nat.le_of_ble_eq_true rfl, Nat.le_of_ble_eq_true rfl⟩ rfl (Nat.le_of_ble_eq_true rfl) dX4_number_85 (r_N ?_) r_NX
    show PX Z 2 S27 0 0 88 [(0, va_rf r0), (1, .int i1)] [.int v26]
    exact x_iret hC hQ (z_N (Option.some.inj h)) (Nat.le_of_ble_eq_true rfl) (Nat.le_of_ble_eq_true rfl) dX4_number_88
  replace h := it_f c22 h
  rcases Decidable.em (i1 = (4 : Int32)) with c29 | c29
  · replace h := it_t c29 h
    refine x_tabIn (off := 88) (t := 89) hC dX4_number_1 (by rw [c29]; decide) (by rw [c29]; decide) (by rw [c29]; decide) (by decide) ?_
    refine x_aload_n (i := 0) hC dX4_number_89 rfl 0 rfl ?_
    replace h := dr_el h
    obtain ⟨a30, ea31, ha32, h⟩ := h
    replace h := bd_el h
    obtain ⟨v33, S34, hb35, h⟩ := h
    refine x_callV hC (st := []) (mt_X4_allTokens _ _ _ hb35) ea31 ha32 kf_4 q_419 q_421 qs_14 q_1 q_422 ⟨rfl, hy_X4_allTokens⟩ ⟨Nat.le_of_ble_eq_true rfl, Nat.le_of_ble_eq_true rfl⟩ ⟨Nat.le_of_ble_eq_true rfl, Nat.le_of_ble_eq_true rfl⟩ rfl (Nat.le_of_ble_eq_true rfl) dX4_number_90 (r_N ?_) r_NX
    show PX Z 2 S34 0 0 93 [(0, va_rf r0), (1, .int i1)] [.int v33]
    exact x_iret hC hQ (z_N (Option.some.inj h)) (Nat.le_of_ble_eq_true rfl) (Nat.le_of_ble_eq_true rfl) dX4_number_93
  replace h := it_f c29 h
  rcases Decidable.em (i1 = (5 : Int32)) with c36 | c36
  · replace h := it_t c36 h
    refine x_tabIn (off := 93) (t := 94) hC dX4_number_1 (by rw [c36]; decide) (by rw [c36]; decide) (by rw [c36]; decide) (by decide) ?_
    refine x_bipush (v := (100 : Int32)) hC dX4_number_94 (by decide) ?_
    refine x_aload_n (i := 0) hC dX4_number_96 rfl 0 rfl ?_
    replace h := dr_el h
    obtain ⟨a37, ea38, ha39, h⟩ := h
    refine x_getR hC ea38 ha39 kf_4 0 (by decide) rfl q_172 dX4_number_97 ?_
    replace h := dr_el h
    obtain ⟨a40, ea41, ha42, h⟩ := h
    refine x_getI hC ea41 ha42 kf_2 15 (by decide) rfl q_67 dX4_number_100 ?_
    refine x_iadd hC dX4_number_103 ?_
    exact x_iret hC hQ (z_N (Option.some.inj h)) (Nat.le_of_ble_eq_true rfl) (Nat.le_of_ble_eq_true rfl) dX4_number_104
  replace h := it_f c36 h
  rcases Decidable.em (i1 = (6 : Int32)) with c43 | c43
  · replace h := it_t c43 h
    refine x_tabIn (off := 104) (t := 105) hC dX4_number_1 (by rw [c43]; decide) (by rw [c43]; decide) (by rw [c43]; decide) (by decide) ?_
    refine x_aload_n (i := 0) hC dX4_number_105 rfl 0 rfl ?_
    replace h := dr_el h
    obtain ⟨a44, ea45, ha46, h⟩ := h
    replace h := bd_el h
    obtain ⟨v47, S48, hb49, h⟩ := h
    refine x_callV hC (st := []) (mt_X4_allReviews _ _ _ hb49) ea45 ha46 kf_4 q_423 q_425 qs_15 q_1 q_426 ⟨rfl, hy_X4_allReviews⟩ ⟨Nat.le_of_ble_eq_true rfl, Nat.le_of_ble_eq_true rfl⟩ ⟨Nat.le_of_ble_eq_true rfl, Nat.le_of_ble_eq_true rfl⟩ rfl (Nat.le_of_ble_eq_true rfl) dX4_number_106 (r_N ?_) r_NX
    show PX Z 2 S48 0 0 109 [(0, va_rf r0), (1, .int i1)] [.int v47]
    exact x_iret hC hQ (z_N (Option.some.inj h)) (Nat.le_of_ble_eq_true rfl) (Nat.le_of_ble_eq_true rfl) dX4_number_109
  replace h := it_f c43 h
  rcases Decidable.em (i1 = (7 : Int32)) with c50 | c50
  · replace h := it_t c50 h
    refine x_tabIn (off := 109) (t := 110) hC dX4_number_1 (by rw [c50]; decide) (by rw [c50]; decide) (by rw [c50]; decide) (by decide) ?_
    refine x_aload_n (i := 0) hC dX4_number_110 rfl 0 rfl ?_
    replace h := dr_el h
    obtain ⟨a51, ea52, ha53, h⟩ := h
    replace h := bd_el h
    obtain ⟨v54, S55, hb56, h⟩ := h
    refine x_callV hC (st := []) (mt_X4_allWritten _ _ _ hb56) ea52 ha53 kf_4 q_427 q_429 qs_16 q_1 q_430 ⟨rfl, hy_X4_allWritten⟩ ⟨Nat.le_of_ble_eq_true rfl, Nat.le_of_ble_eq_true rfl⟩ ⟨Nat.le_of_ble_eq_true rfl, Nat.le_of_ble_eq_true rfl⟩ rfl (Nat.le_of_ble_eq_true rfl) dX4_number_111 (r_N ?_) r_NX
    show PX Z 2 S55 0 0 114 [(0, va_rf r0), (1, .int i1)] [.int v54]
    exact x_iret hC hQ (z_N (Option.some.inj h)) (Nat.le_of_ble_eq_true rfl) (Nat.le_of_ble_eq_true rfl) dX4_number_114
  replace h := it_f c50 h
  rcases Decidable.em (i1 = (8 : Int32)) with c57 | c57
  · replace h := it_t c57 h
    refine x_tabIn (off := 114) (t := 115) hC dX4_number_1 (by rw [c57]; decide) (by rw [c57]; decide) (by rw [c57]; decide) (by decide) ?_
    refine x_aload_n (i := 0) hC dX4_number_115 rfl 0 rfl ?_
    replace h := dr_el h
    obtain ⟨a58, ea59, ha60, h⟩ := h
    replace h := bd_el h
    obtain ⟨v61, S62, hb63, h⟩ := h
    refine x_callV hC (st := []) (mt_X4_decidedPapers _ _ _ hb63) ea59 ha60 kf_4 q_437 q_439 qs_17 q_1 q_440 ⟨rfl, hy_X4_decidedPapers⟩ ⟨Nat.le_of_ble_eq_true rfl, Nat.le_of_ble_eq_true rfl⟩ ⟨Nat.le_of_ble_eq_true rfl, Nat.le_of_ble_eq_true rfl⟩ rfl (Nat.le_of_ble_eq_true rfl) dX4_number_116 (r_N ?_) r_NX
    show PX Z 2 S62 0 0 119 [(0, va_rf r0), (1, .int i1)] [.int v61]
    exact x_iret hC hQ (z_N (Option.some.inj h)) (Nat.le_of_ble_eq_true rfl) (Nat.le_of_ble_eq_true rfl) dX4_number_119
  replace h := it_f c57 h
  rcases Decidable.em (i1 = (9 : Int32)) with c64 | c64
  · replace h := it_t c64 h
    refine x_tabIn (off := 119) (t := 120) hC dX4_number_1 (by rw [c64]; decide) (by rw [c64]; decide) (by rw [c64]; decide) (by decide) ?_
    refine x_aload_n (i := 0) hC dX4_number_120 rfl 0 rfl ?_
    replace h := dr_el h
    obtain ⟨a65, ea66, ha67, h⟩ := h
    refine x_getR hC ea66 ha67 kf_4 0 (by decide) rfl q_172 dX4_number_121 ?_
    replace h := dr_el h
    obtain ⟨a68, ea69, ha70, h⟩ := h
    refine x_getI hC ea69 ha70 kf_2 16 (by decide) rfl q_69 dX4_number_124 ?_
    exact x_iret hC hQ (z_N (Option.some.inj h)) (Nat.le_of_ble_eq_true rfl) (Nat.le_of_ble_eq_true rfl) dX4_number_127
  replace h := it_f c64 h
  rcases Decidable.em (i1 = (10 : Int32)) with c71 | c71
  · replace h := it_t c71 h
    refine x_tabIn (off := 127) (t := 128) hC dX4_number_1 (by rw [c71]; decide) (by rw [c71]; decide) (by rw [c71]; decide) (by decide) ?_
    refine x_aload_n (i := 0) hC dX4_number_128 rfl 0 rfl ?_
    replace h := dr_el h
    obtain ⟨a72, ea73, ha74, h⟩ := h
    replace h := bd_el h
    obtain ⟨v75, S76, hb77, h⟩ := h
    refine x_callV hC (st := []) (mt_X4_pairsWorked _ _ _ hb77) ea73 ha74 kf_4 q_441 q_443 qs_18 q_1 q_444 ⟨rfl, hy_X4_pairsWorked⟩ ⟨Nat.le_of_ble_eq_true rfl, Nat.le_of_ble_eq_true rfl⟩ ⟨Nat.le_of_ble_eq_true rfl, Nat.le_of_ble_eq_true rfl⟩ rfl (Nat.le_of_ble_eq_true rfl) dX4_number_129 (r_N ?_) r_NX
    show PX Z 2 S76 0 0 132 [(0, va_rf r0), (1, .int i1)] [.int v75]
    exact x_iret hC hQ (z_N (Option.some.inj h)) (Nat.le_of_ble_eq_true rfl) (Nat.le_of_ble_eq_true rfl) dX4_number_132
  replace h := it_f c71 h
  refine x_tabOut (t := 133) hC dX4_number_1 (tab_o 0 [(0 : Int32), (1 : Int32), (2 : Int32), (3 : Int32), (4 : Int32), (5 : Int32), (6 : Int32), (7 : Int32), (8 : Int32), (9 : Int32), (10 : Int32)] (by decide) (by decide) (List.forall_mem_cons.mpr ⟨c1, List.forall_mem_cons.mpr ⟨c8, List.forall_mem_cons.mpr ⟨c15, List.forall_mem_cons.mpr ⟨c22, List.forall_mem_cons.mpr ⟨c29, List.forall_mem_cons.mpr ⟨c36, List.forall_mem_cons.mpr ⟨c43, List.forall_mem_cons.mpr ⟨c50, List.forall_mem_cons.mpr ⟨c57, List.forall_mem_cons.mpr ⟨c64, List.forall_mem_cons.mpr ⟨c71, fun _ q => nomatch q⟩⟩⟩⟩⟩⟩⟩⟩⟩⟩⟩)) (by decide) ?_
  refine x_aload_n (i := 0) hC dX4_number_133 rfl 0 rfl ?_
  replace h := dr_el h
  obtain ⟨a78, ea79, ha80, h⟩ := h
  refine x_getR hC ea79 ha80 kf_4 1 (by decide) rfl q_173 dX4_number_134 ?_
  replace h := dr_el h
  obtain ⟨a81, ea82, ha83, h⟩ := h
  refine x_getI hC ea82 ha83 kf_0 2 (by decide) rfl q_117 dX4_number_137 ?_
  exact x_iret hC hQ (z_N (Option.some.inj h)) (Nat.le_of_ble_eq_true rfl) (Nat.le_of_ble_eq_true rfl) dX4_number_140
theorem dX4_count_0 : decode cX4_count 0 = .ok (.iload_n 1, 1) := by decide +kernel
theorem dX4_count_1 : decode cX4_count 1 = .ok (.ifCond .lt 9, 3) := by decide +kernel
theorem dX4_count_4 : decode cX4_count 4 = .ok (.iload_n 1, 1) := by decide +kernel
theorem dX4_count_5 : decode cX4_count 5 = .ok (.bipush 12, 2) := by decide +kernel
theorem dX4_count_7 : decode cX4_count 7 = .ok (.if_icmp .lt 13, 3) := by decide +kernel
theorem dX4_count_10 : decode cX4_count 10 = .ok (.new 45, 3) := by decide +kernel
theorem dX4_count_13 : decode cX4_count 13 = .ok (.dup, 1) := by decide +kernel
theorem dX4_count_14 : decode cX4_count 14 = .ok (.ldc 237, 2) := by decide +kernel
theorem dX4_count_16 : decode cX4_count 16 = .ok (.invokespecial 49, 3) := by decide +kernel
theorem dX4_count_19 : decode cX4_count 19 = .ok (.athrow, 1) := by decide +kernel
theorem dX4_count_20 : decode cX4_count 20 = .ok (.aload_n 0, 1) := by decide +kernel
theorem dX4_count_21 : decode cX4_count 21 = .ok (.iload_n 1, 1) := by decide +kernel
theorem dX4_count_22 : decode cX4_count 22 = .ok (.invokevirtual 239, 3) := by decide +kernel
theorem dX4_count_25 : decode cX4_count 25 = .ok (.ireturn, 1) := by decide +kernel
set_option maxRecDepth 100000 in
set_option maxHeartbeats 4000000 in
theorem mt_X4_count (r0 : Option Nat) (i1 : Int32) (S0 : PH) (y : (Nat ⊕ Int32) × PH) (h : m_X4_count r0 i1 S0 = some y) : MT yX4_count (.code yX4_count cX4_count 2 (Option.some FieldType.int)) 6 90 1 6 [va_rf r0, .int i1] S0 (oQ e_I (qT y)) := by
  refine mt_of (own := RX4) (l0 := [(0, va_rf r0), (1, .int i1)]) rfl rfl (by cases r0 <;> exact Nat.le_of_ble_eq_true rfl) (by cases r0 <;> rfl) ?_
  intro Z hC hQ hE hN
  have J_10 : ∀ (S2 : PH), j_X4_count_10 r0 i1 S2 = some y → PX Z 2 S2 0 0 10 [(0, va_rf r0), (1, .int i1)] [] := by
    intro S2 h
    unfold j_X4_count_10 at h
    exact x_throw hC hQ hE (j := 0) (z_X (Option.some.inj h)) tx_45_49_0 (List.mem_of_getElem? (i := 8) rfl) (Nat.le_of_ble_eq_true rfl) ⟨Nat.le_of_ble_eq_true rfl, Nat.le_of_ble_eq_true rfl⟩ ⟨Nat.le_of_ble_eq_true rfl, Nat.le_of_ble_eq_true rfl⟩ (Nat.le_of_ble_eq_true rfl) (Nat.le_of_ble_eq_true rfl) dX4_count_10 dX4_count_13 dX4_count_14 dX4_count_16 dX4_count_19
  unfold m_X4_count at h
  refine x_iload_n (i := 1) hC dX4_count_0 rfl 1 rfl ?_
  refine x_if_lt (t := 10) hC dX4_count_1 (by decide) (fun c1 => ?_) (fun c1 => ?_)
  · replace h := it_t c1 h
    exact J_10 _ h
  · replace h := it_f c1 h
    refine x_iload_n (i := 1) hC dX4_count_4 rfl 1 rfl ?_
    refine x_bipush (v := (12 : Int32)) hC dX4_count_5 (by decide) ?_
    refine x_icmp_lt (t := 20) hC dX4_count_7 (by decide) (fun c3 => ?_) (fun c3 => ?_)
    · replace h := it_t c3 h
      refine x_aload_n (i := 0) hC dX4_count_20 rfl 0 rfl ?_
      refine x_iload_n (i := 1) hC dX4_count_21 rfl 1 rfl ?_
      replace h := dr_el h
      obtain ⟨a4, ea5, ha6, h⟩ := h
      replace h := bd_el h
      obtain ⟨v7, S8, hb9, h⟩ := h
      refine x_callV hC (st := []) (mt_X4_number _ _ _ _ hb9) ea5 ha6 kf_4 q_411 q_413 qs_12 q_1 q_414 ⟨rfl, hy_X4_number⟩ ⟨Nat.le_of_ble_eq_true rfl, Nat.le_of_ble_eq_true rfl⟩ ⟨Nat.le_of_ble_eq_true rfl, Nat.le_of_ble_eq_true rfl⟩ rfl (Nat.le_of_ble_eq_true rfl) dX4_count_22 (r_N ?_) r_NX
      show PX Z 2 S8 0 0 25 [(0, va_rf r0), (1, .int i1)] [.int v7]
      exact x_iret hC hQ (z_T (Option.some.inj h)) (Nat.le_of_ble_eq_true rfl) (Nat.le_of_ble_eq_true rfl) dX4_count_25
    · replace h := it_f c3 h
      exact J_10 _ h
set_option maxRecDepth 100000 in
set_option maxHeartbeats 4000000 in
theorem mtr_X4_count (r0 : Option Nat) (i1 : Int32) (S0 : PH) (y0 : Int32 × PH) (h : m_X4_count r0 i1 S0 = some (.inr y0.1, y0.2)) : MT yX4_count (.code yX4_count cX4_count 2 (Option.some FieldType.int)) 6 90 0 0 [va_rf r0, .int i1] S0 (oQ e_I (qN y0)) := by
  generalize hyr : ((.inr y0.1 : Nat ⊕ Int32), y0.2) = y at h
  refine mt_of (own := RX4) (l0 := [(0, va_rf r0), (1, .int i1)]) rfl rfl (by cases r0 <;> exact Nat.le_of_ble_eq_true rfl) (by cases r0 <;> rfl) ?_
  intro Z hC hQ hE hN
  have J_10 : ∀ (S2 : PH), j_X4_count_10 r0 i1 S2 = some y → PX Z 2 S2 0 0 10 [(0, va_rf r0), (1, .int i1)] [] := by
    intro S2 h
    unfold j_X4_count_10 at h
    exact z_no hyr (Option.some.inj h)
  unfold m_X4_count at h
  refine x_iload_n (i := 1) hC dX4_count_0 rfl 1 rfl ?_
  refine x_if_lt (t := 10) hC dX4_count_1 (by decide) (fun c1 => ?_) (fun c1 => ?_)
  · replace h := it_t c1 h
    exact J_10 _ h
  · replace h := it_f c1 h
    refine x_iload_n (i := 1) hC dX4_count_4 rfl 1 rfl ?_
    refine x_bipush (v := (12 : Int32)) hC dX4_count_5 (by decide) ?_
    refine x_icmp_lt (t := 20) hC dX4_count_7 (by decide) (fun c3 => ?_) (fun c3 => ?_)
    · replace h := it_t c3 h
      refine x_aload_n (i := 0) hC dX4_count_20 rfl 0 rfl ?_
      refine x_iload_n (i := 1) hC dX4_count_21 rfl 1 rfl ?_
      replace h := dr_el h
      obtain ⟨a4, ea5, ha6, h⟩ := h
      replace h := bd_el h
      obtain ⟨v7, S8, hb9, h⟩ := h
      refine x_callV hC (st := []) (mt_X4_number _ _ _ _ hb9) ea5 ha6 kf_4 q_411 q_413 qs_12 q_1 q_414 ⟨rfl, hy_X4_number⟩ ⟨Nat.le_of_ble_eq_true rfl, Nat.le_of_ble_eq_true rfl⟩ ⟨Nat.le_of_ble_eq_true rfl, Nat.le_of_ble_eq_true rfl⟩ rfl (Nat.le_of_ble_eq_true rfl) dX4_count_22 (r_N ?_) r_NX
      show PX Z 2 S8 0 0 25 [(0, va_rf r0), (1, .int i1)] [.int v7]
      exact x_iret hC hQ (z_R hyr (Option.some.inj h)) (Nat.le_of_ble_eq_true rfl) (Nat.le_of_ble_eq_true rfl) dX4_count_25
    · replace h := it_f c3 h
      exact J_10 _ h
theorem dX4_setting_0 : decode cX4_setting 0 = .ok (.iload_n 1, 1) := by decide +kernel
theorem dX4_setting_1 : decode cX4_setting 1 = .ok (.invokestatic 91, 3) := by decide +kernel
theorem dX4_setting_4 : decode cX4_setting 4 = .ok (.aload_n 0, 1) := by decide +kernel
theorem dX4_setting_5 : decode cX4_setting 5 = .ok (.getfield 10, 3) := by decide +kernel
theorem dX4_setting_8 : decode cX4_setting 8 = .ok (.getfield 102, 3) := by decide +kernel
theorem dX4_setting_11 : decode cX4_setting 11 = .ok (.iload_n 1, 1) := by decide +kernel
theorem dX4_setting_12 : decode cX4_setting 12 = .ok (.iaload, 1) := by decide +kernel
theorem dX4_setting_13 : decode cX4_setting 13 = .ok (.ireturn, 1) := by decide +kernel
set_option maxRecDepth 100000 in
set_option maxHeartbeats 4000000 in
theorem mt_X4_setting (r0 : Option Nat) (i1 : Int32) (S0 : PH) (y : (Nat ⊕ Int32) × PH) (h : m_X4_setting r0 i1 S0 = some y) : MT yX4_setting (.code yX4_setting cX4_setting 2 (Option.some FieldType.int)) 7 110 1 6 [va_rf r0, .int i1] S0 (oQ e_I (qT y)) := by
  refine mt_of (own := RX4) (l0 := [(0, va_rf r0), (1, .int i1)]) rfl rfl (by cases r0 <;> exact Nat.le_of_ble_eq_true rfl) (by cases r0 <;> rfl) ?_
  intro Z hC hQ hE hN
  unfold m_X4_setting at h
  refine x_iload_n (i := 1) hC dX4_setting_0 rfl 1 rfl ?_
  replace h := bt_el h
  obtain ⟨v1, S2, hb15, h⟩ | ⟨j3, S4, hb15, h⟩ := h
  · refine x_callS hC (st := []) (mtr_X4_requireSetting _ _ (v1, S2) hb15) q_556 q_557 q_1 q_558 hy_X4_requireSetting ⟨Nat.le_of_ble_eq_true rfl, Nat.le_of_ble_eq_true rfl⟩ ⟨Nat.le_of_ble_eq_true rfl, Nat.le_of_ble_eq_true rfl⟩ rfl (Nat.le_of_ble_eq_true rfl) dX4_setting_1 (r_N ?_) r_NX
    show PX Z 2 S2 0 0 4 [(0, va_rf r0), (1, .int i1)] []
    refine x_aload_n (i := 0) hC dX4_setting_4 rfl 0 rfl ?_
    replace h := dr_el h
    obtain ⟨a5, ea6, ha7, h⟩ := h
    refine x_getR hC ea6 ha7 kf_4 0 (by decide) rfl q_172 dX4_setting_5 ?_
    replace h := dr_el h
    obtain ⟨a8, ea9, ha10, h⟩ := h
    refine x_getR hC ea9 ha10 kf_2 11 (by decide) rfl q_59 dX4_setting_8 ?_
    refine x_iload_n (i := 1) hC dX4_setting_11 rfl 1 rfl ?_
    replace h := dr_el h
    obtain ⟨a11, ea12, ha13, h⟩ := h
    replace h := ck_el h
    obtain ⟨hc14, h⟩ := h
    refine x_iaload hC ea12 ha13 hc14 dX4_setting_12 ?_
    exact x_iret hC hQ (z_T (Option.some.inj h)) (Nat.le_of_ble_eq_true rfl) (Nat.le_of_ble_eq_true rfl) dX4_setting_13
  · refine x_callS hC (st := []) (mt_X4_requireSetting _ _ _ hb15) q_556 q_557 q_1 q_558 hy_X4_requireSetting ⟨Nat.le_of_ble_eq_true rfl, Nat.le_of_ble_eq_true rfl⟩ ⟨Nat.le_of_ble_eq_true rfl, Nat.le_of_ble_eq_true rfl⟩ rfl (Nat.le_of_ble_eq_true rfl) dX4_setting_1 r_X (r_XX ?_)
    exact x_out hC hQ hE (z_X (Option.some.inj h)) (Nat.le_of_ble_eq_true rfl) (Nat.le_of_ble_eq_true rfl)
set_option maxRecDepth 100000 in
set_option maxHeartbeats 4000000 in
theorem mtr_X4_setting (r0 : Option Nat) (i1 : Int32) (S0 : PH) (y0 : Int32 × PH) (h : m_X4_setting r0 i1 S0 = some (.inr y0.1, y0.2)) : MT yX4_setting (.code yX4_setting cX4_setting 2 (Option.some FieldType.int)) 7 110 0 0 [va_rf r0, .int i1] S0 (oQ e_I (qN y0)) := by
  generalize hyr : ((.inr y0.1 : Nat ⊕ Int32), y0.2) = y at h
  refine mt_of (own := RX4) (l0 := [(0, va_rf r0), (1, .int i1)]) rfl rfl (by cases r0 <;> exact Nat.le_of_ble_eq_true rfl) (by cases r0 <;> rfl) ?_
  intro Z hC hQ hE hN
  unfold m_X4_setting at h
  refine x_iload_n (i := 1) hC dX4_setting_0 rfl 1 rfl ?_
  replace h := bt_el h
  obtain ⟨v1, S2, hb15, h⟩ | ⟨j3, S4, hb15, h⟩ := h
  · refine x_callS hC (st := []) (mtr_X4_requireSetting _ _ (v1, S2) hb15) q_556 q_557 q_1 q_558 hy_X4_requireSetting ⟨Nat.le_of_ble_eq_true rfl, Nat.le_of_ble_eq_true rfl⟩ ⟨Nat.le_of_ble_eq_true rfl, Nat.le_of_ble_eq_true rfl⟩ rfl (Nat.le_of_ble_eq_true rfl) dX4_setting_1 (r_N ?_) r_NX
    show PX Z 2 S2 0 0 4 [(0, va_rf r0), (1, .int i1)] []
    refine x_aload_n (i := 0) hC dX4_setting_4 rfl 0 rfl ?_
    replace h := dr_el h
    obtain ⟨a5, ea6, ha7, h⟩ := h
    refine x_getR hC ea6 ha7 kf_4 0 (by decide) rfl q_172 dX4_setting_5 ?_
    replace h := dr_el h
    obtain ⟨a8, ea9, ha10, h⟩ := h
    refine x_getR hC ea9 ha10 kf_2 11 (by decide) rfl q_59 dX4_setting_8 ?_
    refine x_iload_n (i := 1) hC dX4_setting_11 rfl 1 rfl ?_
    replace h := dr_el h
    obtain ⟨a11, ea12, ha13, h⟩ := h
    replace h := ck_el h
    obtain ⟨hc14, h⟩ := h
    refine x_iaload hC ea12 ha13 hc14 dX4_setting_12 ?_
    exact x_iret hC hQ (z_R hyr (Option.some.inj h)) (Nat.le_of_ble_eq_true rfl) (Nat.le_of_ble_eq_true rfl) dX4_setting_13
  · exact z_no hyr (Option.some.inj h)
theorem dX4_whyNot_0 : decode cX4_whyNot 0 = .ok (.iload_n 1, 1) := by decide +kernel
theorem dX4_whyNot_1 : decode cX4_whyNot 1 = .ok (.invokestatic 73, 3) := by decide +kernel
theorem dX4_whyNot_4 : decode cX4_whyNot 4 = .ok (.aload_n 0, 1) := by decide +kernel
theorem dX4_whyNot_5 : decode cX4_whyNot 5 = .ok (.iload_n 2, 1) := by decide +kernel
theorem dX4_whyNot_6 : decode cX4_whyNot 6 = .ok (.invokevirtual 125, 3) := by decide +kernel
theorem dX4_whyNot_9 : decode cX4_whyNot 9 = .ok (.aload_n 0, 1) := by decide +kernel
theorem dX4_whyNot_10 : decode cX4_whyNot 10 = .ok (.iload_n 1, 1) := by decide +kernel
theorem dX4_whyNot_11 : decode cX4_whyNot 11 = .ok (.iload_n 2, 1) := by decide +kernel
theorem dX4_whyNot_12 : decode cX4_whyNot 12 = .ok (.invokevirtual 242, 3) := by decide +kernel
theorem dX4_whyNot_15 : decode cX4_whyNot 15 = .ok (.ireturn, 1) := by decide +kernel
set_option maxRecDepth 100000 in
set_option maxHeartbeats 4000000 in
theorem mt_X4_whyNot (r0 : Option Nat) (i1 : Int32) (i2 : Int32) (S0 : PH) (y : (Nat ⊕ Int32) × PH) (h : m_X4_whyNot r0 i1 i2 S0 = some y) : MT yX4_whyNot (.code yX4_whyNot cX4_whyNot 3 (Option.some FieldType.int)) 7 111 1 6 [va_rf r0, .int i1, .int i2] S0 (oQ e_I (qT y)) := by
  refine mt_of (own := RX4) (l0 := [(0, va_rf r0), (1, .int i1), (2, .int i2)]) rfl rfl (by cases r0 <;> exact Nat.le_of_ble_eq_true rfl) (by cases r0 <;> rfl) ?_
  intro Z hC hQ hE hN
  unfold m_X4_whyNot at h
  refine x_iload_n (i := 1) hC dX4_whyNot_0 rfl 1 rfl ?_
  replace h := bt_el h
  obtain ⟨v1, S2, hb19, h⟩ | ⟨j3, S4, hb19, h⟩ := h
  · refine x_callS hC (st := []) (mtr_X4_requirePerson _ _ (v1, S2) hb19) q_313 q_314 q_1 q_315 hy_X4_requirePerson ⟨Nat.le_of_ble_eq_true rfl, Nat.le_of_ble_eq_true rfl⟩ ⟨Nat.le_of_ble_eq_true rfl, Nat.le_of_ble_eq_true rfl⟩ rfl (Nat.le_of_ble_eq_true rfl) dX4_whyNot_1 (r_N ?_) r_NX
    show PX Z 3 S2 0 0 4 [(0, va_rf r0), (1, .int i1), (2, .int i2)] []
    refine x_aload_n (i := 0) hC dX4_whyNot_4 rfl 0 rfl ?_
    refine x_iload_n (i := 2) hC dX4_whyNot_5 rfl 2 rfl ?_
    replace h := dr_el h
    obtain ⟨a5, ea6, ha7, h⟩ := h
    replace h := bt_el h
    obtain ⟨v8, S9, hb18, h⟩ | ⟨j10, S11, hb18, h⟩ := h
    · refine x_callV hC (st := []) (mtr_X4_requirePaper _ _ _ (v8, S9) hb18) ea6 ha7 kf_4 q_332 q_334 qs_4 q_1 q_335 ⟨rfl, hy_X4_requirePaper⟩ ⟨Nat.le_of_ble_eq_true rfl, Nat.le_of_ble_eq_true rfl⟩ ⟨Nat.le_of_ble_eq_true rfl, Nat.le_of_ble_eq_true rfl⟩ rfl (Nat.le_of_ble_eq_true rfl) dX4_whyNot_6 (r_N ?_) r_NX
      show PX Z 3 S9 0 0 9 [(0, va_rf r0), (1, .int i1), (2, .int i2)] []
      refine x_aload_n (i := 0) hC dX4_whyNot_9 rfl 0 rfl ?_
      refine x_iload_n (i := 1) hC dX4_whyNot_10 rfl 1 rfl ?_
      refine x_iload_n (i := 2) hC dX4_whyNot_11 rfl 2 rfl ?_
      replace h := dr_el h
      obtain ⟨a12, ea13, ha14, h⟩ := h
      replace h := bd_el h
      obtain ⟨v15, S16, hb17, h⟩ := h
      refine x_callV hC (st := []) (mt_X4_reasonAgainstTaking _ _ _ _ _ hb17) ea13 ha14 kf_4 q_345 q_347 qs_7 q_1 q_348 ⟨rfl, hy_X4_reasonAgainstTaking⟩ ⟨Nat.le_of_ble_eq_true rfl, Nat.le_of_ble_eq_true rfl⟩ ⟨Nat.le_of_ble_eq_true rfl, Nat.le_of_ble_eq_true rfl⟩ rfl (Nat.le_of_ble_eq_true rfl) dX4_whyNot_12 (r_N ?_) r_NX
      show PX Z 3 S16 0 0 15 [(0, va_rf r0), (1, .int i1), (2, .int i2)] [.int v15]
      exact x_iret hC hQ (z_T (Option.some.inj h)) (Nat.le_of_ble_eq_true rfl) (Nat.le_of_ble_eq_true rfl) dX4_whyNot_15
    · refine x_callV hC (st := []) (mt_X4_requirePaper _ _ _ _ hb18) ea6 ha7 kf_4 q_332 q_334 qs_4 q_1 q_335 ⟨rfl, hy_X4_requirePaper⟩ ⟨Nat.le_of_ble_eq_true rfl, Nat.le_of_ble_eq_true rfl⟩ ⟨Nat.le_of_ble_eq_true rfl, Nat.le_of_ble_eq_true rfl⟩ rfl (Nat.le_of_ble_eq_true rfl) dX4_whyNot_6 r_X (r_XX ?_)
      exact x_out hC hQ hE (z_X (Option.some.inj h)) (Nat.le_of_ble_eq_true rfl) (Nat.le_of_ble_eq_true rfl)
  · refine x_callS hC (st := []) (mt_X4_requirePerson _ _ _ hb19) q_313 q_314 q_1 q_315 hy_X4_requirePerson ⟨Nat.le_of_ble_eq_true rfl, Nat.le_of_ble_eq_true rfl⟩ ⟨Nat.le_of_ble_eq_true rfl, Nat.le_of_ble_eq_true rfl⟩ rfl (Nat.le_of_ble_eq_true rfl) dX4_whyNot_1 r_X (r_XX ?_)
    exact x_out hC hQ hE (z_X (Option.some.inj h)) (Nat.le_of_ble_eq_true rfl) (Nat.le_of_ble_eq_true rfl)
set_option maxRecDepth 100000 in
set_option maxHeartbeats 4000000 in
theorem mtr_X4_whyNot (r0 : Option Nat) (i1 : Int32) (i2 : Int32) (S0 : PH) (y0 : Int32 × PH) (h : m_X4_whyNot r0 i1 i2 S0 = some (.inr y0.1, y0.2)) : MT yX4_whyNot (.code yX4_whyNot cX4_whyNot 3 (Option.some FieldType.int)) 7 111 0 0 [va_rf r0, .int i1, .int i2] S0 (oQ e_I (qN y0)) := by
  generalize hyr : ((.inr y0.1 : Nat ⊕ Int32), y0.2) = y at h
  refine mt_of (own := RX4) (l0 := [(0, va_rf r0), (1, .int i1), (2, .int i2)]) rfl rfl (by cases r0 <;> exact Nat.le_of_ble_eq_true rfl) (by cases r0 <;> rfl) ?_
  intro Z hC hQ hE hN
  unfold m_X4_whyNot at h
  refine x_iload_n (i := 1) hC dX4_whyNot_0 rfl 1 rfl ?_
  replace h := bt_el h
  obtain ⟨v1, S2, hb19, h⟩ | ⟨j3, S4, hb19, h⟩ := h
  · refine x_callS hC (st := []) (mtr_X4_requirePerson _ _ (v1, S2) hb19) q_313 q_314 q_1 q_315 hy_X4_requirePerson ⟨Nat.le_of_ble_eq_true rfl, Nat.le_of_ble_eq_true rfl⟩ ⟨Nat.le_of_ble_eq_true rfl, Nat.le_of_ble_eq_true rfl⟩ rfl (Nat.le_of_ble_eq_true rfl) dX4_whyNot_1 (r_N ?_) r_NX
    show PX Z 3 S2 0 0 4 [(0, va_rf r0), (1, .int i1), (2, .int i2)] []
    refine x_aload_n (i := 0) hC dX4_whyNot_4 rfl 0 rfl ?_
    refine x_iload_n (i := 2) hC dX4_whyNot_5 rfl 2 rfl ?_
    replace h := dr_el h
    obtain ⟨a5, ea6, ha7, h⟩ := h
    replace h := bt_el h
    obtain ⟨v8, S9, hb18, h⟩ | ⟨j10, S11, hb18, h⟩ := h
    · refine x_callV hC (st := []) (mtr_X4_requirePaper _ _ _ (v8, S9) hb18) ea6 ha7 kf_4 q_332 q_334 qs_4 q_1 q_335 ⟨rfl, hy_X4_requirePaper⟩ ⟨Nat.le_of_ble_eq_true rfl, Nat.le_of_ble_eq_true rfl⟩ ⟨Nat.le_of_ble_eq_true rfl, Nat.le_of_ble_eq_true rfl⟩ rfl (Nat.le_of_ble_eq_true rfl) dX4_whyNot_6 (r_N ?_) r_NX
      show PX Z 3 S9 0 0 9 [(0, va_rf r0), (1, .int i1), (2, .int i2)] []
      refine x_aload_n (i := 0) hC dX4_whyNot_9 rfl 0 rfl ?_
      refine x_iload_n (i := 1) hC dX4_whyNot_10 rfl 1 rfl ?_
      refine x_iload_n (i := 2) hC dX4_whyNot_11 rfl 2 rfl ?_
      replace h := dr_el h
      obtain ⟨a12, ea13, ha14, h⟩ := h
      replace h := bd_el h
      obtain ⟨v15, S16, hb17, h⟩ := h
      refine x_callV hC (st := []) (mt_X4_reasonAgainstTaking _ _ _ _ _ hb17) ea13 ha14 kf_4 q_345 q_347 qs_7 q_1 q_348 ⟨rfl, hy_X4_reasonAgainstTaking⟩ ⟨Nat.le_of_ble_eq_true rfl, Nat.le_of_ble_eq_true rfl⟩ ⟨Nat.le_of_ble_eq_true rfl, Nat.le_of_ble_eq_true rfl⟩ rfl (Nat.le_of_ble_eq_true rfl) dX4_whyNot_12 (r_N ?_) r_NX
      show PX Z 3 S16 0 0 15 [(0, va_rf r0), (1, .int i1), (2, .int i2)] [.int v15]
      exact x_iret hC hQ (z_R hyr (Option.some.inj h)) (Nat.le_of_ble_eq_true rfl) (Nat.le_of_ble_eq_true rfl) dX4_whyNot_15
    · exact z_no hyr (Option.some.inj h)
  · exact z_no hyr (Option.some.inj h)
theorem dX4_bestPersonFor_0 : decode cX4_bestPersonFor 0 = .ok (.iconst (-1), 1) := by decide +kernel
theorem dX4_bestPersonFor_1 : decode cX4_bestPersonFor 1 = .ok (.istore_n 2, 1) := by decide +kernel
theorem dX4_bestPersonFor_2 : decode cX4_bestPersonFor 2 = .ok (.iconst 0, 1) := by decide +kernel
theorem dX4_bestPersonFor_3 : decode cX4_bestPersonFor 3 = .ok (.istore_n 3, 1) := by decide +kernel
theorem dX4_bestPersonFor_4 : decode cX4_bestPersonFor 4 = .ok (.iconst 0, 1) := by decide +kernel
theorem dX4_bestPersonFor_5 : decode cX4_bestPersonFor 5 = .ok (.istore 4, 2) := by decide +kernel
theorem dX4_bestPersonFor_7 : decode cX4_bestPersonFor 7 = .ok (.iconst 0, 1) := by decide +kernel
theorem dX4_bestPersonFor_8 : decode cX4_bestPersonFor 8 = .ok (.istore 5, 2) := by decide +kernel
theorem dX4_bestPersonFor_10 : decode cX4_bestPersonFor 10 = .ok (.iload 5, 2) := by decide +kernel
theorem dX4_bestPersonFor_12 : decode cX4_bestPersonFor 12 = .ok (.bipush 8, 2) := by decide +kernel
theorem dX4_bestPersonFor_14 : decode cX4_bestPersonFor 14 = .ok (.if_icmp .ge 72, 3) := by decide +kernel
theorem dX4_bestPersonFor_17 : decode cX4_bestPersonFor 17 = .ok (.aload_n 0, 1) := by decide +kernel
theorem dX4_bestPersonFor_18 : decode cX4_bestPersonFor 18 = .ok (.iload 5, 2) := by decide +kernel
theorem dX4_bestPersonFor_20 : decode cX4_bestPersonFor 20 = .ok (.iload_n 1, 1) := by decide +kernel
theorem dX4_bestPersonFor_21 : decode cX4_bestPersonFor 21 = .ok (.invokevirtual 242, 3) := by decide +kernel
theorem dX4_bestPersonFor_24 : decode cX4_bestPersonFor 24 = .ok (.ifCond .eq 6, 3) := by decide +kernel
theorem dX4_bestPersonFor_27 : decode cX4_bestPersonFor 27 = .ok (.goto 53, 3) := by decide +kernel
theorem dX4_bestPersonFor_30 : decode cX4_bestPersonFor 30 = .ok (.aload_n 0, 1) := by decide +kernel
theorem dX4_bestPersonFor_31 : decode cX4_bestPersonFor 31 = .ok (.iload 5, 2) := by decide +kernel
theorem dX4_bestPersonFor_33 : decode cX4_bestPersonFor 33 = .ok (.invokevirtual 384, 3) := by decide +kernel
theorem dX4_bestPersonFor_36 : decode cX4_bestPersonFor 36 = .ok (.istore 6, 2) := by decide +kernel
theorem dX4_bestPersonFor_38 : decode cX4_bestPersonFor 38 = .ok (.aload_n 0, 1) := by decide +kernel
theorem dX4_bestPersonFor_39 : decode cX4_bestPersonFor 39 = .ok (.iload 5, 2) := by decide +kernel
theorem dX4_bestPersonFor_41 : decode cX4_bestPersonFor 41 = .ok (.invokevirtual 316, 3) := by decide +kernel
theorem dX4_bestPersonFor_44 : decode cX4_bestPersonFor 44 = .ok (.istore 7, 2) := by decide +kernel
theorem dX4_bestPersonFor_46 : decode cX4_bestPersonFor 46 = .ok (.iload_n 2, 1) := by decide +kernel
theorem dX4_bestPersonFor_47 : decode cX4_bestPersonFor 47 = .ok (.iconst (-1), 1) := by decide +kernel
theorem dX4_bestPersonFor_48 : decode cX4_bestPersonFor 48 = .ok (.if_icmp .eq 22, 3) := by decide +kernel
theorem dX4_bestPersonFor_51 : decode cX4_bestPersonFor 51 = .ok (.iload 6, 2) := by decide +kernel
theorem dX4_bestPersonFor_53 : decode cX4_bestPersonFor 53 = .ok (.iload_n 3, 1) := by decide +kernel
theorem dX4_bestPersonFor_54 : decode cX4_bestPersonFor 54 = .ok (.if_icmp .lt 16, 3) := by decide +kernel
theorem dX4_bestPersonFor_57 : decode cX4_bestPersonFor 57 = .ok (.iload 6, 2) := by decide +kernel
theorem dX4_bestPersonFor_59 : decode cX4_bestPersonFor 59 = .ok (.iload_n 3, 1) := by decide +kernel
theorem dX4_bestPersonFor_60 : decode cX4_bestPersonFor 60 = .ok (.if_icmp .ne 20, 3) := by decide +kernel
theorem dX4_bestPersonFor_63 : decode cX4_bestPersonFor 63 = .ok (.iload 7, 2) := by decide +kernel
theorem dX4_bestPersonFor_65 : decode cX4_bestPersonFor 65 = .ok (.iload 4, 2) := by decide +kernel
theorem dX4_bestPersonFor_67 : decode cX4_bestPersonFor 67 = .ok (.if_icmp .le 13, 3) := by decide +kernel
theorem dX4_bestPersonFor_70 : decode cX4_bestPersonFor 70 = .ok (.iload 5, 2) := by decide +kernel
theorem dX4_bestPersonFor_72 : decode cX4_bestPersonFor 72 = .ok (.istore_n 2, 1) := by decide +kernel
theorem dX4_bestPersonFor_73 : decode cX4_bestPersonFor 73 = .ok (.iload 6, 2) := by decide +kernel
theorem dX4_bestPersonFor_75 : decode cX4_bestPersonFor 75 = .ok (.istore_n 3, 1) := by decide +kernel
theorem dX4_bestPersonFor_76 : decode cX4_bestPersonFor 76 = .ok (.iload 7, 2) := by decide +kernel
theorem dX4_bestPersonFor_78 : decode cX4_bestPersonFor 78 = .ok (.istore 4, 2) := by decide +kernel
theorem dX4_bestPersonFor_80 : decode cX4_bestPersonFor 80 = .ok (.iinc 5 1, 3) := by decide +kernel
theorem dX4_bestPersonFor_83 : decode cX4_bestPersonFor 83 = .ok (.goto (-73), 3) := by decide +kernel
theorem dX4_bestPersonFor_86 : decode cX4_bestPersonFor 86 = .ok (.iload_n 2, 1) := by decide +kernel
theorem dX4_bestPersonFor_87 : decode cX4_bestPersonFor 87 = .ok (.ireturn, 1) := by decide +kernel
set_option maxRecDepth 100000 in
set_option maxHeartbeats 4000000 in
theorem mt_X4_bestPersonFor (r0 : Option Nat) (i1 : Int32) (S0 : PH) (y : Int32 × PH) (h : m_X4_bestPersonFor r0 i1 S0 = some y) : MT yX4_bestPersonFor (.code yX4_bestPersonFor cX4_bestPersonFor 8 (Option.some FieldType.int)) 4 90 0 0 [va_rf r0, .int i1] S0 (oQ e_I (qN y)) := by
  refine mt_of (own := RX4) (l0 := [(0, va_rf r0), (1, .int i1)]) rfl rfl (by cases r0 <;> exact Nat.le_of_ble_eq_true rfl) (by cases r0 <;> rfl) ?_
  intro Z hC hQ hE hN
  unfold m_X4_bestPersonFor at h
  refine x_iconst (v := (-1 : Int32)) hC dX4_bestPersonFor_0 (by decide) ?_
  refine x_istore_n (i := 2) (l' := [(2, .int (-1 : Int32)), (0, va_rf r0), (1, .int i1)]) hC dX4_bestPersonFor_1 rfl (⟨fun _ => c_rf r0, ⟨fun _ => rfl, trivial⟩⟩) (by decide) rfl ?_
  refine x_iconst (v := (0 : Int32)) hC dX4_bestPersonFor_2 (by decide) ?_
  refine x_istore_n (i := 3) (l' := [(3, .int (0 : Int32)), (2, .int (-1 : Int32)), (0, va_rf r0), (1, .int i1)]) hC dX4_bestPersonFor_3 rfl (⟨fun _ => rfl, ⟨fun _ => c_rf r0, ⟨fun _ => rfl, trivial⟩⟩⟩) (by decide) rfl ?_
  refine x_iconst (v := (0 : Int32)) hC dX4_bestPersonFor_4 (by decide) ?_
  refine x_istore (i := 4) (l' := [(4, .int (0 : Int32)), (3, .int (0 : Int32)), (2, .int (-1 : Int32)), (0, va_rf r0), (1, .int i1)]) hC dX4_bestPersonFor_5 (⟨fun _ => rfl, ⟨fun _ => rfl, ⟨fun _ => c_rf r0, ⟨fun _ => rfl, trivial⟩⟩⟩⟩) (by decide) rfl ?_
  refine x_iconst (v := (0 : Int32)) hC dX4_bestPersonFor_7 (by decide) ?_
  refine x_istore (i := 5) (l' := [(5, .int (0 : Int32)), (4, .int (0 : Int32)), (3, .int (0 : Int32)), (2, .int (-1 : Int32)), (0, va_rf r0), (1, .int i1)]) hC dX4_bestPersonFor_8 (⟨fun _ => rfl, ⟨fun _ => rfl, ⟨fun _ => rfl, ⟨fun _ => c_rf r0, ⟨fun _ => rfl, trivial⟩⟩⟩⟩⟩) (by decide) rfl ?_
  refine x_sub (l' := [(0, va_rf r0), (1, .int i1), (2, .int (-1 : Int32)), (3, .int (0 : Int32)), (4, .int (0 : Int32)), (5, .int (0 : Int32))]) [4, 5, 3, 2, 1, 0] rfl ?_
  refine lp_sim (P := fun (t : (Int32 × Int32 × Int32 × Int32 × PH)) => PX Z 8 t.2.2.2.2 0 0 10 [(0, va_rf r0), (1, .int i1), (2, .int t.1), (3, .int t.2.1), (4, .int t.2.2.1), (5, .int t.2.2.2.1)] []) (G := fun r => r = y) ?_ h rfl
  clear h
  intro t x_10 h hg_10
  obtain ⟨v1, v2, v3, v4, S5⟩ := t
  show PX Z 8 S5 0 0 10 [(0, va_rf r0), (1, .int i1), (2, .int v1), (3, .int v2), (4, .int v3), (5, .int v4)] []
  have J_70 : ∀ (v27 : Int32) (v28 : Int32) (v29 : Int32) (S30 : PH), j_X4_bestPersonFor_70 r0 i1 v27 v28 v29 S30 = some x_10 → PX Z 8 S30 0 0 70 [(0, va_rf r0), (1, .int i1), (5, .int v27), (6, .int v28), (7, .int v29)] [] := by
    intro v27 v28 v29 S30 h
    unfold j_X4_bestPersonFor_70 at h
    refine x_iload (i := 5) hC dX4_bestPersonFor_70 2 rfl ?_
    refine x_istore_n (i := 2) (l' := [(2, .int v27), (0, va_rf r0), (1, .int i1), (5, .int v27), (6, .int v28), (7, .int v29)]) hC dX4_bestPersonFor_72 rfl (⟨fun _ => c_rf r0, ⟨fun _ => rfl, ⟨fun _ => rfl, ⟨fun _ => rfl, ⟨fun _ => rfl, trivial⟩⟩⟩⟩⟩) (by decide) rfl ?_
    refine x_iload (i := 6) hC dX4_bestPersonFor_73 4 rfl ?_
    refine x_istore_n (i := 3) (l' := [(3, .int v28), (2, .int v27), (0, va_rf r0), (1, .int i1), (5, .int v27), (6, .int v28), (7, .int v29)]) hC dX4_bestPersonFor_75 rfl (⟨fun _ => rfl, ⟨fun _ => c_rf r0, ⟨fun _ => rfl, ⟨fun _ => rfl, ⟨fun _ => rfl, ⟨fun _ => rfl, trivial⟩⟩⟩⟩⟩⟩) (by decide) rfl ?_
    refine x_iload (i := 7) hC dX4_bestPersonFor_76 6 rfl ?_
    refine x_istore (i := 4) (l' := [(4, .int v29), (3, .int v28), (2, .int v27), (0, va_rf r0), (1, .int i1), (5, .int v27), (6, .int v28), (7, .int v29)]) hC dX4_bestPersonFor_78 (⟨fun _ => rfl, ⟨fun _ => rfl, ⟨fun _ => c_rf r0, ⟨fun _ => rfl, ⟨fun _ => rfl, ⟨fun _ => rfl, ⟨fun _ => rfl, trivial⟩⟩⟩⟩⟩⟩⟩) (by decide) rfl ?_
    refine x_iinc (i := 5) (v := (v27 + (1 : Int32))) (l' := [(5, .int (v27 + (1 : Int32))), (4, .int v29), (3, .int v28), (2, .int v27), (0, va_rf r0), (1, .int i1), (6, .int v28), (7, .int v29)]) hC dX4_bestPersonFor_80 5 rfl rfl (⟨fun _ => rfl, ⟨fun _ => rfl, ⟨fun _ => rfl, ⟨fun _ => c_rf r0, ⟨fun _ => rfl, ⟨fun _ => rfl, ⟨fun _ => rfl, ⟨fun _ => rfl, trivial⟩⟩⟩⟩⟩⟩⟩⟩) (by decide) rfl ?_
    refine x_goto (t := 10) hC dX4_bestPersonFor_83 (by decide) ?_
    refine x_sub (l' := [(0, va_rf r0), (1, .int i1), (2, .int v27), (3, .int v28), (4, .int v29), (5, .int (v27 + (1 : Int32)))]) [4, 5, 3, 2, 1, 0] rfl ?_
    have hb := bk_x h hg_10
    exact hb
  unfold st_X4_bestPersonFor_10 at h
  refine x_iload (i := 5) hC dX4_bestPersonFor_10 5 rfl ?_
  refine x_bipush (v := (8 : Int32)) hC dX4_bestPersonFor_12 (by decide) ?_
  refine x_icmp_ge (t := 86) hC dX4_bestPersonFor_14 (by decide) (fun c6 => ?_) (fun c6 => ?_)
  · replace h := it_t c6 h
    replace h := ir_x h hg_10
    refine x_iload_n (i := 2) hC dX4_bestPersonFor_86 rfl 2 rfl ?_
    exact x_iret hC hQ (z_N (Option.some.inj h)) (Nat.le_of_ble_eq_true rfl) (Nat.le_of_ble_eq_true rfl) dX4_bestPersonFor_87
  · replace h := it_f c6 h
    refine x_aload_n (i := 0) hC dX4_bestPersonFor_17 rfl 0 rfl ?_
    refine x_iload (i := 5) hC dX4_bestPersonFor_18 5 rfl ?_
    refine x_iload_n (i := 1) hC dX4_bestPersonFor_20 rfl 1 rfl ?_
    replace h := dr_el h
    obtain ⟨a7, ea8, ha9, h⟩ := h
    replace h := bd_el h
    obtain ⟨v10, S11, hb12, h⟩ := h
    refine x_callV hC (st := []) (mt_X4_reasonAgainstTaking _ _ _ _ _ hb12) ea8 ha9 kf_4 q_345 q_347 qs_7 q_1 q_348 ⟨rfl, hy_X4_reasonAgainstTaking⟩ ⟨Nat.le_of_ble_eq_true rfl, Nat.le_of_ble_eq_true rfl⟩ ⟨Nat.le_of_ble_eq_true rfl, Nat.le_of_ble_eq_true rfl⟩ rfl (Nat.le_of_ble_eq_true rfl) dX4_bestPersonFor_21 (r_N ?_) r_NX
    show PX Z 8 S11 0 0 24 [(0, va_rf r0), (1, .int i1), (2, .int v1), (3, .int v2), (4, .int v3), (5, .int v4)] [.int v10]
    refine x_if_eq (t := 30) hC dX4_bestPersonFor_24 (by decide) (fun c13 => ?_) (fun c13 => ?_)
    · replace h := it_t c13 h
      refine x_aload_n (i := 0) hC dX4_bestPersonFor_30 rfl 0 rfl ?_
      refine x_iload (i := 5) hC dX4_bestPersonFor_31 5 rfl ?_
      replace h := dr_el h
      obtain ⟨a14, ea15, ha16, h⟩ := h
      replace h := bd_el h
      obtain ⟨v17, S18, hb19, h⟩ := h
      refine x_callV hC (st := []) (mt_X4_loadOf _ _ _ _ hb19) ea15 ha16 kf_4 q_515 q_517 qs_22 q_1 q_518 ⟨rfl, hy_X4_loadOf⟩ ⟨Nat.le_of_ble_eq_true rfl, Nat.le_of_ble_eq_true rfl⟩ ⟨Nat.le_of_ble_eq_true rfl, Nat.le_of_ble_eq_true rfl⟩ rfl (Nat.le_of_ble_eq_true rfl) dX4_bestPersonFor_33 (r_N ?_) r_NX
      show PX Z 8 S18 0 0 36 [(0, va_rf r0), (1, .int i1), (2, .int v1), (3, .int v2), (4, .int v3), (5, .int v4)] [.int v17]
      refine x_istore (i := 6) (l' := [(6, .int v17), (0, va_rf r0), (1, .int i1), (2, .int v1), (3, .int v2), (4, .int v3), (5, .int v4)]) hC dX4_bestPersonFor_36 (⟨fun _ => c_rf r0, ⟨fun _ => rfl, ⟨fun _ => rfl, ⟨fun _ => rfl, ⟨fun _ => rfl, ⟨fun _ => rfl, trivial⟩⟩⟩⟩⟩⟩) (by decide) rfl ?_
      refine x_aload_n (i := 0) hC dX4_bestPersonFor_38 rfl 1 rfl ?_
      refine x_iload (i := 5) hC dX4_bestPersonFor_39 6 rfl ?_
      replace h := dr_el h
      obtain ⟨a20, ea21, ha22, h⟩ := h
      replace h := bd_el h
      obtain ⟨v23, S24, hb25, h⟩ := h
      refine x_callV hC (st := []) (mt_X4_tokensOf _ _ _ _ hb25) ea21 ha22 kf_4 q_369 q_371 qs_10 q_1 q_372 ⟨rfl, hy_X4_tokensOf⟩ ⟨Nat.le_of_ble_eq_true rfl, Nat.le_of_ble_eq_true rfl⟩ ⟨Nat.le_of_ble_eq_true rfl, Nat.le_of_ble_eq_true rfl⟩ rfl (Nat.le_of_ble_eq_true rfl) dX4_bestPersonFor_41 (r_N ?_) r_NX
      show PX Z 8 S24 0 0 44 [(6, .int v17), (0, va_rf r0), (1, .int i1), (2, .int v1), (3, .int v2), (4, .int v3), (5, .int v4)] [.int v23]
      refine x_istore (i := 7) (l' := [(7, .int v23), (6, .int v17), (0, va_rf r0), (1, .int i1), (2, .int v1), (3, .int v2), (4, .int v3), (5, .int v4)]) hC dX4_bestPersonFor_44 (⟨fun _ => rfl, ⟨fun _ => c_rf r0, ⟨fun _ => rfl, ⟨fun _ => rfl, ⟨fun _ => rfl, ⟨fun _ => rfl, ⟨fun _ => rfl, trivial⟩⟩⟩⟩⟩⟩⟩) (by decide) rfl ?_
      refine x_iload_n (i := 2) hC dX4_bestPersonFor_46 rfl 4 rfl ?_
      refine x_iconst (v := (-1 : Int32)) hC dX4_bestPersonFor_47 (by decide) ?_
      refine x_icmp_eq (t := 70) hC dX4_bestPersonFor_48 (by decide) (fun c26 => ?_) (fun c26 => ?_)
      · replace h := it_t c26 h
        refine x_sub (l' := [(0, va_rf r0), (1, .int i1), (5, .int v4), (6, .int v17), (7, .int v23)]) [2, 3, 7, 1, 0] rfl ?_
        exact J_70 _ _ _ _ h
      · replace h := it_f c26 h
        refine x_iload (i := 6) hC dX4_bestPersonFor_51 1 rfl ?_
        refine x_iload_n (i := 3) hC dX4_bestPersonFor_53 rfl 5 rfl ?_
        refine x_icmp_lt (t := 70) hC dX4_bestPersonFor_54 (by decide) (fun c31 => ?_) (fun c31 => ?_)
        · replace h := it_t c31 h
          refine x_sub (l' := [(0, va_rf r0), (1, .int i1), (5, .int v4), (6, .int v17), (7, .int v23)]) [2, 3, 7, 1, 0] rfl ?_
          exact J_70 _ _ _ _ h
        · replace h := it_f c31 h
          refine x_iload (i := 6) hC dX4_bestPersonFor_57 1 rfl ?_
          refine x_iload_n (i := 3) hC dX4_bestPersonFor_59 rfl 5 rfl ?_
          refine x_icmp_ne (t := 80) hC dX4_bestPersonFor_60 (by decide) (fun c32 => ?_) (fun c32 => ?_)
          · replace h := it_f c32 h
            refine x_iinc (i := 5) (v := (v4 + (1 : Int32))) (l' := [(5, .int (v4 + (1 : Int32))), (7, .int v23), (6, .int v17), (0, va_rf r0), (1, .int i1), (2, .int v1), (3, .int v2), (4, .int v3)]) hC dX4_bestPersonFor_80 7 rfl rfl (⟨fun _ => rfl, ⟨fun _ => rfl, ⟨fun _ => c_rf r0, ⟨fun _ => rfl, ⟨fun _ => rfl, ⟨fun _ => rfl, ⟨fun _ => rfl, ⟨fun _ => rfl, trivial⟩⟩⟩⟩⟩⟩⟩⟩) (by decide) rfl ?_
            refine x_goto (t := 10) hC dX4_bestPersonFor_83 (by decide) ?_
            refine x_sub (l' := [(0, va_rf r0), (1, .int i1), (2, .int v1), (3, .int v2), (4, .int v3), (5, .int (v4 + (1 : Int32)))]) [3, 4, 5, 6, 7, 0] rfl ?_
            have hb := bk_x h hg_10
            exact hb
          · replace h := it_t c32 h
            refine x_iload (i := 7) hC dX4_bestPersonFor_63 0 rfl ?_
            refine x_iload (i := 4) hC dX4_bestPersonFor_65 6 rfl ?_
            refine x_icmp_le (t := 80) hC dX4_bestPersonFor_67 (by decide) (fun c33 => ?_) (fun c33 => ?_)
            · replace h := it_t c33 h
              refine x_iinc (i := 5) (v := (v4 + (1 : Int32))) (l' := [(5, .int (v4 + (1 : Int32))), (7, .int v23), (6, .int v17), (0, va_rf r0), (1, .int i1), (2, .int v1), (3, .int v2), (4, .int v3)]) hC dX4_bestPersonFor_80 7 rfl rfl (⟨fun _ => rfl, ⟨fun _ => rfl, ⟨fun _ => c_rf r0, ⟨fun _ => rfl, ⟨fun _ => rfl, ⟨fun _ => rfl, ⟨fun _ => rfl, ⟨fun _ => rfl, trivial⟩⟩⟩⟩⟩⟩⟩⟩) (by decide) rfl ?_
              refine x_goto (t := 10) hC dX4_bestPersonFor_83 (by decide) ?_
              refine x_sub (l' := [(0, va_rf r0), (1, .int i1), (2, .int v1), (3, .int v2), (4, .int v3), (5, .int (v4 + (1 : Int32)))]) [3, 4, 5, 6, 7, 0] rfl ?_
              have hb := bk_x h hg_10
              exact hb
            · replace h := it_f c33 h
              refine x_sub (l' := [(0, va_rf r0), (1, .int i1), (5, .int v4), (6, .int v17), (7, .int v23)]) [2, 3, 7, 1, 0] rfl ?_
              exact J_70 _ _ _ _ h
    · replace h := it_f c13 h
      refine x_goto (t := 80) hC dX4_bestPersonFor_27 (by decide) ?_
      refine x_iinc (i := 5) (v := (v4 + (1 : Int32))) (l' := [(5, .int (v4 + (1 : Int32))), (0, va_rf r0), (1, .int i1), (2, .int v1), (3, .int v2), (4, .int v3)]) hC dX4_bestPersonFor_80 5 rfl rfl (⟨fun _ => c_rf r0, ⟨fun _ => rfl, ⟨fun _ => rfl, ⟨fun _ => rfl, ⟨fun _ => rfl, ⟨fun _ => rfl, trivial⟩⟩⟩⟩⟩⟩) (by decide) rfl ?_
      refine x_goto (t := 10) hC dX4_bestPersonFor_83 (by decide) ?_
      refine x_sub (l' := [(0, va_rf r0), (1, .int i1), (2, .int v1), (3, .int v2), (4, .int v3), (5, .int (v4 + (1 : Int32)))]) [1, 2, 3, 4, 5, 0] rfl ?_
      have hb := bk_x h hg_10
      exact hb
theorem dX4_bestReviewer_0 : decode cX4_bestReviewer 0 = .ok (.aload_n 0, 1) := by decide +kernel
theorem dX4_bestReviewer_1 : decode cX4_bestReviewer 1 = .ok (.iload_n 1, 1) := by decide +kernel
theorem dX4_bestReviewer_2 : decode cX4_bestReviewer 2 = .ok (.invokevirtual 125, 3) := by decide +kernel
theorem dX4_bestReviewer_5 : decode cX4_bestReviewer 5 = .ok (.aload_n 0, 1) := by decide +kernel
theorem dX4_bestReviewer_6 : decode cX4_bestReviewer 6 = .ok (.iload_n 1, 1) := by decide +kernel
theorem dX4_bestReviewer_7 : decode cX4_bestReviewer 7 = .ok (.invokevirtual 245, 3) := by decide +kernel
theorem dX4_bestReviewer_10 : decode cX4_bestReviewer 10 = .ok (.ireturn, 1) := by decide +kernel
set_option maxRecDepth 100000 in
set_option maxHeartbeats 4000000 in
theorem mt_X4_bestReviewer (r0 : Option Nat) (i1 : Int32) (S0 : PH) (y : (Nat ⊕ Int32) × PH) (h : m_X4_bestReviewer r0 i1 S0 = some y) : MT yX4_bestReviewer (.code yX4_bestReviewer cX4_bestReviewer 2 (Option.some FieldType.int)) 7 117 1 6 [va_rf r0, .int i1] S0 (oQ e_I (qT y)) := by
  refine mt_of (own := RX4) (l0 := [(0, va_rf r0), (1, .int i1)]) rfl rfl (by cases r0 <;> exact Nat.le_of_ble_eq_true rfl) (by cases r0 <;> rfl) ?_
  intro Z hC hQ hE hN
  unfold m_X4_bestReviewer at h
  refine x_aload_n (i := 0) hC dX4_bestReviewer_0 rfl 0 rfl ?_
  refine x_iload_n (i := 1) hC dX4_bestReviewer_1 rfl 1 rfl ?_
  replace h := dr_el h
  obtain ⟨a1, ea2, ha3, h⟩ := h
  replace h := bt_el h
  obtain ⟨v4, S5, hb14, h⟩ | ⟨j6, S7, hb14, h⟩ := h
  · refine x_callV hC (st := []) (mtr_X4_requirePaper _ _ _ (v4, S5) hb14) ea2 ha3 kf_4 q_332 q_334 qs_4 q_1 q_335 ⟨rfl, hy_X4_requirePaper⟩ ⟨Nat.le_of_ble_eq_true rfl, Nat.le_of_ble_eq_true rfl⟩ ⟨Nat.le_of_ble_eq_true rfl, Nat.le_of_ble_eq_true rfl⟩ rfl (Nat.le_of_ble_eq_true rfl) dX4_bestReviewer_2 (r_N ?_) r_NX
    show PX Z 2 S5 0 0 5 [(0, va_rf r0), (1, .int i1)] []
    refine x_aload_n (i := 0) hC dX4_bestReviewer_5 rfl 0 rfl ?_
    refine x_iload_n (i := 1) hC dX4_bestReviewer_6 rfl 1 rfl ?_
    replace h := dr_el h
    obtain ⟨a8, ea9, ha10, h⟩ := h
    replace h := bd_el h
    obtain ⟨v11, S12, hb13, h⟩ := h
    refine x_callV hC (st := []) (mt_X4_bestPersonFor _ _ _ _ hb13) ea9 ha10 kf_4 q_692 q_694 qs_38 q_1 q_695 ⟨rfl, hy_X4_bestPersonFor⟩ ⟨Nat.le_of_ble_eq_true rfl, Nat.le_of_ble_eq_true rfl⟩ ⟨Nat.le_of_ble_eq_true rfl, Nat.le_of_ble_eq_true rfl⟩ rfl (Nat.le_of_ble_eq_true rfl) dX4_bestReviewer_7 (r_N ?_) r_NX
    show PX Z 2 S12 0 0 10 [(0, va_rf r0), (1, .int i1)] [.int v11]
    exact x_iret hC hQ (z_T (Option.some.inj h)) (Nat.le_of_ble_eq_true rfl) (Nat.le_of_ble_eq_true rfl) dX4_bestReviewer_10
  · refine x_callV hC (st := []) (mt_X4_requirePaper _ _ _ _ hb14) ea2 ha3 kf_4 q_332 q_334 qs_4 q_1 q_335 ⟨rfl, hy_X4_requirePaper⟩ ⟨Nat.le_of_ble_eq_true rfl, Nat.le_of_ble_eq_true rfl⟩ ⟨Nat.le_of_ble_eq_true rfl, Nat.le_of_ble_eq_true rfl⟩ rfl (Nat.le_of_ble_eq_true rfl) dX4_bestReviewer_2 r_X (r_XX ?_)
    exact x_out hC hQ hE (z_X (Option.some.inj h)) (Nat.le_of_ble_eq_true rfl) (Nat.le_of_ble_eq_true rfl)
set_option maxRecDepth 100000 in
set_option maxHeartbeats 4000000 in
theorem mtr_X4_bestReviewer (r0 : Option Nat) (i1 : Int32) (S0 : PH) (y0 : Int32 × PH) (h : m_X4_bestReviewer r0 i1 S0 = some (.inr y0.1, y0.2)) : MT yX4_bestReviewer (.code yX4_bestReviewer cX4_bestReviewer 2 (Option.some FieldType.int)) 7 117 0 0 [va_rf r0, .int i1] S0 (oQ e_I (qN y0)) := by
  generalize hyr : ((.inr y0.1 : Nat ⊕ Int32), y0.2) = y at h
  refine mt_of (own := RX4) (l0 := [(0, va_rf r0), (1, .int i1)]) rfl rfl (by cases r0 <;> exact Nat.le_of_ble_eq_true rfl) (by cases r0 <;> rfl) ?_
  intro Z hC hQ hE hN
  unfold m_X4_bestReviewer at h
  refine x_aload_n (i := 0) hC dX4_bestReviewer_0 rfl 0 rfl ?_
  refine x_iload_n (i := 1) hC dX4_bestReviewer_1 rfl 1 rfl ?_
  replace h := dr_el h
  obtain ⟨a1, ea2, ha3, h⟩ := h
  replace h := bt_el h
  obtain ⟨v4, S5, hb14, h⟩ | ⟨j6, S7, hb14, h⟩ := h
  · refine x_callV hC (st := []) (mtr_X4_requirePaper _ _ _ (v4, S5) hb14) ea2 ha3 kf_4 q_332 q_334 qs_4 q_1 q_335 ⟨rfl, hy_X4_requirePaper⟩ ⟨Nat.le_of_ble_eq_true rfl, Nat.le_of_ble_eq_true rfl⟩ ⟨Nat.le_of_ble_eq_true rfl, Nat.le_of_ble_eq_true rfl⟩ rfl (Nat.le_of_ble_eq_true rfl) dX4_bestReviewer_2 (r_N ?_) r_NX
    show PX Z 2 S5 0 0 5 [(0, va_rf r0), (1, .int i1)] []
    refine x_aload_n (i := 0) hC dX4_bestReviewer_5 rfl 0 rfl ?_
    refine x_iload_n (i := 1) hC dX4_bestReviewer_6 rfl 1 rfl ?_
    replace h := dr_el h
    obtain ⟨a8, ea9, ha10, h⟩ := h
    replace h := bd_el h
    obtain ⟨v11, S12, hb13, h⟩ := h
    refine x_callV hC (st := []) (mt_X4_bestPersonFor _ _ _ _ hb13) ea9 ha10 kf_4 q_692 q_694 qs_38 q_1 q_695 ⟨rfl, hy_X4_bestPersonFor⟩ ⟨Nat.le_of_ble_eq_true rfl, Nat.le_of_ble_eq_true rfl⟩ ⟨Nat.le_of_ble_eq_true rfl, Nat.le_of_ble_eq_true rfl⟩ rfl (Nat.le_of_ble_eq_true rfl) dX4_bestReviewer_7 (r_N ?_) r_NX
    show PX Z 2 S12 0 0 10 [(0, va_rf r0), (1, .int i1)] [.int v11]
    exact x_iret hC hQ (z_R hyr (Option.some.inj h)) (Nat.le_of_ble_eq_true rfl) (Nat.le_of_ble_eq_true rfl) dX4_bestReviewer_10
  · exact z_no hyr (Option.some.inj h)
theorem dX4_readFitting_0 : decode cX4_readFitting 0 = .ok (.iconst 0, 1) := by decide +kernel
theorem dX4_readFitting_1 : decode cX4_readFitting 1 = .ok (.istore_n 3, 1) := by decide +kernel
theorem dX4_readFitting_2 : decode cX4_readFitting 2 = .ok (.iload_n 3, 1) := by decide +kernel
theorem dX4_readFitting_3 : decode cX4_readFitting 3 = .ok (.bipush 8, 2) := by decide +kernel
theorem dX4_readFitting_5 : decode cX4_readFitting 5 = .ok (.if_icmp .ge 56, 3) := by decide +kernel
theorem dX4_readFitting_8 : decode cX4_readFitting 8 = .ok (.iload_n 2, 1) := by decide +kernel
theorem dX4_readFitting_9 : decode cX4_readFitting 9 = .ok (.iload_n 3, 1) := by decide +kernel
theorem dX4_readFitting_10 : decode cX4_readFitting 10 = .ok (.invokestatic 87, 3) := by decide +kernel
theorem dX4_readFitting_13 : decode cX4_readFitting 13 = .ok (.ifCond .ne 42, 3) := by decide +kernel
theorem dX4_readFitting_16 : decode cX4_readFitting 16 = .ok (.aload_n 0, 1) := by decide +kernel
theorem dX4_readFitting_17 : decode cX4_readFitting 17 = .ok (.getfield 10, 3) := by decide +kernel
theorem dX4_readFitting_20 : decode cX4_readFitting 20 = .ok (.getfield 79, 3) := by decide +kernel
theorem dX4_readFitting_23 : decode cX4_readFitting 23 = .ok (.iload_n 3, 1) := by decide +kernel
theorem dX4_readFitting_24 : decode cX4_readFitting 24 = .ok (.iaload, 1) := by decide +kernel
theorem dX4_readFitting_25 : decode cX4_readFitting 25 = .ok (.aload_n 0, 1) := by decide +kernel
theorem dX4_readFitting_26 : decode cX4_readFitting 26 = .ok (.getfield 10, 3) := by decide +kernel
theorem dX4_readFitting_29 : decode cX4_readFitting 29 = .ok (.getfield 67, 3) := by decide +kernel
theorem dX4_readFitting_32 : decode cX4_readFitting 32 = .ok (.iload_n 1, 1) := by decide +kernel
theorem dX4_readFitting_33 : decode cX4_readFitting 33 = .ok (.iaload, 1) := by decide +kernel
theorem dX4_readFitting_34 : decode cX4_readFitting 34 = .ok (.invokestatic 87, 3) := by decide +kernel
theorem dX4_readFitting_37 : decode cX4_readFitting 37 = .ok (.ifCond .eq 18, 3) := by decide +kernel
theorem dX4_readFitting_40 : decode cX4_readFitting 40 = .ok (.aload_n 0, 1) := by decide +kernel
theorem dX4_readFitting_41 : decode cX4_readFitting 41 = .ok (.getfield 37, 3) := by decide +kernel
theorem dX4_readFitting_44 : decode cX4_readFitting 44 = .ok (.getfield 420, 3) := by decide +kernel
theorem dX4_readFitting_47 : decode cX4_readFitting 47 = .ok (.iload_n 3, 1) := by decide +kernel
theorem dX4_readFitting_48 : decode cX4_readFitting 48 = .ok (.dup2, 1) := by decide +kernel
theorem dX4_readFitting_49 : decode cX4_readFitting 49 = .ok (.iaload, 1) := by decide +kernel
theorem dX4_readFitting_50 : decode cX4_readFitting 50 = .ok (.iconst 1, 1) := by decide +kernel
theorem dX4_readFitting_51 : decode cX4_readFitting 51 = .ok (.iload_n 1, 1) := by decide +kernel
theorem dX4_readFitting_52 : decode cX4_readFitting 52 = .ok (.ishl, 1) := by decide +kernel
theorem dX4_readFitting_53 : decode cX4_readFitting 53 = .ok (.ior, 1) := by decide +kernel
theorem dX4_readFitting_54 : decode cX4_readFitting 54 = .ok (.iastore, 1) := by decide +kernel
theorem dX4_readFitting_55 : decode cX4_readFitting 55 = .ok (.iinc 3 1, 3) := by decide +kernel
theorem dX4_readFitting_58 : decode cX4_readFitting 58 = .ok (.goto (-56), 3) := by decide +kernel
theorem dX4_readFitting_61 : decode cX4_readFitting 61 = .ok (.return_, 1) := by decide +kernel
set_option maxRecDepth 100000 in
set_option maxHeartbeats 4000000 in
theorem mt_X4_readFitting (r0 : Option Nat) (i1 : Int32) (i2 : Int32) (S0 : PH) (y : Unit × PH) (h : m_X4_readFitting r0 i1 i2 S0 = some y) : MT yX4_readFitting (.code yX4_readFitting cX4_readFitting 4 (Option.none : Option FieldType)) 1 21 0 0 [va_rf r0, .int i1, .int i2] S0 (oQ e_V (qN y)) := by
  refine mt_of (own := RX4) (l0 := [(0, va_rf r0), (1, .int i1), (2, .int i2)]) rfl rfl (by cases r0 <;> exact Nat.le_of_ble_eq_true rfl) (by cases r0 <;> rfl) ?_
  intro Z hC hQ hE hN
  unfold m_X4_readFitting at h
  refine x_iconst (v := (0 : Int32)) hC dX4_readFitting_0 (by decide) ?_
  refine x_istore_n (i := 3) (l' := [(3, .int (0 : Int32)), (0, va_rf r0), (1, .int i1), (2, .int i2)]) hC dX4_readFitting_1 rfl (⟨fun _ => c_rf r0, ⟨fun _ => rfl, ⟨fun _ => rfl, trivial⟩⟩⟩) (by decide) rfl ?_
  refine x_sub (l' := [(0, va_rf r0), (1, .int i1), (2, .int i2), (3, .int (0 : Int32))]) [1, 2, 3, 0] rfl ?_
  refine lp_sim (P := fun (t : (Int32 × PH)) => PX Z 4 t.2 0 0 2 [(0, va_rf r0), (1, .int i1), (2, .int i2), (3, .int t.1)] []) (G := fun r => r = y) ?_ h rfl
  clear h
  intro t x_2 h hg_2
  obtain ⟨v1, S2⟩ := t
  show PX Z 4 S2 0 0 2 [(0, va_rf r0), (1, .int i1), (2, .int i2), (3, .int v1)] []
  unfold st_X4_readFitting_2 at h
  refine x_iload_n (i := 3) hC dX4_readFitting_2 rfl 3 rfl ?_
  refine x_bipush (v := (8 : Int32)) hC dX4_readFitting_3 (by decide) ?_
  refine x_icmp_ge (t := 61) hC dX4_readFitting_5 (by decide) (fun c3 => ?_) (fun c3 => ?_)
  · replace h := it_t c3 h
    replace h := ir_x h hg_2
    exact x_vret hC hQ (z_N (v := ()) (Option.some.inj h)) (Nat.le_of_ble_eq_true rfl) (Nat.le_of_ble_eq_true rfl) dX4_readFitting_61
  · replace h := it_f c3 h
    refine x_iload_n (i := 2) hC dX4_readFitting_8 rfl 2 rfl ?_
    refine x_iload_n (i := 3) hC dX4_readFitting_9 rfl 3 rfl ?_
    replace h := bd_el h
    obtain ⟨v4, S5, hb6, h⟩ := h
    refine x_callS hC (st := []) (mt_X4_has _ _ _ _ hb6) q_366 q_367 q_1 q_368 hy_X4_has ⟨Nat.le_of_ble_eq_true rfl, Nat.le_of_ble_eq_true rfl⟩ ⟨Nat.le_of_ble_eq_true rfl, Nat.le_of_ble_eq_true rfl⟩ rfl (Nat.le_of_ble_eq_true rfl) dX4_readFitting_10 (r_N ?_) r_NX
    show PX Z 4 S5 0 0 13 [(0, va_rf r0), (1, .int i1), (2, .int i2), (3, .int v1)] [.int v4]
    refine x_if_ne (t := 55) hC dX4_readFitting_13 (by decide) (fun c7 => ?_) (fun c7 => ?_)
    · replace h := it_f c7 h
      refine x_iinc (i := 3) (v := (v1 + (1 : Int32))) (l' := [(3, .int (v1 + (1 : Int32))), (0, va_rf r0), (1, .int i1), (2, .int i2)]) hC dX4_readFitting_55 3 rfl rfl (⟨fun _ => c_rf r0, ⟨fun _ => rfl, ⟨fun _ => rfl, ⟨fun _ => rfl, trivial⟩⟩⟩⟩) (by decide) rfl ?_
      refine x_goto (t := 2) hC dX4_readFitting_58 (by decide) ?_
      refine x_sub (l' := [(0, va_rf r0), (1, .int i1), (2, .int i2), (3, .int (v1 + (1 : Int32)))]) [1, 2, 3, 0] rfl ?_
      have hb := bk_x h hg_2
      exact hb
    · replace h := it_t c7 h
      refine x_aload_n (i := 0) hC dX4_readFitting_16 rfl 0 rfl ?_
      replace h := dr_el h
      obtain ⟨a8, ea9, ha10, h⟩ := h
      refine x_getR hC ea9 ha10 kf_4 0 (by decide) rfl q_172 dX4_readFitting_17 ?_
      replace h := dr_el h
      obtain ⟨a11, ea12, ha13, h⟩ := h
      refine x_getR hC ea12 ha13 kf_2 0 (by decide) rfl q_37 dX4_readFitting_20 ?_
      refine x_iload_n (i := 3) hC dX4_readFitting_23 rfl 3 rfl ?_
      replace h := dr_el h
      obtain ⟨a14, ea15, ha16, h⟩ := h
      replace h := ck_el h
      obtain ⟨hc17, h⟩ := h
      refine x_iaload hC ea15 ha16 hc17 dX4_readFitting_24 ?_
      refine x_aload_n (i := 0) hC dX4_readFitting_25 rfl 0 rfl ?_
      refine x_getR hC ea9 ha10 kf_4 0 (by decide) rfl q_172 dX4_readFitting_26 ?_
      refine x_getR hC ea12 ha13 kf_2 5 (by decide) rfl q_47 dX4_readFitting_29 ?_
      refine x_iload_n (i := 1) hC dX4_readFitting_32 rfl 1 rfl ?_
      replace h := dr_el h
      obtain ⟨a18, ea19, ha20, h⟩ := h
      replace h := ck_el h
      obtain ⟨hc21, h⟩ := h
      refine x_iaload hC ea19 ha20 hc21 dX4_readFitting_33 ?_
      replace h := bd_el h
      obtain ⟨v22, S23, hb24, h⟩ := h
      refine x_callS hC (st := []) (mt_X4_has _ _ _ _ hb24) q_366 q_367 q_1 q_368 hy_X4_has ⟨Nat.le_of_ble_eq_true rfl, Nat.le_of_ble_eq_true rfl⟩ ⟨Nat.le_of_ble_eq_true rfl, Nat.le_of_ble_eq_true rfl⟩ rfl (Nat.le_of_ble_eq_true rfl) dX4_readFitting_34 (r_N ?_) r_NX
      show PX Z 4 S23 0 0 37 [(0, va_rf r0), (1, .int i1), (2, .int i2), (3, .int v1)] [.int v22]
      refine x_if_eq (t := 55) hC dX4_readFitting_37 (by decide) (fun c25 => ?_) (fun c25 => ?_)
      · replace h := it_t c25 h
        refine x_iinc (i := 3) (v := (v1 + (1 : Int32))) (l' := [(3, .int (v1 + (1 : Int32))), (0, va_rf r0), (1, .int i1), (2, .int i2)]) hC dX4_readFitting_55 3 rfl rfl (⟨fun _ => c_rf r0, ⟨fun _ => rfl, ⟨fun _ => rfl, ⟨fun _ => rfl, trivial⟩⟩⟩⟩) (by decide) rfl ?_
        refine x_goto (t := 2) hC dX4_readFitting_58 (by decide) ?_
        refine x_sub (l' := [(0, va_rf r0), (1, .int i1), (2, .int i2), (3, .int (v1 + (1 : Int32)))]) [1, 2, 3, 0] rfl ?_
        have hb := bk_x h hg_2
        exact hb
      · replace h := it_f c25 h
        refine x_aload_n (i := 0) hC dX4_readFitting_40 rfl 0 rfl ?_
        replace h := dr_el h
        obtain ⟨a26, ea27, ha28, h⟩ := h
        refine x_getR hC ea27 ha28 kf_4 4 (by decide) rfl q_176 dX4_readFitting_41 ?_
        replace h := dr_el h
        obtain ⟨a29, ea30, ha31, h⟩ := h
        refine x_getR hC ea30 ha31 kf_1 1 (by decide) rfl q_147 dX4_readFitting_44 ?_
        refine x_iload_n (i := 3) hC dX4_readFitting_47 rfl 3 rfl ?_
        refine x_dup2 hC dX4_readFitting_48 rfl (c_rf (p_R S23 a29 1)) ?_
        replace h := dr_el h
        obtain ⟨a32, ea33, ha34, h⟩ := h
        replace h := ck_el h
        obtain ⟨hc35, h⟩ := h
        refine x_iaload hC ea33 ha34 hc35 dX4_readFitting_49 ?_
        refine x_iconst (v := (1 : Int32)) hC dX4_readFitting_50 (by decide) ?_
        refine x_iload_n (i := 1) hC dX4_readFitting_51 rfl 1 rfl ?_
        refine x_ishl hC dX4_readFitting_52 ?_
        refine x_ior hC dX4_readFitting_53 ?_
        replace h := ck_el h
        obtain ⟨hc36, h⟩ := h
        replace h := le_el h
        obtain ⟨S37, hx38, h⟩ := h
        refine x_iastore hC ea33 ha34 hc36 dX4_readFitting_54 ?_
        refine x_tS hx38 ?_
        refine x_iinc (i := 3) (v := (v1 + (1 : Int32))) (l' := [(3, .int (v1 + (1 : Int32))), (0, va_rf r0), (1, .int i1), (2, .int i2)]) hC dX4_readFitting_55 3 rfl rfl (⟨fun _ => c_rf r0, ⟨fun _ => rfl, ⟨fun _ => rfl, ⟨fun _ => rfl, trivial⟩⟩⟩⟩) (by decide) rfl ?_
        refine x_goto (t := 2) hC dX4_readFitting_58 (by decide) ?_
        refine x_sub (l' := [(0, va_rf r0), (1, .int i1), (2, .int i2), (3, .int (v1 + (1 : Int32)))]) [1, 2, 3, 0] rfl ?_
        have hb := bk_x h hg_2
        exact hb
