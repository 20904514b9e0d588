/-! THE WALKS: each method does what it means -/
theorem dX4_meet_0 : decode cX4_meet 0 = .ok (.iload_n 1, 1) := by decide +kernel
theorem dX4_meet_1 : decode cX4_meet 1 = .ok (.invokestatic 73, 3) := by decide +kernel
theorem dX4_meet_4 : decode cX4_meet 4 = .ok (.iload_n 2, 1) := by decide +kernel
theorem dX4_meet_5 : decode cX4_meet 5 = .ok (.invokestatic 73, 3) := by decide +kernel
theorem dX4_meet_8 : decode cX4_meet 8 = .ok (.iload_n 1, 1) := by decide +kernel
theorem dX4_meet_9 : decode cX4_meet 9 = .ok (.iload_n 2, 1) := by decide +kernel
theorem dX4_meet_10 : decode cX4_meet 10 = .ok (.if_icmp .ne 13, 3) := by decide +kernel
theorem dX4_meet_13 : decode cX4_meet 13 = .ok (.new 45, 3) := by decide +kernel
theorem dX4_meet_16 : decode cX4_meet 16 = .ok (.dup, 1) := by decide +kernel
theorem dX4_meet_17 : decode cX4_meet 17 = .ok (.ldc 82, 2) := by decide +kernel
theorem dX4_meet_19 : decode cX4_meet 19 = .ok (.invokespecial 49, 3) := by decide +kernel
theorem dX4_meet_22 : decode cX4_meet 22 = .ok (.athrow, 1) := by decide +kernel
theorem dX4_meet_23 : decode cX4_meet 23 = .ok (.aload_n 0, 1) := by decide +kernel
theorem dX4_meet_24 : decode cX4_meet 24 = .ok (.getfield 19, 3) := by decide +kernel
theorem dX4_meet_27 : decode cX4_meet 27 = .ok (.aload_n 0, 1) := by decide +kernel
theorem dX4_meet_28 : decode cX4_meet 28 = .ok (.getfield 10, 3) := by decide +kernel
theorem dX4_meet_31 : decode cX4_meet 31 = .ok (.invokevirtual 63, 3) := by decide +kernel
theorem dX4_meet_34 : decode cX4_meet 34 = .ok (.aload_n 0, 1) := by decide +kernel
theorem dX4_meet_35 : decode cX4_meet 35 = .ok (.getfield 10, 3) := by decide +kernel
theorem dX4_meet_38 : decode cX4_meet 38 = .ok (.getfield 84, 3) := by decide +kernel
theorem dX4_meet_41 : decode cX4_meet 41 = .ok (.iload_n 1, 1) := by decide +kernel
theorem dX4_meet_42 : decode cX4_meet 42 = .ok (.dup2, 1) := by decide +kernel
theorem dX4_meet_43 : decode cX4_meet 43 = .ok (.iaload, 1) := by decide +kernel
theorem dX4_meet_44 : decode cX4_meet 44 = .ok (.iconst 1, 1) := by decide +kernel
theorem dX4_meet_45 : decode cX4_meet 45 = .ok (.iload_n 2, 1) := by decide +kernel
theorem dX4_meet_46 : decode cX4_meet 46 = .ok (.ishl, 1) := by decide +kernel
theorem dX4_meet_47 : decode cX4_meet 47 = .ok (.ixor, 1) := by decide +kernel
theorem dX4_meet_48 : decode cX4_meet 48 = .ok (.iastore, 1) := by decide +kernel
theorem dX4_meet_49 : decode cX4_meet 49 = .ok (.aload_n 0, 1) := by decide +kernel
theorem dX4_meet_50 : decode cX4_meet 50 = .ok (.getfield 10, 3) := by decide +kernel
theorem dX4_meet_53 : decode cX4_meet 53 = .ok (.getfield 84, 3) := by decide +kernel
theorem dX4_meet_56 : decode cX4_meet 56 = .ok (.iload_n 2, 1) := by decide +kernel
theorem dX4_meet_57 : decode cX4_meet 57 = .ok (.dup2, 1) := by decide +kernel
theorem dX4_meet_58 : decode cX4_meet 58 = .ok (.iaload, 1) := by decide +kernel
theorem dX4_meet_59 : decode cX4_meet 59 = .ok (.iconst 1, 1) := by decide +kernel
theorem dX4_meet_60 : decode cX4_meet 60 = .ok (.iload_n 1, 1) := by decide +kernel
theorem dX4_meet_61 : decode cX4_meet 61 = .ok (.ishl, 1) := by decide +kernel
theorem dX4_meet_62 : decode cX4_meet 62 = .ok (.ixor, 1) := by decide +kernel
theorem dX4_meet_63 : decode cX4_meet 63 = .ok (.iastore, 1) := by decide +kernel
theorem dX4_meet_64 : decode cX4_meet 64 = .ok (.aload_n 0, 1) := by decide +kernel
theorem dX4_meet_65 : decode cX4_meet 65 = .ok (.getfield 10, 3) := by decide +kernel
theorem dX4_meet_68 : decode cX4_meet 68 = .ok (.getfield 84, 3) := by decide +kernel
theorem dX4_meet_71 : decode cX4_meet 71 = .ok (.iload_n 1, 1) := by decide +kernel
theorem dX4_meet_72 : decode cX4_meet 72 = .ok (.iaload, 1) := by decide +kernel
theorem dX4_meet_73 : decode cX4_meet 73 = .ok (.iload_n 2, 1) := by decide +kernel
theorem dX4_meet_74 : decode cX4_meet 74 = .ok (.invokestatic 87, 3) := by decide +kernel
theorem dX4_meet_77 : decode cX4_meet 77 = .ok (.ifCond .eq 7, 3) := by decide +kernel
theorem dX4_meet_80 : decode cX4_meet 80 = .ok (.iconst 1, 1) := by decide +kernel
theorem dX4_meet_81 : decode cX4_meet 81 = .ok (.goto 4, 3) := by decide +kernel
theorem dX4_meet_84 : decode cX4_meet 84 = .ok (.iconst 0, 1) := by decide +kernel
theorem dX4_meet_85 : decode cX4_meet 85 = .ok (.ireturn, 1) := by decide +kernel
set_option maxRecDepth 100000 in
set_option maxHeartbeats 4000000 in
theorem mt_X4_meet (r0 : Option Nat) (i1 : Int32) (i2 : Int32) (S0 : PH) (Q : (Nat ⊕ Int32) → PH → Prop) (h : w_X4_meet r0 i1 i2 S0 Q) : MT yX4_meet (.code yX4_meet cX4_meet 3 (Option.some FieldType.int)) 7 110 21 173 [va_rf r0, .int i1, .int i2] S0 (oQ e_I Q) := by
  refine mt_of (own := RX4) (l0 := [(0, va_rf r0), (1, .int i1), (2, .int i2)]) rfl rfl (by cases r0 <;> exact Nat.le_of_ble_eq_true rfl) (by cases r0 <;> rfl) ?_
  intro Z hC hQ hE hN
  unfold w_X4_meet at h
  refine x_iload_n (i := 1) hC dX4_meet_0 rfl 1 rfl ?_
  replace h := wbt_el h
  obtain ⟨v1, S2, hb61, h⟩ | ⟨j3, S4, hb61, h⟩ := h
  · refine x_callS hC (st := []) (mtr_X4_requirePerson _ _ (v1, S2) hb61) q_313 q_314 q_1 q_315 hy_X4_requirePerson ⟨Nat.le_of_ble_eq_true rfl, Nat.le_of_ble_eq_true rfl⟩ ⟨Nat.le_of_ble_eq_true rfl, Nat.le_of_ble_eq_true rfl⟩ rfl (Nat.le_of_ble_eq_true rfl) dX4_meet_1 (r_N ?_) r_NX
    show PX Z 3 S2 0 0 4 [(0, va_rf r0), (1, .int i1), (2, .int i2)] []
    refine x_iload_n (i := 2) hC dX4_meet_4 rfl 2 rfl ?_
    replace h := wbt_el h
    obtain ⟨v5, S6, hb60, h⟩ | ⟨j7, S8, hb60, h⟩ := h
    · refine x_callS hC (st := []) (mtr_X4_requirePerson _ _ (v5, S6) hb60) q_313 q_314 q_1 q_315 hy_X4_requirePerson ⟨Nat.le_of_ble_eq_true rfl, Nat.le_of_ble_eq_true rfl⟩ ⟨Nat.le_of_ble_eq_true rfl, Nat.le_of_ble_eq_true rfl⟩ rfl (Nat.le_of_ble_eq_true rfl) dX4_meet_5 (r_N ?_) r_NX
      show PX Z 3 S6 0 0 8 [(0, va_rf r0), (1, .int i1), (2, .int i2)] []
      refine x_iload_n (i := 1) hC dX4_meet_8 rfl 1 rfl ?_
      refine x_iload_n (i := 2) hC dX4_meet_9 rfl 2 rfl ?_
      refine x_icmp_ne (t := 23) hC dX4_meet_10 (by decide) (fun c9 => ?_) (fun c9 => ?_)
      · replace h := wit_f c9 h
        refine x_aload_n (i := 0) hC dX4_meet_23 rfl 0 rfl ?_
        obtain ⟨a10, ea11, ha12, h⟩ := h
        refine x_getR hC ea11 ha12 kf_4 1 (by decide) rfl q_173 dX4_meet_24 ?_
        refine x_aload_n (i := 0) hC dX4_meet_27 rfl 0 rfl ?_
        refine x_getR hC ea11 ha12 kf_4 0 (by decide) rfl q_172 dX4_meet_28 ?_
        obtain ⟨a13, ea14, ha15, h⟩ := h
        refine x_callV hC (st := []) (mt_X0_save _ _ _ _ h) ea14 ha15 kf_0 q_280 q_281 q_282 q_4 q_283 ⟨rfl, hy_X0_save⟩ ⟨Nat.le_of_ble_eq_true rfl, Nat.le_of_ble_eq_true rfl⟩ ⟨Nat.le_of_ble_eq_true rfl, Nat.le_of_ble_eq_true rfl⟩ rfl (Nat.le_of_ble_eq_true rfl) dX4_meet_31 (r_W (fun v16 S17 h => ?_)) (r_Wx (fun _ _ h => (wq_l h).elim))
        replace h := wq_r h
        show PX Z 3 S17 21 173 34 [(0, va_rf r0), (1, .int i1), (2, .int i2)] []
        refine x_aload_n (i := 0) hC dX4_meet_34 rfl 0 rfl ?_
        obtain ⟨a20, ea21, ha22, h⟩ := h
        refine x_getR hC ea21 ha22 kf_4 0 (by decide) rfl q_172 dX4_meet_35 ?_
        obtain ⟨a23, ea24, ha25, h⟩ := h
        refine x_getR hC ea24 ha25 kf_2 1 (by decide) rfl q_39 dX4_meet_38 ?_
        refine x_iload_n (i := 1) hC dX4_meet_41 rfl 1 rfl ?_
        refine x_dup2 hC dX4_meet_42 rfl (c_rf (p_R S17 a23 1)) ?_
        obtain ⟨a26, ea27, ha28, h⟩ := h
        obtain ⟨hc29, h⟩ := h
        refine x_iaload hC ea27 ha28 hc29 dX4_meet_43 ?_
        refine x_iconst (v := (1 : Int32)) hC dX4_meet_44 (by decide) ?_
        refine x_iload_n (i := 2) hC dX4_meet_45 rfl 2 rfl ?_
        refine x_ishl hC dX4_meet_46 ?_
        refine x_ixor hC dX4_meet_47 ?_
        obtain ⟨hc30, h⟩ := h
        obtain ⟨S31, hx32, h⟩ := wle_el h
        refine x_iastore hC ea27 ha28 hc30 dX4_meet_48 ?_
        refine x_tS hx32 ?_
        refine x_aload_n (i := 0) hC dX4_meet_49 rfl 0 rfl ?_
        obtain ⟨a33, ea34, ha35, h⟩ := h
        refine x_getR hC ea34 ha35 kf_4 0 (by decide) rfl q_172 dX4_meet_50 ?_
        obtain ⟨a36, ea37, ha38, h⟩ := h
        refine x_getR hC ea37 ha38 kf_2 1 (by decide) rfl q_39 dX4_meet_53 ?_
        refine x_iload_n (i := 2) hC dX4_meet_56 rfl 2 rfl ?_
        refine x_dup2 hC dX4_meet_57 rfl (c_rf (p_R S31 a36 1)) ?_
        obtain ⟨a39, ea40, ha41, h⟩ := h
        obtain ⟨hc42, h⟩ := h
        refine x_iaload hC ea40 ha41 hc42 dX4_meet_58 ?_
        refine x_iconst (v := (1 : Int32)) hC dX4_meet_59 (by decide) ?_
        refine x_iload_n (i := 1) hC dX4_meet_60 rfl 1 rfl ?_
        refine x_ishl hC dX4_meet_61 ?_
        refine x_ixor hC dX4_meet_62 ?_
        obtain ⟨hc43, h⟩ := h
        obtain ⟨S44, hx45, h⟩ := wle_el h
        refine x_iastore hC ea40 ha41 hc43 dX4_meet_63 ?_
        refine x_tS hx45 ?_
        refine x_aload_n (i := 0) hC dX4_meet_64 rfl 0 rfl ?_
        obtain ⟨a46, ea47, ha48, h⟩ := h
        refine x_getR hC ea47 ha48 kf_4 0 (by decide) rfl q_172 dX4_meet_65 ?_
        obtain ⟨a49, ea50, ha51, h⟩ := h
        refine x_getR hC ea50 ha51 kf_2 1 (by decide) rfl q_39 dX4_meet_68 ?_
        refine x_iload_n (i := 1) hC dX4_meet_71 rfl 1 rfl ?_
        obtain ⟨a52, ea53, ha54, h⟩ := h
        obtain ⟨hc55, h⟩ := h
        refine x_iaload hC ea53 ha54 hc55 dX4_meet_72 ?_
        refine x_iload_n (i := 2) hC dX4_meet_73 rfl 2 rfl ?_
        obtain ⟨v56, S57, hb58, h⟩ := h
        refine x_callS hC (st := []) (mt_X4_has _ _ _ _ hb58) q_366 q_367 q_1 q_368 hy_X4_has ⟨Nat.le_of_ble_eq_true rfl, Nat.le_of_ble_eq_true rfl⟩ ⟨Nat.le_of_ble_eq_true rfl, Nat.le_of_ble_eq_true rfl⟩ rfl (Nat.le_of_ble_eq_true rfl) dX4_meet_74 (r_N ?_) r_NX
        show PX Z 3 S57 21 173 77 [(0, va_rf r0), (1, .int i1), (2, .int i2)] [.int v56]
        refine x_if_eq (t := 84) hC dX4_meet_77 (by decide) (fun c59 => ?_) (fun c59 => ?_)
        · replace h := wit_t c59 h
          refine x_iconst (v := (0 : Int32)) hC dX4_meet_84 (by decide) ?_
          exact x_iret hC hQ (z_W h) (Nat.le_of_ble_eq_true rfl) (Nat.le_of_ble_eq_true rfl) dX4_meet_85
        · replace h := wit_f c59 h
          refine x_iconst (v := (1 : Int32)) hC dX4_meet_80 (by decide) ?_
          refine x_goto (t := 85) hC dX4_meet_81 (by decide) ?_
          exact x_iret hC hQ (z_W h) (Nat.le_of_ble_eq_true rfl) (Nat.le_of_ble_eq_true rfl) dX4_meet_85
      · replace h := wit_t c9 h
        exact x_throw hC hQ hE (j := 0) (z_Y h) tx_45_49_0 (List.mem_of_getElem? (i := 14) rfl) (Nat.le_of_ble_eq_true rfl) ⟨Nat.le_of_ble_eq_true rfl, Nat.le_of_ble_eq_true rfl⟩ ⟨Nat.le_of_ble_eq_true rfl, Nat.le_of_ble_eq_true rfl⟩ (Nat.le_of_ble_eq_true rfl) (Nat.le_of_ble_eq_true rfl) dX4_meet_13 dX4_meet_16 dX4_meet_17 dX4_meet_19 dX4_meet_22
    · refine x_callS hC (st := []) (mt_X4_requirePerson _ _ _ hb60) q_313 q_314 q_1 q_315 hy_X4_requirePerson ⟨Nat.le_of_ble_eq_true rfl, Nat.le_of_ble_eq_true rfl⟩ ⟨Nat.le_of_ble_eq_true rfl, Nat.le_of_ble_eq_true rfl⟩ rfl (Nat.le_of_ble_eq_true rfl) dX4_meet_5 r_X (r_XX ?_)
      exact x_out hC hQ hE (z_Y h) (Nat.le_of_ble_eq_true rfl) (Nat.le_of_ble_eq_true rfl)
  · refine x_callS hC (st := []) (mt_X4_requirePerson _ _ _ hb61) q_313 q_314 q_1 q_315 hy_X4_requirePerson ⟨Nat.le_of_ble_eq_true rfl, Nat.le_of_ble_eq_true rfl⟩ ⟨Nat.le_of_ble_eq_true rfl, Nat.le_of_ble_eq_true rfl⟩ rfl (Nat.le_of_ble_eq_true rfl) dX4_meet_1 r_X (r_XX ?_)
    exact x_out hC hQ hE (z_Y h) (Nat.le_of_ble_eq_true rfl) (Nat.le_of_ble_eq_true rfl)
theorem dX4_requireSetting_0 : decode cX4_requireSetting 0 = .ok (.iload_n 0, 1) := by decide +kernel
theorem dX4_requireSetting_1 : decode cX4_requireSetting 1 = .ok (.ifCond .lt 8, 3) := by decide +kernel
theorem dX4_requireSetting_4 : decode cX4_requireSetting 4 = .ok (.iload_n 0, 1) := by decide +kernel
theorem dX4_requireSetting_5 : decode cX4_requireSetting 5 = .ok (.iconst 4, 1) := by decide +kernel
theorem dX4_requireSetting_6 : decode cX4_requireSetting 6 = .ok (.if_icmp .lt 14, 3) := by decide +kernel
theorem dX4_requireSetting_9 : decode cX4_requireSetting 9 = .ok (.new 289, 3) := by decide +kernel
theorem dX4_requireSetting_12 : decode cX4_requireSetting 12 = .ok (.dup, 1) := by decide +kernel
theorem dX4_requireSetting_13 : decode cX4_requireSetting 13 = .ok (.ldc_w 299, 3) := by decide +kernel
theorem dX4_requireSetting_16 : decode cX4_requireSetting 16 = .ok (.invokespecial 293, 3) := by decide +kernel
theorem dX4_requireSetting_19 : decode cX4_requireSetting 19 = .ok (.athrow, 1) := by decide +kernel
theorem dX4_requireSetting_20 : decode cX4_requireSetting 20 = .ok (.return_, 1) := by decide +kernel
set_option maxRecDepth 100000 in
set_option maxHeartbeats 4000000 in
theorem mt_X4_requireSetting (i0 : Int32) (S0 : PH) (y : (Nat ⊕ Unit) × PH) (h : m_X4_requireSetting i0 S0 = some y) : MT yX4_requireSetting (.code yX4_requireSetting cX4_requireSetting 1 (Option.none : Option FieldType)) 6 90 1 6 [.int i0] S0 (oQ e_V (qT y)) := by
  refine mt_of (own := RX4) (l0 := [(0, .int i0)]) rfl rfl (by exact Nat.le_of_ble_eq_true rfl) (by rfl) ?_
  intro Z hC hQ hE hN
  have J_9 : ∀ (S2 : PH), j_X4_requireSetting_9 i0 S2 = some y → PX Z 1 S2 0 0 9 [(0, .int i0)] [] := by
    intro S2 h
    unfold j_X4_requireSetting_9 at h
    exact x_throwW hC hQ hE (j := 2) (z_X (Option.some.inj h)) tx_289_293_2 (List.mem_of_getElem? (i := 12) rfl) (Nat.le_of_ble_eq_true rfl) ⟨Nat.le_of_ble_eq_true rfl, Nat.le_of_ble_eq_true rfl⟩ ⟨Nat.le_of_ble_eq_true rfl, Nat.le_of_ble_eq_true rfl⟩ (Nat.le_of_ble_eq_true rfl) (Nat.le_of_ble_eq_true rfl) dX4_requireSetting_9 dX4_requireSetting_12 dX4_requireSetting_13 dX4_requireSetting_16 dX4_requireSetting_19
  unfold m_X4_requireSetting at h
  refine x_iload_n (i := 0) hC dX4_requireSetting_0 rfl 0 rfl ?_
  refine x_if_lt (t := 9) hC dX4_requireSetting_1 (by decide) (fun c1 => ?_) (fun c1 => ?_)
  · replace h := it_t c1 h
    exact J_9 _ h
  · replace h := it_f c1 h
    refine x_iload_n (i := 0) hC dX4_requireSetting_4 rfl 0 rfl ?_
    refine x_iconst (v := (4 : Int32)) hC dX4_requireSetting_5 (by decide) ?_
    refine x_icmp_lt (t := 20) hC dX4_requireSetting_6 (by decide) (fun c3 => ?_) (fun c3 => ?_)
    · replace h := it_t c3 h
      exact x_vret hC hQ (z_T (v := ()) (Option.some.inj h)) (Nat.le_of_ble_eq_true rfl) (Nat.le_of_ble_eq_true rfl) dX4_requireSetting_20
    · replace h := it_f c3 h
      exact J_9 _ h
set_option maxRecDepth 100000 in
set_option maxHeartbeats 4000000 in
theorem mtr_X4_requireSetting (i0 : Int32) (S0 : PH) (y0 : Unit × PH) (h : m_X4_requireSetting i0 S0 = some (.inr y0.1, y0.2)) : MT yX4_requireSetting (.code yX4_requireSetting cX4_requireSetting 1 (Option.none : Option FieldType)) 6 90 0 0 [.int i0] S0 (oQ e_V (qN y0)) := by
  generalize hyr : ((.inr y0.1 : Nat ⊕ Unit), y0.2) = y at h
  refine mt_of (own := RX4) (l0 := [(0, .int i0)]) rfl rfl (by exact Nat.le_of_ble_eq_true rfl) (by rfl) ?_
  intro Z hC hQ hE hN
  have J_9 : ∀ (S2 : PH), j_X4_requireSetting_9 i0 S2 = some y → PX Z 1 S2 0 0 9 [(0, .int i0)] [] := by
    intro S2 h
    unfold j_X4_requireSetting_9 at h
    exact z_no hyr (Option.some.inj h)
  unfold m_X4_requireSetting at h
  refine x_iload_n (i := 0) hC dX4_requireSetting_0 rfl 0 rfl ?_
  refine x_if_lt (t := 9) hC dX4_requireSetting_1 (by decide) (fun c1 => ?_) (fun c1 => ?_)
  · replace h := it_t c1 h
    exact J_9 _ h
  · replace h := it_f c1 h
    refine x_iload_n (i := 0) hC dX4_requireSetting_4 rfl 0 rfl ?_
    refine x_iconst (v := (4 : Int32)) hC dX4_requireSetting_5 (by decide) ?_
    refine x_icmp_lt (t := 20) hC dX4_requireSetting_6 (by decide) (fun c3 => ?_) (fun c3 => ?_)
    · replace h := it_t c3 h
      exact x_vret hC hQ (z_R (v := ()) hyr (Option.some.inj h)) (Nat.le_of_ble_eq_true rfl) (Nat.le_of_ble_eq_true rfl) dX4_requireSetting_20
    · replace h := it_f c3 h
      exact J_9 _ h
theorem dX4_set_0 : decode cX4_set 0 = .ok (.iload_n 1, 1) := by decide +kernel
theorem dX4_set_1 : decode cX4_set 1 = .ok (.invokestatic 91, 3) := by decide +kernel
theorem dX4_set_4 : decode cX4_set 4 = .ok (.iload_n 2, 1) := by decide +kernel
theorem dX4_set_5 : decode cX4_set 5 = .ok (.getstatic 94, 3) := by decide +kernel
theorem dX4_set_8 : decode cX4_set 8 = .ok (.iload_n 1, 1) := by decide +kernel
theorem dX4_set_9 : decode cX4_set 9 = .ok (.iaload, 1) := by decide +kernel
theorem dX4_set_10 : decode cX4_set 10 = .ok (.if_icmp .lt 12, 3) := by decide +kernel
theorem dX4_set_13 : decode cX4_set 13 = .ok (.iload_n 2, 1) := by decide +kernel
theorem dX4_set_14 : decode cX4_set 14 = .ok (.getstatic 97, 3) := by decide +kernel
theorem dX4_set_17 : decode cX4_set 17 = .ok (.iload_n 1, 1) := by decide +kernel
theorem dX4_set_18 : decode cX4_set 18 = .ok (.iaload, 1) := by decide +kernel
theorem dX4_set_19 : decode cX4_set 19 = .ok (.if_icmp .le 13, 3) := by decide +kernel
theorem dX4_set_22 : decode cX4_set 22 = .ok (.new 45, 3) := by decide +kernel
theorem dX4_set_25 : decode cX4_set 25 = .ok (.dup, 1) := by decide +kernel
theorem dX4_set_26 : decode cX4_set 26 = .ok (.ldc 100, 2) := by decide +kernel
theorem dX4_set_28 : decode cX4_set 28 = .ok (.invokespecial 49, 3) := by decide +kernel
theorem dX4_set_31 : decode cX4_set 31 = .ok (.athrow, 1) := by decide +kernel
theorem dX4_set_32 : decode cX4_set 32 = .ok (.aload_n 0, 1) := by decide +kernel
theorem dX4_set_33 : decode cX4_set 33 = .ok (.getfield 19, 3) := by decide +kernel
theorem dX4_set_36 : decode cX4_set 36 = .ok (.aload_n 0, 1) := by decide +kernel
theorem dX4_set_37 : decode cX4_set 37 = .ok (.getfield 10, 3) := by decide +kernel
theorem dX4_set_40 : decode cX4_set 40 = .ok (.invokevirtual 63, 3) := by decide +kernel
theorem dX4_set_43 : decode cX4_set 43 = .ok (.aload_n 0, 1) := by decide +kernel
theorem dX4_set_44 : decode cX4_set 44 = .ok (.getfield 10, 3) := by decide +kernel
theorem dX4_set_47 : decode cX4_set 47 = .ok (.getfield 102, 3) := by decide +kernel
theorem dX4_set_50 : decode cX4_set 50 = .ok (.iload_n 1, 1) := by decide +kernel
theorem dX4_set_51 : decode cX4_set 51 = .ok (.iaload, 1) := by decide +kernel
theorem dX4_set_52 : decode cX4_set 52 = .ok (.istore_n 3, 1) := by decide +kernel
theorem dX4_set_53 : decode cX4_set 53 = .ok (.aload_n 0, 1) := by decide +kernel
theorem dX4_set_54 : decode cX4_set 54 = .ok (.getfield 10, 3) := by decide +kernel
theorem dX4_set_57 : decode cX4_set 57 = .ok (.getfield 102, 3) := by decide +kernel
theorem dX4_set_60 : decode cX4_set 60 = .ok (.iload_n 1, 1) := by decide +kernel
theorem dX4_set_61 : decode cX4_set 61 = .ok (.iload_n 2, 1) := by decide +kernel
theorem dX4_set_62 : decode cX4_set 62 = .ok (.iastore, 1) := by decide +kernel
theorem dX4_set_63 : decode cX4_set 63 = .ok (.iload_n 3, 1) := by decide +kernel
theorem dX4_set_64 : decode cX4_set 64 = .ok (.ireturn, 1) := by decide +kernel
set_option maxRecDepth 100000 in
set_option maxHeartbeats 4000000 in
theorem mt_X4_set (r0 : Option Nat) (i1 : Int32) (i2 : Int32) (S0 : PH) (Q : (Nat ⊕ Int32) → PH → Prop) (h : w_X4_set r0 i1 i2 S0 Q) : MT yX4_set (.code yX4_set cX4_set 4 (Option.some FieldType.int)) 7 110 21 173 [va_rf r0, .int i1, .int i2] S0 (oQ e_I Q) := by
  refine mt_of (own := RX4) (l0 := [(0, va_rf r0), (1, .int i1), (2, .int i2)]) rfl rfl (by cases r0 <;> exact Nat.le_of_ble_eq_true rfl) (by cases r0 <;> rfl) ?_
  intro Z hC hQ hE hN
  have J_22 : ∀ (S9 : PH), wj_X4_set_22 r0 i1 i2 Q S9 → PX Z 4 S9 0 0 22 [(0, va_rf r0), (1, .int i1), (2, .int i2)] [] := by
    intro S9 h
    unfold wj_X4_set_22 at h
    exact x_throw hC hQ hE (j := 0) (z_Y h) tx_45_49_0 (List.mem_of_getElem? (i := 15) rfl) (Nat.le_of_ble_eq_true rfl) ⟨Nat.le_of_ble_eq_true rfl, Nat.le_of_ble_eq_true rfl⟩ ⟨Nat.le_of_ble_eq_true rfl, Nat.le_of_ble_eq_true rfl⟩ (Nat.le_of_ble_eq_true rfl) (Nat.le_of_ble_eq_true rfl) dX4_set_22 dX4_set_25 dX4_set_26 dX4_set_28 dX4_set_31
  unfold w_X4_set at h
  refine x_iload_n (i := 1) hC dX4_set_0 rfl 1 rfl ?_
  replace h := wbt_el h
  obtain ⟨v1, S2, hb39, h⟩ | ⟨j3, S4, hb39, h⟩ := h
  · refine x_callS hC (st := []) (mtr_X4_requireSetting _ _ (v1, S2) hb39) q_556 q_557 q_1 q_558 hy_X4_requireSetting ⟨Nat.le_of_ble_eq_true rfl, Nat.le_of_ble_eq_true rfl⟩ ⟨Nat.le_of_ble_eq_true rfl, Nat.le_of_ble_eq_true rfl⟩ rfl (Nat.le_of_ble_eq_true rfl) dX4_set_1 (r_N ?_) r_NX
    show PX Z 4 S2 0 0 4 [(0, va_rf r0), (1, .int i1), (2, .int i2)] []
    refine x_iload_n (i := 2) hC dX4_set_4 rfl 2 rfl ?_
    refine x_gets1 (nm := "LEAST_VALUES") (vs := [1, 0, 0, 0]) hC (fun _ _ _ h => h.2.2.2.1) q_577 dX4_set_5 (fun t5 ht6 => ?_)
    refine x_iload_n (i := 1) hC dX4_set_8 rfl 1 rfl ?_
    obtain ⟨hc7, h⟩ := h
    refine x_tia hC ht6 hc7 dX4_set_9 ?_
    refine x_icmp_lt (t := 22) hC dX4_set_10 (by decide) (fun c8 => ?_) (fun c8 => ?_)
    · replace h := wit_t c8 h
      exact J_22 _ h
    · replace h := wit_f c8 h
      refine x_iload_n (i := 2) hC dX4_set_13 rfl 2 rfl ?_
      refine x_gets1 (nm := "GREATEST_VALUES") (vs := [4, 2, 9, 3]) hC (fun _ _ _ h => h.2.2.2.2.1) q_579 dX4_set_14 (fun t10 ht11 => ?_)
      refine x_iload_n (i := 1) hC dX4_set_17 rfl 1 rfl ?_
      obtain ⟨hc12, h⟩ := h
      refine x_tia hC ht11 hc12 dX4_set_18 ?_
      refine x_icmp_le (t := 32) hC dX4_set_19 (by decide) (fun c13 => ?_) (fun c13 => ?_)
      · replace h := wit_t c13 h
        refine x_aload_n (i := 0) hC dX4_set_32 rfl 0 rfl ?_
        obtain ⟨a14, ea15, ha16, h⟩ := h
        refine x_getR hC ea15 ha16 kf_4 1 (by decide) rfl q_173 dX4_set_33 ?_
        refine x_aload_n (i := 0) hC dX4_set_36 rfl 0 rfl ?_
        refine x_getR hC ea15 ha16 kf_4 0 (by decide) rfl q_172 dX4_set_37 ?_
        obtain ⟨a17, ea18, ha19, h⟩ := h
        refine x_callV hC (st := []) (mt_X0_save _ _ _ _ h) ea18 ha19 kf_0 q_280 q_281 q_282 q_4 q_283 ⟨rfl, hy_X0_save⟩ ⟨Nat.le_of_ble_eq_true rfl, Nat.le_of_ble_eq_true rfl⟩ ⟨Nat.le_of_ble_eq_true rfl, Nat.le_of_ble_eq_true rfl⟩ rfl (Nat.le_of_ble_eq_true rfl) dX4_set_40 (r_W (fun v20 S21 h => ?_)) (r_Wx (fun _ _ h => (wq_l h).elim))
        replace h := wq_r h
        show PX Z 4 S21 21 173 43 [(0, va_rf r0), (1, .int i1), (2, .int i2)] []
        refine x_aload_n (i := 0) hC dX4_set_43 rfl 0 rfl ?_
        obtain ⟨a24, ea25, ha26, h⟩ := h
        refine x_getR hC ea25 ha26 kf_4 0 (by decide) rfl q_172 dX4_set_44 ?_
        obtain ⟨a27, ea28, ha29, h⟩ := h
        refine x_getR hC ea28 ha29 kf_2 11 (by decide) rfl q_59 dX4_set_47 ?_
        refine x_iload_n (i := 1) hC dX4_set_50 rfl 1 rfl ?_
        obtain ⟨a30, ea31, ha32, h⟩ := h
        obtain ⟨hc33, h⟩ := h
        refine x_iaload hC ea31 ha32 hc33 dX4_set_51 ?_
        obtain ⟨x34, hx35, h⟩ := wle_el h
        refine x_tI hx35 ?_
        refine x_istore_n (i := 3) (l' := [(3, .int x34), (0, va_rf r0), (1, .int i1), (2, .int i2)]) hC dX4_set_52 rfl (⟨fun _ => c_rf r0, ⟨fun _ => rfl, ⟨fun _ => rfl, trivial⟩⟩⟩) (by decide) rfl ?_
        refine x_aload_n (i := 0) hC dX4_set_53 rfl 1 rfl ?_
        refine x_getR hC ea25 ha26 kf_4 0 (by decide) rfl q_172 dX4_set_54 ?_
        refine x_getR hC ea28 ha29 kf_2 11 (by decide) rfl q_59 dX4_set_57 ?_
        refine x_iload_n (i := 1) hC dX4_set_60 rfl 2 rfl ?_
        refine x_iload_n (i := 2) hC dX4_set_61 rfl 3 rfl ?_
        obtain ⟨hc36, h⟩ := h
        obtain ⟨S37, hx38, h⟩ := wle_el h
        refine x_iastore hC ea31 ha32 hc36 dX4_set_62 ?_
        refine x_tS hx38 ?_
        refine x_iload_n (i := 3) hC dX4_set_63 rfl 0 rfl ?_
        exact x_iret hC hQ (z_W h) (Nat.le_of_ble_eq_true rfl) (Nat.le_of_ble_eq_true rfl) dX4_set_64
      · replace h := wit_f c13 h
        exact J_22 _ h
  · refine x_callS hC (st := []) (mt_X4_requireSetting _ _ _ hb39) q_556 q_557 q_1 q_558 hy_X4_requireSetting ⟨Nat.le_of_ble_eq_true rfl, Nat.le_of_ble_eq_true rfl⟩ ⟨Nat.le_of_ble_eq_true rfl, Nat.le_of_ble_eq_true rfl⟩ rfl (Nat.le_of_ble_eq_true rfl) dX4_set_1 r_X (r_XX ?_)
    exact x_out hC hQ hE (z_Y h) (Nat.le_of_ble_eq_true rfl) (Nat.le_of_ble_eq_true rfl)
theorem dX4_canWeekPass_0 : decode cX4_canWeekPass 0 = .ok (.aload_n 0, 1) := by decide +kernel
theorem dX4_canWeekPass_1 : decode cX4_canWeekPass 1 = .ok (.getfield 10, 3) := by decide +kernel
theorem dX4_canWeekPass_4 : decode cX4_canWeekPass 4 = .ok (.getfield 303, 3) := by decide +kernel
theorem dX4_canWeekPass_7 : decode cX4_canWeekPass 7 = .ok (.sipush 999, 3) := by decide +kernel
theorem dX4_canWeekPass_10 : decode cX4_canWeekPass 10 = .ok (.if_icmp .ge 7, 3) := by decide +kernel
theorem dX4_canWeekPass_13 : decode cX4_canWeekPass 13 = .ok (.iconst 1, 1) := by decide +kernel
theorem dX4_canWeekPass_14 : decode cX4_canWeekPass 14 = .ok (.goto 4, 3) := by decide +kernel
theorem dX4_canWeekPass_17 : decode cX4_canWeekPass 17 = .ok (.iconst 0, 1) := by decide +kernel
theorem dX4_canWeekPass_18 : decode cX4_canWeekPass 18 = .ok (.ireturn, 1) := by decide +kernel
set_option maxRecDepth 100000 in
set_option maxHeartbeats 4000000 in
theorem mt_X4_canWeekPass (r0 : Option Nat) (S0 : PH) (y : Int32 × PH) (h : m_X4_canWeekPass r0 S0 = some y) : MT yX4_canWeekPass (.code yX4_canWeekPass cX4_canWeekPass 1 (Option.some FieldType.boolean)) 0 0 0 0 [va_rf r0] S0 (oQ e_I (qN y)) := by
  refine mt_of (own := RX4) (l0 := [(0, va_rf r0)]) rfl rfl (by cases r0 <;> exact Nat.le_of_ble_eq_true rfl) (by cases r0 <;> rfl) ?_
  intro Z hC hQ hE hN
  unfold m_X4_canWeekPass at h
  refine x_aload_n (i := 0) hC dX4_canWeekPass_0 rfl 0 rfl ?_
  replace h := dr_el h
  obtain ⟨a1, ea2, ha3, h⟩ := h
  refine x_getR hC ea2 ha3 kf_4 0 (by decide) rfl q_172 dX4_canWeekPass_1 ?_
  replace h := dr_el h
  obtain ⟨a4, ea5, ha6, h⟩ := h
  refine x_getI hC ea5 ha6 kf_2 13 (by decide) rfl q_63 dX4_canWeekPass_4 ?_
  refine x_sipush (v := (999 : Int32)) hC dX4_canWeekPass_7 (by decide) ?_
  refine x_icmp_ge (t := 17) hC dX4_canWeekPass_10 (by decide) (fun c7 => ?_) (fun c7 => ?_)
  · replace h := it_t c7 h
    refine x_iconst (v := (0 : Int32)) hC dX4_canWeekPass_17 (by decide) ?_
    exact x_zret hC hQ (by decide) (z_N (Option.some.inj h)) (Nat.le_of_ble_eq_true rfl) (Nat.le_of_ble_eq_true rfl) dX4_canWeekPass_18
  · replace h := it_f c7 h
    refine x_iconst (v := (1 : Int32)) hC dX4_canWeekPass_13 (by decide) ?_
    refine x_goto (t := 18) hC dX4_canWeekPass_14 (by decide) ?_
    exact x_zret hC hQ (by decide) (z_N (Option.some.inj h)) (Nat.le_of_ble_eq_true rfl) (Nat.le_of_ble_eq_true rfl) dX4_canWeekPass_18
theorem dX4_giveFromPool_0 : decode cX4_giveFromPool 0 = .ok (.aload_n 0, 1) := by decide +kernel
theorem dX4_giveFromPool_1 : decode cX4_giveFromPool 1 = .ok (.getfield 10, 3) := by decide +kernel
theorem dX4_giveFromPool_4 : decode cX4_giveFromPool 4 = .ok (.dup, 1) := by decide +kernel
theorem dX4_giveFromPool_5 : decode cX4_giveFromPool 5 = .ok (.getfield 112, 3) := by decide +kernel
theorem dX4_giveFromPool_8 : decode cX4_giveFromPool 8 = .ok (.iload_n 2, 1) := by decide +kernel
theorem dX4_giveFromPool_9 : decode cX4_giveFromPool 9 = .ok (.isub, 1) := by decide +kernel
theorem dX4_giveFromPool_10 : decode cX4_giveFromPool 10 = .ok (.putfield 112, 3) := by decide +kernel
theorem dX4_giveFromPool_13 : decode cX4_giveFromPool 13 = .ok (.aload_n 0, 1) := by decide +kernel
theorem dX4_giveFromPool_14 : decode cX4_giveFromPool 14 = .ok (.getfield 10, 3) := by decide +kernel
theorem dX4_giveFromPool_17 : decode cX4_giveFromPool 17 = .ok (.getfield 310, 3) := by decide +kernel
theorem dX4_giveFromPool_20 : decode cX4_giveFromPool 20 = .ok (.iload_n 1, 1) := by decide +kernel
theorem dX4_giveFromPool_21 : decode cX4_giveFromPool 21 = .ok (.dup2, 1) := by decide +kernel
theorem dX4_giveFromPool_22 : decode cX4_giveFromPool 22 = .ok (.iaload, 1) := by decide +kernel
theorem dX4_giveFromPool_23 : decode cX4_giveFromPool 23 = .ok (.iload_n 2, 1) := by decide +kernel
theorem dX4_giveFromPool_24 : decode cX4_giveFromPool 24 = .ok (.iadd, 1) := by decide +kernel
theorem dX4_giveFromPool_25 : decode cX4_giveFromPool 25 = .ok (.iastore, 1) := by decide +kernel
theorem dX4_giveFromPool_26 : decode cX4_giveFromPool 26 = .ok (.return_, 1) := by decide +kernel
set_option maxRecDepth 100000 in
set_option maxHeartbeats 4000000 in
theorem mt_X4_giveFromPool (r0 : Option Nat) (i1 : Int32) (i2 : Int32) (S0 : PH) (y : Unit × PH) (h : m_X4_giveFromPool r0 i1 i2 S0 = some y) : MT yX4_giveFromPool (.code yX4_giveFromPool cX4_giveFromPool 3 (Option.none : Option FieldType)) 0 0 0 0 [va_rf r0, .int i1, .int i2] S0 (oQ e_V (qN y)) := by
  refine mt_of (own := RX4) (l0 := [(0, va_rf r0), (1, .int i1), (2, .int i2)]) rfl rfl (by cases r0 <;> exact Nat.le_of_ble_eq_true rfl) (by cases r0 <;> rfl) ?_
  intro Z hC hQ hE hN
  unfold m_X4_giveFromPool at h
  refine x_aload_n (i := 0) hC dX4_giveFromPool_0 rfl 0 rfl ?_
  replace h := dr_el h
  obtain ⟨a1, ea2, ha3, h⟩ := h
  refine x_getR hC ea2 ha3 kf_4 0 (by decide) rfl q_172 dX4_giveFromPool_1 ?_
  refine x_dup hC dX4_giveFromPool_4 (c_rf (p_R S0 a1 0)) ?_
  replace h := dr_el h
  obtain ⟨a4, ea5, ha6, h⟩ := h
  refine x_getI hC ea5 ha6 kf_2 14 (by decide) rfl q_65 dX4_giveFromPool_5 ?_
  refine x_iload_n (i := 2) hC dX4_giveFromPool_8 rfl 2 rfl ?_
  refine x_isub hC dX4_giveFromPool_9 ?_
  replace h := le_el h
  obtain ⟨S7, hx8, h⟩ := h
  refine x_putI hC ea5 ha6 kf_2 14 (by decide) rfl rfl q_65 (Or.inl rfl) dX4_giveFromPool_10 ?_
  refine x_tS hx8 ?_
  refine x_aload_n (i := 0) hC dX4_giveFromPool_13 rfl 0 rfl ?_
  replace h := dr_el h
  obtain ⟨a9, ea10, ha11, h⟩ := h
  refine x_getR hC ea10 ha11 kf_4 0 (by decide) rfl q_172 dX4_giveFromPool_14 ?_
  replace h := dr_el h
  obtain ⟨a12, ea13, ha14, h⟩ := h
  refine x_getR hC ea13 ha14 kf_2 2 (by decide) rfl q_41 dX4_giveFromPool_17 ?_
  refine x_iload_n (i := 1) hC dX4_giveFromPool_20 rfl 1 rfl ?_
  refine x_dup2 hC dX4_giveFromPool_21 rfl (c_rf (p_R S7 a12 2)) ?_
  replace h := dr_el h
  obtain ⟨a15, ea16, ha17, h⟩ := h
  replace h := ck_el h
  obtain ⟨hc18, h⟩ := h
  refine x_iaload hC ea16 ha17 hc18 dX4_giveFromPool_22 ?_
  refine x_iload_n (i := 2) hC dX4_giveFromPool_23 rfl 2 rfl ?_
  refine x_iadd hC dX4_giveFromPool_24 ?_
  replace h := ck_el h
  obtain ⟨hc19, h⟩ := h
  replace h := le_el h
  obtain ⟨S20, hx21, h⟩ := h
  refine x_iastore hC ea16 ha17 hc19 dX4_giveFromPool_25 ?_
  refine x_tS hx21 ?_
  exact x_vret hC hQ (z_N (v := ()) (Option.some.inj h)) (Nat.le_of_ble_eq_true rfl) (Nat.le_of_ble_eq_true rfl) dX4_giveFromPool_26
theorem dX4_passWeek_0 : decode cX4_passWeek 0 = .ok (.aload_n 0, 1) := by decide +kernel
theorem dX4_passWeek_1 : decode cX4_passWeek 1 = .ok (.getfield 10, 3) := by decide +kernel
theorem dX4_passWeek_4 : decode cX4_passWeek 4 = .ok (.getfield 102, 3) := by decide +kernel
theorem dX4_passWeek_7 : decode cX4_passWeek 7 = .ok (.iconst 2, 1) := by decide +kernel
theorem dX4_passWeek_8 : decode cX4_passWeek 8 = .ok (.iaload, 1) := by decide +kernel
theorem dX4_passWeek_9 : decode cX4_passWeek 9 = .ok (.istore_n 1, 1) := by decide +kernel
theorem dX4_passWeek_10 : decode cX4_passWeek 10 = .ok (.iconst 0, 1) := by decide +kernel
theorem dX4_passWeek_11 : decode cX4_passWeek 11 = .ok (.istore_n 2, 1) := by decide +kernel
theorem dX4_passWeek_12 : decode cX4_passWeek 12 = .ok (.iconst 0, 1) := by decide +kernel
theorem dX4_passWeek_13 : decode cX4_passWeek 13 = .ok (.istore_n 3, 1) := by decide +kernel
theorem dX4_passWeek_14 : decode cX4_passWeek 14 = .ok (.iload_n 3, 1) := by decide +kernel
theorem dX4_passWeek_15 : decode cX4_passWeek 15 = .ok (.bipush 8, 2) := by decide +kernel
theorem dX4_passWeek_17 : decode cX4_passWeek 17 = .ok (.if_icmp .ge 30, 3) := by decide +kernel
theorem dX4_passWeek_20 : decode cX4_passWeek 20 = .ok (.aload_n 0, 1) := by decide +kernel
theorem dX4_passWeek_21 : decode cX4_passWeek 21 = .ok (.getfield 10, 3) := by decide +kernel
theorem dX4_passWeek_24 : decode cX4_passWeek 24 = .ok (.getfield 112, 3) := by decide +kernel
theorem dX4_passWeek_27 : decode cX4_passWeek 27 = .ok (.iload_n 1, 1) := by decide +kernel
theorem dX4_passWeek_28 : decode cX4_passWeek 28 = .ok (.if_icmp .lt 13, 3) := by decide +kernel
theorem dX4_passWeek_31 : decode cX4_passWeek 31 = .ok (.aload_n 0, 1) := by decide +kernel
theorem dX4_passWeek_32 : decode cX4_passWeek 32 = .ok (.iload_n 3, 1) := by decide +kernel
theorem dX4_passWeek_33 : decode cX4_passWeek 33 = .ok (.iload_n 1, 1) := by decide +kernel
theorem dX4_passWeek_34 : decode cX4_passWeek 34 = .ok (.invokevirtual 306, 3) := by decide +kernel
theorem dX4_passWeek_37 : decode cX4_passWeek 37 = .ok (.iload_n 2, 1) := by decide +kernel
theorem dX4_passWeek_38 : decode cX4_passWeek 38 = .ok (.iload_n 1, 1) := by decide +kernel
theorem dX4_passWeek_39 : decode cX4_passWeek 39 = .ok (.iadd, 1) := by decide +kernel
theorem dX4_passWeek_40 : decode cX4_passWeek 40 = .ok (.istore_n 2, 1) := by decide +kernel
theorem dX4_passWeek_41 : decode cX4_passWeek 41 = .ok (.iinc 3 1, 3) := by decide +kernel
theorem dX4_passWeek_44 : decode cX4_passWeek 44 = .ok (.goto (-30), 3) := by decide +kernel
theorem dX4_passWeek_47 : decode cX4_passWeek 47 = .ok (.aload_n 0, 1) := by decide +kernel
theorem dX4_passWeek_48 : decode cX4_passWeek 48 = .ok (.getfield 10, 3) := by decide +kernel
theorem dX4_passWeek_51 : decode cX4_passWeek 51 = .ok (.dup, 1) := by decide +kernel
theorem dX4_passWeek_52 : decode cX4_passWeek 52 = .ok (.getfield 303, 3) := by decide +kernel
theorem dX4_passWeek_55 : decode cX4_passWeek 55 = .ok (.iconst 1, 1) := by decide +kernel
theorem dX4_passWeek_56 : decode cX4_passWeek 56 = .ok (.iadd, 1) := by decide +kernel
theorem dX4_passWeek_57 : decode cX4_passWeek 57 = .ok (.putfield 303, 3) := by decide +kernel
theorem dX4_passWeek_60 : decode cX4_passWeek 60 = .ok (.iload_n 2, 1) := by decide +kernel
theorem dX4_passWeek_61 : decode cX4_passWeek 61 = .ok (.ireturn, 1) := by decide +kernel
set_option maxRecDepth 100000 in
set_option maxHeartbeats 4000000 in
theorem mt_X4_passWeek (r0 : Option Nat) (S0 : PH) (y : Int32 × PH) (h : m_X4_passWeek r0 S0 = some y) : MT yX4_passWeek (.code yX4_passWeek cX4_passWeek 4 (Option.some FieldType.int)) 1 22 0 0 [va_rf r0] S0 (oQ e_I (qN y)) := by
  refine mt_of (own := RX4) (l0 := [(0, va_rf r0)]) rfl rfl (by cases r0 <;> exact Nat.le_of_ble_eq_true rfl) (by cases r0 <;> rfl) ?_
  intro Z hC hQ hE hN
  unfold m_X4_passWeek at h
  refine x_aload_n (i := 0) hC dX4_passWeek_0 rfl 0 rfl ?_
  replace h := dr_el h
  obtain ⟨a1, ea2, ha3, h⟩ := h
  refine x_getR hC ea2 ha3 kf_4 0 (by decide) rfl q_172 dX4_passWeek_1 ?_
  replace h := dr_el h
  obtain ⟨a4, ea5, ha6, h⟩ := h
  refine x_getR hC ea5 ha6 kf_2 11 (by decide) rfl q_59 dX4_passWeek_4 ?_
  refine x_iconst (v := (2 : Int32)) hC dX4_passWeek_7 (by decide) ?_
  replace h := dr_el h
  obtain ⟨a7, ea8, ha9, h⟩ := h
  replace h := ck_el h
  obtain ⟨hc10, h⟩ := h
  refine x_iaload hC ea8 ha9 hc10 dX4_passWeek_8 ?_
  refine x_tI (b := (p_I S0 a7 2)) rfl ?_
  replace h := le_el h
  obtain ⟨x11, hx12, h⟩ := h
  refine x_tI hx12 ?_
  refine x_istore_n (i := 1) (l' := [(1, .int x11), (0, va_rf r0)]) hC dX4_passWeek_9 rfl (⟨fun _ => c_rf r0, trivial⟩) (by decide) rfl ?_
  refine x_iconst (v := (0 : Int32)) hC dX4_passWeek_10 (by decide) ?_
  refine x_istore_n (i := 2) (l' := [(2, .int (0 : Int32)), (1, .int x11), (0, va_rf r0)]) hC dX4_passWeek_11 rfl (⟨fun _ => rfl, ⟨fun _ => c_rf r0, trivial⟩⟩) (by decide) rfl ?_
  refine x_iconst (v := (0 : Int32)) hC dX4_passWeek_12 (by decide) ?_
  refine x_istore_n (i := 3) (l' := [(3, .int (0 : Int32)), (2, .int (0 : Int32)), (1, .int x11), (0, va_rf r0)]) hC dX4_passWeek_13 rfl (⟨fun _ => rfl, ⟨fun _ => rfl, ⟨fun _ => c_rf r0, trivial⟩⟩⟩) (by decide) rfl ?_
  refine x_sub (l' := [(0, va_rf r0), (1, .int x11), (2, .int (0 : Int32)), (3, .int (0 : Int32))]) [3, 2, 1, 0] rfl ?_
  refine lp_sim (P := fun (t : (Int32 × Int32 × Int32 × PH)) => PX Z 4 t.2.2.2 0 0 14 [(0, va_rf r0), (1, .int t.1), (2, .int t.2.1), (3, .int t.2.2.1)] []) (G := fun r => r = y) ?_ h rfl
  clear h
  intro t x_14 h hg_14
  obtain ⟨v13, v14, v15, S16⟩ := t
  show PX Z 4 S16 0 0 14 [(0, va_rf r0), (1, .int v13), (2, .int v14), (3, .int v15)] []
  unfold st_X4_passWeek_14 at h
  refine x_iload_n (i := 3) hC dX4_passWeek_14 rfl 3 rfl ?_
  refine x_bipush (v := (8 : Int32)) hC dX4_passWeek_15 (by decide) ?_
  refine x_icmp_ge (t := 47) hC dX4_passWeek_17 (by decide) (fun c17 => ?_) (fun c17 => ?_)
  · replace h := it_t c17 h
    replace h := ir_x h hg_14
    refine x_aload_n (i := 0) hC dX4_passWeek_47 rfl 0 rfl ?_
    replace h := dr_el h
    obtain ⟨a18, ea19, ha20, h⟩ := h
    refine x_getR hC ea19 ha20 kf_4 0 (by decide) rfl q_172 dX4_passWeek_48 ?_
    refine x_dup hC dX4_passWeek_51 (c_rf (p_R S16 a18 0)) ?_
    replace h := dr_el h
    obtain ⟨a21, ea22, ha23, h⟩ := h
    refine x_getI hC ea22 ha23 kf_2 13 (by decide) rfl q_63 dX4_passWeek_52 ?_
    refine x_iconst (v := (1 : Int32)) hC dX4_passWeek_55 (by decide) ?_
    refine x_iadd hC dX4_passWeek_56 ?_
    replace h := le_el h
    obtain ⟨S24, hx25, h⟩ := h
    refine x_putI hC ea22 ha23 kf_2 13 (by decide) rfl rfl q_63 (Or.inl rfl) dX4_passWeek_57 ?_
    refine x_tS hx25 ?_
    refine x_iload_n (i := 2) hC dX4_passWeek_60 rfl 2 rfl ?_
    exact x_iret hC hQ (z_N (Option.some.inj h)) (Nat.le_of_ble_eq_true rfl) (Nat.le_of_ble_eq_true rfl) dX4_passWeek_61
  · replace h := it_f c17 h
    refine x_aload_n (i := 0) hC dX4_passWeek_20 rfl 0 rfl ?_
    replace h := dr_el h
    obtain ⟨a26, ea27, ha28, h⟩ := h
    refine x_getR hC ea27 ha28 kf_4 0 (by decide) rfl q_172 dX4_passWeek_21 ?_
    replace h := dr_el h
    obtain ⟨a29, ea30, ha31, h⟩ := h
    refine x_getI hC ea30 ha31 kf_2 14 (by decide) rfl q_65 dX4_passWeek_24 ?_
    refine x_iload_n (i := 1) hC dX4_passWeek_27 rfl 1 rfl ?_
    refine x_icmp_lt (t := 41) hC dX4_passWeek_28 (by decide) (fun c32 => ?_) (fun c32 => ?_)
    · replace h := it_t c32 h
      refine x_iinc (i := 3) (v := (v15 + (1 : Int32))) (l' := [(3, .int (v15 + (1 : Int32))), (0, va_rf r0), (1, .int v13), (2, .int v14)]) hC dX4_passWeek_41 3 rfl rfl (⟨fun _ => c_rf r0, ⟨fun _ => rfl, ⟨fun _ => rfl, ⟨fun _ => rfl, trivial⟩⟩⟩⟩) (by decide) rfl ?_
      refine x_goto (t := 14) hC dX4_passWeek_44 (by decide) ?_
      refine x_sub (l' := [(0, va_rf r0), (1, .int v13), (2, .int v14), (3, .int (v15 + (1 : Int32)))]) [1, 2, 3, 0] rfl ?_
      have hb := bk_x h hg_14
      exact hb
    · replace h := it_f c32 h
      refine x_aload_n (i := 0) hC dX4_passWeek_31 rfl 0 rfl ?_
      refine x_iload_n (i := 3) hC dX4_passWeek_32 rfl 3 rfl ?_
      refine x_iload_n (i := 1) hC dX4_passWeek_33 rfl 1 rfl ?_
      replace h := bd_el h
      obtain ⟨v33, S34, hb35, h⟩ := h
      refine x_callV hC (st := []) (mt_X4_giveFromPool _ _ _ _ _ hb35) ea27 ha28 kf_4 q_305 q_307 qs_3 q_1 q_308 ⟨rfl, hy_X4_giveFromPool⟩ ⟨Nat.le_of_ble_eq_true rfl, Nat.le_of_ble_eq_true rfl⟩ ⟨Nat.le_of_ble_eq_true rfl, Nat.le_of_ble_eq_true rfl⟩ rfl (Nat.le_of_ble_eq_true rfl) dX4_passWeek_34 (r_N ?_) r_NX
      show PX Z 4 S34 0 0 37 [(0, va_rf r0), (1, .int v13), (2, .int v14), (3, .int v15)] []
      refine x_iload_n (i := 2) hC dX4_passWeek_37 rfl 2 rfl ?_
      refine x_iload_n (i := 1) hC dX4_passWeek_38 rfl 1 rfl ?_
      refine x_iadd hC dX4_passWeek_39 ?_
      replace h := le_el h
      obtain ⟨x36, hx37, h⟩ := h
      refine x_tI hx37 ?_
      refine x_istore_n (i := 2) (l' := [(2, .int x36), (0, va_rf r0), (1, .int v13), (3, .int v15)]) hC dX4_passWeek_40 rfl (⟨fun _ => c_rf r0, ⟨fun _ => rfl, ⟨fun _ => rfl, ⟨fun _ => rfl, trivial⟩⟩⟩⟩) (by decide) rfl ?_
      refine x_iinc (i := 3) (v := (v15 + (1 : Int32))) (l' := [(3, .int (v15 + (1 : Int32))), (2, .int x36), (0, va_rf r0), (1, .int v13)]) hC dX4_passWeek_41 3 rfl rfl (⟨fun _ => rfl, ⟨fun _ => c_rf r0, ⟨fun _ => rfl, ⟨fun _ => rfl, trivial⟩⟩⟩⟩) (by decide) rfl ?_
      refine x_goto (t := 14) hC dX4_passWeek_44 (by decide) ?_
      refine x_sub (l' := [(0, va_rf r0), (1, .int v13), (2, .int x36), (3, .int (v15 + (1 : Int32)))]) [2, 3, 1, 0] rfl ?_
      have hb := bk_x h hg_14
      exact hb
theorem dX4_week_0 : decode cX4_week 0 = .ok (.aload_n 0, 1) := by decide +kernel
theorem dX4_week_1 : decode cX4_week 1 = .ok (.invokevirtual 115, 3) := by decide +kernel
theorem dX4_week_4 : decode cX4_week 4 = .ok (.ifCond .ne 13, 3) := by decide +kernel
theorem dX4_week_7 : decode cX4_week 7 = .ok (.new 58, 3) := by decide +kernel
theorem dX4_week_10 : decode cX4_week 10 = .ok (.dup, 1) := by decide +kernel
theorem dX4_week_11 : decode cX4_week 11 = .ok (.ldc 119, 2) := by decide +kernel
theorem dX4_week_13 : decode cX4_week 13 = .ok (.invokespecial 62, 3) := by decide +kernel
theorem dX4_week_16 : decode cX4_week 16 = .ok (.athrow, 1) := by decide +kernel
theorem dX4_week_17 : decode cX4_week 17 = .ok (.aload_n 0, 1) := by decide +kernel
theorem dX4_week_18 : decode cX4_week 18 = .ok (.getfield 19, 3) := by decide +kernel
theorem dX4_week_21 : decode cX4_week 21 = .ok (.aload_n 0, 1) := by decide +kernel
theorem dX4_week_22 : decode cX4_week 22 = .ok (.getfield 10, 3) := by decide +kernel
theorem dX4_week_25 : decode cX4_week 25 = .ok (.invokevirtual 63, 3) := by decide +kernel
theorem dX4_week_28 : decode cX4_week 28 = .ok (.aload_n 0, 1) := by decide +kernel
theorem dX4_week_29 : decode cX4_week 29 = .ok (.invokevirtual 121, 3) := by decide +kernel
theorem dX4_week_32 : decode cX4_week 32 = .ok (.ireturn, 1) := by decide +kernel
set_option maxRecDepth 100000 in
set_option maxHeartbeats 4000000 in
theorem mt_X4_week (r0 : Option Nat) (S0 : PH) (Q : (Nat ⊕ Int32) → PH → Prop) (h : w_X4_week r0 S0 Q) : MT yX4_week (.code yX4_week cX4_week 1 (Option.some FieldType.int)) 6 104 21 173 [va_rf r0] S0 (oQ e_I Q) := by
  refine mt_of (own := RX4) (l0 := [(0, va_rf r0)]) rfl rfl (by cases r0 <;> exact Nat.le_of_ble_eq_true rfl) (by cases r0 <;> rfl) ?_
  intro Z hC hQ hE hN
  unfold w_X4_week at h
  refine x_aload_n (i := 0) hC dX4_week_0 rfl 0 rfl ?_
  obtain ⟨a1, ea2, ha3, h⟩ := h
  obtain ⟨v4, S5, hb6, h⟩ := h
  refine x_callV hC (st := []) (mt_X4_canWeekPass _ _ _ hb6) ea2 ha3 kf_4 q_296 q_298 qs_1 q_1 q_299 ⟨rfl, hy_X4_canWeekPass⟩ ⟨Nat.le_of_ble_eq_true rfl, Nat.le_of_ble_eq_true rfl⟩ ⟨Nat.le_of_ble_eq_true rfl, Nat.le_of_ble_eq_true rfl⟩ rfl (Nat.le_of_ble_eq_true rfl) dX4_week_1 (r_N ?_) r_NX
  show PX Z 1 S5 0 0 4 [(0, va_rf r0)] [.int v4]
  refine x_if_ne (t := 17) hC dX4_week_4 (by decide) (fun c7 => ?_) (fun c7 => ?_)
  · replace h := wit_f c7 h
    refine x_aload_n (i := 0) hC dX4_week_17 rfl 0 rfl ?_
    obtain ⟨a8, ea9, ha10, h⟩ := h
    refine x_getR hC ea9 ha10 kf_4 1 (by decide) rfl q_173 dX4_week_18 ?_
    refine x_aload_n (i := 0) hC dX4_week_21 rfl 0 rfl ?_
    refine x_getR hC ea9 ha10 kf_4 0 (by decide) rfl q_172 dX4_week_22 ?_
    obtain ⟨a11, ea12, ha13, h⟩ := h
    refine x_callV hC (st := []) (mt_X0_save _ _ _ _ h) ea12 ha13 kf_0 q_280 q_281 q_282 q_4 q_283 ⟨rfl, hy_X0_save⟩ ⟨Nat.le_of_ble_eq_true rfl, Nat.le_of_ble_eq_true rfl⟩ ⟨Nat.le_of_ble_eq_true rfl, Nat.le_of_ble_eq_true rfl⟩ rfl (Nat.le_of_ble_eq_true rfl) dX4_week_25 (r_W (fun v14 S15 h => ?_)) (r_Wx (fun _ _ h => (wq_l h).elim))
    replace h := wq_r h
    show PX Z 1 S15 21 173 28 [(0, va_rf r0)] []
    refine x_aload_n (i := 0) hC dX4_week_28 rfl 0 rfl ?_
    obtain ⟨a18, ea19, ha20, h⟩ := h
    obtain ⟨v21, S22, hb23, h⟩ := h
    refine x_callV hC (st := []) (mt_X4_passWeek _ _ _ hb23) ea19 ha20 kf_4 q_301 q_303 qs_2 q_1 q_304 ⟨rfl, hy_X4_passWeek⟩ ⟨Nat.le_of_ble_eq_true rfl, Nat.le_of_ble_eq_true rfl⟩ ⟨Nat.le_of_ble_eq_true rfl, Nat.le_of_ble_eq_true rfl⟩ rfl (Nat.le_of_ble_eq_true rfl) dX4_week_29 (r_N ?_) r_NX
    show PX Z 1 S22 21 173 32 [(0, va_rf r0)] [.int v21]
    exact x_iret hC hQ (z_W h) (Nat.le_of_ble_eq_true rfl) (Nat.le_of_ble_eq_true rfl) dX4_week_32
  · replace h := wit_t c7 h
    exact x_throw hC hQ hE (j := 1) (z_Y h) tx_58_62_1 (List.mem_of_getElem? (i := 3) rfl) (Nat.le_of_ble_eq_true rfl) ⟨Nat.le_of_ble_eq_true rfl, Nat.le_of_ble_eq_true rfl⟩ ⟨Nat.le_of_ble_eq_true rfl, Nat.le_of_ble_eq_true rfl⟩ (Nat.le_of_ble_eq_true rfl) (Nat.le_of_ble_eq_true rfl) dX4_week_7 dX4_week_10 dX4_week_11 dX4_week_13 dX4_week_16
theorem dX4_isPaper_0 : decode cX4_isPaper 0 = .ok (.iload_n 1, 1) := by decide +kernel
theorem dX4_isPaper_1 : decode cX4_isPaper 1 = .ok (.ifCond .lt 24, 3) := by decide +kernel
theorem dX4_isPaper_4 : decode cX4_isPaper 4 = .ok (.iload_n 1, 1) := by decide +kernel
theorem dX4_isPaper_5 : decode cX4_isPaper 5 = .ok (.bipush 8, 2) := by decide +kernel
theorem dX4_isPaper_7 : decode cX4_isPaper 7 = .ok (.if_icmp .ge 18, 3) := by decide +kernel
theorem dX4_isPaper_10 : decode cX4_isPaper 10 = .ok (.iload_n 1, 1) := by decide +kernel
theorem dX4_isPaper_11 : decode cX4_isPaper 11 = .ok (.aload_n 0, 1) := by decide +kernel
theorem dX4_isPaper_12 : decode cX4_isPaper 12 = .ok (.getfield 10, 3) := by decide +kernel
theorem dX4_isPaper_15 : decode cX4_isPaper 15 = .ok (.getfield 54, 3) := by decide +kernel
theorem dX4_isPaper_18 : decode cX4_isPaper 18 = .ok (.if_icmp .ge 7, 3) := by decide +kernel
theorem dX4_isPaper_21 : decode cX4_isPaper 21 = .ok (.iconst 1, 1) := by decide +kernel
theorem dX4_isPaper_22 : decode cX4_isPaper 22 = .ok (.goto 4, 3) := by decide +kernel
theorem dX4_isPaper_25 : decode cX4_isPaper 25 = .ok (.iconst 0, 1) := by decide +kernel
theorem dX4_isPaper_26 : decode cX4_isPaper 26 = .ok (.ireturn, 1) := by decide +kernel
set_option maxRecDepth 100000 in
set_option maxHeartbeats 4000000 in
theorem mt_X4_isPaper (r0 : Option Nat) (i1 : Int32) (S0 : PH) (y : Int32 × PH) (h : m_X4_isPaper r0 i1 S0 = some y) : MT yX4_isPaper (.code yX4_isPaper cX4_isPaper 2 (Option.some FieldType.boolean)) 0 0 0 0 [va_rf r0, .int i1] S0 (oQ e_I (qN y)) := by
  refine mt_of (own := RX4) (l0 := [(0, va_rf r0), (1, .int i1)]) rfl rfl (by cases r0 <;> exact Nat.le_of_ble_eq_true rfl) (by cases r0 <;> rfl) ?_
  intro Z hC hQ hE hN
  unfold m_X4_isPaper at h
  refine x_iload_n (i := 1) hC dX4_isPaper_0 rfl 1 rfl ?_
  refine x_if_lt (t := 25) hC dX4_isPaper_1 (by decide) (fun c1 => ?_) (fun c1 => ?_)
  · replace h := it_t c1 h
    refine x_iconst (v := (0 : Int32)) hC dX4_isPaper_25 (by decide) ?_
    exact x_zret hC hQ (by decide) (z_N (Option.some.inj h)) (Nat.le_of_ble_eq_true rfl) (Nat.le_of_ble_eq_true rfl) dX4_isPaper_26
  · replace h := it_f c1 h
    refine x_iload_n (i := 1) hC dX4_isPaper_4 rfl 1 rfl ?_
    refine x_bipush (v := (8 : Int32)) hC dX4_isPaper_5 (by decide) ?_
    refine x_icmp_ge (t := 25) hC dX4_isPaper_7 (by decide) (fun c2 => ?_) (fun c2 => ?_)
    · replace h := it_t c2 h
      refine x_iconst (v := (0 : Int32)) hC dX4_isPaper_25 (by decide) ?_
      exact x_zret hC hQ (by decide) (z_N (Option.some.inj h)) (Nat.le_of_ble_eq_true rfl) (Nat.le_of_ble_eq_true rfl) dX4_isPaper_26
    · replace h := it_f c2 h
      refine x_iload_n (i := 1) hC dX4_isPaper_10 rfl 1 rfl ?_
      refine x_aload_n (i := 0) hC dX4_isPaper_11 rfl 0 rfl ?_
      replace h := dr_el h
      obtain ⟨a3, ea4, ha5, h⟩ := h
      refine x_getR hC ea4 ha5 kf_4 0 (by decide) rfl q_172 dX4_isPaper_12 ?_
      replace h := dr_el h
      obtain ⟨a6, ea7, ha8, h⟩ := h
      refine x_getI hC ea7 ha8 kf_2 12 (by decide) rfl q_61 dX4_isPaper_15 ?_
      refine x_icmp_ge (t := 25) hC dX4_isPaper_18 (by decide) (fun c9 => ?_) (fun c9 => ?_)
      · replace h := it_t c9 h
        refine x_iconst (v := (0 : Int32)) hC dX4_isPaper_25 (by decide) ?_
        exact x_zret hC hQ (by decide) (z_N (Option.some.inj h)) (Nat.le_of_ble_eq_true rfl) (Nat.le_of_ble_eq_true rfl) dX4_isPaper_26
      · replace h := it_f c9 h
        refine x_iconst (v := (1 : Int32)) hC dX4_isPaper_21 (by decide) ?_
        refine x_goto (t := 26) hC dX4_isPaper_22 (by decide) ?_
        exact x_zret hC hQ (by decide) (z_N (Option.some.inj h)) (Nat.le_of_ble_eq_true rfl) (Nat.le_of_ble_eq_true rfl) dX4_isPaper_26
theorem dX4_requirePaper_0 : decode cX4_requirePaper 0 = .ok (.aload_n 0, 1) := by decide +kernel
theorem dX4_requirePaper_1 : decode cX4_requirePaper 1 = .ok (.iload_n 1, 1) := by decide +kernel
theorem dX4_requirePaper_2 : decode cX4_requirePaper 2 = .ok (.invokevirtual 294, 3) := by decide +kernel
theorem dX4_requirePaper_5 : decode cX4_requirePaper 5 = .ok (.ifCond .ne 14, 3) := by decide +kernel
theorem dX4_requirePaper_8 : decode cX4_requirePaper 8 = .ok (.new 289, 3) := by decide +kernel
theorem dX4_requirePaper_11 : decode cX4_requirePaper 11 = .ok (.dup, 1) := by decide +kernel
theorem dX4_requirePaper_12 : decode cX4_requirePaper 12 = .ok (.ldc_w 297, 3) := by decide +kernel
theorem dX4_requirePaper_15 : decode cX4_requirePaper 15 = .ok (.invokespecial 293, 3) := by decide +kernel
theorem dX4_requirePaper_18 : decode cX4_requirePaper 18 = .ok (.athrow, 1) := by decide +kernel
theorem dX4_requirePaper_19 : decode cX4_requirePaper 19 = .ok (.return_, 1) := by decide +kernel
set_option maxRecDepth 100000 in
set_option maxHeartbeats 4000000 in
theorem mt_X4_requirePaper (r0 : Option Nat) (i1 : Int32) (S0 : PH) (y : (Nat ⊕ Unit) × PH) (h : m_X4_requirePaper r0 i1 S0 = some y) : MT yX4_requirePaper (.code yX4_requirePaper cX4_requirePaper 2 (Option.none : Option FieldType)) 6 90 1 6 [va_rf r0, .int i1] S0 (oQ e_V (qT y)) := by
  refine mt_of (own := RX4) (l0 := [(0, va_rf r0), (1, .int i1)]) rfl rfl (by cases r0 <;> exact Nat.le_of_ble_eq_true rfl) (by cases r0 <;> rfl) ?_
  intro Z hC hQ hE hN
  unfold m_X4_requirePaper at h
  refine x_aload_n (i := 0) hC dX4_requirePaper_0 rfl 0 rfl ?_
  refine x_iload_n (i := 1) hC dX4_requirePaper_1 rfl 1 rfl ?_
  replace h := dr_el h
  obtain ⟨a1, ea2, ha3, h⟩ := h
  replace h := bd_el h
  obtain ⟨v4, S5, hb6, h⟩ := h
  refine x_callV hC (st := []) (mt_X4_isPaper _ _ _ _ hb6) ea2 ha3 kf_4 q_336 q_338 qs_5 q_1 q_339 ⟨rfl, hy_X4_isPaper⟩ ⟨Nat.le_of_ble_eq_true rfl, Nat.le_of_ble_eq_true rfl⟩ ⟨Nat.le_of_ble_eq_true rfl, Nat.le_of_ble_eq_true rfl⟩ rfl (Nat.le_of_ble_eq_true rfl) dX4_requirePaper_2 (r_N ?_) r_NX
  show PX Z 2 S5 0 0 5 [(0, va_rf r0), (1, .int i1)] [.int v4]
  refine x_if_ne (t := 19) hC dX4_requirePaper_5 (by decide) (fun c7 => ?_) (fun c7 => ?_)
  · replace h := it_f c7 h
    exact x_vret hC hQ (z_T (v := ()) (Option.some.inj h)) (Nat.le_of_ble_eq_true rfl) (Nat.le_of_ble_eq_true rfl) dX4_requirePaper_19
  · replace h := it_t c7 h
    exact x_throwW hC hQ hE (j := 2) (z_X (Option.some.inj h)) tx_289_293_2 (List.mem_of_getElem? (i := 5) rfl) (Nat.le_of_ble_eq_true rfl) ⟨Nat.le_of_ble_eq_true rfl, Nat.le_of_ble_eq_true rfl⟩ ⟨Nat.le_of_ble_eq_true rfl, Nat.le_of_ble_eq_true rfl⟩ (Nat.le_of_ble_eq_true rfl) (Nat.le_of_ble_eq_true rfl) dX4_requirePaper_8 dX4_requirePaper_11 dX4_requirePaper_12 dX4_requirePaper_15 dX4_requirePaper_18
set_option maxRecDepth 100000 in
set_option maxHeartbeats 4000000 in
theorem mtr_X4_requirePaper (r0 : Option Nat) (i1 : Int32) (S0 : PH) (y0 : Unit × PH) (h : m_X4_requirePaper r0 i1 S0 = some (.inr y0.1, y0.2)) : MT yX4_requirePaper (.code yX4_requirePaper cX4_requirePaper 2 (Option.none : Option FieldType)) 6 90 0 0 [va_rf r0, .int i1] S0 (oQ e_V (qN y0)) := by
  generalize hyr : ((.inr y0.1 : Nat ⊕ Unit), y0.2) = y at h
  refine mt_of (own := RX4) (l0 := [(0, va_rf r0), (1, .int i1)]) rfl rfl (by cases r0 <;> exact Nat.le_of_ble_eq_true rfl) (by cases r0 <;> rfl) ?_
  intro Z hC hQ hE hN
  unfold m_X4_requirePaper at h
  refine x_aload_n (i := 0) hC dX4_requirePaper_0 rfl 0 rfl ?_
  refine x_iload_n (i := 1) hC dX4_requirePaper_1 rfl 1 rfl ?_
  replace h := dr_el h
  obtain ⟨a1, ea2, ha3, h⟩ := h
  replace h := bd_el h
  obtain ⟨v4, S5, hb6, h⟩ := h
  refine x_callV hC (st := []) (mt_X4_isPaper _ _ _ _ hb6) ea2 ha3 kf_4 q_336 q_338 qs_5 q_1 q_339 ⟨rfl, hy_X4_isPaper⟩ ⟨Nat.le_of_ble_eq_true rfl, Nat.le_of_ble_eq_true rfl⟩ ⟨Nat.le_of_ble_eq_true rfl, Nat.le_of_ble_eq_true rfl⟩ rfl (Nat.le_of_ble_eq_true rfl) dX4_requirePaper_2 (r_N ?_) r_NX
  show PX Z 2 S5 0 0 5 [(0, va_rf r0), (1, .int i1)] [.int v4]
  refine x_if_ne (t := 19) hC dX4_requirePaper_5 (by decide) (fun c7 => ?_) (fun c7 => ?_)
  · replace h := it_f c7 h
    exact x_vret hC hQ (z_R (v := ()) hyr (Option.some.inj h)) (Nat.le_of_ble_eq_true rfl) (Nat.le_of_ble_eq_true rfl) dX4_requirePaper_19
  · replace h := it_t c7 h
    exact z_no hyr (Option.some.inj h)
theorem dX4_reviewersIn_0 : decode cX4_reviewersIn 0 = .ok (.iconst 0, 1) := by decide +kernel
theorem dX4_reviewersIn_1 : decode cX4_reviewersIn 1 = .ok (.istore_n 1, 1) := by decide +kernel
theorem dX4_reviewersIn_2 : decode cX4_reviewersIn 2 = .ok (.iconst 0, 1) := by decide +kernel
theorem dX4_reviewersIn_3 : decode cX4_reviewersIn 3 = .ok (.istore_n 2, 1) := by decide +kernel
theorem dX4_reviewersIn_4 : decode cX4_reviewersIn 4 = .ok (.iload_n 2, 1) := by decide +kernel
theorem dX4_reviewersIn_5 : decode cX4_reviewersIn 5 = .ok (.aload_n 0, 1) := by decide +kernel
theorem dX4_reviewersIn_6 : decode cX4_reviewersIn 6 = .ok (.arraylength, 1) := by decide +kernel
theorem dX4_reviewersIn_7 : decode cX4_reviewersIn 7 = .ok (.if_icmp .ge 22, 3) := by decide +kernel
theorem dX4_reviewersIn_10 : decode cX4_reviewersIn 10 = .ok (.aload_n 0, 1) := by decide +kernel
theorem dX4_reviewersIn_11 : decode cX4_reviewersIn 11 = .ok (.iload_n 2, 1) := by decide +kernel
theorem dX4_reviewersIn_12 : decode cX4_reviewersIn 12 = .ok (.iaload, 1) := by decide +kernel
theorem dX4_reviewersIn_13 : decode cX4_reviewersIn 13 = .ok (.iconst (-1), 1) := by decide +kernel
theorem dX4_reviewersIn_14 : decode cX4_reviewersIn 14 = .ok (.if_icmp .eq 9, 3) := by decide +kernel
theorem dX4_reviewersIn_17 : decode cX4_reviewersIn 17 = .ok (.iload_n 1, 1) := by decide +kernel
theorem dX4_reviewersIn_18 : decode cX4_reviewersIn 18 = .ok (.iconst 1, 1) := by decide +kernel
theorem dX4_reviewersIn_19 : decode cX4_reviewersIn 19 = .ok (.iload_n 2, 1) := by decide +kernel
theorem dX4_reviewersIn_20 : decode cX4_reviewersIn 20 = .ok (.ishl, 1) := by decide +kernel
theorem dX4_reviewersIn_21 : decode cX4_reviewersIn 21 = .ok (.ior, 1) := by decide +kernel
theorem dX4_reviewersIn_22 : decode cX4_reviewersIn 22 = .ok (.istore_n 1, 1) := by decide +kernel
theorem dX4_reviewersIn_23 : decode cX4_reviewersIn 23 = .ok (.iinc 2 1, 3) := by decide +kernel
theorem dX4_reviewersIn_26 : decode cX4_reviewersIn 26 = .ok (.goto (-22), 3) := by decide +kernel
theorem dX4_reviewersIn_29 : decode cX4_reviewersIn 29 = .ok (.iload_n 1, 1) := by decide +kernel
theorem dX4_reviewersIn_30 : decode cX4_reviewersIn 30 = .ok (.ireturn, 1) := by decide +kernel
set_option maxRecDepth 100000 in
set_option maxHeartbeats 4000000 in
theorem mt_X4_reviewersIn (r0 : Option Nat) (S0 : PH) (y : Int32 × PH) (h : m_X4_reviewersIn r0 S0 = some y) : MT yX4_reviewersIn (.code yX4_reviewersIn cX4_reviewersIn 3 (Option.some FieldType.int)) 0 0 0 0 [va_rf r0] S0 (oQ e_I (qN y)) := by
  refine mt_of (own := RX4) (l0 := [(0, va_rf r0)]) rfl rfl (by cases r0 <;> exact Nat.le_of_ble_eq_true rfl) (by cases r0 <;> rfl) ?_
  intro Z hC hQ hE hN
  unfold m_X4_reviewersIn at h
  refine x_iconst (v := (0 : Int32)) hC dX4_reviewersIn_0 (by decide) ?_
  refine x_istore_n (i := 1) (l' := [(1, .int (0 : Int32)), (0, va_rf r0)]) hC dX4_reviewersIn_1 rfl (⟨fun _ => c_rf r0, trivial⟩) (by decide) rfl ?_
  refine x_iconst (v := (0 : Int32)) hC dX4_reviewersIn_2 (by decide) ?_
  refine x_istore_n (i := 2) (l' := [(2, .int (0 : Int32)), (1, .int (0 : Int32)), (0, va_rf r0)]) hC dX4_reviewersIn_3 rfl (⟨fun _ => rfl, ⟨fun _ => c_rf r0, trivial⟩⟩) (by decide) rfl ?_
  refine x_sub (l' := [(0, va_rf r0), (1, .int (0 : Int32)), (2, .int (0 : Int32))]) [2, 1, 0] rfl ?_
  refine lp_sim (P := fun (t : (Int32 × Int32 × PH)) => PX Z 3 t.2.2 0 0 4 [(0, va_rf r0), (1, .int t.1), (2, .int t.2.1)] []) (G := fun r => r = y) ?_ h rfl
  clear h
  intro t x_4 h hg_4
  obtain ⟨v1, v2, S3⟩ := t
  show PX Z 3 S3 0 0 4 [(0, va_rf r0), (1, .int v1), (2, .int v2)] []
  unfold st_X4_reviewersIn_4 at h
  refine x_iload_n (i := 2) hC dX4_reviewersIn_4 rfl 2 rfl ?_
  refine x_aload_n (i := 0) hC dX4_reviewersIn_5 rfl 0 rfl ?_
  replace h := dr_el h
  obtain ⟨a4, ea5, ha6, h⟩ := h
  refine x_alen6 hC ea5 ha6 dX4_reviewersIn_6 ?_
  refine x_icmp_ge (t := 29) hC dX4_reviewersIn_7 (by decide) (fun c7 => ?_) (fun c7 => ?_)
  · replace h := it_t c7 h
    replace h := ir_x h hg_4
    refine x_iload_n (i := 1) hC dX4_reviewersIn_29 rfl 1 rfl ?_
    exact x_iret hC hQ (z_N (Option.some.inj h)) (Nat.le_of_ble_eq_true rfl) (Nat.le_of_ble_eq_true rfl) dX4_reviewersIn_30
  · replace h := it_f c7 h
    refine x_aload_n (i := 0) hC dX4_reviewersIn_10 rfl 0 rfl ?_
    refine x_iload_n (i := 2) hC dX4_reviewersIn_11 rfl 2 rfl ?_
    replace h := ck_el h
    obtain ⟨hc8, h⟩ := h
    refine x_iaload hC ea5 ha6 hc8 dX4_reviewersIn_12 ?_
    refine x_iconst (v := (-1 : Int32)) hC dX4_reviewersIn_13 (by decide) ?_
    refine x_icmp_eq (t := 23) hC dX4_reviewersIn_14 (by decide) (fun c9 => ?_) (fun c9 => ?_)
    · replace h := it_t c9 h
      refine x_iinc (i := 2) (v := (v2 + (1 : Int32))) (l' := [(2, .int (v2 + (1 : Int32))), (0, va_rf r0), (1, .int v1)]) hC dX4_reviewersIn_23 2 rfl rfl (⟨fun _ => c_rf r0, ⟨fun _ => rfl, ⟨fun _ => rfl, trivial⟩⟩⟩) (by decide) rfl ?_
      refine x_goto (t := 4) hC dX4_reviewersIn_26 (by decide) ?_
      refine x_sub (l' := [(0, va_rf r0), (1, .int v1), (2, .int (v2 + (1 : Int32)))]) [1, 2, 0] rfl ?_
      have hb := bk_x h hg_4
      exact hb
    · replace h := it_f c9 h
      refine x_iload_n (i := 1) hC dX4_reviewersIn_17 rfl 1 rfl ?_
      refine x_iconst (v := (1 : Int32)) hC dX4_reviewersIn_18 (by decide) ?_
      refine x_iload_n (i := 2) hC dX4_reviewersIn_19 rfl 2 rfl ?_
      refine x_ishl hC dX4_reviewersIn_20 ?_
      refine x_ior hC dX4_reviewersIn_21 ?_
      replace h := le_el h
      obtain ⟨x10, hx11, h⟩ := h
      refine x_tI hx11 ?_
      refine x_istore_n (i := 1) (l' := [(1, .int x10), (0, va_rf r0), (2, .int v2)]) hC dX4_reviewersIn_22 rfl (⟨fun _ => c_rf r0, ⟨fun _ => rfl, ⟨fun _ => rfl, trivial⟩⟩⟩) (by decide) rfl ?_
      refine x_iinc (i := 2) (v := (v2 + (1 : Int32))) (l' := [(2, .int (v2 + (1 : Int32))), (1, .int x10), (0, va_rf r0)]) hC dX4_reviewersIn_23 2 rfl rfl (⟨fun _ => rfl, ⟨fun _ => c_rf r0, ⟨fun _ => rfl, trivial⟩⟩⟩) (by decide) rfl ?_
      refine x_goto (t := 4) hC dX4_reviewersIn_26 (by decide) ?_
      refine x_sub (l' := [(0, va_rf r0), (1, .int x10), (2, .int (v2 + (1 : Int32)))]) [2, 1, 0] rfl ?_
      have hb := bk_x h hg_4
      exact hb
theorem dX4_workedWithSome_0 : decode cX4_workedWithSome 0 = .ok (.iconst 0, 1) := by decide +kernel
theorem dX4_workedWithSome_1 : decode cX4_workedWithSome 1 = .ok (.istore_n 2, 1) := by decide +kernel
theorem dX4_workedWithSome_2 : decode cX4_workedWithSome 2 = .ok (.iconst 0, 1) := by decide +kernel
theorem dX4_workedWithSome_3 : decode cX4_workedWithSome 3 = .ok (.istore_n 3, 1) := by decide +kernel
theorem dX4_workedWithSome_4 : decode cX4_workedWithSome 4 = .ok (.iload_n 3, 1) := by decide +kernel
theorem dX4_workedWithSome_5 : decode cX4_workedWithSome 5 = .ok (.bipush 8, 2) := by decide +kernel
theorem dX4_workedWithSome_7 : decode cX4_workedWithSome 7 = .ok (.if_icmp .ge 29, 3) := by decide +kernel
theorem dX4_workedWithSome_10 : decode cX4_workedWithSome 10 = .ok (.iload_n 1, 1) := by decide +kernel
theorem dX4_workedWithSome_11 : decode cX4_workedWithSome 11 = .ok (.iload_n 3, 1) := by decide +kernel
theorem dX4_workedWithSome_12 : decode cX4_workedWithSome 12 = .ok (.invokestatic 87, 3) := by decide +kernel
theorem dX4_workedWithSome_15 : decode cX4_workedWithSome 15 = .ok (.ifCond .eq 15, 3) := by decide +kernel
theorem dX4_workedWithSome_18 : decode cX4_workedWithSome 18 = .ok (.iload_n 2, 1) := by decide +kernel
theorem dX4_workedWithSome_19 : decode cX4_workedWithSome 19 = .ok (.aload_n 0, 1) := by decide +kernel
theorem dX4_workedWithSome_20 : decode cX4_workedWithSome 20 = .ok (.getfield 10, 3) := by decide +kernel
theorem dX4_workedWithSome_23 : decode cX4_workedWithSome 23 = .ok (.getfield 84, 3) := by decide +kernel
theorem dX4_workedWithSome_26 : decode cX4_workedWithSome 26 = .ok (.iload_n 3, 1) := by decide +kernel
theorem dX4_workedWithSome_27 : decode cX4_workedWithSome 27 = .ok (.iaload, 1) := by decide +kernel
theorem dX4_workedWithSome_28 : decode cX4_workedWithSome 28 = .ok (.ior, 1) := by decide +kernel
theorem dX4_workedWithSome_29 : decode cX4_workedWithSome 29 = .ok (.istore_n 2, 1) := by decide +kernel
theorem dX4_workedWithSome_30 : decode cX4_workedWithSome 30 = .ok (.iinc 3 1, 3) := by decide +kernel
theorem dX4_workedWithSome_33 : decode cX4_workedWithSome 33 = .ok (.goto (-29), 3) := by decide +kernel
theorem dX4_workedWithSome_36 : decode cX4_workedWithSome 36 = .ok (.iload_n 2, 1) := by decide +kernel
theorem dX4_workedWithSome_37 : decode cX4_workedWithSome 37 = .ok (.ireturn, 1) := by decide +kernel
set_option maxRecDepth 100000 in
set_option maxHeartbeats 4000000 in
theorem mt_X4_workedWithSome (r0 : Option Nat) (i1 : Int32) (S0 : PH) (y : Int32 × PH) (h : m_X4_workedWithSome r0 i1 S0 = some y) : MT yX4_workedWithSome (.code yX4_workedWithSome cX4_workedWithSome 4 (Option.some FieldType.int)) 1 21 0 0 [va_rf r0, .int i1] S0 (oQ e_I (qN y)) := by
  refine mt_of (own := RX4) (l0 := [(0, va_rf r0), (1, .int i1)]) rfl rfl (by cases r0 <;> exact Nat.le_of_ble_eq_true rfl) (by cases r0 <;> rfl) ?_
  intro Z hC hQ hE hN
  unfold m_X4_workedWithSome at h
  refine x_iconst (v := (0 : Int32)) hC dX4_workedWithSome_0 (by decide) ?_
  refine x_istore_n (i := 2) (l' := [(2, .int (0 : Int32)), (0, va_rf r0), (1, .int i1)]) hC dX4_workedWithSome_1 rfl (⟨fun _ => c_rf r0, ⟨fun _ => rfl, trivial⟩⟩) (by decide) rfl ?_
  refine x_iconst (v := (0 : Int32)) hC dX4_workedWithSome_2 (by decide) ?_
  refine x_istore_n (i := 3) (l' := [(3, .int (0 : Int32)), (2, .int (0 : Int32)), (0, va_rf r0), (1, .int i1)]) hC dX4_workedWithSome_3 rfl (⟨fun _ => rfl, ⟨fun _ => c_rf r0, ⟨fun _ => rfl, trivial⟩⟩⟩) (by decide) rfl ?_
  refine x_sub (l' := [(0, va_rf r0), (1, .int i1), (2, .int (0 : Int32)), (3, .int (0 : Int32))]) [2, 3, 1, 0] rfl ?_
  refine lp_sim (P := fun (t : (Int32 × Int32 × PH)) => PX Z 4 t.2.2 0 0 4 [(0, va_rf r0), (1, .int i1), (2, .int t.1), (3, .int t.2.1)] []) (G := fun r => r = y) ?_ h rfl
  clear h
  intro t x_4 h hg_4
  obtain ⟨v1, v2, S3⟩ := t
  show PX Z 4 S3 0 0 4 [(0, va_rf r0), (1, .int i1), (2, .int v1), (3, .int v2)] []
  unfold st_X4_workedWithSome_4 at h
  refine x_iload_n (i := 3) hC dX4_workedWithSome_4 rfl 3 rfl ?_
  refine x_bipush (v := (8 : Int32)) hC dX4_workedWithSome_5 (by decide) ?_
  refine x_icmp_ge (t := 36) hC dX4_workedWithSome_7 (by decide) (fun c4 => ?_) (fun c4 => ?_)
  · replace h := it_t c4 h
    replace h := ir_x h hg_4
    refine x_iload_n (i := 2) hC dX4_workedWithSome_36 rfl 2 rfl ?_
    exact x_iret hC hQ (z_N (Option.some.inj h)) (Nat.le_of_ble_eq_true rfl) (Nat.le_of_ble_eq_true rfl) dX4_workedWithSome_37
  · replace h := it_f c4 h
    refine x_iload_n (i := 1) hC dX4_workedWithSome_10 rfl 1 rfl ?_
    refine x_iload_n (i := 3) hC dX4_workedWithSome_11 rfl 3 rfl ?_
    replace h := bd_el h
    obtain ⟨v5, S6, hb7, h⟩ := h
    refine x_callS hC (st := []) (mt_X4_has _ _ _ _ hb7) q_366 q_367 q_1 q_368 hy_X4_has ⟨Nat.le_of_ble_eq_true rfl, Nat.le_of_ble_eq_true rfl⟩ ⟨Nat.le_of_ble_eq_true rfl, Nat.le_of_ble_eq_true rfl⟩ rfl (Nat.le_of_ble_eq_true rfl) dX4_workedWithSome_12 (r_N ?_) r_NX
    show PX Z 4 S6 0 0 15 [(0, va_rf r0), (1, .int i1), (2, .int v1), (3, .int v2)] [.int v5]
    refine x_if_eq (t := 30) hC dX4_workedWithSome_15 (by decide) (fun c8 => ?_) (fun c8 => ?_)
    · replace h := it_t c8 h
      refine x_iinc (i := 3) (v := (v2 + (1 : Int32))) (l' := [(3, .int (v2 + (1 : Int32))), (0, va_rf r0), (1, .int i1), (2, .int v1)]) hC dX4_workedWithSome_30 3 rfl rfl (⟨fun _ => c_rf r0, ⟨fun _ => rfl, ⟨fun _ => rfl, ⟨fun _ => rfl, trivial⟩⟩⟩⟩) (by decide) rfl ?_
      refine x_goto (t := 4) hC dX4_workedWithSome_33 (by decide) ?_
      refine x_sub (l' := [(0, va_rf r0), (1, .int i1), (2, .int v1), (3, .int (v2 + (1 : Int32)))]) [1, 2, 3, 0] rfl ?_
      have hb := bk_x h hg_4
      exact hb
    · replace h := it_f c8 h
      refine x_iload_n (i := 2) hC dX4_workedWithSome_18 rfl 2 rfl ?_
      refine x_aload_n (i := 0) hC dX4_workedWithSome_19 rfl 0 rfl ?_
      replace h := dr_el h
      obtain ⟨a9, ea10, ha11, h⟩ := h
      refine x_getR hC ea10 ha11 kf_4 0 (by decide) rfl q_172 dX4_workedWithSome_20 ?_
      replace h := dr_el h
      obtain ⟨a12, ea13, ha14, h⟩ := h
      refine x_getR hC ea13 ha14 kf_2 1 (by decide) rfl q_39 dX4_workedWithSome_23 ?_
      refine x_iload_n (i := 3) hC dX4_workedWithSome_26 rfl 3 rfl ?_
      replace h := dr_el h
      obtain ⟨a15, ea16, ha17, h⟩ := h
      replace h := ck_el h
      obtain ⟨hc18, h⟩ := h
      refine x_iaload hC ea16 ha17 hc18 dX4_workedWithSome_27 ?_
      refine x_ior hC dX4_workedWithSome_28 ?_
      replace h := le_el h
      obtain ⟨x19, hx20, h⟩ := h
      refine x_tI hx20 ?_
      refine x_istore_n (i := 2) (l' := [(2, .int x19), (0, va_rf r0), (1, .int i1), (3, .int v2)]) hC dX4_workedWithSome_29 rfl (⟨fun _ => c_rf r0, ⟨fun _ => rfl, ⟨fun _ => rfl, ⟨fun _ => rfl, trivial⟩⟩⟩⟩) (by decide) rfl ?_
      refine x_iinc (i := 3) (v := (v2 + (1 : Int32))) (l' := [(3, .int (v2 + (1 : Int32))), (2, .int x19), (0, va_rf r0), (1, .int i1)]) hC dX4_workedWithSome_30 3 rfl rfl (⟨fun _ => rfl, ⟨fun _ => c_rf r0, ⟨fun _ => rfl, ⟨fun _ => rfl, trivial⟩⟩⟩⟩) (by decide) rfl ?_
      refine x_goto (t := 4) hC dX4_workedWithSome_33 (by decide) ?_
      refine x_sub (l' := [(0, va_rf r0), (1, .int i1), (2, .int x19), (3, .int (v2 + (1 : Int32)))]) [2, 3, 1, 0] rfl ?_
      have hb := bk_x h hg_4
      exact hb
theorem dX4_personsInConflict_0 : decode cX4_personsInConflict 0 = .ok (.aload_n 0, 1) := by decide +kernel
theorem dX4_personsInConflict_1 : decode cX4_personsInConflict 1 = .ok (.getfield 10, 3) := by decide +kernel
theorem dX4_personsInConflict_4 : decode cX4_personsInConflict 4 = .ok (.getfield 70, 3) := by decide +kernel
theorem dX4_personsInConflict_7 : decode cX4_personsInConflict 7 = .ok (.iload_n 1, 1) := by decide +kernel
theorem dX4_personsInConflict_8 : decode cX4_personsInConflict 8 = .ok (.iaload, 1) := by decide +kernel
theorem dX4_personsInConflict_9 : decode cX4_personsInConflict 9 = .ok (.istore_n 2, 1) := by decide +kernel
theorem dX4_personsInConflict_10 : decode cX4_personsInConflict 10 = .ok (.iconst 0, 1) := by decide +kernel
theorem dX4_personsInConflict_11 : decode cX4_personsInConflict 11 = .ok (.istore_n 3, 1) := by decide +kernel
theorem dX4_personsInConflict_12 : decode cX4_personsInConflict 12 = .ok (.iload_n 3, 1) := by decide +kernel
theorem dX4_personsInConflict_13 : decode cX4_personsInConflict 13 = .ok (.aload_n 0, 1) := by decide +kernel
theorem dX4_personsInConflict_14 : decode cX4_personsInConflict 14 = .ok (.getfield 10, 3) := by decide +kernel
theorem dX4_personsInConflict_17 : decode cX4_personsInConflict 17 = .ok (.getfield 102, 3) := by decide +kernel
theorem dX4_personsInConflict_20 : decode cX4_personsInConflict 20 = .ok (.iconst 1, 1) := by decide +kernel
theorem dX4_personsInConflict_21 : decode cX4_personsInConflict 21 = .ok (.iaload, 1) := by decide +kernel
theorem dX4_personsInConflict_22 : decode cX4_personsInConflict 22 = .ok (.if_icmp .ge 17, 3) := by decide +kernel
theorem dX4_personsInConflict_25 : decode cX4_personsInConflict 25 = .ok (.iload_n 2, 1) := by decide +kernel
theorem dX4_personsInConflict_26 : decode cX4_personsInConflict 26 = .ok (.aload_n 0, 1) := by decide +kernel
theorem dX4_personsInConflict_27 : decode cX4_personsInConflict 27 = .ok (.iload_n 2, 1) := by decide +kernel
theorem dX4_personsInConflict_28 : decode cX4_personsInConflict 28 = .ok (.invokevirtual 322, 3) := by decide +kernel
theorem dX4_personsInConflict_31 : decode cX4_personsInConflict 31 = .ok (.ior, 1) := by decide +kernel
theorem dX4_personsInConflict_32 : decode cX4_personsInConflict 32 = .ok (.istore_n 2, 1) := by decide +kernel
theorem dX4_personsInConflict_33 : decode cX4_personsInConflict 33 = .ok (.iinc 3 1, 3) := by decide +kernel
theorem dX4_personsInConflict_36 : decode cX4_personsInConflict 36 = .ok (.goto (-24), 3) := by decide +kernel
theorem dX4_personsInConflict_39 : decode cX4_personsInConflict 39 = .ok (.iload_n 2, 1) := by decide +kernel
theorem dX4_personsInConflict_40 : decode cX4_personsInConflict 40 = .ok (.ireturn, 1) := by decide +kernel
set_option maxRecDepth 100000 in
set_option maxHeartbeats 4000000 in
theorem mt_X4_personsInConflict (r0 : Option Nat) (i1 : Int32) (S0 : PH) (y : Int32 × PH) (h : m_X4_personsInConflict r0 i1 S0 = some y) : MT yX4_personsInConflict (.code yX4_personsInConflict cX4_personsInConflict 4 (Option.some FieldType.int)) 2 44 0 0 [va_rf r0, .int i1] S0 (oQ e_I (qN y)) := by
  refine mt_of (own := RX4) (l0 := [(0, va_rf r0), (1, .int i1)]) rfl rfl (by cases r0 <;> exact Nat.le_of_ble_eq_true rfl) (by cases r0 <;> rfl) ?_
  intro Z hC hQ hE hN
  unfold m_X4_personsInConflict at h
  refine x_aload_n (i := 0) hC dX4_personsInConflict_0 rfl 0 rfl ?_
  replace h := dr_el h
  obtain ⟨a1, ea2, ha3, h⟩ := h
  refine x_getR hC ea2 ha3 kf_4 0 (by decide) rfl q_172 dX4_personsInConflict_1 ?_
  replace h := dr_el h
  obtain ⟨a4, ea5, ha6, h⟩ := h
  refine x_getR hC ea5 ha6 kf_2 6 (by decide) rfl q_49 dX4_personsInConflict_4 ?_
  refine x_iload_n (i := 1) hC dX4_personsInConflict_7 rfl 1 rfl ?_
  replace h := dr_el h
  obtain ⟨a7, ea8, ha9, h⟩ := h
  replace h := ck_el h
  obtain ⟨hc10, h⟩ := h
  refine x_iaload hC ea8 ha9 hc10 dX4_personsInConflict_8 ?_
  replace h := le_el h
  obtain ⟨x11, hx12, h⟩ := h
  refine x_tI hx12 ?_
  refine x_istore_n (i := 2) (l' := [(2, .int x11), (0, va_rf r0), (1, .int i1)]) hC dX4_personsInConflict_9 rfl (⟨fun _ => c_rf r0, ⟨fun _ => rfl, trivial⟩⟩) (by decide) rfl ?_
  refine x_iconst (v := (0 : Int32)) hC dX4_personsInConflict_10 (by decide) ?_
  refine x_istore_n (i := 3) (l' := [(3, .int (0 : Int32)), (2, .int x11), (0, va_rf r0), (1, .int i1)]) hC dX4_personsInConflict_11 rfl (⟨fun _ => rfl, ⟨fun _ => c_rf r0, ⟨fun _ => rfl, trivial⟩⟩⟩) (by decide) rfl ?_
  refine x_sub (l' := [(0, va_rf r0), (1, .int i1), (2, .int x11), (3, .int (0 : Int32))]) [2, 3, 1, 0] rfl ?_
  refine lp_sim (P := fun (t : (Int32 × Int32 × PH)) => PX Z 4 t.2.2 0 0 12 [(0, va_rf r0), (1, .int i1), (2, .int t.1), (3, .int t.2.1)] []) (G := fun r => r = y) ?_ h rfl
  clear h
  intro t x_12 h hg_12
  obtain ⟨v13, v14, S15⟩ := t
  show PX Z 4 S15 0 0 12 [(0, va_rf r0), (1, .int i1), (2, .int v13), (3, .int v14)] []
  unfold st_X4_personsInConflict_12 at h
  refine x_iload_n (i := 3) hC dX4_personsInConflict_12 rfl 3 rfl ?_
  refine x_aload_n (i := 0) hC dX4_personsInConflict_13 rfl 0 rfl ?_
  replace h := dr_el h
  obtain ⟨a16, ea17, ha18, h⟩ := h
  refine x_getR hC ea17 ha18 kf_4 0 (by decide) rfl q_172 dX4_personsInConflict_14 ?_
  replace h := dr_el h
  obtain ⟨a19, ea20, ha21, h⟩ := h
  refine x_getR hC ea20 ha21 kf_2 11 (by decide) rfl q_59 dX4_personsInConflict_17 ?_
  refine x_iconst (v := (1 : Int32)) hC dX4_personsInConflict_20 (by decide) ?_
  replace h := dr_el h
  obtain ⟨a22, ea23, ha24, h⟩ := h
  replace h := ck_el h
  obtain ⟨hc25, h⟩ := h
  refine x_iaload hC ea23 ha24 hc25 dX4_personsInConflict_21 ?_
  refine x_tI (b := (p_I S15 a22 1)) rfl ?_
  refine x_icmp_ge (t := 39) hC dX4_personsInConflict_22 (by decide) (fun c26 => ?_) (fun c26 => ?_)
  · replace h := it_t c26 h
    replace h := ir_x h hg_12
    refine x_iload_n (i := 2) hC dX4_personsInConflict_39 rfl 2 rfl ?_
    exact x_iret hC hQ (z_N (Option.some.inj h)) (Nat.le_of_ble_eq_true rfl) (Nat.le_of_ble_eq_true rfl) dX4_personsInConflict_40
  · replace h := it_f c26 h
    refine x_iload_n (i := 2) hC dX4_personsInConflict_25 rfl 2 rfl ?_
    refine x_aload_n (i := 0) hC dX4_personsInConflict_26 rfl 0 rfl ?_
    refine x_iload_n (i := 2) hC dX4_personsInConflict_27 rfl 2 rfl ?_
    replace h := bd_el h
    obtain ⟨v27, S28, hb29, h⟩ := h
    refine x_callV hC (st := [.int v13]) (mt_X4_workedWithSome _ _ _ _ hb29) ea17 ha18 kf_4 q_362 q_364 qs_9 q_1 q_365 ⟨rfl, hy_X4_workedWithSome⟩ ⟨Nat.le_of_ble_eq_true rfl, Nat.le_of_ble_eq_true rfl⟩ ⟨Nat.le_of_ble_eq_true rfl, Nat.le_of_ble_eq_true rfl⟩ rfl (Nat.le_of_ble_eq_true rfl) dX4_personsInConflict_28 (r_N ?_) r_NX
    show PX Z 4 S28 0 0 31 [(0, va_rf r0), (1, .int i1), (2, .int v13), (3, .int v14)] [.int v27, .int v13]
    refine x_ior hC dX4_personsInConflict_31 ?_
    replace h := le_el h
    obtain ⟨x30, hx31, h⟩ := h
    refine x_tI hx31 ?_
    refine x_istore_n (i := 2) (l' := [(2, .int x30), (0, va_rf r0), (1, .int i1), (3, .int v14)]) hC dX4_personsInConflict_32 rfl (⟨fun _ => c_rf r0, ⟨fun _ => rfl, ⟨fun _ => rfl, ⟨fun _ => rfl, trivial⟩⟩⟩⟩) (by decide) rfl ?_
    refine x_iinc (i := 3) (v := (v14 + (1 : Int32))) (l' := [(3, .int (v14 + (1 : Int32))), (2, .int x30), (0, va_rf r0), (1, .int i1)]) hC dX4_personsInConflict_33 3 rfl rfl (⟨fun _ => rfl, ⟨fun _ => c_rf r0, ⟨fun _ => rfl, ⟨fun _ => rfl, trivial⟩⟩⟩⟩) (by decide) rfl ?_
    refine x_goto (t := 12) hC dX4_personsInConflict_36 (by decide) ?_
    refine x_sub (l' := [(0, va_rf r0), (1, .int i1), (2, .int x30), (3, .int (v14 + (1 : Int32)))]) [2, 3, 1, 0] rfl ?_
    have hb := bk_x h hg_12
    exact hb
theorem dX4_tokensOf_0 : decode cX4_tokensOf 0 = .ok (.aload_n 0, 1) := by decide +kernel
theorem dX4_tokensOf_1 : decode cX4_tokensOf 1 = .ok (.getfield 10, 3) := by decide +kernel
theorem dX4_tokensOf_4 : decode cX4_tokensOf 4 = .ok (.getfield 310, 3) := by decide +kernel
theorem dX4_tokensOf_7 : decode cX4_tokensOf 7 = .ok (.iload_n 1, 1) := by decide +kernel
theorem dX4_tokensOf_8 : decode cX4_tokensOf 8 = .ok (.iaload, 1) := by decide +kernel
theorem dX4_tokensOf_9 : decode cX4_tokensOf 9 = .ok (.aload_n 0, 1) := by decide +kernel
theorem dX4_tokensOf_10 : decode cX4_tokensOf 10 = .ok (.getfield 10, 3) := by decide +kernel
theorem dX4_tokensOf_13 : decode cX4_tokensOf 13 = .ok (.getfield 313, 3) := by decide +kernel
theorem dX4_tokensOf_16 : decode cX4_tokensOf 16 = .ok (.iload_n 1, 1) := by decide +kernel
theorem dX4_tokensOf_17 : decode cX4_tokensOf 17 = .ok (.iaload, 1) := by decide +kernel
theorem dX4_tokensOf_18 : decode cX4_tokensOf 18 = .ok (.isub, 1) := by decide +kernel
theorem dX4_tokensOf_19 : decode cX4_tokensOf 19 = .ok (.ireturn, 1) := by decide +kernel
set_option maxRecDepth 100000 in
set_option maxHeartbeats 4000000 in
theorem mt_X4_tokensOf (r0 : Option Nat) (i1 : Int32) (S0 : PH) (y : Int32 × PH) (h : m_X4_tokensOf r0 i1 S0 = some y) : MT yX4_tokensOf (.code yX4_tokensOf cX4_tokensOf 2 (Option.some FieldType.int)) 0 0 0 0 [va_rf r0, .int i1] S0 (oQ e_I (qN y)) := by
  refine mt_of (own := RX4) (l0 := [(0, va_rf r0), (1, .int i1)]) rfl rfl (by cases r0 <;> exact Nat.le_of_ble_eq_true rfl) (by cases r0 <;> rfl) ?_
  intro Z hC hQ hE hN
  unfold m_X4_tokensOf at h
  refine x_aload_n (i := 0) hC dX4_tokensOf_0 rfl 0 rfl ?_
  replace h := dr_el h
  obtain ⟨a1, ea2, ha3, h⟩ := h
  refine x_getR hC ea2 ha3 kf_4 0 (by decide) rfl q_172 dX4_tokensOf_1 ?_
  replace h := dr_el h
  obtain ⟨a4, ea5, ha6, h⟩ := h
  refine x_getR hC ea5 ha6 kf_2 2 (by decide) rfl q_41 dX4_tokensOf_4 ?_
  refine x_iload_n (i := 1) hC dX4_tokensOf_7 rfl 1 rfl ?_
  replace h := dr_el h
  obtain ⟨a7, ea8, ha9, h⟩ := h
  replace h := ck_el h
  obtain ⟨hc10, h⟩ := h
  refine x_iaload hC ea8 ha9 hc10 dX4_tokensOf_8 ?_
  refine x_aload_n (i := 0) hC dX4_tokensOf_9 rfl 0 rfl ?_
  refine x_getR hC ea2 ha3 kf_4 0 (by decide) rfl q_172 dX4_tokensOf_10 ?_
  refine x_getR hC ea5 ha6 kf_2 3 (by decide) rfl q_43 dX4_tokensOf_13 ?_
  refine x_iload_n (i := 1) hC dX4_tokensOf_16 rfl 1 rfl ?_
  replace h := dr_el h
  obtain ⟨a11, ea12, ha13, h⟩ := h
  replace h := ck_el h
  obtain ⟨hc14, h⟩ := h
  refine x_iaload hC ea12 ha13 hc14 dX4_tokensOf_17 ?_
  refine x_isub hC dX4_tokensOf_18 ?_
  exact x_iret hC hQ (z_N (Option.some.inj h)) (Nat.le_of_ble_eq_true rfl) (Nat.le_of_ble_eq_true rfl) dX4_tokensOf_19
theorem dX4_reasonAgainstTaking_0 : decode cX4_reasonAgainstTaking 0 = .ok (.aload_n 0, 1) := by decide +kernel
theorem dX4_reasonAgainstTaking_1 : decode cX4_reasonAgainstTaking 1 = .ok (.getfield 10, 3) := by decide +kernel
theorem dX4_reasonAgainstTaking_4 : decode cX4_reasonAgainstTaking 4 = .ok (.getfield 167, 3) := by decide +kernel
theorem dX4_reasonAgainstTaking_7 : decode cX4_reasonAgainstTaking 7 = .ok (.iload_n 2, 1) := by decide +kernel
theorem dX4_reasonAgainstTaking_8 : decode cX4_reasonAgainstTaking 8 = .ok (.aaload, 1) := by decide +kernel
theorem dX4_reasonAgainstTaking_9 : decode cX4_reasonAgainstTaking 9 = .ok (.astore_n 3, 1) := by decide +kernel
theorem dX4_reasonAgainstTaking_10 : decode cX4_reasonAgainstTaking 10 = .ok (.aload_n 0, 1) := by decide +kernel
theorem dX4_reasonAgainstTaking_11 : decode cX4_reasonAgainstTaking 11 = .ok (.getfield 10, 3) := by decide +kernel
theorem dX4_reasonAgainstTaking_14 : decode cX4_reasonAgainstTaking 14 = .ok (.getfield 183, 3) := by decide +kernel
theorem dX4_reasonAgainstTaking_17 : decode cX4_reasonAgainstTaking 17 = .ok (.iload_n 2, 1) := by decide +kernel
theorem dX4_reasonAgainstTaking_18 : decode cX4_reasonAgainstTaking 18 = .ok (.iaload, 1) := by decide +kernel
theorem dX4_reasonAgainstTaking_19 : decode cX4_reasonAgainstTaking 19 = .ok (.ifCond .eq 5, 3) := by decide +kernel
theorem dX4_reasonAgainstTaking_22 : decode cX4_reasonAgainstTaking 22 = .ok (.iconst 1, 1) := by decide +kernel
theorem dX4_reasonAgainstTaking_23 : decode cX4_reasonAgainstTaking 23 = .ok (.ireturn, 1) := by decide +kernel
theorem dX4_reasonAgainstTaking_24 : decode cX4_reasonAgainstTaking 24 = .ok (.aload_n 3, 1) := by decide +kernel
theorem dX4_reasonAgainstTaking_25 : decode cX4_reasonAgainstTaking 25 = .ok (.iload_n 1, 1) := by decide +kernel
theorem dX4_reasonAgainstTaking_26 : decode cX4_reasonAgainstTaking 26 = .ok (.iaload, 1) := by decide +kernel
theorem dX4_reasonAgainstTaking_27 : decode cX4_reasonAgainstTaking 27 = .ok (.iconst (-1), 1) := by decide +kernel
theorem dX4_reasonAgainstTaking_28 : decode cX4_reasonAgainstTaking 28 = .ok (.if_icmp .eq 5, 3) := by decide +kernel
theorem dX4_reasonAgainstTaking_31 : decode cX4_reasonAgainstTaking 31 = .ok (.iconst 2, 1) := by decide +kernel
theorem dX4_reasonAgainstTaking_32 : decode cX4_reasonAgainstTaking 32 = .ok (.ireturn, 1) := by decide +kernel
theorem dX4_reasonAgainstTaking_33 : decode cX4_reasonAgainstTaking 33 = .ok (.aload_n 3, 1) := by decide +kernel
theorem dX4_reasonAgainstTaking_34 : decode cX4_reasonAgainstTaking 34 = .ok (.invokestatic 334, 3) := by decide +kernel
theorem dX4_reasonAgainstTaking_37 : decode cX4_reasonAgainstTaking 37 = .ok (.invokestatic 178, 3) := by decide +kernel
theorem dX4_reasonAgainstTaking_40 : decode cX4_reasonAgainstTaking 40 = .ok (.aload_n 0, 1) := by decide +kernel
theorem dX4_reasonAgainstTaking_41 : decode cX4_reasonAgainstTaking 41 = .ok (.getfield 10, 3) := by decide +kernel
theorem dX4_reasonAgainstTaking_44 : decode cX4_reasonAgainstTaking 44 = .ok (.getfield 102, 3) := by decide +kernel
theorem dX4_reasonAgainstTaking_47 : decode cX4_reasonAgainstTaking 47 = .ok (.iconst 0, 1) := by decide +kernel
theorem dX4_reasonAgainstTaking_48 : decode cX4_reasonAgainstTaking 48 = .ok (.iaload, 1) := by decide +kernel
theorem dX4_reasonAgainstTaking_49 : decode cX4_reasonAgainstTaking 49 = .ok (.if_icmp .lt 5, 3) := by decide +kernel
theorem dX4_reasonAgainstTaking_52 : decode cX4_reasonAgainstTaking 52 = .ok (.iconst 3, 1) := by decide +kernel
theorem dX4_reasonAgainstTaking_53 : decode cX4_reasonAgainstTaking 53 = .ok (.ireturn, 1) := by decide +kernel
theorem dX4_reasonAgainstTaking_54 : decode cX4_reasonAgainstTaking 54 = .ok (.aload_n 0, 1) := by decide +kernel
theorem dX4_reasonAgainstTaking_55 : decode cX4_reasonAgainstTaking 55 = .ok (.iload_n 2, 1) := by decide +kernel
theorem dX4_reasonAgainstTaking_56 : decode cX4_reasonAgainstTaking 56 = .ok (.invokevirtual 325, 3) := by decide +kernel
theorem dX4_reasonAgainstTaking_59 : decode cX4_reasonAgainstTaking 59 = .ok (.iload_n 1, 1) := by decide +kernel
theorem dX4_reasonAgainstTaking_60 : decode cX4_reasonAgainstTaking 60 = .ok (.invokestatic 87, 3) := by decide +kernel
theorem dX4_reasonAgainstTaking_63 : decode cX4_reasonAgainstTaking 63 = .ok (.ifCond .eq 5, 3) := by decide +kernel
theorem dX4_reasonAgainstTaking_66 : decode cX4_reasonAgainstTaking 66 = .ok (.iconst 4, 1) := by decide +kernel
theorem dX4_reasonAgainstTaking_67 : decode cX4_reasonAgainstTaking 67 = .ok (.ireturn, 1) := by decide +kernel
theorem dX4_reasonAgainstTaking_68 : decode cX4_reasonAgainstTaking 68 = .ok (.aload_n 0, 1) := by decide +kernel
theorem dX4_reasonAgainstTaking_69 : decode cX4_reasonAgainstTaking 69 = .ok (.getfield 10, 3) := by decide +kernel
theorem dX4_reasonAgainstTaking_72 : decode cX4_reasonAgainstTaking 72 = .ok (.getfield 79, 3) := by decide +kernel
theorem dX4_reasonAgainstTaking_75 : decode cX4_reasonAgainstTaking 75 = .ok (.iload_n 1, 1) := by decide +kernel
theorem dX4_reasonAgainstTaking_76 : decode cX4_reasonAgainstTaking 76 = .ok (.iaload, 1) := by decide +kernel
theorem dX4_reasonAgainstTaking_77 : decode cX4_reasonAgainstTaking 77 = .ok (.aload_n 0, 1) := by decide +kernel
theorem dX4_reasonAgainstTaking_78 : decode cX4_reasonAgainstTaking 78 = .ok (.getfield 10, 3) := by decide +kernel
theorem dX4_reasonAgainstTaking_81 : decode cX4_reasonAgainstTaking 81 = .ok (.getfield 67, 3) := by decide +kernel
theorem dX4_reasonAgainstTaking_84 : decode cX4_reasonAgainstTaking 84 = .ok (.iload_n 2, 1) := by decide +kernel
theorem dX4_reasonAgainstTaking_85 : decode cX4_reasonAgainstTaking 85 = .ok (.iaload, 1) := by decide +kernel
theorem dX4_reasonAgainstTaking_86 : decode cX4_reasonAgainstTaking 86 = .ok (.invokestatic 87, 3) := by decide +kernel
theorem dX4_reasonAgainstTaking_89 : decode cX4_reasonAgainstTaking 89 = .ok (.ifCond .ne 5, 3) := by decide +kernel
theorem dX4_reasonAgainstTaking_92 : decode cX4_reasonAgainstTaking 92 = .ok (.iconst 5, 1) := by decide +kernel
theorem dX4_reasonAgainstTaking_93 : decode cX4_reasonAgainstTaking 93 = .ok (.ireturn, 1) := by decide +kernel
theorem dX4_reasonAgainstTaking_94 : decode cX4_reasonAgainstTaking 94 = .ok (.aload_n 0, 1) := by decide +kernel
theorem dX4_reasonAgainstTaking_95 : decode cX4_reasonAgainstTaking 95 = .ok (.iload_n 1, 1) := by decide +kernel
theorem dX4_reasonAgainstTaking_96 : decode cX4_reasonAgainstTaking 96 = .ok (.invokevirtual 316, 3) := by decide +kernel
theorem dX4_reasonAgainstTaking_99 : decode cX4_reasonAgainstTaking 99 = .ok (.iconst 2, 1) := by decide +kernel
theorem dX4_reasonAgainstTaking_100 : decode cX4_reasonAgainstTaking 100 = .ok (.if_icmp .ge 8, 3) := by decide +kernel
theorem dX4_reasonAgainstTaking_103 : decode cX4_reasonAgainstTaking 103 = .ok (.bipush 6, 2) := by decide +kernel
theorem dX4_reasonAgainstTaking_105 : decode cX4_reasonAgainstTaking 105 = .ok (.goto 4, 3) := by decide +kernel
theorem dX4_reasonAgainstTaking_108 : decode cX4_reasonAgainstTaking 108 = .ok (.iconst 0, 1) := by decide +kernel
theorem dX4_reasonAgainstTaking_109 : decode cX4_reasonAgainstTaking 109 = .ok (.ireturn, 1) := by decide +kernel
set_option maxRecDepth 100000 in
set_option maxHeartbeats 4000000 in
theorem mt_X4_reasonAgainstTaking (r0 : Option Nat) (i1 : Int32) (i2 : Int32) (S0 : PH) (y : Int32 × PH) (h : m_X4_reasonAgainstTaking r0 i1 i2 S0 = some y) : MT yX4_reasonAgainstTaking (.code yX4_reasonAgainstTaking cX4_reasonAgainstTaking 4 (Option.some FieldType.int)) 3 67 0 0 [va_rf r0, .int i1, .int i2] S0 (oQ e_I (qN y)) := by
  refine mt_of (own := RX4) (l0 := [(0, va_rf r0), (1, .int i1), (2, .int i2)]) rfl rfl (by cases r0 <;> exact Nat.le_of_ble_eq_true rfl) (by cases r0 <;> rfl) ?_
  intro Z hC hQ hE hN
  unfold m_X4_reasonAgainstTaking at h
  refine x_aload_n (i := 0) hC dX4_reasonAgainstTaking_0 rfl 0 rfl ?_
  replace h := dr_el h
  obtain ⟨a1, ea2, ha3, h⟩ := h
  refine x_getR hC ea2 ha3 kf_4 0 (by decide) rfl q_172 dX4_reasonAgainstTaking_1 ?_
  replace h := dr_el h
  obtain ⟨a4, ea5, ha6, h⟩ := h
  refine x_getR hC ea5 ha6 kf_2 10 (by decide) rfl q_57 dX4_reasonAgainstTaking_4 ?_
  refine x_iload_n (i := 2) hC dX4_reasonAgainstTaking_7 rfl 2 rfl ?_
  replace h := dr_el h
  obtain ⟨a7, ea8, ha9, h⟩ := h
  replace h := ck_el h
  obtain ⟨hc10, h⟩ := h
  refine x_aaload9 hC ea8 ha9 hc10 dX4_reasonAgainstTaking_8 ?_
  replace h := le_el h
  obtain ⟨r11, hx12, h⟩ := h
  refine x_tA hx12 ?_
  refine x_astore_n (i := 3) (l' := [(3, va_rf r11), (0, va_rf r0), (1, .int i1), (2, .int i2)]) hC dX4_reasonAgainstTaking_9 rfl (⟨fun _ => c_rf r0, ⟨fun _ => rfl, ⟨fun _ => rfl, trivial⟩⟩⟩) (by decide) rfl ?_
  refine x_aload_n (i := 0) hC dX4_reasonAgainstTaking_10 rfl 1 rfl ?_
  refine x_getR hC ea2 ha3 kf_4 0 (by decide) rfl q_172 dX4_reasonAgainstTaking_11 ?_
  refine x_getR hC ea5 ha6 kf_2 9 (by decide) rfl q_55 dX4_reasonAgainstTaking_14 ?_
  refine x_iload_n (i := 2) hC dX4_reasonAgainstTaking_17 rfl 3 rfl ?_
  replace h := dr_el h
  obtain ⟨a13, ea14, ha15, h⟩ := h
  replace h := ck_el h
  obtain ⟨hc16, h⟩ := h
  refine x_iaload hC ea14 ha15 hc16 dX4_reasonAgainstTaking_18 ?_
  refine x_if_eq (t := 24) hC dX4_reasonAgainstTaking_19 (by decide) (fun c17 => ?_) (fun c17 => ?_)
  · replace h := it_t c17 h
    refine x_aload_n (i := 3) hC dX4_reasonAgainstTaking_24 rfl 0 rfl ?_
    refine x_iload_n (i := 1) hC dX4_reasonAgainstTaking_25 rfl 2 rfl ?_
    replace h := dr_el h
    obtain ⟨a18, ea19, ha20, h⟩ := h
    replace h := ck_el h
    obtain ⟨hc21, h⟩ := h
    refine x_iaload hC ea19 ha20 hc21 dX4_reasonAgainstTaking_26 ?_
    refine x_iconst (v := (-1 : Int32)) hC dX4_reasonAgainstTaking_27 (by decide) ?_
    refine x_icmp_eq (t := 33) hC dX4_reasonAgainstTaking_28 (by decide) (fun c22 => ?_) (fun c22 => ?_)
    · replace h := it_t c22 h
      refine x_aload_n (i := 3) hC dX4_reasonAgainstTaking_33 rfl 0 rfl ?_
      replace h := bd_el h
      obtain ⟨v23, S24, hb25, h⟩ := h
      refine x_callS hC (st := []) (mt_X4_reviewersIn _ _ _ hb25) q_349 q_350 q_1 q_351 hy_X4_reviewersIn ⟨Nat.le_of_ble_eq_true rfl, Nat.le_of_ble_eq_true rfl⟩ ⟨Nat.le_of_ble_eq_true rfl, Nat.le_of_ble_eq_true rfl⟩ rfl (Nat.le_of_ble_eq_true rfl) dX4_reasonAgainstTaking_34 (r_N ?_) r_NX
      show PX Z 4 S24 0 0 37 [(3, va_rf r11), (0, va_rf r0), (1, .int i1), (2, .int i2)] [.int v23]
      replace h := bd_el h
      obtain ⟨v26, S27, hb28, h⟩ := h
      refine x_callS hC (st := []) (mt_J6_bitCount_0f7a4 _ _ _ hb28) q_352 q_353 q_13 q_354 hy_J6_bitCount_0f7a4 ⟨Nat.le_of_ble_eq_true rfl, Nat.le_of_ble_eq_true rfl⟩ ⟨Nat.le_of_ble_eq_true rfl, Nat.le_of_ble_eq_true rfl⟩ rfl (Nat.le_of_ble_eq_true rfl) dX4_reasonAgainstTaking_37 (r_N ?_) r_NX
      show PX Z 4 S27 0 0 40 [(3, va_rf r11), (0, va_rf r0), (1, .int i1), (2, .int i2)] [.int v26]
      refine x_aload_n (i := 0) hC dX4_reasonAgainstTaking_40 rfl 1 rfl ?_
      replace h := dr_el h
      obtain ⟨a29, ea30, ha31, h⟩ := h
      refine x_getR hC ea30 ha31 kf_4 0 (by decide) rfl q_172 dX4_reasonAgainstTaking_41 ?_
      replace h := dr_el h
      obtain ⟨a32, ea33, ha34, h⟩ := h
      refine x_getR hC ea33 ha34 kf_2 11 (by decide) rfl q_59 dX4_reasonAgainstTaking_44 ?_
      refine x_iconst (v := (0 : Int32)) hC dX4_reasonAgainstTaking_47 (by decide) ?_
      replace h := dr_el h
      obtain ⟨a35, ea36, ha37, h⟩ := h
      replace h := ck_el h
      obtain ⟨hc38, h⟩ := h
      refine x_iaload hC ea36 ha37 hc38 dX4_reasonAgainstTaking_48 ?_
      refine x_tI (b := (p_I S27 a35 0)) rfl ?_
      refine x_icmp_lt (t := 54) hC dX4_reasonAgainstTaking_49 (by decide) (fun c39 => ?_) (fun c39 => ?_)
      · replace h := it_t c39 h
        refine x_aload_n (i := 0) hC dX4_reasonAgainstTaking_54 rfl 1 rfl ?_
        refine x_iload_n (i := 2) hC dX4_reasonAgainstTaking_55 rfl 3 rfl ?_
        replace h := bd_el h
        obtain ⟨v40, S41, hb42, h⟩ := h
        refine x_callV hC (st := []) (mt_X4_personsInConflict _ _ _ _ hb42) ea30 ha31 kf_4 q_358 q_360 qs_8 q_1 q_361 ⟨rfl, hy_X4_personsInConflict⟩ ⟨Nat.le_of_ble_eq_true rfl, Nat.le_of_ble_eq_true rfl⟩ ⟨Nat.le_of_ble_eq_true rfl, Nat.le_of_ble_eq_true rfl⟩ rfl (Nat.le_of_ble_eq_true rfl) dX4_reasonAgainstTaking_56 (r_N ?_) r_NX
        show PX Z 4 S41 0 0 59 [(3, va_rf r11), (0, va_rf r0), (1, .int i1), (2, .int i2)] [.int v40]
        refine x_iload_n (i := 1) hC dX4_reasonAgainstTaking_59 rfl 2 rfl ?_
        replace h := bd_el h
        obtain ⟨v43, S44, hb45, h⟩ := h
        refine x_callS hC (st := []) (mt_X4_has _ _ _ _ hb45) q_366 q_367 q_1 q_368 hy_X4_has ⟨Nat.le_of_ble_eq_true rfl, Nat.le_of_ble_eq_true rfl⟩ ⟨Nat.le_of_ble_eq_true rfl, Nat.le_of_ble_eq_true rfl⟩ rfl (Nat.le_of_ble_eq_true rfl) dX4_reasonAgainstTaking_60 (r_N ?_) r_NX
        show PX Z 4 S44 0 0 63 [(3, va_rf r11), (0, va_rf r0), (1, .int i1), (2, .int i2)] [.int v43]
        refine x_if_eq (t := 68) hC dX4_reasonAgainstTaking_63 (by decide) (fun c46 => ?_) (fun c46 => ?_)
        · replace h := it_t c46 h
          refine x_aload_n (i := 0) hC dX4_reasonAgainstTaking_68 rfl 1 rfl ?_
          replace h := dr_el h
          obtain ⟨a47, ea48, ha49, h⟩ := h
          refine x_getR hC ea48 ha49 kf_4 0 (by decide) rfl q_172 dX4_reasonAgainstTaking_69 ?_
          replace h := dr_el h
          obtain ⟨a50, ea51, ha52, h⟩ := h
          refine x_getR hC ea51 ha52 kf_2 0 (by decide) rfl q_37 dX4_reasonAgainstTaking_72 ?_
          refine x_iload_n (i := 1) hC dX4_reasonAgainstTaking_75 rfl 2 rfl ?_
          replace h := dr_el h
          obtain ⟨a53, ea54, ha55, h⟩ := h
          replace h := ck_el h
          obtain ⟨hc56, h⟩ := h
          refine x_iaload hC ea54 ha55 hc56 dX4_reasonAgainstTaking_76 ?_
          refine x_aload_n (i := 0) hC dX4_reasonAgainstTaking_77 rfl 1 rfl ?_
          refine x_getR hC ea48 ha49 kf_4 0 (by decide) rfl q_172 dX4_reasonAgainstTaking_78 ?_
          refine x_getR hC ea51 ha52 kf_2 5 (by decide) rfl q_47 dX4_reasonAgainstTaking_81 ?_
          refine x_iload_n (i := 2) hC dX4_reasonAgainstTaking_84 rfl 3 rfl ?_
          replace h := dr_el h
          obtain ⟨a57, ea58, ha59, h⟩ := h
          replace h := ck_el h
          obtain ⟨hc60, h⟩ := h
          refine x_iaload hC ea58 ha59 hc60 dX4_reasonAgainstTaking_85 ?_
          replace h := bd_el h
          obtain ⟨v61, S62, hb63, h⟩ := h
          refine x_callS hC (st := []) (mt_X4_has _ _ _ _ hb63) q_366 q_367 q_1 q_368 hy_X4_has ⟨Nat.le_of_ble_eq_true rfl, Nat.le_of_ble_eq_true rfl⟩ ⟨Nat.le_of_ble_eq_true rfl, Nat.le_of_ble_eq_true rfl⟩ rfl (Nat.le_of_ble_eq_true rfl) dX4_reasonAgainstTaking_86 (r_N ?_) r_NX
          show PX Z 4 S62 0 0 89 [(3, va_rf r11), (0, va_rf r0), (1, .int i1), (2, .int i2)] [.int v61]
          refine x_if_ne (t := 94) hC dX4_reasonAgainstTaking_89 (by decide) (fun c64 => ?_) (fun c64 => ?_)
          · replace h := it_f c64 h
            refine x_aload_n (i := 0) hC dX4_reasonAgainstTaking_94 rfl 1 rfl ?_
            refine x_iload_n (i := 1) hC dX4_reasonAgainstTaking_95 rfl 2 rfl ?_
            replace h := dr_el h
            obtain ⟨a65, ea66, ha67, h⟩ := h
            replace h := bd_el h
            obtain ⟨v68, S69, hb70, h⟩ := h
            refine x_callV hC (st := []) (mt_X4_tokensOf _ _ _ _ hb70) ea66 ha67 kf_4 q_369 q_371 qs_10 q_1 q_372 ⟨rfl, hy_X4_tokensOf⟩ ⟨Nat.le_of_ble_eq_true rfl, Nat.le_of_ble_eq_true rfl⟩ ⟨Nat.le_of_ble_eq_true rfl, Nat.le_of_ble_eq_true rfl⟩ rfl (Nat.le_of_ble_eq_true rfl) dX4_reasonAgainstTaking_96 (r_N ?_) r_NX
            show PX Z 4 S69 0 0 99 [(3, va_rf r11), (0, va_rf r0), (1, .int i1), (2, .int i2)] [.int v68]
            refine x_iconst (v := (2 : Int32)) hC dX4_reasonAgainstTaking_99 (by decide) ?_
            refine x_icmp_ge (t := 108) hC dX4_reasonAgainstTaking_100 (by decide) (fun c71 => ?_) (fun c71 => ?_)
            · replace h := it_t c71 h
              refine x_iconst (v := (0 : Int32)) hC dX4_reasonAgainstTaking_108 (by decide) ?_
              exact x_iret hC hQ (z_N (Option.some.inj h)) (Nat.le_of_ble_eq_true rfl) (Nat.le_of_ble_eq_true rfl) dX4_reasonAgainstTaking_109
            · replace h := it_f c71 h
              refine x_bipush (v := (6 : Int32)) hC dX4_reasonAgainstTaking_103 (by decide) ?_
              refine x_goto (t := 109) hC dX4_reasonAgainstTaking_105 (by decide) ?_
              exact x_iret hC hQ (z_N (Option.some.inj h)) (Nat.le_of_ble_eq_true rfl) (Nat.le_of_ble_eq_true rfl) dX4_reasonAgainstTaking_109
          · replace h := it_t c64 h
            refine x_iconst (v := (5 : Int32)) hC dX4_reasonAgainstTaking_92 (by decide) ?_
            exact x_iret hC hQ (z_N (Option.some.inj h)) (Nat.le_of_ble_eq_true rfl) (Nat.le_of_ble_eq_true rfl) dX4_reasonAgainstTaking_93
        · replace h := it_f c46 h
          refine x_iconst (v := (4 : Int32)) hC dX4_reasonAgainstTaking_66 (by decide) ?_
          exact x_iret hC hQ (z_N (Option.some.inj h)) (Nat.le_of_ble_eq_true rfl) (Nat.le_of_ble_eq_true rfl) dX4_reasonAgainstTaking_67
      · replace h := it_f c39 h
        refine x_iconst (v := (3 : Int32)) hC dX4_reasonAgainstTaking_52 (by decide) ?_
        exact x_iret hC hQ (z_N (Option.some.inj h)) (Nat.le_of_ble_eq_true rfl) (Nat.le_of_ble_eq_true rfl) dX4_reasonAgainstTaking_53
    · replace h := it_f c22 h
      refine x_iconst (v := (2 : Int32)) hC dX4_reasonAgainstTaking_31 (by decide) ?_
      exact x_iret hC hQ (z_N (Option.some.inj h)) (Nat.le_of_ble_eq_true rfl) (Nat.le_of_ble_eq_true rfl) dX4_reasonAgainstTaking_32
  · replace h := it_f c17 h
    refine x_iconst (v := (1 : Int32)) hC dX4_reasonAgainstTaking_22 (by decide) ?_
    exact x_iret hC hQ (z_N (Option.some.inj h)) (Nat.le_of_ble_eq_true rfl) (Nat.le_of_ble_eq_true rfl) dX4_reasonAgainstTaking_23
theorem dX4_refuse_0 : decode cX4_refuse 0 = .ok (.aload_n 0, 1) := by decide +kernel
theorem dX4_refuse_1 : decode cX4_refuse 1 = .ok (.getfield 10, 3) := by decide +kernel
theorem dX4_refuse_4 : decode cX4_refuse 4 = .ok (.dup, 1) := by decide +kernel
theorem dX4_refuse_5 : decode cX4_refuse 5 = .ok (.getfield 331, 3) := by decide +kernel
theorem dX4_refuse_8 : decode cX4_refuse 8 = .ok (.iconst 1, 1) := by decide +kernel
theorem dX4_refuse_9 : decode cX4_refuse 9 = .ok (.iadd, 1) := by decide +kernel
theorem dX4_refuse_10 : decode cX4_refuse 10 = .ok (.putfield 331, 3) := by decide +kernel
theorem dX4_refuse_13 : decode cX4_refuse 13 = .ok (.iload_n 1, 1) := by decide +kernel
theorem dX4_refuse_14 : decode cX4_refuse 14 = .ok (.ireturn, 1) := by decide +kernel
set_option maxRecDepth 100000 in
set_option maxHeartbeats 4000000 in
theorem mt_X4_refuse (r0 : Option Nat) (i1 : Int32) (S0 : PH) (y : Int32 × PH) (h : m_X4_refuse r0 i1 S0 = some y) : MT yX4_refuse (.code yX4_refuse cX4_refuse 2 (Option.some FieldType.int)) 0 0 0 0 [va_rf r0, .int i1] S0 (oQ e_I (qN y)) := by
  refine mt_of (own := RX4) (l0 := [(0, va_rf r0), (1, .int i1)]) rfl rfl (by cases r0 <;> exact Nat.le_of_ble_eq_true rfl) (by cases r0 <;> rfl) ?_
  intro Z hC hQ hE hN
  unfold m_X4_refuse at h
  refine x_aload_n (i := 0) hC dX4_refuse_0 rfl 0 rfl ?_
  replace h := dr_el h
  obtain ⟨a1, ea2, ha3, h⟩ := h
  refine x_getR hC ea2 ha3 kf_4 0 (by decide) rfl q_172 dX4_refuse_1 ?_
  refine x_dup hC dX4_refuse_4 (c_rf (p_R S0 a1 0)) ?_
  replace h := dr_el h
  obtain ⟨a4, ea5, ha6, h⟩ := h
  refine x_getI hC ea5 ha6 kf_2 16 (by decide) rfl q_69 dX4_refuse_5 ?_
  refine x_iconst (v := (1 : Int32)) hC dX4_refuse_8 (by decide) ?_
  refine x_iadd hC dX4_refuse_9 ?_
  replace h := le_el h
  obtain ⟨S7, hx8, h⟩ := h
  refine x_putI hC ea5 ha6 kf_2 16 (by decide) rfl rfl q_69 (Or.inl rfl) dX4_refuse_10 ?_
  refine x_tS hx8 ?_
  refine x_iload_n (i := 1) hC dX4_refuse_13 rfl 1 rfl ?_
  exact x_iret hC hQ (z_N (Option.some.inj h)) (Nat.le_of_ble_eq_true rfl) (Nat.le_of_ble_eq_true rfl) dX4_refuse_14
theorem dX4_takeReview_0 : decode cX4_takeReview 0 = .ok (.aload_n 0, 1) := by decide +kernel
theorem dX4_takeReview_1 : decode cX4_takeReview 1 = .ok (.iload_n 1, 1) := by decide +kernel
theorem dX4_takeReview_2 : decode cX4_takeReview 2 = .ok (.iload_n 2, 1) := by decide +kernel
theorem dX4_takeReview_3 : decode cX4_takeReview 3 = .ok (.invokevirtual 242, 3) := by decide +kernel
theorem dX4_takeReview_6 : decode cX4_takeReview 6 = .ok (.istore_n 3, 1) := by decide +kernel
theorem dX4_takeReview_7 : decode cX4_takeReview 7 = .ok (.iload_n 3, 1) := by decide +kernel
theorem dX4_takeReview_8 : decode cX4_takeReview 8 = .ok (.ifCond .eq 9, 3) := by decide +kernel
theorem dX4_takeReview_11 : decode cX4_takeReview 11 = .ok (.aload_n 0, 1) := by decide +kernel
theorem dX4_takeReview_12 : decode cX4_takeReview 12 = .ok (.iload_n 3, 1) := by decide +kernel
theorem dX4_takeReview_13 : decode cX4_takeReview 13 = .ok (.invokevirtual 328, 3) := by decide +kernel
theorem dX4_takeReview_16 : decode cX4_takeReview 16 = .ok (.ireturn, 1) := by decide +kernel
theorem dX4_takeReview_17 : decode cX4_takeReview 17 = .ok (.aload_n 0, 1) := by decide +kernel
theorem dX4_takeReview_18 : decode cX4_takeReview 18 = .ok (.getfield 10, 3) := by decide +kernel
theorem dX4_takeReview_21 : decode cX4_takeReview 21 = .ok (.getfield 167, 3) := by decide +kernel
theorem dX4_takeReview_24 : decode cX4_takeReview 24 = .ok (.iload_n 2, 1) := by decide +kernel
theorem dX4_takeReview_25 : decode cX4_takeReview 25 = .ok (.aaload, 1) := by decide +kernel
theorem dX4_takeReview_26 : decode cX4_takeReview 26 = .ok (.iload_n 1, 1) := by decide +kernel
theorem dX4_takeReview_27 : decode cX4_takeReview 27 = .ok (.bipush 10, 2) := by decide +kernel
theorem dX4_takeReview_29 : decode cX4_takeReview 29 = .ok (.iastore, 1) := by decide +kernel
theorem dX4_takeReview_30 : decode cX4_takeReview 30 = .ok (.aload_n 0, 1) := by decide +kernel
theorem dX4_takeReview_31 : decode cX4_takeReview 31 = .ok (.getfield 10, 3) := by decide +kernel
theorem dX4_takeReview_34 : decode cX4_takeReview 34 = .ok (.getfield 313, 3) := by decide +kernel
theorem dX4_takeReview_37 : decode cX4_takeReview 37 = .ok (.iload_n 1, 1) := by decide +kernel
theorem dX4_takeReview_38 : decode cX4_takeReview 38 = .ok (.dup2, 1) := by decide +kernel
theorem dX4_takeReview_39 : decode cX4_takeReview 39 = .ok (.iaload, 1) := by decide +kernel
theorem dX4_takeReview_40 : decode cX4_takeReview 40 = .ok (.iconst 2, 1) := by decide +kernel
theorem dX4_takeReview_41 : decode cX4_takeReview 41 = .ok (.iadd, 1) := by decide +kernel
theorem dX4_takeReview_42 : decode cX4_takeReview 42 = .ok (.iastore, 1) := by decide +kernel
theorem dX4_takeReview_43 : decode cX4_takeReview 43 = .ok (.iconst 0, 1) := by decide +kernel
theorem dX4_takeReview_44 : decode cX4_takeReview 44 = .ok (.ireturn, 1) := by decide +kernel
set_option maxRecDepth 100000 in
set_option maxHeartbeats 4000000 in
theorem mt_X4_takeReview (r0 : Option Nat) (i1 : Int32) (i2 : Int32) (S0 : PH) (y : Int32 × PH) (h : m_X4_takeReview r0 i1 i2 S0 = some y) : MT yX4_takeReview (.code yX4_takeReview cX4_takeReview 4 (Option.some FieldType.int)) 4 90 0 0 [va_rf r0, .int i1, .int i2] S0 (oQ e_I (qN y)) := by
  refine mt_of (own := RX4) (l0 := [(0, va_rf r0), (1, .int i1), (2, .int i2)]) rfl rfl (by cases r0 <;> exact Nat.le_of_ble_eq_true rfl) (by cases r0 <;> rfl) ?_
  intro Z hC hQ hE hN
  unfold m_X4_takeReview at h
  refine x_aload_n (i := 0) hC dX4_takeReview_0 rfl 0 rfl ?_
  refine x_iload_n (i := 1) hC dX4_takeReview_1 rfl 1 rfl ?_
  refine x_iload_n (i := 2) hC dX4_takeReview_2 rfl 2 rfl ?_
  replace h := dr_el h
  obtain ⟨a1, ea2, ha3, h⟩ := h
  replace h := bd_el h
  obtain ⟨v4, S5, hb6, h⟩ := h
  refine x_callV hC (st := []) (mt_X4_reasonAgainstTaking _ _ _ _ _ hb6) ea2 ha3 kf_4 q_345 q_347 qs_7 q_1 q_348 ⟨rfl, hy_X4_reasonAgainstTaking⟩ ⟨Nat.le_of_ble_eq_true rfl, Nat.le_of_ble_eq_true rfl⟩ ⟨Nat.le_of_ble_eq_true rfl, Nat.le_of_ble_eq_true rfl⟩ rfl (Nat.le_of_ble_eq_true rfl) dX4_takeReview_3 (r_N ?_) r_NX
  show PX Z 4 S5 0 0 6 [(0, va_rf r0), (1, .int i1), (2, .int i2)] [.int v4]
  refine x_istore_n (i := 3) (l' := [(3, .int v4), (0, va_rf r0), (1, .int i1), (2, .int i2)]) hC dX4_takeReview_6 rfl (⟨fun _ => c_rf r0, ⟨fun _ => rfl, ⟨fun _ => rfl, trivial⟩⟩⟩) (by decide) rfl ?_
  refine x_iload_n (i := 3) hC dX4_takeReview_7 rfl 0 rfl ?_
  refine x_if_eq (t := 17) hC dX4_takeReview_8 (by decide) (fun c7 => ?_) (fun c7 => ?_)
  · replace h := it_t c7 h
    refine x_aload_n (i := 0) hC dX4_takeReview_17 rfl 1 rfl ?_
    replace h := dr_el h
    obtain ⟨a8, ea9, ha10, h⟩ := h
    refine x_getR hC ea9 ha10 kf_4 0 (by decide) rfl q_172 dX4_takeReview_18 ?_
    replace h := dr_el h
    obtain ⟨a11, ea12, ha13, h⟩ := h
    refine x_getR hC ea12 ha13 kf_2 10 (by decide) rfl q_57 dX4_takeReview_21 ?_
    refine x_iload_n (i := 2) hC dX4_takeReview_24 rfl 3 rfl ?_
    replace h := dr_el h
    obtain ⟨a14, ea15, ha16, h⟩ := h
    replace h := ck_el h
    obtain ⟨hc17, h⟩ := h
    refine x_aaload9 hC ea15 ha16 hc17 dX4_takeReview_25 ?_
    refine x_iload_n (i := 1) hC dX4_takeReview_26 rfl 2 rfl ?_
    refine x_bipush (v := (10 : Int32)) hC dX4_takeReview_27 (by decide) ?_
    replace h := dr_el h
    obtain ⟨a18, ea19, ha20, h⟩ := h
    replace h := ck_el h
    obtain ⟨hc21, h⟩ := h
    replace h := le_el h
    obtain ⟨S22, hx23, h⟩ := h
    refine x_iastore hC ea19 ha20 hc21 dX4_takeReview_29 ?_
    refine x_tS hx23 ?_
    refine x_aload_n (i := 0) hC dX4_takeReview_30 rfl 1 rfl ?_
    replace h := dr_el h
    obtain ⟨a24, ea25, ha26, h⟩ := h
    refine x_getR hC ea25 ha26 kf_4 0 (by decide) rfl q_172 dX4_takeReview_31 ?_
    replace h := dr_el h
    obtain ⟨a27, ea28, ha29, h⟩ := h
    refine x_getR hC ea28 ha29 kf_2 3 (by decide) rfl q_43 dX4_takeReview_34 ?_
    refine x_iload_n (i := 1) hC dX4_takeReview_37 rfl 2 rfl ?_
    refine x_dup2 hC dX4_takeReview_38 rfl (c_rf (p_R S22 a27 3)) ?_
    replace h := dr_el h
    obtain ⟨a30, ea31, ha32, h⟩ := h
    replace h := ck_el h
    obtain ⟨hc33, h⟩ := h
    refine x_iaload hC ea31 ha32 hc33 dX4_takeReview_39 ?_
    refine x_iconst (v := (2 : Int32)) hC dX4_takeReview_40 (by decide) ?_
    refine x_iadd hC dX4_takeReview_41 ?_
    replace h := ck_el h
    obtain ⟨hc34, h⟩ := h
    replace h := le_el h
    obtain ⟨S35, hx36, h⟩ := h
    refine x_iastore hC ea31 ha32 hc34 dX4_takeReview_42 ?_
    refine x_tS hx36 ?_
    refine x_iconst (v := (0 : Int32)) hC dX4_takeReview_43 (by decide) ?_
    exact x_iret hC hQ (z_N (Option.some.inj h)) (Nat.le_of_ble_eq_true rfl) (Nat.le_of_ble_eq_true rfl) dX4_takeReview_44
  · replace h := it_f c7 h
    refine x_aload_n (i := 0) hC dX4_takeReview_11 rfl 1 rfl ?_
    refine x_iload_n (i := 3) hC dX4_takeReview_12 rfl 0 rfl ?_
    replace h := dr_el h
    obtain ⟨a37, ea38, ha39, h⟩ := h
    replace h := bd_el h
    obtain ⟨v40, S41, hb42, h⟩ := h
    refine x_callV hC (st := []) (mt_X4_refuse _ _ _ _ hb42) ea38 ha39 kf_4 q_373 q_375 qs_11 q_1 q_376 ⟨rfl, hy_X4_refuse⟩ ⟨Nat.le_of_ble_eq_true rfl, Nat.le_of_ble_eq_true rfl⟩ ⟨Nat.le_of_ble_eq_true rfl, Nat.le_of_ble_eq_true rfl⟩ rfl (Nat.le_of_ble_eq_true rfl) dX4_takeReview_13 (r_N ?_) r_NX
    show PX Z 4 S41 0 0 16 [(3, .int v4), (0, va_rf r0), (1, .int i1), (2, .int i2)] [.int v40]
    exact x_iret hC hQ (z_N (Option.some.inj h)) (Nat.le_of_ble_eq_true rfl) (Nat.le_of_ble_eq_true rfl) dX4_takeReview_16
theorem dX4_take_0 : decode cX4_take 0 = .ok (.iload_n 1, 1) := by decide +kernel
theorem dX4_take_1 : decode cX4_take 1 = .ok (.invokestatic 73, 3) := by decide +kernel
theorem dX4_take_4 : decode cX4_take 4 = .ok (.aload_n 0, 1) := by decide +kernel
theorem dX4_take_5 : decode cX4_take 5 = .ok (.iload_n 2, 1) := by decide +kernel
theorem dX4_take_6 : decode cX4_take 6 = .ok (.invokevirtual 125, 3) := by decide +kernel
theorem dX4_take_9 : decode cX4_take 9 = .ok (.aload_n 0, 1) := by decide +kernel
theorem dX4_take_10 : decode cX4_take 10 = .ok (.getfield 19, 3) := by decide +kernel
theorem dX4_take_13 : decode cX4_take 13 = .ok (.aload_n 0, 1) := by decide +kernel
theorem dX4_take_14 : decode cX4_take 14 = .ok (.getfield 10, 3) := by decide +kernel
theorem dX4_take_17 : decode cX4_take 17 = .ok (.invokevirtual 63, 3) := by decide +kernel
theorem dX4_take_20 : decode cX4_take 20 = .ok (.aload_n 0, 1) := by decide +kernel
theorem dX4_take_21 : decode cX4_take 21 = .ok (.iload_n 1, 1) := by decide +kernel
theorem dX4_take_22 : decode cX4_take 22 = .ok (.iload_n 2, 1) := by decide +kernel
theorem dX4_take_23 : decode cX4_take 23 = .ok (.invokevirtual 128, 3) := by decide +kernel
theorem dX4_take_26 : decode cX4_take 26 = .ok (.ireturn, 1) := by decide +kernel
set_option maxRecDepth 100000 in
set_option maxHeartbeats 4000000 in
theorem mt_X4_take (r0 : Option Nat) (i1 : Int32) (i2 : Int32) (S0 : PH) (Q : (Nat ⊕ Int32) → PH → Prop) (h : w_X4_take r0 i1 i2 S0 Q) : MT yX4_take (.code yX4_take cX4_take 3 (Option.some FieldType.int)) 7 113 21 173 [va_rf r0, .int i1, .int i2] S0 (oQ e_I Q) := by
  refine mt_of (own := RX4) (l0 := [(0, va_rf r0), (1, .int i1), (2, .int i2)]) rfl rfl (by cases r0 <;> exact Nat.le_of_ble_eq_true rfl) (by cases r0 <;> rfl) ?_
  intro Z hC hQ hE hN
  unfold w_X4_take at h
  refine x_iload_n (i := 1) hC dX4_take_0 rfl 1 rfl ?_
  replace h := wbt_el h
  obtain ⟨v1, S2, hb29, h⟩ | ⟨j3, S4, hb29, h⟩ := h
  · refine x_callS hC (st := []) (mtr_X4_requirePerson _ _ (v1, S2) hb29) q_313 q_314 q_1 q_315 hy_X4_requirePerson ⟨Nat.le_of_ble_eq_true rfl, Nat.le_of_ble_eq_true rfl⟩ ⟨Nat.le_of_ble_eq_true rfl, Nat.le_of_ble_eq_true rfl⟩ rfl (Nat.le_of_ble_eq_true rfl) dX4_take_1 (r_N ?_) r_NX
    show PX Z 3 S2 0 0 4 [(0, va_rf r0), (1, .int i1), (2, .int i2)] []
    refine x_aload_n (i := 0) hC dX4_take_4 rfl 0 rfl ?_
    refine x_iload_n (i := 2) hC dX4_take_5 rfl 2 rfl ?_
    obtain ⟨a5, ea6, ha7, h⟩ := h
    replace h := wbt_el h
    obtain ⟨v8, S9, hb28, h⟩ | ⟨j10, S11, hb28, h⟩ := h
    · refine x_callV hC (st := []) (mtr_X4_requirePaper _ _ _ (v8, S9) hb28) ea6 ha7 kf_4 q_332 q_334 qs_4 q_1 q_335 ⟨rfl, hy_X4_requirePaper⟩ ⟨Nat.le_of_ble_eq_true rfl, Nat.le_of_ble_eq_true rfl⟩ ⟨Nat.le_of_ble_eq_true rfl, Nat.le_of_ble_eq_true rfl⟩ rfl (Nat.le_of_ble_eq_true rfl) dX4_take_6 (r_N ?_) r_NX
      show PX Z 3 S9 0 0 9 [(0, va_rf r0), (1, .int i1), (2, .int i2)] []
      refine x_aload_n (i := 0) hC dX4_take_9 rfl 0 rfl ?_
      obtain ⟨a12, ea13, ha14, h⟩ := h
      refine x_getR hC ea13 ha14 kf_4 1 (by decide) rfl q_173 dX4_take_10 ?_
      refine x_aload_n (i := 0) hC dX4_take_13 rfl 0 rfl ?_
      refine x_getR hC ea13 ha14 kf_4 0 (by decide) rfl q_172 dX4_take_14 ?_
      obtain ⟨a15, ea16, ha17, h⟩ := h
      refine x_callV hC (st := []) (mt_X0_save _ _ _ _ h) ea16 ha17 kf_0 q_280 q_281 q_282 q_4 q_283 ⟨rfl, hy_X0_save⟩ ⟨Nat.le_of_ble_eq_true rfl, Nat.le_of_ble_eq_true rfl⟩ ⟨Nat.le_of_ble_eq_true rfl, Nat.le_of_ble_eq_true rfl⟩ rfl (Nat.le_of_ble_eq_true rfl) dX4_take_17 (r_W (fun v18 S19 h => ?_)) (r_Wx (fun _ _ h => (wq_l h).elim))
      replace h := wq_r h
      show PX Z 3 S19 21 173 20 [(0, va_rf r0), (1, .int i1), (2, .int i2)] []
      refine x_aload_n (i := 0) hC dX4_take_20 rfl 0 rfl ?_
      refine x_iload_n (i := 1) hC dX4_take_21 rfl 1 rfl ?_
      refine x_iload_n (i := 2) hC dX4_take_22 rfl 2 rfl ?_
      obtain ⟨a22, ea23, ha24, h⟩ := h
      obtain ⟨v25, S26, hb27, h⟩ := h
      refine x_callV hC (st := []) (mt_X4_takeReview _ _ _ _ _ hb27) ea23 ha24 kf_4 q_341 q_343 qs_6 q_1 q_344 ⟨rfl, hy_X4_takeReview⟩ ⟨Nat.le_of_ble_eq_true rfl, Nat.le_of_ble_eq_true rfl⟩ ⟨Nat.le_of_ble_eq_true rfl, Nat.le_of_ble_eq_true rfl⟩ rfl (Nat.le_of_ble_eq_true rfl) dX4_take_23 (r_N ?_) r_NX
      show PX Z 3 S26 21 173 26 [(0, va_rf r0), (1, .int i1), (2, .int i2)] [.int v25]
      exact x_iret hC hQ (z_W h) (Nat.le_of_ble_eq_true rfl) (Nat.le_of_ble_eq_true rfl) dX4_take_26
    · refine x_callV hC (st := []) (mt_X4_requirePaper _ _ _ _ hb28) ea6 ha7 kf_4 q_332 q_334 qs_4 q_1 q_335 ⟨rfl, hy_X4_requirePaper⟩ ⟨Nat.le_of_ble_eq_true rfl, Nat.le_of_ble_eq_true rfl⟩ ⟨Nat.le_of_ble_eq_true rfl, Nat.le_of_ble_eq_true rfl⟩ rfl (Nat.le_of_ble_eq_true rfl) dX4_take_6 r_X (r_XX ?_)
      exact x_out hC hQ hE (z_Y h) (Nat.le_of_ble_eq_true rfl) (Nat.le_of_ble_eq_true rfl)
  · refine x_callS hC (st := []) (mt_X4_requirePerson _ _ _ hb29) q_313 q_314 q_1 q_315 hy_X4_requirePerson ⟨Nat.le_of_ble_eq_true rfl, Nat.le_of_ble_eq_true rfl⟩ ⟨Nat.le_of_ble_eq_true rfl, Nat.le_of_ble_eq_true rfl⟩ rfl (Nat.le_of_ble_eq_true rfl) dX4_take_1 r_X (r_XX ?_)
    exact x_out hC hQ hE (z_Y h) (Nat.le_of_ble_eq_true rfl) (Nat.le_of_ble_eq_true rfl)
theorem dX4_isScore_0 : decode cX4_isScore 0 = .ok (.iload_n 0, 1) := by decide +kernel
theorem dX4_isScore_1 : decode cX4_isScore 1 = .ok (.ifCond .lt 13, 3) := by decide +kernel
theorem dX4_isScore_4 : decode cX4_isScore 4 = .ok (.iload_n 0, 1) := by decide +kernel
theorem dX4_isScore_5 : decode cX4_isScore 5 = .ok (.bipush 9, 2) := by decide +kernel
theorem dX4_isScore_7 : decode cX4_isScore 7 = .ok (.if_icmp .gt 7, 3) := by decide +kernel
theorem dX4_isScore_10 : decode cX4_isScore 10 = .ok (.iconst 1, 1) := by decide +kernel
theorem dX4_isScore_11 : decode cX4_isScore 11 = .ok (.goto 4, 3) := by decide +kernel
theorem dX4_isScore_14 : decode cX4_isScore 14 = .ok (.iconst 0, 1) := by decide +kernel
theorem dX4_isScore_15 : decode cX4_isScore 15 = .ok (.ireturn, 1) := by decide +kernel
set_option maxRecDepth 100000 in
set_option maxHeartbeats 4000000 in
theorem mt_X4_isScore (i0 : Int32) (S0 : PH) (y : Int32 × PH) (h : m_X4_isScore i0 S0 = some y) : MT yX4_isScore (.code yX4_isScore cX4_isScore 1 (Option.some FieldType.boolean)) 0 0 0 0 [.int i0] S0 (oQ e_I (qN y)) := by
  refine mt_of (own := RX4) (l0 := [(0, .int i0)]) rfl rfl (by exact Nat.le_of_ble_eq_true rfl) (by rfl) ?_
  intro Z hC hQ hE hN
  unfold m_X4_isScore at h
  refine x_iload_n (i := 0) hC dX4_isScore_0 rfl 0 rfl ?_
  refine x_if_lt (t := 14) hC dX4_isScore_1 (by decide) (fun c1 => ?_) (fun c1 => ?_)
  · replace h := it_t c1 h
    refine x_iconst (v := (0 : Int32)) hC dX4_isScore_14 (by decide) ?_
    exact x_zret hC hQ (by decide) (z_N (Option.some.inj h)) (Nat.le_of_ble_eq_true rfl) (Nat.le_of_ble_eq_true rfl) dX4_isScore_15
  · replace h := it_f c1 h
    refine x_iload_n (i := 0) hC dX4_isScore_4 rfl 0 rfl ?_
    refine x_bipush (v := (9 : Int32)) hC dX4_isScore_5 (by decide) ?_
    refine x_icmp_gt (t := 14) hC dX4_isScore_7 (by decide) (fun c2 => ?_) (fun c2 => ?_)
    · replace h := it_t c2 h
      refine x_iconst (v := (0 : Int32)) hC dX4_isScore_14 (by decide) ?_
      exact x_zret hC hQ (by decide) (z_N (Option.some.inj h)) (Nat.le_of_ble_eq_true rfl) (Nat.le_of_ble_eq_true rfl) dX4_isScore_15
    · replace h := it_f c2 h
      refine x_iconst (v := (1 : Int32)) hC dX4_isScore_10 (by decide) ?_
      refine x_goto (t := 15) hC dX4_isScore_11 (by decide) ?_
      exact x_zret hC hQ (by decide) (z_N (Option.some.inj h)) (Nat.le_of_ble_eq_true rfl) (Nat.le_of_ble_eq_true rfl) dX4_isScore_15
theorem dX4_canWrite_0 : decode cX4_canWrite 0 = .ok (.aload_n 0, 1) := by decide +kernel
theorem dX4_canWrite_1 : decode cX4_canWrite 1 = .ok (.getfield 10, 3) := by decide +kernel
theorem dX4_canWrite_4 : decode cX4_canWrite 4 = .ok (.getfield 167, 3) := by decide +kernel
theorem dX4_canWrite_7 : decode cX4_canWrite 7 = .ok (.iload_n 2, 1) := by decide +kernel
theorem dX4_canWrite_8 : decode cX4_canWrite 8 = .ok (.aaload, 1) := by decide +kernel
theorem dX4_canWrite_9 : decode cX4_canWrite 9 = .ok (.iload_n 1, 1) := by decide +kernel
theorem dX4_canWrite_10 : decode cX4_canWrite 10 = .ok (.iaload, 1) := by decide +kernel
theorem dX4_canWrite_11 : decode cX4_canWrite 11 = .ok (.iconst (-1), 1) := by decide +kernel
theorem dX4_canWrite_12 : decode cX4_canWrite 12 = .ok (.if_icmp .eq 19, 3) := by decide +kernel
theorem dX4_canWrite_15 : decode cX4_canWrite 15 = .ok (.aload_n 0, 1) := by decide +kernel
theorem dX4_canWrite_16 : decode cX4_canWrite 16 = .ok (.getfield 10, 3) := by decide +kernel
theorem dX4_canWrite_19 : decode cX4_canWrite 19 = .ok (.getfield 183, 3) := by decide +kernel
theorem dX4_canWrite_22 : decode cX4_canWrite 22 = .ok (.iload_n 2, 1) := by decide +kernel
theorem dX4_canWrite_23 : decode cX4_canWrite 23 = .ok (.iaload, 1) := by decide +kernel
theorem dX4_canWrite_24 : decode cX4_canWrite 24 = .ok (.ifCond .ne 7, 3) := by decide +kernel
theorem dX4_canWrite_27 : decode cX4_canWrite 27 = .ok (.iconst 1, 1) := by decide +kernel
theorem dX4_canWrite_28 : decode cX4_canWrite 28 = .ok (.goto 4, 3) := by decide +kernel
theorem dX4_canWrite_31 : decode cX4_canWrite 31 = .ok (.iconst 0, 1) := by decide +kernel
theorem dX4_canWrite_32 : decode cX4_canWrite 32 = .ok (.ireturn, 1) := by decide +kernel
set_option maxRecDepth 100000 in
set_option maxHeartbeats 4000000 in
theorem mt_X4_canWrite (r0 : Option Nat) (i1 : Int32) (i2 : Int32) (S0 : PH) (y : Int32 × PH) (h : m_X4_canWrite r0 i1 i2 S0 = some y) : MT yX4_canWrite (.code yX4_canWrite cX4_canWrite 3 (Option.some FieldType.boolean)) 0 0 0 0 [va_rf r0, .int i1, .int i2] S0 (oQ e_I (qN y)) := by
  refine mt_of (own := RX4) (l0 := [(0, va_rf r0), (1, .int i1), (2, .int i2)]) rfl rfl (by cases r0 <;> exact Nat.le_of_ble_eq_true rfl) (by cases r0 <;> rfl) ?_
  intro Z hC hQ hE hN
  unfold m_X4_canWrite at h
  refine x_aload_n (i := 0) hC dX4_canWrite_0 rfl 0 rfl ?_
  replace h := dr_el h
  obtain ⟨a1, ea2, ha3, h⟩ := h
  refine x_getR hC ea2 ha3 kf_4 0 (by decide) rfl q_172 dX4_canWrite_1 ?_
  replace h := dr_el h
  obtain ⟨a4, ea5, ha6, h⟩ := h
  refine x_getR hC ea5 ha6 kf_2 10 (by decide) rfl q_57 dX4_canWrite_4 ?_
  refine x_iload_n (i := 2) hC dX4_canWrite_7 rfl 2 rfl ?_
  replace h := dr_el h
  obtain ⟨a7, ea8, ha9, h⟩ := h
  replace h := ck_el h
  obtain ⟨hc10, h⟩ := h
  refine x_aaload9 hC ea8 ha9 hc10 dX4_canWrite_8 ?_
  refine x_iload_n (i := 1) hC dX4_canWrite_9 rfl 1 rfl ?_
  replace h := dr_el h
  obtain ⟨a11, ea12, ha13, h⟩ := h
  replace h := ck_el h
  obtain ⟨hc14, h⟩ := h
  refine x_iaload hC ea12 ha13 hc14 dX4_canWrite_10 ?_
  refine x_iconst (v := (-1 : Int32)) hC dX4_canWrite_11 (by decide) ?_
  refine x_icmp_eq (t := 31) hC dX4_canWrite_12 (by decide) (fun c15 => ?_) (fun c15 => ?_)
  · replace h := it_t c15 h
    refine x_iconst (v := (0 : Int32)) hC dX4_canWrite_31 (by decide) ?_
    exact x_zret hC hQ (by decide) (z_N (Option.some.inj h)) (Nat.le_of_ble_eq_true rfl) (Nat.le_of_ble_eq_true rfl) dX4_canWrite_32
  · replace h := it_f c15 h
    refine x_aload_n (i := 0) hC dX4_canWrite_15 rfl 0 rfl ?_
    refine x_getR hC ea2 ha3 kf_4 0 (by decide) rfl q_172 dX4_canWrite_16 ?_
    refine x_getR hC ea5 ha6 kf_2 9 (by decide) rfl q_55 dX4_canWrite_19 ?_
    refine x_iload_n (i := 2) hC dX4_canWrite_22 rfl 2 rfl ?_
    replace h := dr_el h
    obtain ⟨a16, ea17, ha18, h⟩ := h
    replace h := ck_el h
    obtain ⟨hc19, h⟩ := h
    refine x_iaload hC ea17 ha18 hc19 dX4_canWrite_23 ?_
    refine x_if_ne (t := 31) hC dX4_canWrite_24 (by decide) (fun c20 => ?_) (fun c20 => ?_)
    · replace h := it_f c20 h
      refine x_iconst (v := (0 : Int32)) hC dX4_canWrite_31 (by decide) ?_
      exact x_zret hC hQ (by decide) (z_N (Option.some.inj h)) (Nat.le_of_ble_eq_true rfl) (Nat.le_of_ble_eq_true rfl) dX4_canWrite_32
    · replace h := it_t c20 h
      refine x_iconst (v := (1 : Int32)) hC dX4_canWrite_27 (by decide) ?_
      refine x_goto (t := 32) hC dX4_canWrite_28 (by decide) ?_
      exact x_zret hC hQ (by decide) (z_N (Option.some.inj h)) (Nat.le_of_ble_eq_true rfl) (Nat.le_of_ble_eq_true rfl) dX4_canWrite_32
theorem dX4_writersIn_0 : decode cX4_writersIn 0 = .ok (.iconst 0, 1) := by decide +kernel
theorem dX4_writersIn_1 : decode cX4_writersIn 1 = .ok (.istore_n 1, 1) := by decide +kernel
theorem dX4_writersIn_2 : decode cX4_writersIn 2 = .ok (.iconst 0, 1) := by decide +kernel
theorem dX4_writersIn_3 : decode cX4_writersIn 3 = .ok (.istore_n 2, 1) := by decide +kernel
theorem dX4_writersIn_4 : decode cX4_writersIn 4 = .ok (.iload_n 2, 1) := by decide +kernel
theorem dX4_writersIn_5 : decode cX4_writersIn 5 = .ok (.aload_n 0, 1) := by decide +kernel
theorem dX4_writersIn_6 : decode cX4_writersIn 6 = .ok (.arraylength, 1) := by decide +kernel
theorem dX4_writersIn_7 : decode cX4_writersIn 7 = .ok (.if_icmp .ge 24, 3) := by decide +kernel
theorem dX4_writersIn_10 : decode cX4_writersIn 10 = .ok (.aload_n 0, 1) := by decide +kernel
theorem dX4_writersIn_11 : decode cX4_writersIn 11 = .ok (.iload_n 2, 1) := by decide +kernel
theorem dX4_writersIn_12 : decode cX4_writersIn 12 = .ok (.iaload, 1) := by decide +kernel
theorem dX4_writersIn_13 : decode cX4_writersIn 13 = .ok (.invokestatic 132, 3) := by decide +kernel
theorem dX4_writersIn_16 : decode cX4_writersIn 16 = .ok (.ifCond .eq 9, 3) := by decide +kernel
theorem dX4_writersIn_19 : decode cX4_writersIn 19 = .ok (.iload_n 1, 1) := by decide +kernel
theorem dX4_writersIn_20 : decode cX4_writersIn 20 = .ok (.iconst 1, 1) := by decide +kernel
theorem dX4_writersIn_21 : decode cX4_writersIn 21 = .ok (.iload_n 2, 1) := by decide +kernel
theorem dX4_writersIn_22 : decode cX4_writersIn 22 = .ok (.ishl, 1) := by decide +kernel
theorem dX4_writersIn_23 : decode cX4_writersIn 23 = .ok (.ior, 1) := by decide +kernel
theorem dX4_writersIn_24 : decode cX4_writersIn 24 = .ok (.istore_n 1, 1) := by decide +kernel
theorem dX4_writersIn_25 : decode cX4_writersIn 25 = .ok (.iinc 2 1, 3) := by decide +kernel
theorem dX4_writersIn_28 : decode cX4_writersIn 28 = .ok (.goto (-24), 3) := by decide +kernel
theorem dX4_writersIn_31 : decode cX4_writersIn 31 = .ok (.iload_n 1, 1) := by decide +kernel
theorem dX4_writersIn_32 : decode cX4_writersIn 32 = .ok (.ireturn, 1) := by decide +kernel
set_option maxRecDepth 100000 in
set_option maxHeartbeats 4000000 in
theorem mt_X4_writersIn (r0 : Option Nat) (S0 : PH) (y : Int32 × PH) (h : m_X4_writersIn r0 S0 = some y) : MT yX4_writersIn (.code yX4_writersIn cX4_writersIn 3 (Option.some FieldType.int)) 1 20 0 0 [va_rf r0] S0 (oQ e_I (qN y)) := by
  refine mt_of (own := RX4) (l0 := [(0, va_rf r0)]) rfl rfl (by cases r0 <;> exact Nat.le_of_ble_eq_true rfl) (by cases r0 <;> rfl) ?_
  intro Z hC hQ hE hN
  unfold m_X4_writersIn at h
  refine x_iconst (v := (0 : Int32)) hC dX4_writersIn_0 (by decide) ?_
  refine x_istore_n (i := 1) (l' := [(1, .int (0 : Int32)), (0, va_rf r0)]) hC dX4_writersIn_1 rfl (⟨fun _ => c_rf r0, trivial⟩) (by decide) rfl ?_
  refine x_iconst (v := (0 : Int32)) hC dX4_writersIn_2 (by decide) ?_
  refine x_istore_n (i := 2) (l' := [(2, .int (0 : Int32)), (1, .int (0 : Int32)), (0, va_rf r0)]) hC dX4_writersIn_3 rfl (⟨fun _ => rfl, ⟨fun _ => c_rf r0, trivial⟩⟩) (by decide) rfl ?_
  refine x_sub (l' := [(0, va_rf r0), (1, .int (0 : Int32)), (2, .int (0 : Int32))]) [2, 1, 0] rfl ?_
  refine lp_sim (P := fun (t : (Int32 × Int32 × PH)) => PX Z 3 t.2.2 0 0 4 [(0, va_rf r0), (1, .int t.1), (2, .int t.2.1)] []) (G := fun r => r = y) ?_ h rfl
  clear h
  intro t x_4 h hg_4
  obtain ⟨v1, v2, S3⟩ := t
  show PX Z 3 S3 0 0 4 [(0, va_rf r0), (1, .int v1), (2, .int v2)] []
  unfold st_X4_writersIn_4 at h
  refine x_iload_n (i := 2) hC dX4_writersIn_4 rfl 2 rfl ?_
  refine x_aload_n (i := 0) hC dX4_writersIn_5 rfl 0 rfl ?_
  replace h := dr_el h
  obtain ⟨a4, ea5, ha6, h⟩ := h
  refine x_alen6 hC ea5 ha6 dX4_writersIn_6 ?_
  refine x_icmp_ge (t := 31) hC dX4_writersIn_7 (by decide) (fun c7 => ?_) (fun c7 => ?_)
  · replace h := it_t c7 h
    replace h := ir_x h hg_4
    refine x_iload_n (i := 1) hC dX4_writersIn_31 rfl 1 rfl ?_
    exact x_iret hC hQ (z_N (Option.some.inj h)) (Nat.le_of_ble_eq_true rfl) (Nat.le_of_ble_eq_true rfl) dX4_writersIn_32
  · replace h := it_f c7 h
    refine x_aload_n (i := 0) hC dX4_writersIn_10 rfl 0 rfl ?_
    refine x_iload_n (i := 2) hC dX4_writersIn_11 rfl 2 rfl ?_
    replace h := ck_el h
    obtain ⟨hc8, h⟩ := h
    refine x_iaload hC ea5 ha6 hc8 dX4_writersIn_12 ?_
    replace h := bd_el h
    obtain ⟨v9, S10, hb11, h⟩ := h
    refine x_callS hC (st := []) (mt_X4_isScore _ _ _ hb11) q_434 q_435 q_1 q_436 hy_X4_isScore ⟨Nat.le_of_ble_eq_true rfl, Nat.le_of_ble_eq_true rfl⟩ ⟨Nat.le_of_ble_eq_true rfl, Nat.le_of_ble_eq_true rfl⟩ rfl (Nat.le_of_ble_eq_true rfl) dX4_writersIn_13 (r_N ?_) r_NX
    show PX Z 3 S10 0 0 16 [(0, va_rf r0), (1, .int v1), (2, .int v2)] [.int v9]
    refine x_if_eq (t := 25) hC dX4_writersIn_16 (by decide) (fun c12 => ?_) (fun c12 => ?_)
    · replace h := it_t c12 h
      refine x_iinc (i := 2) (v := (v2 + (1 : Int32))) (l' := [(2, .int (v2 + (1 : Int32))), (0, va_rf r0), (1, .int v1)]) hC dX4_writersIn_25 2 rfl rfl (⟨fun _ => c_rf r0, ⟨fun _ => rfl, ⟨fun _ => rfl, trivial⟩⟩⟩) (by decide) rfl ?_
      refine x_goto (t := 4) hC dX4_writersIn_28 (by decide) ?_
      refine x_sub (l' := [(0, va_rf r0), (1, .int v1), (2, .int (v2 + (1 : Int32)))]) [1, 2, 0] rfl ?_
      have hb := bk_x h hg_4
      exact hb
    · replace h := it_f c12 h
      refine x_iload_n (i := 1) hC dX4_writersIn_19 rfl 1 rfl ?_
      refine x_iconst (v := (1 : Int32)) hC dX4_writersIn_20 (by decide) ?_
      refine x_iload_n (i := 2) hC dX4_writersIn_21 rfl 2 rfl ?_
      refine x_ishl hC dX4_writersIn_22 ?_
      refine x_ior hC dX4_writersIn_23 ?_
      replace h := le_el h
      obtain ⟨x13, hx14, h⟩ := h
      refine x_tI hx14 ?_
      refine x_istore_n (i := 1) (l' := [(1, .int x13), (0, va_rf r0), (2, .int v2)]) hC dX4_writersIn_24 rfl (⟨fun _ => c_rf r0, ⟨fun _ => rfl, ⟨fun _ => rfl, trivial⟩⟩⟩) (by decide) rfl ?_
      refine x_iinc (i := 2) (v := (v2 + (1 : Int32))) (l' := [(2, .int (v2 + (1 : Int32))), (1, .int x13), (0, va_rf r0)]) hC dX4_writersIn_25 2 rfl rfl (⟨fun _ => rfl, ⟨fun _ => c_rf r0, ⟨fun _ => rfl, trivial⟩⟩⟩) (by decide) rfl ?_
      refine x_goto (t := 4) hC dX4_writersIn_28 (by decide) ?_
      refine x_sub (l' := [(0, va_rf r0), (1, .int x13), (2, .int (v2 + (1 : Int32)))]) [2, 1, 0] rfl ?_
      have hb := bk_x h hg_4
      exact hb
theorem dX4_writeReview_0 : decode cX4_writeReview 0 = .ok (.aload_n 0, 1) := by decide +kernel
theorem dX4_writeReview_1 : decode cX4_writeReview 1 = .ok (.getfield 10, 3) := by decide +kernel
theorem dX4_writeReview_4 : decode cX4_writeReview 4 = .ok (.getfield 167, 3) := by decide +kernel
theorem dX4_writeReview_7 : decode cX4_writeReview 7 = .ok (.iload_n 2, 1) := by decide +kernel
theorem dX4_writeReview_8 : decode cX4_writeReview 8 = .ok (.aaload, 1) := by decide +kernel
theorem dX4_writeReview_9 : decode cX4_writeReview 9 = .ok (.astore 4, 2) := by decide +kernel
theorem dX4_writeReview_11 : decode cX4_writeReview 11 = .ok (.aload 4, 2) := by decide +kernel
theorem dX4_writeReview_13 : decode cX4_writeReview 13 = .ok (.iload_n 1, 1) := by decide +kernel
theorem dX4_writeReview_14 : decode cX4_writeReview 14 = .ok (.iload_n 3, 1) := by decide +kernel
theorem dX4_writeReview_15 : decode cX4_writeReview 15 = .ok (.iastore, 1) := by decide +kernel
theorem dX4_writeReview_16 : decode cX4_writeReview 16 = .ok (.aload 4, 2) := by decide +kernel
theorem dX4_writeReview_18 : decode cX4_writeReview 18 = .ok (.invokestatic 175, 3) := by decide +kernel
theorem dX4_writeReview_21 : decode cX4_writeReview 21 = .ok (.invokestatic 178, 3) := by decide +kernel
theorem dX4_writeReview_24 : decode cX4_writeReview 24 = .ok (.ireturn, 1) := by decide +kernel
set_option maxRecDepth 100000 in
set_option maxHeartbeats 4000000 in
theorem mt_X4_writeReview (r0 : Option Nat) (i1 : Int32) (i2 : Int32) (i3 : Int32) (S0 : PH) (y : Int32 × PH) (h : m_X4_writeReview r0 i1 i2 i3 S0 = some y) : MT yX4_writeReview (.code yX4_writeReview cX4_writeReview 5 (Option.some FieldType.int)) 2 42 0 0 [va_rf r0, .int i1, .int i2, .int i3] S0 (oQ e_I (qN y)) := by
  refine mt_of (own := RX4) (l0 := [(0, va_rf r0), (1, .int i1), (2, .int i2), (3, .int i3)]) rfl rfl (by cases r0 <;> exact Nat.le_of_ble_eq_true rfl) (by cases r0 <;> rfl) ?_
  intro Z hC hQ hE hN
  unfold m_X4_writeReview at h
  refine x_aload_n (i := 0) hC dX4_writeReview_0 rfl 0 rfl ?_
  replace h := dr_el h
  obtain ⟨a1, ea2, ha3, h⟩ := h
  refine x_getR hC ea2 ha3 kf_4 0 (by decide) rfl q_172 dX4_writeReview_1 ?_
  replace h := dr_el h
  obtain ⟨a4, ea5, ha6, h⟩ := h
  refine x_getR hC ea5 ha6 kf_2 10 (by decide) rfl q_57 dX4_writeReview_4 ?_
  refine x_iload_n (i := 2) hC dX4_writeReview_7 rfl 2 rfl ?_
  replace h := dr_el h
  obtain ⟨a7, ea8, ha9, h⟩ := h
  replace h := ck_el h
  obtain ⟨hc10, h⟩ := h
  refine x_aaload9 hC ea8 ha9 hc10 dX4_writeReview_8 ?_
  replace h := le_el h
  obtain ⟨r11, hx12, h⟩ := h
  refine x_tA hx12 ?_
  refine x_astore (i := 4) (l' := [(4, va_rf r11), (0, va_rf r0), (1, .int i1), (2, .int i2), (3, .int i3)]) hC dX4_writeReview_9 (⟨fun _ => c_rf r0, ⟨fun _ => rfl, ⟨fun _ => rfl, ⟨fun _ => rfl, trivial⟩⟩⟩⟩) (by decide) rfl ?_
  refine x_aload (i := 4) hC dX4_writeReview_11 0 rfl ?_
  refine x_iload_n (i := 1) hC dX4_writeReview_13 rfl 2 rfl ?_
  refine x_iload_n (i := 3) hC dX4_writeReview_14 rfl 4 rfl ?_
  replace h := dr_el h
  obtain ⟨a13, ea14, ha15, h⟩ := h
  replace h := ck_el h
  obtain ⟨hc16, h⟩ := h
  replace h := le_el h
  obtain ⟨S17, hx18, h⟩ := h
  refine x_iastore hC ea14 ha15 hc16 dX4_writeReview_15 ?_
  refine x_tS hx18 ?_
  refine x_aload (i := 4) hC dX4_writeReview_16 0 rfl ?_
  replace h := bd_el h
  obtain ⟨v19, S20, hb21, h⟩ := h
  refine x_callS hC (st := []) (mt_X4_writersIn _ _ _ hb21) q_431 q_432 q_1 q_433 hy_X4_writersIn ⟨Nat.le_of_ble_eq_true rfl, Nat.le_of_ble_eq_true rfl⟩ ⟨Nat.le_of_ble_eq_true rfl, Nat.le_of_ble_eq_true rfl⟩ rfl (Nat.le_of_ble_eq_true rfl) dX4_writeReview_18 (r_N ?_) r_NX
  show PX Z 5 S20 0 0 21 [(4, va_rf r11), (0, va_rf r0), (1, .int i1), (2, .int i2), (3, .int i3)] [.int v19]
  replace h := bd_el h
  obtain ⟨v22, S23, hb24, h⟩ := h
  refine x_callS hC (st := []) (mt_J6_bitCount_0f7a4 _ _ _ hb24) q_352 q_353 q_13 q_354 hy_J6_bitCount_0f7a4 ⟨Nat.le_of_ble_eq_true rfl, Nat.le_of_ble_eq_true rfl⟩ ⟨Nat.le_of_ble_eq_true rfl, Nat.le_of_ble_eq_true rfl⟩ rfl (Nat.le_of_ble_eq_true rfl) dX4_writeReview_21 (r_N ?_) r_NX
  show PX Z 5 S23 0 0 24 [(4, va_rf r11), (0, va_rf r0), (1, .int i1), (2, .int i2), (3, .int i3)] [.int v22]
  exact x_iret hC hQ (z_N (Option.some.inj h)) (Nat.le_of_ble_eq_true rfl) (Nat.le_of_ble_eq_true rfl) dX4_writeReview_24
theorem dX4_write_0 : decode cX4_write 0 = .ok (.iload_n 1, 1) := by decide +kernel
theorem dX4_write_1 : decode cX4_write 1 = .ok (.invokestatic 73, 3) := by decide +kernel
theorem dX4_write_4 : decode cX4_write 4 = .ok (.aload_n 0, 1) := by decide +kernel
theorem dX4_write_5 : decode cX4_write 5 = .ok (.iload_n 2, 1) := by decide +kernel
theorem dX4_write_6 : decode cX4_write 6 = .ok (.invokevirtual 125, 3) := by decide +kernel
theorem dX4_write_9 : decode cX4_write 9 = .ok (.iload_n 3, 1) := by decide +kernel
theorem dX4_write_10 : decode cX4_write 10 = .ok (.invokestatic 132, 3) := by decide +kernel
theorem dX4_write_13 : decode cX4_write 13 = .ok (.ifCond .ne 13, 3) := by decide +kernel
theorem dX4_write_16 : decode cX4_write 16 = .ok (.new 45, 3) := by decide +kernel
theorem dX4_write_19 : decode cX4_write 19 = .ok (.dup, 1) := by decide +kernel
theorem dX4_write_20 : decode cX4_write 20 = .ok (.ldc 136, 2) := by decide +kernel
theorem dX4_write_22 : decode cX4_write 22 = .ok (.invokespecial 49, 3) := by decide +kernel
theorem dX4_write_25 : decode cX4_write 25 = .ok (.athrow, 1) := by decide +kernel
theorem dX4_write_26 : decode cX4_write 26 = .ok (.aload_n 0, 1) := by decide +kernel
theorem dX4_write_27 : decode cX4_write 27 = .ok (.iload_n 1, 1) := by decide +kernel
theorem dX4_write_28 : decode cX4_write 28 = .ok (.iload_n 2, 1) := by decide +kernel
theorem dX4_write_29 : decode cX4_write 29 = .ok (.invokevirtual 138, 3) := by decide +kernel
theorem dX4_write_32 : decode cX4_write 32 = .ok (.ifCond .ne 13, 3) := by decide +kernel
theorem dX4_write_35 : decode cX4_write 35 = .ok (.new 58, 3) := by decide +kernel
theorem dX4_write_38 : decode cX4_write 38 = .ok (.dup, 1) := by decide +kernel
theorem dX4_write_39 : decode cX4_write 39 = .ok (.ldc 141, 2) := by decide +kernel
theorem dX4_write_41 : decode cX4_write 41 = .ok (.invokespecial 62, 3) := by decide +kernel
theorem dX4_write_44 : decode cX4_write 44 = .ok (.athrow, 1) := by decide +kernel
theorem dX4_write_45 : decode cX4_write 45 = .ok (.aload_n 0, 1) := by decide +kernel
theorem dX4_write_46 : decode cX4_write 46 = .ok (.getfield 19, 3) := by decide +kernel
theorem dX4_write_49 : decode cX4_write 49 = .ok (.aload_n 0, 1) := by decide +kernel
theorem dX4_write_50 : decode cX4_write 50 = .ok (.getfield 10, 3) := by decide +kernel
theorem dX4_write_53 : decode cX4_write 53 = .ok (.invokevirtual 63, 3) := by decide +kernel
theorem dX4_write_56 : decode cX4_write 56 = .ok (.aload_n 0, 1) := by decide +kernel
theorem dX4_write_57 : decode cX4_write 57 = .ok (.iload_n 1, 1) := by decide +kernel
theorem dX4_write_58 : decode cX4_write 58 = .ok (.iload_n 2, 1) := by decide +kernel
theorem dX4_write_59 : decode cX4_write 59 = .ok (.iload_n 3, 1) := by decide +kernel
theorem dX4_write_60 : decode cX4_write 60 = .ok (.invokevirtual 143, 3) := by decide +kernel
theorem dX4_write_63 : decode cX4_write 63 = .ok (.ireturn, 1) := by decide +kernel
set_option maxRecDepth 100000 in
set_option maxHeartbeats 4000000 in
theorem mt_X4_write (r0 : Option Nat) (i1 : Int32) (i2 : Int32) (i3 : Int32) (S0 : PH) (Q : (Nat ⊕ Int32) → PH → Prop) (h : w_X4_write r0 i1 i2 i3 S0 Q) : MT yX4_write (.code yX4_write cX4_write 4 (Option.some FieldType.int)) 7 111 21 173 [va_rf r0, .int i1, .int i2, .int i3] S0 (oQ e_I Q) := by
  refine mt_of (own := RX4) (l0 := [(0, va_rf r0), (1, .int i1), (2, .int i2), (3, .int i3)]) rfl rfl (by cases r0 <;> exact Nat.le_of_ble_eq_true rfl) (by cases r0 <;> rfl) ?_
  intro Z hC hQ hE hN
  unfold w_X4_write at h
  refine x_iload_n (i := 1) hC dX4_write_0 rfl 1 rfl ?_
  replace h := wbt_el h
  obtain ⟨v1, S2, hb40, h⟩ | ⟨j3, S4, hb40, h⟩ := h
  · refine x_callS hC (st := []) (mtr_X4_requirePerson _ _ (v1, S2) hb40) q_313 q_314 q_1 q_315 hy_X4_requirePerson ⟨Nat.le_of_ble_eq_true rfl, Nat.le_of_ble_eq_true rfl⟩ ⟨Nat.le_of_ble_eq_true rfl, Nat.le_of_ble_eq_true rfl⟩ rfl (Nat.le_of_ble_eq_true rfl) dX4_write_1 (r_N ?_) r_NX
    show PX Z 4 S2 0 0 4 [(0, va_rf r0), (1, .int i1), (2, .int i2), (3, .int i3)] []
    refine x_aload_n (i := 0) hC dX4_write_4 rfl 0 rfl ?_
    refine x_iload_n (i := 2) hC dX4_write_5 rfl 2 rfl ?_
    obtain ⟨a5, ea6, ha7, h⟩ := h
    replace h := wbt_el h
    obtain ⟨v8, S9, hb39, h⟩ | ⟨j10, S11, hb39, h⟩ := h
    · refine x_callV hC (st := []) (mtr_X4_requirePaper _ _ _ (v8, S9) hb39) ea6 ha7 kf_4 q_332 q_334 qs_4 q_1 q_335 ⟨rfl, hy_X4_requirePaper⟩ ⟨Nat.le_of_ble_eq_true rfl, Nat.le_of_ble_eq_true rfl⟩ ⟨Nat.le_of_ble_eq_true rfl, Nat.le_of_ble_eq_true rfl⟩ rfl (Nat.le_of_ble_eq_true rfl) dX4_write_6 (r_N ?_) r_NX
      show PX Z 4 S9 0 0 9 [(0, va_rf r0), (1, .int i1), (2, .int i2), (3, .int i3)] []
      refine x_iload_n (i := 3) hC dX4_write_9 rfl 3 rfl ?_
      obtain ⟨v12, S13, hb14, h⟩ := h
      refine x_callS hC (st := []) (mt_X4_isScore _ _ _ hb14) q_434 q_435 q_1 q_436 hy_X4_isScore ⟨Nat.le_of_ble_eq_true rfl, Nat.le_of_ble_eq_true rfl⟩ ⟨Nat.le_of_ble_eq_true rfl, Nat.le_of_ble_eq_true rfl⟩ rfl (Nat.le_of_ble_eq_true rfl) dX4_write_10 (r_N ?_) r_NX
      show PX Z 4 S13 0 0 13 [(0, va_rf r0), (1, .int i1), (2, .int i2), (3, .int i3)] [.int v12]
      refine x_if_ne (t := 26) hC dX4_write_13 (by decide) (fun c15 => ?_) (fun c15 => ?_)
      · replace h := wit_f c15 h
        refine x_aload_n (i := 0) hC dX4_write_26 rfl 0 rfl ?_
        refine x_iload_n (i := 1) hC dX4_write_27 rfl 1 rfl ?_
        refine x_iload_n (i := 2) hC dX4_write_28 rfl 2 rfl ?_
        obtain ⟨a16, ea17, ha18, h⟩ := h
        obtain ⟨v19, S20, hb21, h⟩ := h
        refine x_callV hC (st := []) (mt_X4_canWrite _ _ _ _ _ hb21) ea17 ha18 kf_4 q_639 q_641 qs_34 q_1 q_642 ⟨rfl, hy_X4_canWrite⟩ ⟨Nat.le_of_ble_eq_true rfl, Nat.le_of_ble_eq_true rfl⟩ ⟨Nat.le_of_ble_eq_true rfl, Nat.le_of_ble_eq_true rfl⟩ rfl (Nat.le_of_ble_eq_true rfl) dX4_write_29 (r_N ?_) r_NX
        show PX Z 4 S20 0 0 32 [(0, va_rf r0), (1, .int i1), (2, .int i2), (3, .int i3)] [.int v19]
        refine x_if_ne (t := 45) hC dX4_write_32 (by decide) (fun c22 => ?_) (fun c22 => ?_)
        · replace h := wit_f c22 h
          refine x_aload_n (i := 0) hC dX4_write_45 rfl 0 rfl ?_
          obtain ⟨a23, ea24, ha25, h⟩ := h
          refine x_getR hC ea24 ha25 kf_4 1 (by decide) rfl q_173 dX4_write_46 ?_
          refine x_aload_n (i := 0) hC dX4_write_49 rfl 0 rfl ?_
          refine x_getR hC ea24 ha25 kf_4 0 (by decide) rfl q_172 dX4_write_50 ?_
          obtain ⟨a26, ea27, ha28, h⟩ := h
          refine x_callV hC (st := []) (mt_X0_save _ _ _ _ h) ea27 ha28 kf_0 q_280 q_281 q_282 q_4 q_283 ⟨rfl, hy_X0_save⟩ ⟨Nat.le_of_ble_eq_true rfl, Nat.le_of_ble_eq_true rfl⟩ ⟨Nat.le_of_ble_eq_true rfl, Nat.le_of_ble_eq_true rfl⟩ rfl (Nat.le_of_ble_eq_true rfl) dX4_write_53 (r_W (fun v29 S30 h => ?_)) (r_Wx (fun _ _ h => (wq_l h).elim))
          replace h := wq_r h
          show PX Z 4 S30 21 173 56 [(0, va_rf r0), (1, .int i1), (2, .int i2), (3, .int i3)] []
          refine x_aload_n (i := 0) hC dX4_write_56 rfl 0 rfl ?_
          refine x_iload_n (i := 1) hC dX4_write_57 rfl 1 rfl ?_
          refine x_iload_n (i := 2) hC dX4_write_58 rfl 2 rfl ?_
          refine x_iload_n (i := 3) hC dX4_write_59 rfl 3 rfl ?_
          obtain ⟨a33, ea34, ha35, h⟩ := h
          obtain ⟨v36, S37, hb38, h⟩ := h
          refine x_callV hC (st := []) (mt_X4_writeReview _ _ _ _ _ _ hb38) ea34 ha35 kf_4 q_644 q_646 qs_35 q_1 q_647 ⟨rfl, hy_X4_writeReview⟩ ⟨Nat.le_of_ble_eq_true rfl, Nat.le_of_ble_eq_true rfl⟩ ⟨Nat.le_of_ble_eq_true rfl, Nat.le_of_ble_eq_true rfl⟩ rfl (Nat.le_of_ble_eq_true rfl) dX4_write_60 (r_N ?_) r_NX
          show PX Z 4 S37 21 173 63 [(0, va_rf r0), (1, .int i1), (2, .int i2), (3, .int i3)] [.int v36]
          exact x_iret hC hQ (z_W h) (Nat.le_of_ble_eq_true rfl) (Nat.le_of_ble_eq_true rfl) dX4_write_63
        · replace h := wit_t c22 h
          exact x_throw hC hQ hE (j := 1) (z_Y h) tx_58_62_1 (List.mem_of_getElem? (i := 19) rfl) (Nat.le_of_ble_eq_true rfl) ⟨Nat.le_of_ble_eq_true rfl, Nat.le_of_ble_eq_true rfl⟩ ⟨Nat.le_of_ble_eq_true rfl, Nat.le_of_ble_eq_true rfl⟩ (Nat.le_of_ble_eq_true rfl) (Nat.le_of_ble_eq_true rfl) dX4_write_35 dX4_write_38 dX4_write_39 dX4_write_41 dX4_write_44
      · replace h := wit_t c15 h
        exact x_throw hC hQ hE (j := 0) (z_Y h) tx_45_49_0 (List.mem_of_getElem? (i := 18) rfl) (Nat.le_of_ble_eq_true rfl) ⟨Nat.le_of_ble_eq_true rfl, Nat.le_of_ble_eq_true rfl⟩ ⟨Nat.le_of_ble_eq_true rfl, Nat.le_of_ble_eq_true rfl⟩ (Nat.le_of_ble_eq_true rfl) (Nat.le_of_ble_eq_true rfl) dX4_write_16 dX4_write_19 dX4_write_20 dX4_write_22 dX4_write_25
    · refine x_callV hC (st := []) (mt_X4_requirePaper _ _ _ _ hb39) ea6 ha7 kf_4 q_332 q_334 qs_4 q_1 q_335 ⟨rfl, hy_X4_requirePaper⟩ ⟨Nat.le_of_ble_eq_true rfl, Nat.le_of_ble_eq_true rfl⟩ ⟨Nat.le_of_ble_eq_true rfl, Nat.le_of_ble_eq_true rfl⟩ rfl (Nat.le_of_ble_eq_true rfl) dX4_write_6 r_X (r_XX ?_)
      exact x_out hC hQ hE (z_Y h) (Nat.le_of_ble_eq_true rfl) (Nat.le_of_ble_eq_true rfl)
  · refine x_callS hC (st := []) (mt_X4_requirePerson _ _ _ hb40) q_313 q_314 q_1 q_315 hy_X4_requirePerson ⟨Nat.le_of_ble_eq_true rfl, Nat.le_of_ble_eq_true rfl⟩ ⟨Nat.le_of_ble_eq_true rfl, Nat.le_of_ble_eq_true rfl⟩ rfl (Nat.le_of_ble_eq_true rfl) dX4_write_1 r_X (r_XX ?_)
    exact x_out hC hQ hE (z_Y h) (Nat.le_of_ble_eq_true rfl) (Nat.le_of_ble_eq_true rfl)
theorem dX4_canDrop_0 : decode cX4_canDrop 0 = .ok (.aload_n 0, 1) := by decide +kernel
theorem dX4_canDrop_1 : decode cX4_canDrop 1 = .ok (.getfield 10, 3) := by decide +kernel
theorem dX4_canDrop_4 : decode cX4_canDrop 4 = .ok (.getfield 167, 3) := by decide +kernel
theorem dX4_canDrop_7 : decode cX4_canDrop 7 = .ok (.iload_n 2, 1) := by decide +kernel
theorem dX4_canDrop_8 : decode cX4_canDrop 8 = .ok (.aaload, 1) := by decide +kernel
theorem dX4_canDrop_9 : decode cX4_canDrop 9 = .ok (.iload_n 1, 1) := by decide +kernel
theorem dX4_canDrop_10 : decode cX4_canDrop 10 = .ok (.iaload, 1) := by decide +kernel
theorem dX4_canDrop_11 : decode cX4_canDrop 11 = .ok (.bipush 10, 2) := by decide +kernel
theorem dX4_canDrop_13 : decode cX4_canDrop 13 = .ok (.if_icmp .ne 7, 3) := by decide +kernel
theorem dX4_canDrop_16 : decode cX4_canDrop 16 = .ok (.iconst 1, 1) := by decide +kernel
theorem dX4_canDrop_17 : decode cX4_canDrop 17 = .ok (.goto 4, 3) := by decide +kernel
theorem dX4_canDrop_20 : decode cX4_canDrop 20 = .ok (.iconst 0, 1) := by decide +kernel
theorem dX4_canDrop_21 : decode cX4_canDrop 21 = .ok (.ireturn, 1) := by decide +kernel
set_option maxRecDepth 100000 in
set_option maxHeartbeats 4000000 in
theorem mt_X4_canDrop (r0 : Option Nat) (i1 : Int32) (i2 : Int32) (S0 : PH) (y : Int32 × PH) (h : m_X4_canDrop r0 i1 i2 S0 = some y) : MT yX4_canDrop (.code yX4_canDrop cX4_canDrop 3 (Option.some FieldType.boolean)) 0 0 0 0 [va_rf r0, .int i1, .int i2] S0 (oQ e_I (qN y)) := by
  refine mt_of (own := RX4) (l0 := [(0, va_rf r0), (1, .int i1), (2, .int i2)]) rfl rfl (by cases r0 <;> exact Nat.le_of_ble_eq_true rfl) (by cases r0 <;> rfl) ?_
  intro Z hC hQ hE hN
  unfold m_X4_canDrop at h
  refine x_aload_n (i := 0) hC dX4_canDrop_0 rfl 0 rfl ?_
  replace h := dr_el h
  obtain ⟨a1, ea2, ha3, h⟩ := h
  refine x_getR hC ea2 ha3 kf_4 0 (by decide) rfl q_172 dX4_canDrop_1 ?_
  replace h := dr_el h
  obtain ⟨a4, ea5, ha6, h⟩ := h
  refine x_getR hC ea5 ha6 kf_2 10 (by decide) rfl q_57 dX4_canDrop_4 ?_
  refine x_iload_n (i := 2) hC dX4_canDrop_7 rfl 2 rfl ?_
  replace h := dr_el h
  obtain ⟨a7, ea8, ha9, h⟩ := h
  replace h := ck_el h
  obtain ⟨hc10, h⟩ := h
  refine x_aaload9 hC ea8 ha9 hc10 dX4_canDrop_8 ?_
  refine x_iload_n (i := 1) hC dX4_canDrop_9 rfl 1 rfl ?_
  replace h := dr_el h
  obtain ⟨a11, ea12, ha13, h⟩ := h
  replace h := ck_el h
  obtain ⟨hc14, h⟩ := h
  refine x_iaload hC ea12 ha13 hc14 dX4_canDrop_10 ?_
  refine x_bipush (v := (10 : Int32)) hC dX4_canDrop_11 (by decide) ?_
  refine x_icmp_ne (t := 20) hC dX4_canDrop_13 (by decide) (fun c15 => ?_) (fun c15 => ?_)
  · replace h := it_f c15 h
    refine x_iconst (v := (0 : Int32)) hC dX4_canDrop_20 (by decide) ?_
    exact x_zret hC hQ (by decide) (z_N (Option.some.inj h)) (Nat.le_of_ble_eq_true rfl) (Nat.le_of_ble_eq_true rfl) dX4_canDrop_21
  · replace h := it_t c15 h
    refine x_iconst (v := (1 : Int32)) hC dX4_canDrop_16 (by decide) ?_
    refine x_goto (t := 21) hC dX4_canDrop_17 (by decide) ?_
    exact x_zret hC hQ (by decide) (z_N (Option.some.inj h)) (Nat.le_of_ble_eq_true rfl) (Nat.le_of_ble_eq_true rfl) dX4_canDrop_21
theorem dX4_dropReview_0 : decode cX4_dropReview 0 = .ok (.aload_n 0, 1) := by decide +kernel
theorem dX4_dropReview_1 : decode cX4_dropReview 1 = .ok (.getfield 10, 3) := by decide +kernel
theorem dX4_dropReview_4 : decode cX4_dropReview 4 = .ok (.getfield 167, 3) := by decide +kernel
theorem dX4_dropReview_7 : decode cX4_dropReview 7 = .ok (.iload_n 2, 1) := by decide +kernel
theorem dX4_dropReview_8 : decode cX4_dropReview 8 = .ok (.aaload, 1) := by decide +kernel
theorem dX4_dropReview_9 : decode cX4_dropReview 9 = .ok (.iload_n 1, 1) := by decide +kernel
theorem dX4_dropReview_10 : decode cX4_dropReview 10 = .ok (.iconst (-1), 1) := by decide +kernel
theorem dX4_dropReview_11 : decode cX4_dropReview 11 = .ok (.iastore, 1) := by decide +kernel
theorem dX4_dropReview_12 : decode cX4_dropReview 12 = .ok (.aload_n 0, 1) := by decide +kernel
theorem dX4_dropReview_13 : decode cX4_dropReview 13 = .ok (.getfield 10, 3) := by decide +kernel
theorem dX4_dropReview_16 : decode cX4_dropReview 16 = .ok (.getfield 313, 3) := by decide +kernel
theorem dX4_dropReview_19 : decode cX4_dropReview 19 = .ok (.iload_n 1, 1) := by decide +kernel
theorem dX4_dropReview_20 : decode cX4_dropReview 20 = .ok (.dup2, 1) := by decide +kernel
theorem dX4_dropReview_21 : decode cX4_dropReview 21 = .ok (.iaload, 1) := by decide +kernel
theorem dX4_dropReview_22 : decode cX4_dropReview 22 = .ok (.iconst 1, 1) := by decide +kernel
theorem dX4_dropReview_23 : decode cX4_dropReview 23 = .ok (.isub, 1) := by decide +kernel
theorem dX4_dropReview_24 : decode cX4_dropReview 24 = .ok (.iastore, 1) := by decide +kernel
theorem dX4_dropReview_25 : decode cX4_dropReview 25 = .ok (.aload_n 0, 1) := by decide +kernel
theorem dX4_dropReview_26 : decode cX4_dropReview 26 = .ok (.getfield 10, 3) := by decide +kernel
theorem dX4_dropReview_29 : decode cX4_dropReview 29 = .ok (.getfield 337, 3) := by decide +kernel
theorem dX4_dropReview_32 : decode cX4_dropReview 32 = .ok (.iload_n 1, 1) := by decide +kernel
theorem dX4_dropReview_33 : decode cX4_dropReview 33 = .ok (.dup2, 1) := by decide +kernel
theorem dX4_dropReview_34 : decode cX4_dropReview 34 = .ok (.iaload, 1) := by decide +kernel
theorem dX4_dropReview_35 : decode cX4_dropReview 35 = .ok (.iconst 1, 1) := by decide +kernel
theorem dX4_dropReview_36 : decode cX4_dropReview 36 = .ok (.iadd, 1) := by decide +kernel
theorem dX4_dropReview_37 : decode cX4_dropReview 37 = .ok (.iastore, 1) := by decide +kernel
theorem dX4_dropReview_38 : decode cX4_dropReview 38 = .ok (.aload_n 0, 1) := by decide +kernel
theorem dX4_dropReview_39 : decode cX4_dropReview 39 = .ok (.iload_n 1, 1) := by decide +kernel
theorem dX4_dropReview_40 : decode cX4_dropReview 40 = .ok (.invokevirtual 316, 3) := by decide +kernel
theorem dX4_dropReview_43 : decode cX4_dropReview 43 = .ok (.ireturn, 1) := by decide +kernel
set_option maxRecDepth 100000 in
set_option maxHeartbeats 4000000 in
theorem mt_X4_dropReview (r0 : Option Nat) (i1 : Int32) (i2 : Int32) (S0 : PH) (y : Int32 × PH) (h : m_X4_dropReview r0 i1 i2 S0 = some y) : MT yX4_dropReview (.code yX4_dropReview cX4_dropReview 3 (Option.some FieldType.int)) 1 21 0 0 [va_rf r0, .int i1, .int i2] S0 (oQ e_I (qN y)) := by
  refine mt_of (own := RX4) (l0 := [(0, va_rf r0), (1, .int i1), (2, .int i2)]) rfl rfl (by cases r0 <;> exact Nat.le_of_ble_eq_true rfl) (by cases r0 <;> rfl) ?_
  intro Z hC hQ hE hN
  unfold m_X4_dropReview at h
  refine x_aload_n (i := 0) hC dX4_dropReview_0 rfl 0 rfl ?_
  replace h := dr_el h
  obtain ⟨a1, ea2, ha3, h⟩ := h
  refine x_getR hC ea2 ha3 kf_4 0 (by decide) rfl q_172 dX4_dropReview_1 ?_
  replace h := dr_el h
  obtain ⟨a4, ea5, ha6, h⟩ := h
  refine x_getR hC ea5 ha6 kf_2 10 (by decide) rfl q_57 dX4_dropReview_4 ?_
  refine x_iload_n (i := 2) hC dX4_dropReview_7 rfl 2 rfl ?_
  replace h := dr_el h
  obtain ⟨a7, ea8, ha9, h⟩ := h
  replace h := ck_el h
  obtain ⟨hc10, h⟩ := h
  refine x_aaload9 hC ea8 ha9 hc10 dX4_dropReview_8 ?_
  refine x_iload_n (i := 1) hC dX4_dropReview_9 rfl 1 rfl ?_
  refine x_iconst (v := (-1 : Int32)) hC dX4_dropReview_10 (by decide) ?_
  replace h := dr_el h
  obtain ⟨a11, ea12, ha13, h⟩ := h
  replace h := ck_el h
  obtain ⟨hc14, h⟩ := h
  replace h := le_el h
  obtain ⟨S15, hx16, h⟩ := h
  refine x_iastore hC ea12 ha13 hc14 dX4_dropReview_11 ?_
  refine x_tS hx16 ?_
  refine x_aload_n (i := 0) hC dX4_dropReview_12 rfl 0 rfl ?_
  replace h := dr_el h
  obtain ⟨a17, ea18, ha19, h⟩ := h
  refine x_getR hC ea18 ha19 kf_4 0 (by decide) rfl q_172 dX4_dropReview_13 ?_
  replace h := dr_el h
  obtain ⟨a20, ea21, ha22, h⟩ := h
  refine x_getR hC ea21 ha22 kf_2 3 (by decide) rfl q_43 dX4_dropReview_16 ?_
  refine x_iload_n (i := 1) hC dX4_dropReview_19 rfl 1 rfl ?_
  refine x_dup2 hC dX4_dropReview_20 rfl (c_rf (p_R S15 a20 3)) ?_
  replace h := dr_el h
  obtain ⟨a23, ea24, ha25, h⟩ := h
  replace h := ck_el h
  obtain ⟨hc26, h⟩ := h
  refine x_iaload hC ea24 ha25 hc26 dX4_dropReview_21 ?_
  refine x_iconst (v := (1 : Int32)) hC dX4_dropReview_22 (by decide) ?_
  refine x_isub hC dX4_dropReview_23 ?_
  replace h := ck_el h
  obtain ⟨hc27, h⟩ := h
  replace h := le_el h
  obtain ⟨S28, hx29, h⟩ := h
  refine x_iastore hC ea24 ha25 hc27 dX4_dropReview_24 ?_
  refine x_tS hx29 ?_
  refine x_aload_n (i := 0) hC dX4_dropReview_25 rfl 0 rfl ?_
  replace h := dr_el h
  obtain ⟨a30, ea31, ha32, h⟩ := h
  refine x_getR hC ea31 ha32 kf_4 0 (by decide) rfl q_172 dX4_dropReview_26 ?_
  replace h := dr_el h
  obtain ⟨a33, ea34, ha35, h⟩ := h
  refine x_getR hC ea34 ha35 kf_2 4 (by decide) rfl q_45 dX4_dropReview_29 ?_
  refine x_iload_n (i := 1) hC dX4_dropReview_32 rfl 1 rfl ?_
  refine x_dup2 hC dX4_dropReview_33 rfl (c_rf (p_R S28 a33 4)) ?_
  replace h := dr_el h
  obtain ⟨a36, ea37, ha38, h⟩ := h
  replace h := ck_el h
  obtain ⟨hc39, h⟩ := h
  refine x_iaload hC ea37 ha38 hc39 dX4_dropReview_34 ?_
  refine x_iconst (v := (1 : Int32)) hC dX4_dropReview_35 (by decide) ?_
  refine x_iadd hC dX4_dropReview_36 ?_
  replace h := ck_el h
  obtain ⟨hc40, h⟩ := h
  replace h := le_el h
  obtain ⟨S41, hx42, h⟩ := h
  refine x_iastore hC ea37 ha38 hc40 dX4_dropReview_37 ?_
  refine x_tS hx42 ?_
  refine x_aload_n (i := 0) hC dX4_dropReview_38 rfl 0 rfl ?_
  refine x_iload_n (i := 1) hC dX4_dropReview_39 rfl 1 rfl ?_
  replace h := dr_el h
  obtain ⟨a43, ea44, ha45, h⟩ := h
  replace h := bd_el h
  obtain ⟨v46, S47, hb48, h⟩ := h
  refine x_callV hC (st := []) (mt_X4_tokensOf _ _ _ _ hb48) ea44 ha45 kf_4 q_369 q_371 qs_10 q_1 q_372 ⟨rfl, hy_X4_tokensOf⟩ ⟨Nat.le_of_ble_eq_true rfl, Nat.le_of_ble_eq_true rfl⟩ ⟨Nat.le_of_ble_eq_true rfl, Nat.le_of_ble_eq_true rfl⟩ rfl (Nat.le_of_ble_eq_true rfl) dX4_dropReview_40 (r_N ?_) r_NX
  show PX Z 3 S47 0 0 43 [(0, va_rf r0), (1, .int i1), (2, .int i2)] [.int v46]
  exact x_iret hC hQ (z_N (Option.some.inj h)) (Nat.le_of_ble_eq_true rfl) (Nat.le_of_ble_eq_true rfl) dX4_dropReview_43
theorem dX4_drop_0 : decode cX4_drop 0 = .ok (.iload_n 1, 1) := by decide +kernel
theorem dX4_drop_1 : decode cX4_drop 1 = .ok (.invokestatic 73, 3) := by decide +kernel
theorem dX4_drop_4 : decode cX4_drop 4 = .ok (.aload_n 0, 1) := by decide +kernel
theorem dX4_drop_5 : decode cX4_drop 5 = .ok (.iload_n 2, 1) := by decide +kernel
theorem dX4_drop_6 : decode cX4_drop 6 = .ok (.invokevirtual 125, 3) := by decide +kernel
theorem dX4_drop_9 : decode cX4_drop 9 = .ok (.aload_n 0, 1) := by decide +kernel
theorem dX4_drop_10 : decode cX4_drop 10 = .ok (.iload_n 1, 1) := by decide +kernel
theorem dX4_drop_11 : decode cX4_drop 11 = .ok (.iload_n 2, 1) := by decide +kernel
theorem dX4_drop_12 : decode cX4_drop 12 = .ok (.invokevirtual 147, 3) := by decide +kernel
theorem dX4_drop_15 : decode cX4_drop 15 = .ok (.ifCond .ne 13, 3) := by decide +kernel
theorem dX4_drop_18 : decode cX4_drop 18 = .ok (.new 58, 3) := by decide +kernel
theorem dX4_drop_21 : decode cX4_drop 21 = .ok (.dup, 1) := by decide +kernel
theorem dX4_drop_22 : decode cX4_drop 22 = .ok (.ldc 150, 2) := by decide +kernel
theorem dX4_drop_24 : decode cX4_drop 24 = .ok (.invokespecial 62, 3) := by decide +kernel
theorem dX4_drop_27 : decode cX4_drop 27 = .ok (.athrow, 1) := by decide +kernel
theorem dX4_drop_28 : decode cX4_drop 28 = .ok (.aload_n 0, 1) := by decide +kernel
theorem dX4_drop_29 : decode cX4_drop 29 = .ok (.getfield 19, 3) := by decide +kernel
theorem dX4_drop_32 : decode cX4_drop 32 = .ok (.aload_n 0, 1) := by decide +kernel
theorem dX4_drop_33 : decode cX4_drop 33 = .ok (.getfield 10, 3) := by decide +kernel
theorem dX4_drop_36 : decode cX4_drop 36 = .ok (.invokevirtual 63, 3) := by decide +kernel
theorem dX4_drop_39 : decode cX4_drop 39 = .ok (.aload_n 0, 1) := by decide +kernel
theorem dX4_drop_40 : decode cX4_drop 40 = .ok (.iload_n 1, 1) := by decide +kernel
theorem dX4_drop_41 : decode cX4_drop 41 = .ok (.iload_n 2, 1) := by decide +kernel
theorem dX4_drop_42 : decode cX4_drop 42 = .ok (.invokevirtual 152, 3) := by decide +kernel
theorem dX4_drop_45 : decode cX4_drop 45 = .ok (.ireturn, 1) := by decide +kernel
set_option maxRecDepth 100000 in
set_option maxHeartbeats 4000000 in
theorem mt_X4_drop (r0 : Option Nat) (i1 : Int32) (i2 : Int32) (S0 : PH) (Q : (Nat ⊕ Int32) → PH → Prop) (h : w_X4_drop r0 i1 i2 S0 Q) : MT yX4_drop (.code yX4_drop cX4_drop 3 (Option.some FieldType.int)) 7 111 21 173 [va_rf r0, .int i1, .int i2] S0 (oQ e_I Q) := by
  refine mt_of (own := RX4) (l0 := [(0, va_rf r0), (1, .int i1), (2, .int i2)]) rfl rfl (by cases r0 <;> exact Nat.le_of_ble_eq_true rfl) (by cases r0 <;> rfl) ?_
  intro Z hC hQ hE hN
  unfold w_X4_drop at h
  refine x_iload_n (i := 1) hC dX4_drop_0 rfl 1 rfl ?_
  replace h := wbt_el h
  obtain ⟨v1, S2, hb36, h⟩ | ⟨j3, S4, hb36, h⟩ := h
  · refine x_callS hC (st := []) (mtr_X4_requirePerson _ _ (v1, S2) hb36) q_313 q_314 q_1 q_315 hy_X4_requirePerson ⟨Nat.le_of_ble_eq_true rfl, Nat.le_of_ble_eq_true rfl⟩ ⟨Nat.le_of_ble_eq_true rfl, Nat.le_of_ble_eq_true rfl⟩ rfl (Nat.le_of_ble_eq_true rfl) dX4_drop_1 (r_N ?_) r_NX
    show PX Z 3 S2 0 0 4 [(0, va_rf r0), (1, .int i1), (2, .int i2)] []
    refine x_aload_n (i := 0) hC dX4_drop_4 rfl 0 rfl ?_
    refine x_iload_n (i := 2) hC dX4_drop_5 rfl 2 rfl ?_
    obtain ⟨a5, ea6, ha7, h⟩ := h
    replace h := wbt_el h
    obtain ⟨v8, S9, hb35, h⟩ | ⟨j10, S11, hb35, h⟩ := h
    · refine x_callV hC (st := []) (mtr_X4_requirePaper _ _ _ (v8, S9) hb35) ea6 ha7 kf_4 q_332 q_334 qs_4 q_1 q_335 ⟨rfl, hy_X4_requirePaper⟩ ⟨Nat.le_of_ble_eq_true rfl, Nat.le_of_ble_eq_true rfl⟩ ⟨Nat.le_of_ble_eq_true rfl, Nat.le_of_ble_eq_true rfl⟩ rfl (Nat.le_of_ble_eq_true rfl) dX4_drop_6 (r_N ?_) r_NX
      show PX Z 3 S9 0 0 9 [(0, va_rf r0), (1, .int i1), (2, .int i2)] []
      refine x_aload_n (i := 0) hC dX4_drop_9 rfl 0 rfl ?_
      refine x_iload_n (i := 1) hC dX4_drop_10 rfl 1 rfl ?_
      refine x_iload_n (i := 2) hC dX4_drop_11 rfl 2 rfl ?_
      obtain ⟨a12, ea13, ha14, h⟩ := h
      obtain ⟨v15, S16, hb17, h⟩ := h
      refine x_callV hC (st := []) (mt_X4_canDrop _ _ _ _ _ hb17) ea13 ha14 kf_4 q_625 q_627 qs_32 q_1 q_628 ⟨rfl, hy_X4_canDrop⟩ ⟨Nat.le_of_ble_eq_true rfl, Nat.le_of_ble_eq_true rfl⟩ ⟨Nat.le_of_ble_eq_true rfl, Nat.le_of_ble_eq_true rfl⟩ rfl (Nat.le_of_ble_eq_true rfl) dX4_drop_12 (r_N ?_) r_NX
      show PX Z 3 S16 0 0 15 [(0, va_rf r0), (1, .int i1), (2, .int i2)] [.int v15]
      refine x_if_ne (t := 28) hC dX4_drop_15 (by decide) (fun c18 => ?_) (fun c18 => ?_)
      · replace h := wit_f c18 h
        refine x_aload_n (i := 0) hC dX4_drop_28 rfl 0 rfl ?_
        obtain ⟨a19, ea20, ha21, h⟩ := h
        refine x_getR hC ea20 ha21 kf_4 1 (by decide) rfl q_173 dX4_drop_29 ?_
        refine x_aload_n (i := 0) hC dX4_drop_32 rfl 0 rfl ?_
        refine x_getR hC ea20 ha21 kf_4 0 (by decide) rfl q_172 dX4_drop_33 ?_
        obtain ⟨a22, ea23, ha24, h⟩ := h
        refine x_callV hC (st := []) (mt_X0_save _ _ _ _ h) ea23 ha24 kf_0 q_280 q_281 q_282 q_4 q_283 ⟨rfl, hy_X0_save⟩ ⟨Nat.le_of_ble_eq_true rfl, Nat.le_of_ble_eq_true rfl⟩ ⟨Nat.le_of_ble_eq_true rfl, Nat.le_of_ble_eq_true rfl⟩ rfl (Nat.le_of_ble_eq_true rfl) dX4_drop_36 (r_W (fun v25 S26 h => ?_)) (r_Wx (fun _ _ h => (wq_l h).elim))
        replace h := wq_r h
        show PX Z 3 S26 21 173 39 [(0, va_rf r0), (1, .int i1), (2, .int i2)] []
        refine x_aload_n (i := 0) hC dX4_drop_39 rfl 0 rfl ?_
        refine x_iload_n (i := 1) hC dX4_drop_40 rfl 1 rfl ?_
        refine x_iload_n (i := 2) hC dX4_drop_41 rfl 2 rfl ?_
        obtain ⟨a29, ea30, ha31, h⟩ := h
        obtain ⟨v32, S33, hb34, h⟩ := h
        refine x_callV hC (st := []) (mt_X4_dropReview _ _ _ _ _ hb34) ea30 ha31 kf_4 q_630 q_632 qs_33 q_1 q_633 ⟨rfl, hy_X4_dropReview⟩ ⟨Nat.le_of_ble_eq_true rfl, Nat.le_of_ble_eq_true rfl⟩ ⟨Nat.le_of_ble_eq_true rfl, Nat.le_of_ble_eq_true rfl⟩ rfl (Nat.le_of_ble_eq_true rfl) dX4_drop_42 (r_N ?_) r_NX
        show PX Z 3 S33 21 173 45 [(0, va_rf r0), (1, .int i1), (2, .int i2)] [.int v32]
        exact x_iret hC hQ (z_W h) (Nat.le_of_ble_eq_true rfl) (Nat.le_of_ble_eq_true rfl) dX4_drop_45
      · replace h := wit_t c18 h
        exact x_throw hC hQ hE (j := 1) (z_Y h) tx_58_62_1 (List.mem_of_getElem? (i := 17) rfl) (Nat.le_of_ble_eq_true rfl) ⟨Nat.le_of_ble_eq_true rfl, Nat.le_of_ble_eq_true rfl⟩ ⟨Nat.le_of_ble_eq_true rfl, Nat.le_of_ble_eq_true rfl⟩ (Nat.le_of_ble_eq_true rfl) (Nat.le_of_ble_eq_true rfl) dX4_drop_18 dX4_drop_21 dX4_drop_22 dX4_drop_24 dX4_drop_27
    · refine x_callV hC (st := []) (mt_X4_requirePaper _ _ _ _ hb35) ea6 ha7 kf_4 q_332 q_334 qs_4 q_1 q_335 ⟨rfl, hy_X4_requirePaper⟩ ⟨Nat.le_of_ble_eq_true rfl, Nat.le_of_ble_eq_true rfl⟩ ⟨Nat.le_of_ble_eq_true rfl, Nat.le_of_ble_eq_true rfl⟩ rfl (Nat.le_of_ble_eq_true rfl) dX4_drop_6 r_X (r_XX ?_)
      exact x_out hC hQ hE (z_Y h) (Nat.le_of_ble_eq_true rfl) (Nat.le_of_ble_eq_true rfl)
  · refine x_callS hC (st := []) (mt_X4_requirePerson _ _ _ hb36) q_313 q_314 q_1 q_315 hy_X4_requirePerson ⟨Nat.le_of_ble_eq_true rfl, Nat.le_of_ble_eq_true rfl⟩ ⟨Nat.le_of_ble_eq_true rfl, Nat.le_of_ble_eq_true rfl⟩ rfl (Nat.le_of_ble_eq_true rfl) dX4_drop_1 r_X (r_XX ?_)
    exact x_out hC hQ hE (z_Y h) (Nat.le_of_ble_eq_true rfl) (Nat.le_of_ble_eq_true rfl)
theorem dX4_reasonAgainstDiscussion_0 : decode cX4_reasonAgainstDiscussion 0 = .ok (.aload_n 0, 1) := by decide +kernel
theorem dX4_reasonAgainstDiscussion_1 : decode cX4_reasonAgainstDiscussion 1 = .ok (.getfield 10, 3) := by decide +kernel
theorem dX4_reasonAgainstDiscussion_4 : decode cX4_reasonAgainstDiscussion 4 = .ok (.getfield 183, 3) := by decide +kernel
theorem dX4_reasonAgainstDiscussion_7 : decode cX4_reasonAgainstDiscussion 7 = .ok (.iload_n 1, 1) := by decide +kernel
theorem dX4_reasonAgainstDiscussion_8 : decode cX4_reasonAgainstDiscussion 8 = .ok (.iaload, 1) := by decide +kernel
theorem dX4_reasonAgainstDiscussion_9 : decode cX4_reasonAgainstDiscussion 9 = .ok (.ifCond .eq 5, 3) := by decide +kernel
theorem dX4_reasonAgainstDiscussion_12 : decode cX4_reasonAgainstDiscussion 12 = .ok (.iconst 1, 1) := by decide +kernel
theorem dX4_reasonAgainstDiscussion_13 : decode cX4_reasonAgainstDiscussion 13 = .ok (.ireturn, 1) := by decide +kernel
theorem dX4_reasonAgainstDiscussion_14 : decode cX4_reasonAgainstDiscussion 14 = .ok (.aload_n 0, 1) := by decide +kernel
theorem dX4_reasonAgainstDiscussion_15 : decode cX4_reasonAgainstDiscussion 15 = .ok (.getfield 10, 3) := by decide +kernel
theorem dX4_reasonAgainstDiscussion_18 : decode cX4_reasonAgainstDiscussion 18 = .ok (.getfield 167, 3) := by decide +kernel
theorem dX4_reasonAgainstDiscussion_21 : decode cX4_reasonAgainstDiscussion 21 = .ok (.iload_n 1, 1) := by decide +kernel
theorem dX4_reasonAgainstDiscussion_22 : decode cX4_reasonAgainstDiscussion 22 = .ok (.aaload, 1) := by decide +kernel
theorem dX4_reasonAgainstDiscussion_23 : decode cX4_reasonAgainstDiscussion 23 = .ok (.invokestatic 175, 3) := by decide +kernel
theorem dX4_reasonAgainstDiscussion_26 : decode cX4_reasonAgainstDiscussion 26 = .ok (.istore_n 2, 1) := by decide +kernel
theorem dX4_reasonAgainstDiscussion_27 : decode cX4_reasonAgainstDiscussion 27 = .ok (.iload_n 2, 1) := by decide +kernel
theorem dX4_reasonAgainstDiscussion_28 : decode cX4_reasonAgainstDiscussion 28 = .ok (.invokestatic 178, 3) := by decide +kernel
theorem dX4_reasonAgainstDiscussion_31 : decode cX4_reasonAgainstDiscussion 31 = .ok (.iconst 2, 1) := by decide +kernel
theorem dX4_reasonAgainstDiscussion_32 : decode cX4_reasonAgainstDiscussion 32 = .ok (.if_icmp .ge 5, 3) := by decide +kernel
theorem dX4_reasonAgainstDiscussion_35 : decode cX4_reasonAgainstDiscussion 35 = .ok (.iconst 2, 1) := by decide +kernel
theorem dX4_reasonAgainstDiscussion_36 : decode cX4_reasonAgainstDiscussion 36 = .ok (.ireturn, 1) := by decide +kernel
theorem dX4_reasonAgainstDiscussion_37 : decode cX4_reasonAgainstDiscussion 37 = .ok (.iconst 0, 1) := by decide +kernel
theorem dX4_reasonAgainstDiscussion_38 : decode cX4_reasonAgainstDiscussion 38 = .ok (.istore_n 3, 1) := by decide +kernel
theorem dX4_reasonAgainstDiscussion_39 : decode cX4_reasonAgainstDiscussion 39 = .ok (.iload_n 3, 1) := by decide +kernel
theorem dX4_reasonAgainstDiscussion_40 : decode cX4_reasonAgainstDiscussion 40 = .ok (.bipush 8, 2) := by decide +kernel
theorem dX4_reasonAgainstDiscussion_42 : decode cX4_reasonAgainstDiscussion 42 = .ok (.if_icmp .ge 28, 3) := by decide +kernel
theorem dX4_reasonAgainstDiscussion_45 : decode cX4_reasonAgainstDiscussion 45 = .ok (.iload_n 2, 1) := by decide +kernel
theorem dX4_reasonAgainstDiscussion_46 : decode cX4_reasonAgainstDiscussion 46 = .ok (.iload_n 3, 1) := by decide +kernel
theorem dX4_reasonAgainstDiscussion_47 : decode cX4_reasonAgainstDiscussion 47 = .ok (.invokestatic 87, 3) := by decide +kernel
theorem dX4_reasonAgainstDiscussion_50 : decode cX4_reasonAgainstDiscussion 50 = .ok (.ifCond .eq 14, 3) := by decide +kernel
theorem dX4_reasonAgainstDiscussion_53 : decode cX4_reasonAgainstDiscussion 53 = .ok (.aload_n 0, 1) := by decide +kernel
theorem dX4_reasonAgainstDiscussion_54 : decode cX4_reasonAgainstDiscussion 54 = .ok (.iload_n 3, 1) := by decide +kernel
theorem dX4_reasonAgainstDiscussion_55 : decode cX4_reasonAgainstDiscussion 55 = .ok (.invokevirtual 316, 3) := by decide +kernel
theorem dX4_reasonAgainstDiscussion_58 : decode cX4_reasonAgainstDiscussion 58 = .ok (.iconst 1, 1) := by decide +kernel
theorem dX4_reasonAgainstDiscussion_59 : decode cX4_reasonAgainstDiscussion 59 = .ok (.if_icmp .ge 5, 3) := by decide +kernel
theorem dX4_reasonAgainstDiscussion_62 : decode cX4_reasonAgainstDiscussion 62 = .ok (.iconst 3, 1) := by decide +kernel
theorem dX4_reasonAgainstDiscussion_63 : decode cX4_reasonAgainstDiscussion 63 = .ok (.ireturn, 1) := by decide +kernel
theorem dX4_reasonAgainstDiscussion_64 : decode cX4_reasonAgainstDiscussion 64 = .ok (.iinc 3 1, 3) := by decide +kernel
theorem dX4_reasonAgainstDiscussion_67 : decode cX4_reasonAgainstDiscussion 67 = .ok (.goto (-28), 3) := by decide +kernel
theorem dX4_reasonAgainstDiscussion_70 : decode cX4_reasonAgainstDiscussion 70 = .ok (.iconst 0, 1) := by decide +kernel
theorem dX4_reasonAgainstDiscussion_71 : decode cX4_reasonAgainstDiscussion 71 = .ok (.ireturn, 1) := by decide +kernel
set_option maxRecDepth 100000 in
set_option maxHeartbeats 4000000 in
theorem mt_X4_reasonAgainstDiscussion (r0 : Option Nat) (i1 : Int32) (S0 : PH) (y : Int32 × PH) (h : m_X4_reasonAgainstDiscussion r0 i1 S0 = some y) : MT yX4_reasonAgainstDiscussion (.code yX4_reasonAgainstDiscussion cX4_reasonAgainstDiscussion 4 (Option.some FieldType.int)) 2 42 0 0 [va_rf r0, .int i1] S0 (oQ e_I (qN y)) := by
  refine mt_of (own := RX4) (l0 := [(0, va_rf r0), (1, .int i1)]) rfl rfl (by cases r0 <;> exact Nat.le_of_ble_eq_true rfl) (by cases r0 <;> rfl) ?_
  intro Z hC hQ hE hN
  unfold m_X4_reasonAgainstDiscussion at h
  refine x_aload_n (i := 0) hC dX4_reasonAgainstDiscussion_0 rfl 0 rfl ?_
  replace h := dr_el h
  obtain ⟨a1, ea2, ha3, h⟩ := h
  refine x_getR hC ea2 ha3 kf_4 0 (by decide) rfl q_172 dX4_reasonAgainstDiscussion_1 ?_
  replace h := dr_el h
  obtain ⟨a4, ea5, ha6, h⟩ := h
  refine x_getR hC ea5 ha6 kf_2 9 (by decide) rfl q_55 dX4_reasonAgainstDiscussion_4 ?_
  refine x_iload_n (i := 1) hC dX4_reasonAgainstDiscussion_7 rfl 1 rfl ?_
  replace h := dr_el h
  obtain ⟨a7, ea8, ha9, h⟩ := h
  replace h := ck_el h
  obtain ⟨hc10, h⟩ := h
  refine x_iaload hC ea8 ha9 hc10 dX4_reasonAgainstDiscussion_8 ?_
  refine x_if_eq (t := 14) hC dX4_reasonAgainstDiscussion_9 (by decide) (fun c11 => ?_) (fun c11 => ?_)
  · replace h := it_t c11 h
    refine x_aload_n (i := 0) hC dX4_reasonAgainstDiscussion_14 rfl 0 rfl ?_
    refine x_getR hC ea2 ha3 kf_4 0 (by decide) rfl q_172 dX4_reasonAgainstDiscussion_15 ?_
    refine x_getR hC ea5 ha6 kf_2 10 (by decide) rfl q_57 dX4_reasonAgainstDiscussion_18 ?_
    refine x_iload_n (i := 1) hC dX4_reasonAgainstDiscussion_21 rfl 1 rfl ?_
    replace h := dr_el h
    obtain ⟨a12, ea13, ha14, h⟩ := h
    replace h := ck_el h
    obtain ⟨hc15, h⟩ := h
    refine x_aaload9 hC ea13 ha14 hc15 dX4_reasonAgainstDiscussion_22 ?_
    replace h := bd_el h
    obtain ⟨v16, S17, hb18, h⟩ := h
    refine x_callS hC (st := []) (mt_X4_writersIn _ _ _ hb18) q_431 q_432 q_1 q_433 hy_X4_writersIn ⟨Nat.le_of_ble_eq_true rfl, Nat.le_of_ble_eq_true rfl⟩ ⟨Nat.le_of_ble_eq_true rfl, Nat.le_of_ble_eq_true rfl⟩ rfl (Nat.le_of_ble_eq_true rfl) dX4_reasonAgainstDiscussion_23 (r_N ?_) r_NX
    show PX Z 4 S17 0 0 26 [(0, va_rf r0), (1, .int i1)] [.int v16]
    refine x_istore_n (i := 2) (l' := [(2, .int v16), (0, va_rf r0), (1, .int i1)]) hC dX4_reasonAgainstDiscussion_26 rfl (⟨fun _ => c_rf r0, ⟨fun _ => rfl, trivial⟩⟩) (by decide) rfl ?_
    refine x_iload_n (i := 2) hC dX4_reasonAgainstDiscussion_27 rfl 0 rfl ?_
    replace h := bd_el h
    obtain ⟨v19, S20, hb21, h⟩ := h
    refine x_callS hC (st := []) (mt_J6_bitCount_0f7a4 _ _ _ hb21) q_352 q_353 q_13 q_354 hy_J6_bitCount_0f7a4 ⟨Nat.le_of_ble_eq_true rfl, Nat.le_of_ble_eq_true rfl⟩ ⟨Nat.le_of_ble_eq_true rfl, Nat.le_of_ble_eq_true rfl⟩ rfl (Nat.le_of_ble_eq_true rfl) dX4_reasonAgainstDiscussion_28 (r_N ?_) r_NX
    show PX Z 4 S20 0 0 31 [(2, .int v16), (0, va_rf r0), (1, .int i1)] [.int v19]
    refine x_iconst (v := (2 : Int32)) hC dX4_reasonAgainstDiscussion_31 (by decide) ?_
    refine x_icmp_ge (t := 37) hC dX4_reasonAgainstDiscussion_32 (by decide) (fun c22 => ?_) (fun c22 => ?_)
    · replace h := it_t c22 h
      refine x_iconst (v := (0 : Int32)) hC dX4_reasonAgainstDiscussion_37 (by decide) ?_
      refine x_istore_n (i := 3) (l' := [(3, .int (0 : Int32)), (2, .int v16), (0, va_rf r0), (1, .int i1)]) hC dX4_reasonAgainstDiscussion_38 rfl (⟨fun _ => rfl, ⟨fun _ => c_rf r0, ⟨fun _ => rfl, trivial⟩⟩⟩) (by decide) rfl ?_
      refine x_sub (l' := [(0, va_rf r0), (1, .int i1), (2, .int v16), (3, .int (0 : Int32))]) [2, 3, 1, 0] rfl ?_
      refine lp_sim (P := fun (t : (Int32 × Int32 × PH)) => PX Z 4 t.2.2 0 0 39 [(0, va_rf r0), (1, .int i1), (2, .int t.1), (3, .int t.2.1)] []) (G := fun r => r = y) ?_ h rfl
      clear h
      intro t x_39 h hg_39
      obtain ⟨v23, v24, S25⟩ := t
      show PX Z 4 S25 0 0 39 [(0, va_rf r0), (1, .int i1), (2, .int v23), (3, .int v24)] []
      unfold st_X4_reasonAgainstDiscussion_39 at h
      refine x_iload_n (i := 3) hC dX4_reasonAgainstDiscussion_39 rfl 3 rfl ?_
      refine x_bipush (v := (8 : Int32)) hC dX4_reasonAgainstDiscussion_40 (by decide) ?_
      refine x_icmp_ge (t := 70) hC dX4_reasonAgainstDiscussion_42 (by decide) (fun c26 => ?_) (fun c26 => ?_)
      · replace h := it_t c26 h
        replace h := ir_x h hg_39
        refine x_iconst (v := (0 : Int32)) hC dX4_reasonAgainstDiscussion_70 (by decide) ?_
        exact x_iret hC hQ (z_N (Option.some.inj h)) (Nat.le_of_ble_eq_true rfl) (Nat.le_of_ble_eq_true rfl) dX4_reasonAgainstDiscussion_71
      · replace h := it_f c26 h
        refine x_iload_n (i := 2) hC dX4_reasonAgainstDiscussion_45 rfl 2 rfl ?_
        refine x_iload_n (i := 3) hC dX4_reasonAgainstDiscussion_46 rfl 3 rfl ?_
        replace h := bd_el h
        obtain ⟨v27, S28, hb29, h⟩ := h
        refine x_callS hC (st := []) (mt_X4_has _ _ _ _ hb29) q_366 q_367 q_1 q_368 hy_X4_has ⟨Nat.le_of_ble_eq_true rfl, Nat.le_of_ble_eq_true rfl⟩ ⟨Nat.le_of_ble_eq_true rfl, Nat.le_of_ble_eq_true rfl⟩ rfl (Nat.le_of_ble_eq_true rfl) dX4_reasonAgainstDiscussion_47 (r_N ?_) r_NX
        show PX Z 4 S28 0 0 50 [(0, va_rf r0), (1, .int i1), (2, .int v23), (3, .int v24)] [.int v27]
        refine x_if_eq (t := 64) hC dX4_reasonAgainstDiscussion_50 (by decide) (fun c30 => ?_) (fun c30 => ?_)
        · replace h := it_t c30 h
          refine x_iinc (i := 3) (v := (v24 + (1 : Int32))) (l' := [(3, .int (v24 + (1 : Int32))), (0, va_rf r0), (1, .int i1), (2, .int v23)]) hC dX4_reasonAgainstDiscussion_64 3 rfl rfl (⟨fun _ => c_rf r0, ⟨fun _ => rfl, ⟨fun _ => rfl, ⟨fun _ => rfl, trivial⟩⟩⟩⟩) (by decide) rfl ?_
          refine x_goto (t := 39) hC dX4_reasonAgainstDiscussion_67 (by decide) ?_
          refine x_sub (l' := [(0, va_rf r0), (1, .int i1), (2, .int v23), (3, .int (v24 + (1 : Int32)))]) [1, 2, 3, 0] rfl ?_
          have hb := bk_x h hg_39
          exact hb
        · replace h := it_f c30 h
          refine x_aload_n (i := 0) hC dX4_reasonAgainstDiscussion_53 rfl 0 rfl ?_
          refine x_iload_n (i := 3) hC dX4_reasonAgainstDiscussion_54 rfl 3 rfl ?_
          replace h := dr_el h
          obtain ⟨a31, ea32, ha33, h⟩ := h
          replace h := bd_el h
          obtain ⟨v34, S35, hb36, h⟩ := h
          refine x_callV hC (st := []) (mt_X4_tokensOf _ _ _ _ hb36) ea32 ha33 kf_4 q_369 q_371 qs_10 q_1 q_372 ⟨rfl, hy_X4_tokensOf⟩ ⟨Nat.le_of_ble_eq_true rfl, Nat.le_of_ble_eq_true rfl⟩ ⟨Nat.le_of_ble_eq_true rfl, Nat.le_of_ble_eq_true rfl⟩ rfl (Nat.le_of_ble_eq_true rfl) dX4_reasonAgainstDiscussion_55 (r_N ?_) r_NX
          show PX Z 4 S35 0 0 58 [(0, va_rf r0), (1, .int i1), (2, .int v23), (3, .int v24)] [.int v34]
          refine x_iconst (v := (1 : Int32)) hC dX4_reasonAgainstDiscussion_58 (by decide) ?_
          refine x_icmp_ge (t := 64) hC dX4_reasonAgainstDiscussion_59 (by decide) (fun c37 => ?_) (fun c37 => ?_)
          · replace h := it_t c37 h
            refine x_iinc (i := 3) (v := (v24 + (1 : Int32))) (l' := [(3, .int (v24 + (1 : Int32))), (0, va_rf r0), (1, .int i1), (2, .int v23)]) hC dX4_reasonAgainstDiscussion_64 3 rfl rfl (⟨fun _ => c_rf r0, ⟨fun _ => rfl, ⟨fun _ => rfl, ⟨fun _ => rfl, trivial⟩⟩⟩⟩) (by decide) rfl ?_
            refine x_goto (t := 39) hC dX4_reasonAgainstDiscussion_67 (by decide) ?_
            refine x_sub (l' := [(0, va_rf r0), (1, .int i1), (2, .int v23), (3, .int (v24 + (1 : Int32)))]) [1, 2, 3, 0] rfl ?_
            have hb := bk_x h hg_39
            exact hb
          · replace h := it_f c37 h
            replace h := ir_x h hg_39
            refine x_iconst (v := (3 : Int32)) hC dX4_reasonAgainstDiscussion_62 (by decide) ?_
            exact x_iret hC hQ (z_N (Option.some.inj h)) (Nat.le_of_ble_eq_true rfl) (Nat.le_of_ble_eq_true rfl) dX4_reasonAgainstDiscussion_63
    · replace h := it_f c22 h
      refine x_iconst (v := (2 : Int32)) hC dX4_reasonAgainstDiscussion_35 (by decide) ?_
      exact x_iret hC hQ (z_N (Option.some.inj h)) (Nat.le_of_ble_eq_true rfl) (Nat.le_of_ble_eq_true rfl) dX4_reasonAgainstDiscussion_36
  · replace h := it_f c11 h
    refine x_iconst (v := (1 : Int32)) hC dX4_reasonAgainstDiscussion_12 (by decide) ?_
    exact x_iret hC hQ (z_N (Option.some.inj h)) (Nat.le_of_ble_eq_true rfl) (Nat.le_of_ble_eq_true rfl) dX4_reasonAgainstDiscussion_13
theorem dX4_sumIn_0 : decode cX4_sumIn 0 = .ok (.iconst 0, 1) := by decide +kernel
theorem dX4_sumIn_1 : decode cX4_sumIn 1 = .ok (.istore_n 1, 1) := by decide +kernel
theorem dX4_sumIn_2 : decode cX4_sumIn 2 = .ok (.iconst 0, 1) := by decide +kernel
theorem dX4_sumIn_3 : decode cX4_sumIn 3 = .ok (.istore_n 2, 1) := by decide +kernel
theorem dX4_sumIn_4 : decode cX4_sumIn 4 = .ok (.iload_n 2, 1) := by decide +kernel
theorem dX4_sumIn_5 : decode cX4_sumIn 5 = .ok (.aload_n 0, 1) := by decide +kernel
theorem dX4_sumIn_6 : decode cX4_sumIn 6 = .ok (.arraylength, 1) := by decide +kernel
theorem dX4_sumIn_7 : decode cX4_sumIn 7 = .ok (.if_icmp .ge 24, 3) := by decide +kernel
theorem dX4_sumIn_10 : decode cX4_sumIn 10 = .ok (.aload_n 0, 1) := by decide +kernel
theorem dX4_sumIn_11 : decode cX4_sumIn 11 = .ok (.iload_n 2, 1) := by decide +kernel
theorem dX4_sumIn_12 : decode cX4_sumIn 12 = .ok (.iaload, 1) := by decide +kernel
theorem dX4_sumIn_13 : decode cX4_sumIn 13 = .ok (.invokestatic 132, 3) := by decide +kernel
theorem dX4_sumIn_16 : decode cX4_sumIn 16 = .ok (.ifCond .eq 9, 3) := by decide +kernel
theorem dX4_sumIn_19 : decode cX4_sumIn 19 = .ok (.iload_n 1, 1) := by decide +kernel
theorem dX4_sumIn_20 : decode cX4_sumIn 20 = .ok (.aload_n 0, 1) := by decide +kernel
theorem dX4_sumIn_21 : decode cX4_sumIn 21 = .ok (.iload_n 2, 1) := by decide +kernel
theorem dX4_sumIn_22 : decode cX4_sumIn 22 = .ok (.iaload, 1) := by decide +kernel
theorem dX4_sumIn_23 : decode cX4_sumIn 23 = .ok (.iadd, 1) := by decide +kernel
theorem dX4_sumIn_24 : decode cX4_sumIn 24 = .ok (.istore_n 1, 1) := by decide +kernel
theorem dX4_sumIn_25 : decode cX4_sumIn 25 = .ok (.iinc 2 1, 3) := by decide +kernel
theorem dX4_sumIn_28 : decode cX4_sumIn 28 = .ok (.goto (-24), 3) := by decide +kernel
theorem dX4_sumIn_31 : decode cX4_sumIn 31 = .ok (.iload_n 1, 1) := by decide +kernel
theorem dX4_sumIn_32 : decode cX4_sumIn 32 = .ok (.ireturn, 1) := by decide +kernel
set_option maxRecDepth 100000 in
set_option maxHeartbeats 4000000 in
theorem mt_X4_sumIn (r0 : Option Nat) (S0 : PH) (y : Int32 × PH) (h : m_X4_sumIn r0 S0 = some y) : MT yX4_sumIn (.code yX4_sumIn cX4_sumIn 3 (Option.some FieldType.int)) 1 20 0 0 [va_rf r0] S0 (oQ e_I (qN y)) := by
  refine mt_of (own := RX4) (l0 := [(0, va_rf r0)]) rfl rfl (by cases r0 <;> exact Nat.le_of_ble_eq_true rfl) (by cases r0 <;> rfl) ?_
  intro Z hC hQ hE hN
  unfold m_X4_sumIn at h
  refine x_iconst (v := (0 : Int32)) hC dX4_sumIn_0 (by decide) ?_
  refine x_istore_n (i := 1) (l' := [(1, .int (0 : Int32)), (0, va_rf r0)]) hC dX4_sumIn_1 rfl (⟨fun _ => c_rf r0, trivial⟩) (by decide) rfl ?_
  refine x_iconst (v := (0 : Int32)) hC dX4_sumIn_2 (by decide) ?_
  refine x_istore_n (i := 2) (l' := [(2, .int (0 : Int32)), (1, .int (0 : Int32)), (0, va_rf r0)]) hC dX4_sumIn_3 rfl (⟨fun _ => rfl, ⟨fun _ => c_rf r0, trivial⟩⟩) (by decide) rfl ?_
  refine x_sub (l' := [(0, va_rf r0), (1, .int (0 : Int32)), (2, .int (0 : Int32))]) [2, 1, 0] rfl ?_
  refine lp_sim (P := fun (t : (Int32 × Int32 × PH)) => PX Z 3 t.2.2 0 0 4 [(0, va_rf r0), (1, .int t.1), (2, .int t.2.1)] []) (G := fun r => r = y) ?_ h rfl
  clear h
  intro t x_4 h hg_4
  obtain ⟨v1, v2, S3⟩ := t
  show PX Z 3 S3 0 0 4 [(0, va_rf r0), (1, .int v1), (2, .int v2)] []
  unfold st_X4_sumIn_4 at h
  refine x_iload_n (i := 2) hC dX4_sumIn_4 rfl 2 rfl ?_
  refine x_aload_n (i := 0) hC dX4_sumIn_5 rfl 0 rfl ?_
  replace h := dr_el h
  obtain ⟨a4, ea5, ha6, h⟩ := h
  refine x_alen6 hC ea5 ha6 dX4_sumIn_6 ?_
  refine x_icmp_ge (t := 31) hC dX4_sumIn_7 (by decide) (fun c7 => ?_) (fun c7 => ?_)
  · replace h := it_t c7 h
    replace h := ir_x h hg_4
    refine x_iload_n (i := 1) hC dX4_sumIn_31 rfl 1 rfl ?_
    exact x_iret hC hQ (z_N (Option.some.inj h)) (Nat.le_of_ble_eq_true rfl) (Nat.le_of_ble_eq_true rfl) dX4_sumIn_32
  · replace h := it_f c7 h
    refine x_aload_n (i := 0) hC dX4_sumIn_10 rfl 0 rfl ?_
    refine x_iload_n (i := 2) hC dX4_sumIn_11 rfl 2 rfl ?_
    replace h := ck_el h
    obtain ⟨hc8, h⟩ := h
    refine x_iaload hC ea5 ha6 hc8 dX4_sumIn_12 ?_
    replace h := bd_el h
    obtain ⟨v9, S10, hb11, h⟩ := h
    refine x_callS hC (st := []) (mt_X4_isScore _ _ _ hb11) q_434 q_435 q_1 q_436 hy_X4_isScore ⟨Nat.le_of_ble_eq_true rfl, Nat.le_of_ble_eq_true rfl⟩ ⟨Nat.le_of_ble_eq_true rfl, Nat.le_of_ble_eq_true rfl⟩ rfl (Nat.le_of_ble_eq_true rfl) dX4_sumIn_13 (r_N ?_) r_NX
    show PX Z 3 S10 0 0 16 [(0, va_rf r0), (1, .int v1), (2, .int v2)] [.int v9]
    refine x_if_eq (t := 25) hC dX4_sumIn_16 (by decide) (fun c12 => ?_) (fun c12 => ?_)
    · replace h := it_t c12 h
      refine x_iinc (i := 2) (v := (v2 + (1 : Int32))) (l' := [(2, .int (v2 + (1 : Int32))), (0, va_rf r0), (1, .int v1)]) hC dX4_sumIn_25 2 rfl rfl (⟨fun _ => c_rf r0, ⟨fun _ => rfl, ⟨fun _ => rfl, trivial⟩⟩⟩) (by decide) rfl ?_
      refine x_goto (t := 4) hC dX4_sumIn_28 (by decide) ?_
      refine x_sub (l' := [(0, va_rf r0), (1, .int v1), (2, .int (v2 + (1 : Int32)))]) [1, 2, 0] rfl ?_
      have hb := bk_x h hg_4
      exact hb
    · replace h := it_f c12 h
      refine x_iload_n (i := 1) hC dX4_sumIn_19 rfl 1 rfl ?_
      refine x_aload_n (i := 0) hC dX4_sumIn_20 rfl 0 rfl ?_
      refine x_iload_n (i := 2) hC dX4_sumIn_21 rfl 2 rfl ?_
      replace h := dr_el h
      obtain ⟨a13, ea14, ha15, h⟩ := h
      replace h := ck_el h
      obtain ⟨hc16, h⟩ := h
      refine x_iaload hC ea14 ha15 hc16 dX4_sumIn_22 ?_
      refine x_iadd hC dX4_sumIn_23 ?_
      replace h := le_el h
      obtain ⟨x17, hx18, h⟩ := h
      refine x_tI hx18 ?_
      refine x_istore_n (i := 1) (l' := [(1, .int x17), (0, va_rf r0), (2, .int v2)]) hC dX4_sumIn_24 rfl (⟨fun _ => c_rf r0, ⟨fun _ => rfl, ⟨fun _ => rfl, trivial⟩⟩⟩) (by decide) rfl ?_
      refine x_iinc (i := 2) (v := (v2 + (1 : Int32))) (l' := [(2, .int (v2 + (1 : Int32))), (1, .int x17), (0, va_rf r0)]) hC dX4_sumIn_25 2 rfl rfl (⟨fun _ => rfl, ⟨fun _ => c_rf r0, ⟨fun _ => rfl, trivial⟩⟩⟩) (by decide) rfl ?_
      refine x_goto (t := 4) hC dX4_sumIn_28 (by decide) ?_
      refine x_sub (l' := [(0, va_rf r0), (1, .int x17), (2, .int (v2 + (1 : Int32)))]) [2, 1, 0] rfl ?_
      have hb := bk_x h hg_4
      exact hb
theorem dX4_bringNearer_0 : decode cX4_bringNearer 0 = .ok (.aload_n 0, 1) := by decide +kernel
theorem dX4_bringNearer_1 : decode cX4_bringNearer 1 = .ok (.invokestatic 175, 3) := by decide +kernel
theorem dX4_bringNearer_4 : decode cX4_bringNearer 4 = .ok (.invokestatic 178, 3) := by decide +kernel
theorem dX4_bringNearer_7 : decode cX4_bringNearer 7 = .ok (.istore_n 1, 1) := by decide +kernel
theorem dX4_bringNearer_8 : decode cX4_bringNearer 8 = .ok (.iload_n 1, 1) := by decide +kernel
theorem dX4_bringNearer_9 : decode cX4_bringNearer 9 = .ok (.ifCond .ne 5, 3) := by decide +kernel
theorem dX4_bringNearer_12 : decode cX4_bringNearer 12 = .ok (.iconst 0, 1) := by decide +kernel
theorem dX4_bringNearer_13 : decode cX4_bringNearer 13 = .ok (.ireturn, 1) := by decide +kernel
theorem dX4_bringNearer_14 : decode cX4_bringNearer 14 = .ok (.aload_n 0, 1) := by decide +kernel
theorem dX4_bringNearer_15 : decode cX4_bringNearer 15 = .ok (.invokestatic 171, 3) := by decide +kernel
theorem dX4_bringNearer_18 : decode cX4_bringNearer 18 = .ok (.iload_n 1, 1) := by decide +kernel
theorem dX4_bringNearer_19 : decode cX4_bringNearer 19 = .ok (.idiv, 1) := by decide +kernel
theorem dX4_bringNearer_20 : decode cX4_bringNearer 20 = .ok (.istore_n 2, 1) := by decide +kernel
theorem dX4_bringNearer_21 : decode cX4_bringNearer 21 = .ok (.iconst 0, 1) := by decide +kernel
theorem dX4_bringNearer_22 : decode cX4_bringNearer 22 = .ok (.istore_n 3, 1) := by decide +kernel
theorem dX4_bringNearer_23 : decode cX4_bringNearer 23 = .ok (.iconst 0, 1) := by decide +kernel
theorem dX4_bringNearer_24 : decode cX4_bringNearer 24 = .ok (.istore 4, 2) := by decide +kernel
theorem dX4_bringNearer_26 : decode cX4_bringNearer 26 = .ok (.iload 4, 2) := by decide +kernel
theorem dX4_bringNearer_28 : decode cX4_bringNearer 28 = .ok (.aload_n 0, 1) := by decide +kernel
theorem dX4_bringNearer_29 : decode cX4_bringNearer 29 = .ok (.arraylength, 1) := by decide +kernel
theorem dX4_bringNearer_30 : decode cX4_bringNearer 30 = .ok (.if_icmp .ge 50, 3) := by decide +kernel
theorem dX4_bringNearer_33 : decode cX4_bringNearer 33 = .ok (.aload_n 0, 1) := by decide +kernel
theorem dX4_bringNearer_34 : decode cX4_bringNearer 34 = .ok (.iload 4, 2) := by decide +kernel
theorem dX4_bringNearer_36 : decode cX4_bringNearer 36 = .ok (.iaload, 1) := by decide +kernel
theorem dX4_bringNearer_37 : decode cX4_bringNearer 37 = .ok (.invokestatic 132, 3) := by decide +kernel
theorem dX4_bringNearer_40 : decode cX4_bringNearer 40 = .ok (.ifCond .eq 34, 3) := by decide +kernel
theorem dX4_bringNearer_43 : decode cX4_bringNearer 43 = .ok (.aload_n 0, 1) := by decide +kernel
theorem dX4_bringNearer_44 : decode cX4_bringNearer 44 = .ok (.iload 4, 2) := by decide +kernel
theorem dX4_bringNearer_46 : decode cX4_bringNearer 46 = .ok (.iaload, 1) := by decide +kernel
theorem dX4_bringNearer_47 : decode cX4_bringNearer 47 = .ok (.iload_n 2, 1) := by decide +kernel
theorem dX4_bringNearer_48 : decode cX4_bringNearer 48 = .ok (.if_icmp .eq 26, 3) := by decide +kernel
theorem dX4_bringNearer_51 : decode cX4_bringNearer 51 = .ok (.aload_n 0, 1) := by decide +kernel
theorem dX4_bringNearer_52 : decode cX4_bringNearer 52 = .ok (.iload 4, 2) := by decide +kernel
theorem dX4_bringNearer_54 : decode cX4_bringNearer 54 = .ok (.dup2, 1) := by decide +kernel
theorem dX4_bringNearer_55 : decode cX4_bringNearer 55 = .ok (.iaload, 1) := by decide +kernel
theorem dX4_bringNearer_56 : decode cX4_bringNearer 56 = .ok (.aload_n 0, 1) := by decide +kernel
theorem dX4_bringNearer_57 : decode cX4_bringNearer 57 = .ok (.iload 4, 2) := by decide +kernel
theorem dX4_bringNearer_59 : decode cX4_bringNearer 59 = .ok (.iaload, 1) := by decide +kernel
theorem dX4_bringNearer_60 : decode cX4_bringNearer 60 = .ok (.iload_n 2, 1) := by decide +kernel
theorem dX4_bringNearer_61 : decode cX4_bringNearer 61 = .ok (.if_icmp .ge 7, 3) := by decide +kernel
theorem dX4_bringNearer_64 : decode cX4_bringNearer 64 = .ok (.iconst 1, 1) := by decide +kernel
theorem dX4_bringNearer_65 : decode cX4_bringNearer 65 = .ok (.goto 4, 3) := by decide +kernel
theorem dX4_bringNearer_68 : decode cX4_bringNearer 68 = .ok (.iconst (-1), 1) := by decide +kernel
theorem dX4_bringNearer_69 : decode cX4_bringNearer 69 = .ok (.iadd, 1) := by decide +kernel
theorem dX4_bringNearer_70 : decode cX4_bringNearer 70 = .ok (.iastore, 1) := by decide +kernel
theorem dX4_bringNearer_71 : decode cX4_bringNearer 71 = .ok (.iinc 3 1, 3) := by decide +kernel
theorem dX4_bringNearer_74 : decode cX4_bringNearer 74 = .ok (.iinc 4 1, 3) := by decide +kernel
theorem dX4_bringNearer_77 : decode cX4_bringNearer 77 = .ok (.goto (-51), 3) := by decide +kernel
theorem dX4_bringNearer_80 : decode cX4_bringNearer 80 = .ok (.iload_n 3, 1) := by decide +kernel
theorem dX4_bringNearer_81 : decode cX4_bringNearer 81 = .ok (.ireturn, 1) := by decide +kernel
set_option maxRecDepth 100000 in
set_option maxHeartbeats 4000000 in
theorem mt_X4_bringNearer (r0 : Option Nat) (S0 : PH) (y : Int32 × PH) (h : m_X4_bringNearer r0 S0 = some y) : MT yX4_bringNearer (.code yX4_bringNearer cX4_bringNearer 5 (Option.some FieldType.int)) 2 42 0 0 [va_rf r0] S0 (oQ e_I (qN y)) := by
  refine mt_of (own := RX4) (l0 := [(0, va_rf r0)]) rfl rfl (by cases r0 <;> exact Nat.le_of_ble_eq_true rfl) (by cases r0 <;> rfl) ?_
  intro Z hC hQ hE hN
  unfold m_X4_bringNearer at h
  refine x_aload_n (i := 0) hC dX4_bringNearer_0 rfl 0 rfl ?_
  replace h := bd_el h
  obtain ⟨v1, S2, hb3, h⟩ := h
  refine x_callS hC (st := []) (mt_X4_writersIn _ _ _ hb3) q_431 q_432 q_1 q_433 hy_X4_writersIn ⟨Nat.le_of_ble_eq_true rfl, Nat.le_of_ble_eq_true rfl⟩ ⟨Nat.le_of_ble_eq_true rfl, Nat.le_of_ble_eq_true rfl⟩ rfl (Nat.le_of_ble_eq_true rfl) dX4_bringNearer_1 (r_N ?_) r_NX
  show PX Z 5 S2 0 0 4 [(0, va_rf r0)] [.int v1]
  replace h := bd_el h
  obtain ⟨v4, S5, hb6, h⟩ := h
  refine x_callS hC (st := []) (mt_J6_bitCount_0f7a4 _ _ _ hb6) q_352 q_353 q_13 q_354 hy_J6_bitCount_0f7a4 ⟨Nat.le_of_ble_eq_true rfl, Nat.le_of_ble_eq_true rfl⟩ ⟨Nat.le_of_ble_eq_true rfl, Nat.le_of_ble_eq_true rfl⟩ rfl (Nat.le_of_ble_eq_true rfl) dX4_bringNearer_4 (r_N ?_) r_NX
  show PX Z 5 S5 0 0 7 [(0, va_rf r0)] [.int v4]
  refine x_istore_n (i := 1) (l' := [(1, .int v4), (0, va_rf r0)]) hC dX4_bringNearer_7 rfl (⟨fun _ => c_rf r0, trivial⟩) (by decide) rfl ?_
  refine x_iload_n (i := 1) hC dX4_bringNearer_8 rfl 0 rfl ?_
  refine x_if_ne (t := 14) hC dX4_bringNearer_9 (by decide) (fun c7 => ?_) (fun c7 => ?_)
  · replace h := it_f c7 h
    refine x_aload_n (i := 0) hC dX4_bringNearer_14 rfl 1 rfl ?_
    replace h := bd_el h
    obtain ⟨v8, S9, hb10, h⟩ := h
    refine x_callS hC (st := []) (mt_X4_sumIn _ _ _ hb10) q_536 q_537 q_1 q_538 hy_X4_sumIn ⟨Nat.le_of_ble_eq_true rfl, Nat.le_of_ble_eq_true rfl⟩ ⟨Nat.le_of_ble_eq_true rfl, Nat.le_of_ble_eq_true rfl⟩ rfl (Nat.le_of_ble_eq_true rfl) dX4_bringNearer_15 (r_N ?_) r_NX
    show PX Z 5 S9 0 0 18 [(1, .int v4), (0, va_rf r0)] [.int v8]
    refine x_iload_n (i := 1) hC dX4_bringNearer_18 rfl 0 rfl ?_
    replace h := ck_el h
    obtain ⟨hc11, h⟩ := h
    refine x_idiv hC dX4_bringNearer_19 (of_decide_eq_true hc11) ?_
    replace h := le_el h
    obtain ⟨x12, hx13, h⟩ := h
    refine x_tI hx13 ?_
    refine x_istore_n (i := 2) (l' := [(2, .int x12), (1, .int v4), (0, va_rf r0)]) hC dX4_bringNearer_20 rfl (⟨fun _ => rfl, ⟨fun _ => c_rf r0, trivial⟩⟩) (by decide) rfl ?_
    refine x_iconst (v := (0 : Int32)) hC dX4_bringNearer_21 (by decide) ?_
    refine x_istore_n (i := 3) (l' := [(3, .int (0 : Int32)), (2, .int x12), (1, .int v4), (0, va_rf r0)]) hC dX4_bringNearer_22 rfl (⟨fun _ => rfl, ⟨fun _ => rfl, ⟨fun _ => c_rf r0, trivial⟩⟩⟩) (by decide) rfl ?_
    refine x_iconst (v := (0 : Int32)) hC dX4_bringNearer_23 (by decide) ?_
    refine x_istore (i := 4) (l' := [(4, .int (0 : Int32)), (3, .int (0 : Int32)), (2, .int x12), (1, .int v4), (0, va_rf r0)]) hC dX4_bringNearer_24 (⟨fun _ => rfl, ⟨fun _ => rfl, ⟨fun _ => rfl, ⟨fun _ => c_rf r0, trivial⟩⟩⟩⟩) (by decide) rfl ?_
    refine x_sub (l' := [(0, va_rf r0), (2, .int x12), (3, .int (0 : Int32)), (4, .int (0 : Int32))]) [4, 2, 1, 0] rfl ?_
    refine lp_sim (P := fun (t : (Int32 × Int32 × Int32 × PH)) => PX Z 5 t.2.2.2 0 0 26 [(0, va_rf r0), (2, .int t.1), (3, .int t.2.1), (4, .int t.2.2.1)] []) (G := fun r => r = y) ?_ h rfl
    clear h
    intro t x_26 h hg_26
    obtain ⟨v14, v15, v16, S17⟩ := t
    show PX Z 5 S17 0 0 26 [(0, va_rf r0), (2, .int v14), (3, .int v15), (4, .int v16)] []
    have J_69 : ∀ (v35 : Int32) (v36 : Int32) (v37 : Int32) (v38 : Option Nat) (v39 : Int32) (v40 : Int32) (v41 : Int32) (S42 : PH), j_X4_bringNearer_69 r0 v35 v36 v37 v38 v39 v40 v41 S42 = some x_26 → PX Z 5 S42 0 0 69 [(0, va_rf r0), (2, .int v35), (3, .int v36), (4, .int v37)] [.int v41, .int v40, .int v39, va_rf v38] := by
      intro v35 v36 v37 v38 v39 v40 v41 S42 h
      unfold j_X4_bringNearer_69 at h
      refine x_iadd hC dX4_bringNearer_69 ?_
      replace h := dr_el h
      obtain ⟨a43, ea44, ha45, h⟩ := h
      replace h := ck_el h
      obtain ⟨hc46, h⟩ := h
      replace h := le_el h
      obtain ⟨S47, hx48, h⟩ := h
      refine x_iastore hC ea44 ha45 hc46 dX4_bringNearer_70 ?_
      refine x_tS hx48 ?_
      refine x_iinc (i := 3) (v := (v36 + (1 : Int32))) (l' := [(3, .int (v36 + (1 : Int32))), (0, va_rf r0), (2, .int v35), (4, .int v37)]) hC dX4_bringNearer_71 2 rfl rfl (⟨fun _ => c_rf r0, ⟨fun _ => rfl, ⟨fun _ => rfl, ⟨fun _ => rfl, trivial⟩⟩⟩⟩) (by decide) rfl ?_
      refine x_iinc (i := 4) (v := (v37 + (1 : Int32))) (l' := [(4, .int (v37 + (1 : Int32))), (3, .int (v36 + (1 : Int32))), (0, va_rf r0), (2, .int v35)]) hC dX4_bringNearer_74 3 rfl rfl (⟨fun _ => rfl, ⟨fun _ => c_rf r0, ⟨fun _ => rfl, ⟨fun _ => rfl, trivial⟩⟩⟩⟩) (by decide) rfl ?_
      refine x_goto (t := 26) hC dX4_bringNearer_77 (by decide) ?_
      refine x_sub (l' := [(0, va_rf r0), (2, .int v35), (3, .int (v36 + (1 : Int32))), (4, .int (v37 + (1 : Int32)))]) [2, 3, 1, 0] rfl ?_
      have hb := bk_x h hg_26
      exact hb
    unfold st_X4_bringNearer_26 at h
    refine x_iload (i := 4) hC dX4_bringNearer_26 3 rfl ?_
    refine x_aload_n (i := 0) hC dX4_bringNearer_28 rfl 0 rfl ?_
    replace h := dr_el h
    obtain ⟨a18, ea19, ha20, h⟩ := h
    refine x_alen6 hC ea19 ha20 dX4_bringNearer_29 ?_
    refine x_icmp_ge (t := 80) hC dX4_bringNearer_30 (by decide) (fun c21 => ?_) (fun c21 => ?_)
    · replace h := it_t c21 h
      replace h := ir_x h hg_26
      refine x_iload_n (i := 3) hC dX4_bringNearer_80 rfl 2 rfl ?_
      exact x_iret hC hQ (z_N (Option.some.inj h)) (Nat.le_of_ble_eq_true rfl) (Nat.le_of_ble_eq_true rfl) dX4_bringNearer_81
    · replace h := it_f c21 h
      refine x_aload_n (i := 0) hC dX4_bringNearer_33 rfl 0 rfl ?_
      refine x_iload (i := 4) hC dX4_bringNearer_34 3 rfl ?_
      replace h := ck_el h
      obtain ⟨hc22, h⟩ := h
      refine x_iaload hC ea19 ha20 hc22 dX4_bringNearer_36 ?_
      replace h := bd_el h
      obtain ⟨v23, S24, hb25, h⟩ := h
      refine x_callS hC (st := []) (mt_X4_isScore _ _ _ hb25) q_434 q_435 q_1 q_436 hy_X4_isScore ⟨Nat.le_of_ble_eq_true rfl, Nat.le_of_ble_eq_true rfl⟩ ⟨Nat.le_of_ble_eq_true rfl, Nat.le_of_ble_eq_true rfl⟩ rfl (Nat.le_of_ble_eq_true rfl) dX4_bringNearer_37 (r_N ?_) r_NX
      show PX Z 5 S24 0 0 40 [(0, va_rf r0), (2, .int v14), (3, .int v15), (4, .int v16)] [.int v23]
      refine x_if_eq (t := 74) hC dX4_bringNearer_40 (by decide) (fun c26 => ?_) (fun c26 => ?_)
      · replace h := it_t c26 h
        refine x_iinc (i := 4) (v := (v16 + (1 : Int32))) (l' := [(4, .int (v16 + (1 : Int32))), (0, va_rf r0), (2, .int v14), (3, .int v15)]) hC dX4_bringNearer_74 3 rfl rfl (⟨fun _ => c_rf r0, ⟨fun _ => rfl, ⟨fun _ => rfl, ⟨fun _ => rfl, trivial⟩⟩⟩⟩) (by decide) rfl ?_
        refine x_goto (t := 26) hC dX4_bringNearer_77 (by decide) ?_
        refine x_sub (l' := [(0, va_rf r0), (2, .int v14), (3, .int v15), (4, .int (v16 + (1 : Int32)))]) [1, 2, 3, 0] rfl ?_
        have hb := bk_x h hg_26
        exact hb
      · replace h := it_f c26 h
        refine x_aload_n (i := 0) hC dX4_bringNearer_43 rfl 0 rfl ?_
        refine x_iload (i := 4) hC dX4_bringNearer_44 3 rfl ?_
        replace h := dr_el h
        obtain ⟨a27, ea28, ha29, h⟩ := h
        replace h := ck_el h
        obtain ⟨hc30, h⟩ := h
        refine x_iaload hC ea28 ha29 hc30 dX4_bringNearer_46 ?_
        refine x_iload_n (i := 2) hC dX4_bringNearer_47 rfl 1 rfl ?_
        refine x_icmp_eq (t := 74) hC dX4_bringNearer_48 (by decide) (fun c31 => ?_) (fun c31 => ?_)
        · replace h := it_t c31 h
          refine x_iinc (i := 4) (v := (v16 + (1 : Int32))) (l' := [(4, .int (v16 + (1 : Int32))), (0, va_rf r0), (2, .int v14), (3, .int v15)]) hC dX4_bringNearer_74 3 rfl rfl (⟨fun _ => c_rf r0, ⟨fun _ => rfl, ⟨fun _ => rfl, ⟨fun _ => rfl, trivial⟩⟩⟩⟩) (by decide) rfl ?_
          refine x_goto (t := 26) hC dX4_bringNearer_77 (by decide) ?_
          refine x_sub (l' := [(0, va_rf r0), (2, .int v14), (3, .int v15), (4, .int (v16 + (1 : Int32)))]) [1, 2, 3, 0] rfl ?_
          have hb := bk_x h hg_26
          exact hb
        · replace h := it_f c31 h
          refine x_aload_n (i := 0) hC dX4_bringNearer_51 rfl 0 rfl ?_
          refine x_iload (i := 4) hC dX4_bringNearer_52 3 rfl ?_
          refine x_dup2 hC dX4_bringNearer_54 rfl (c_rf r0) ?_
          replace h := ck_el h
          obtain ⟨hc32, h⟩ := h
          refine x_iaload hC ea28 ha29 hc32 dX4_bringNearer_55 ?_
          refine x_aload_n (i := 0) hC dX4_bringNearer_56 rfl 0 rfl ?_
          refine x_iload (i := 4) hC dX4_bringNearer_57 3 rfl ?_
          replace h := ck_el h
          obtain ⟨hc33, h⟩ := h
          refine x_iaload hC ea28 ha29 hc33 dX4_bringNearer_59 ?_
          refine x_iload_n (i := 2) hC dX4_bringNearer_60 rfl 1 rfl ?_
          refine x_icmp_ge (t := 68) hC dX4_bringNearer_61 (by decide) (fun c34 => ?_) (fun c34 => ?_)
          · replace h := it_t c34 h
            refine x_iconst (v := (-1 : Int32)) hC dX4_bringNearer_68 (by decide) ?_
            exact J_69 _ _ _ _ _ _ _ _ h
          · replace h := it_f c34 h
            refine x_iconst (v := (1 : Int32)) hC dX4_bringNearer_64 (by decide) ?_
            refine x_goto (t := 69) hC dX4_bringNearer_65 (by decide) ?_
            exact J_69 _ _ _ _ _ _ _ _ h
  · replace h := it_t c7 h
    refine x_iconst (v := (0 : Int32)) hC dX4_bringNearer_12 (by decide) ?_
    exact x_iret hC hQ (z_N (Option.some.inj h)) (Nat.le_of_ble_eq_true rfl) (Nat.le_of_ble_eq_true rfl) dX4_bringNearer_13
theorem dX4_discussPaper_0 : decode cX4_discussPaper 0 = .ok (.aload_n 0, 1) := by decide +kernel
theorem dX4_discussPaper_1 : decode cX4_discussPaper 1 = .ok (.iload_n 1, 1) := by decide +kernel
theorem dX4_discussPaper_2 : decode cX4_discussPaper 2 = .ok (.invokevirtual 340, 3) := by decide +kernel
theorem dX4_discussPaper_5 : decode cX4_discussPaper 5 = .ok (.istore_n 2, 1) := by decide +kernel
theorem dX4_discussPaper_6 : decode cX4_discussPaper 6 = .ok (.iload_n 2, 1) := by decide +kernel
theorem dX4_discussPaper_7 : decode cX4_discussPaper 7 = .ok (.ifCond .eq 9, 3) := by decide +kernel
theorem dX4_discussPaper_10 : decode cX4_discussPaper 10 = .ok (.aload_n 0, 1) := by decide +kernel
theorem dX4_discussPaper_11 : decode cX4_discussPaper 11 = .ok (.iload_n 2, 1) := by decide +kernel
theorem dX4_discussPaper_12 : decode cX4_discussPaper 12 = .ok (.invokevirtual 328, 3) := by decide +kernel
theorem dX4_discussPaper_15 : decode cX4_discussPaper 15 = .ok (.ireturn, 1) := by decide +kernel
theorem dX4_discussPaper_16 : decode cX4_discussPaper 16 = .ok (.aload_n 0, 1) := by decide +kernel
theorem dX4_discussPaper_17 : decode cX4_discussPaper 17 = .ok (.getfield 10, 3) := by decide +kernel
theorem dX4_discussPaper_20 : decode cX4_discussPaper 20 = .ok (.getfield 167, 3) := by decide +kernel
theorem dX4_discussPaper_23 : decode cX4_discussPaper 23 = .ok (.iload_n 1, 1) := by decide +kernel
theorem dX4_discussPaper_24 : decode cX4_discussPaper 24 = .ok (.aaload, 1) := by decide +kernel
theorem dX4_discussPaper_25 : decode cX4_discussPaper 25 = .ok (.astore_n 3, 1) := by decide +kernel
theorem dX4_discussPaper_26 : decode cX4_discussPaper 26 = .ok (.aload_n 3, 1) := by decide +kernel
theorem dX4_discussPaper_27 : decode cX4_discussPaper 27 = .ok (.invokestatic 175, 3) := by decide +kernel
theorem dX4_discussPaper_30 : decode cX4_discussPaper 30 = .ok (.istore 4, 2) := by decide +kernel
theorem dX4_discussPaper_32 : decode cX4_discussPaper 32 = .ok (.iconst 0, 1) := by decide +kernel
theorem dX4_discussPaper_33 : decode cX4_discussPaper 33 = .ok (.istore 5, 2) := by decide +kernel
theorem dX4_discussPaper_35 : decode cX4_discussPaper 35 = .ok (.iload 5, 2) := by decide +kernel
theorem dX4_discussPaper_37 : decode cX4_discussPaper 37 = .ok (.bipush 8, 2) := by decide +kernel
theorem dX4_discussPaper_39 : decode cX4_discussPaper 39 = .ok (.if_icmp .ge 33, 3) := by decide +kernel
theorem dX4_discussPaper_42 : decode cX4_discussPaper 42 = .ok (.iload 4, 2) := by decide +kernel
theorem dX4_discussPaper_44 : decode cX4_discussPaper 44 = .ok (.iload 5, 2) := by decide +kernel
theorem dX4_discussPaper_46 : decode cX4_discussPaper 46 = .ok (.invokestatic 87, 3) := by decide +kernel
theorem dX4_discussPaper_49 : decode cX4_discussPaper 49 = .ok (.ifCond .eq 17, 3) := by decide +kernel
theorem dX4_discussPaper_52 : decode cX4_discussPaper 52 = .ok (.aload_n 0, 1) := by decide +kernel
theorem dX4_discussPaper_53 : decode cX4_discussPaper 53 = .ok (.getfield 10, 3) := by decide +kernel
theorem dX4_discussPaper_56 : decode cX4_discussPaper 56 = .ok (.getfield 313, 3) := by decide +kernel
theorem dX4_discussPaper_59 : decode cX4_discussPaper 59 = .ok (.iload 5, 2) := by decide +kernel
theorem dX4_discussPaper_61 : decode cX4_discussPaper 61 = .ok (.dup2, 1) := by decide +kernel
theorem dX4_discussPaper_62 : decode cX4_discussPaper 62 = .ok (.iaload, 1) := by decide +kernel
theorem dX4_discussPaper_63 : decode cX4_discussPaper 63 = .ok (.iconst 1, 1) := by decide +kernel
theorem dX4_discussPaper_64 : decode cX4_discussPaper 64 = .ok (.iadd, 1) := by decide +kernel
theorem dX4_discussPaper_65 : decode cX4_discussPaper 65 = .ok (.iastore, 1) := by decide +kernel
theorem dX4_discussPaper_66 : decode cX4_discussPaper 66 = .ok (.iinc 5 1, 3) := by decide +kernel
theorem dX4_discussPaper_69 : decode cX4_discussPaper 69 = .ok (.goto (-34), 3) := by decide +kernel
theorem dX4_discussPaper_72 : decode cX4_discussPaper 72 = .ok (.aload_n 0, 1) := by decide +kernel
theorem dX4_discussPaper_73 : decode cX4_discussPaper 73 = .ok (.getfield 10, 3) := by decide +kernel
theorem dX4_discussPaper_76 : decode cX4_discussPaper 76 = .ok (.getfield 343, 3) := by decide +kernel
theorem dX4_discussPaper_79 : decode cX4_discussPaper 79 = .ok (.iload_n 1, 1) := by decide +kernel
theorem dX4_discussPaper_80 : decode cX4_discussPaper 80 = .ok (.dup2, 1) := by decide +kernel
theorem dX4_discussPaper_81 : decode cX4_discussPaper 81 = .ok (.iaload, 1) := by decide +kernel
theorem dX4_discussPaper_82 : decode cX4_discussPaper 82 = .ok (.iconst 1, 1) := by decide +kernel
theorem dX4_discussPaper_83 : decode cX4_discussPaper 83 = .ok (.iadd, 1) := by decide +kernel
theorem dX4_discussPaper_84 : decode cX4_discussPaper 84 = .ok (.iastore, 1) := by decide +kernel
theorem dX4_discussPaper_85 : decode cX4_discussPaper 85 = .ok (.bipush 10, 2) := by decide +kernel
theorem dX4_discussPaper_87 : decode cX4_discussPaper 87 = .ok (.aload_n 3, 1) := by decide +kernel
theorem dX4_discussPaper_88 : decode cX4_discussPaper 88 = .ok (.invokestatic 346, 3) := by decide +kernel
theorem dX4_discussPaper_91 : decode cX4_discussPaper 91 = .ok (.iadd, 1) := by decide +kernel
theorem dX4_discussPaper_92 : decode cX4_discussPaper 92 = .ok (.ireturn, 1) := by decide +kernel
set_option maxRecDepth 100000 in
set_option maxHeartbeats 4000000 in
theorem mt_X4_discussPaper (r0 : Option Nat) (i1 : Int32) (S0 : PH) (y : Int32 × PH) (h : m_X4_discussPaper r0 i1 S0 = some y) : MT yX4_discussPaper (.code yX4_discussPaper cX4_discussPaper 6 (Option.some FieldType.int)) 3 66 0 0 [va_rf r0, .int i1] S0 (oQ e_I (qN y)) := by
  refine mt_of (own := RX4) (l0 := [(0, va_rf r0), (1, .int i1)]) rfl rfl (by cases r0 <;> exact Nat.le_of_ble_eq_true rfl) (by cases r0 <;> rfl) ?_
  intro Z hC hQ hE hN
  unfold m_X4_discussPaper at h
  refine x_aload_n (i := 0) hC dX4_discussPaper_0 rfl 0 rfl ?_
  refine x_iload_n (i := 1) hC dX4_discussPaper_1 rfl 1 rfl ?_
  replace h := dr_el h
  obtain ⟨a1, ea2, ha3, h⟩ := h
  replace h := bd_el h
  obtain ⟨v4, S5, hb6, h⟩ := h
  refine x_callV hC (st := []) (mt_X4_reasonAgainstDiscussion _ _ _ _ hb6) ea2 ha3 kf_4 q_590 q_592 qs_28 q_1 q_593 ⟨rfl, hy_X4_reasonAgainstDiscussion⟩ ⟨Nat.le_of_ble_eq_true rfl, Nat.le_of_ble_eq_true rfl⟩ ⟨Nat.le_of_ble_eq_true rfl, Nat.le_of_ble_eq_true rfl⟩ rfl (Nat.le_of_ble_eq_true rfl) dX4_discussPaper_2 (r_N ?_) r_NX
  show PX Z 6 S5 0 0 5 [(0, va_rf r0), (1, .int i1)] [.int v4]
  refine x_istore_n (i := 2) (l' := [(2, .int v4), (0, va_rf r0), (1, .int i1)]) hC dX4_discussPaper_5 rfl (⟨fun _ => c_rf r0, ⟨fun _ => rfl, trivial⟩⟩) (by decide) rfl ?_
  refine x_iload_n (i := 2) hC dX4_discussPaper_6 rfl 0 rfl ?_
  refine x_if_eq (t := 16) hC dX4_discussPaper_7 (by decide) (fun c7 => ?_) (fun c7 => ?_)
  · replace h := it_t c7 h
    refine x_aload_n (i := 0) hC dX4_discussPaper_16 rfl 1 rfl ?_
    replace h := dr_el h
    obtain ⟨a8, ea9, ha10, h⟩ := h
    refine x_getR hC ea9 ha10 kf_4 0 (by decide) rfl q_172 dX4_discussPaper_17 ?_
    replace h := dr_el h
    obtain ⟨a11, ea12, ha13, h⟩ := h
    refine x_getR hC ea12 ha13 kf_2 10 (by decide) rfl q_57 dX4_discussPaper_20 ?_
    refine x_iload_n (i := 1) hC dX4_discussPaper_23 rfl 2 rfl ?_
    replace h := dr_el h
    obtain ⟨a14, ea15, ha16, h⟩ := h
    replace h := ck_el h
    obtain ⟨hc17, h⟩ := h
    refine x_aaload9 hC ea15 ha16 hc17 dX4_discussPaper_24 ?_
    replace h := le_el h
    obtain ⟨r18, hx19, h⟩ := h
    refine x_tA hx19 ?_
    refine x_astore_n (i := 3) (l' := [(3, va_rf r18), (2, .int v4), (0, va_rf r0), (1, .int i1)]) hC dX4_discussPaper_25 rfl (⟨fun _ => rfl, ⟨fun _ => c_rf r0, ⟨fun _ => rfl, trivial⟩⟩⟩) (by decide) rfl ?_
    refine x_aload_n (i := 3) hC dX4_discussPaper_26 rfl 0 rfl ?_
    replace h := bd_el h
    obtain ⟨v20, S21, hb22, h⟩ := h
    refine x_callS hC (st := []) (mt_X4_writersIn _ _ _ hb22) q_431 q_432 q_1 q_433 hy_X4_writersIn ⟨Nat.le_of_ble_eq_true rfl, Nat.le_of_ble_eq_true rfl⟩ ⟨Nat.le_of_ble_eq_true rfl, Nat.le_of_ble_eq_true rfl⟩ rfl (Nat.le_of_ble_eq_true rfl) dX4_discussPaper_27 (r_N ?_) r_NX
    show PX Z 6 S21 0 0 30 [(3, va_rf r18), (2, .int v4), (0, va_rf r0), (1, .int i1)] [.int v20]
    refine x_istore (i := 4) (l' := [(4, .int v20), (3, va_rf r18), (2, .int v4), (0, va_rf r0), (1, .int i1)]) hC dX4_discussPaper_30 (⟨fun _ => c_rf r18, ⟨fun _ => rfl, ⟨fun _ => c_rf r0, ⟨fun _ => rfl, trivial⟩⟩⟩⟩) (by decide) rfl ?_
    refine x_iconst (v := (0 : Int32)) hC dX4_discussPaper_32 (by decide) ?_
    refine x_istore (i := 5) (l' := [(5, .int (0 : Int32)), (4, .int v20), (3, va_rf r18), (2, .int v4), (0, va_rf r0), (1, .int i1)]) hC dX4_discussPaper_33 (⟨fun _ => rfl, ⟨fun _ => c_rf r18, ⟨fun _ => rfl, ⟨fun _ => c_rf r0, ⟨fun _ => rfl, trivial⟩⟩⟩⟩⟩) (by decide) rfl ?_
    refine x_sub (l' := [(0, va_rf r0), (1, .int i1), (3, va_rf r18), (4, .int v20), (5, .int (0 : Int32))]) [4, 5, 2, 1, 0] rfl ?_
    refine lp_sim (P := fun (t : (Option Nat × Int32 × Int32 × PH)) => PX Z 6 t.2.2.2 0 0 35 [(0, va_rf r0), (1, .int i1), (3, va_rf t.1), (4, .int t.2.1), (5, .int t.2.2.1)] []) (G := fun r => r = y) ?_ h rfl
    clear h
    intro t x_35 h hg_35
    obtain ⟨v23, v24, v25, S26⟩ := t
    show PX Z 6 S26 0 0 35 [(0, va_rf r0), (1, .int i1), (3, va_rf v23), (4, .int v24), (5, .int v25)] []
    unfold st_X4_discussPaper_35 at h
    refine x_iload (i := 5) hC dX4_discussPaper_35 4 rfl ?_
    refine x_bipush (v := (8 : Int32)) hC dX4_discussPaper_37 (by decide) ?_
    refine x_icmp_ge (t := 72) hC dX4_discussPaper_39 (by decide) (fun c27 => ?_) (fun c27 => ?_)
    · replace h := it_t c27 h
      replace h := ir_x h hg_35
      refine x_aload_n (i := 0) hC dX4_discussPaper_72 rfl 0 rfl ?_
      replace h := dr_el h
      obtain ⟨a28, ea29, ha30, h⟩ := h
      refine x_getR hC ea29 ha30 kf_4 0 (by decide) rfl q_172 dX4_discussPaper_73 ?_
      replace h := dr_el h
      obtain ⟨a31, ea32, ha33, h⟩ := h
      refine x_getR hC ea32 ha33 kf_2 7 (by decide) rfl q_51 dX4_discussPaper_76 ?_
      refine x_iload_n (i := 1) hC dX4_discussPaper_79 rfl 1 rfl ?_
      refine x_dup2 hC dX4_discussPaper_80 rfl (c_rf (p_R S26 a31 7)) ?_
      replace h := dr_el h
      obtain ⟨a34, ea35, ha36, h⟩ := h
      replace h := ck_el h
      obtain ⟨hc37, h⟩ := h
      refine x_iaload hC ea35 ha36 hc37 dX4_discussPaper_81 ?_
      refine x_iconst (v := (1 : Int32)) hC dX4_discussPaper_82 (by decide) ?_
      refine x_iadd hC dX4_discussPaper_83 ?_
      replace h := ck_el h
      obtain ⟨hc38, h⟩ := h
      replace h := le_el h
      obtain ⟨S39, hx40, h⟩ := h
      refine x_iastore hC ea35 ha36 hc38 dX4_discussPaper_84 ?_
      refine x_tS hx40 ?_
      refine x_bipush (v := (10 : Int32)) hC dX4_discussPaper_85 (by decide) ?_
      refine x_aload_n (i := 3) hC dX4_discussPaper_87 rfl 2 rfl ?_
      replace h := bd_el h
      obtain ⟨v41, S42, hb43, h⟩ := h
      refine x_callS hC (st := [.int (10 : Int32)]) (mt_X4_bringNearer _ _ _ hb43) q_594 q_595 q_1 q_596 hy_X4_bringNearer ⟨Nat.le_of_ble_eq_true rfl, Nat.le_of_ble_eq_true rfl⟩ ⟨Nat.le_of_ble_eq_true rfl, Nat.le_of_ble_eq_true rfl⟩ rfl (Nat.le_of_ble_eq_true rfl) dX4_discussPaper_88 (r_N ?_) r_NX
      show PX Z 6 S42 0 0 91 [(0, va_rf r0), (1, .int i1), (3, va_rf v23), (4, .int v24), (5, .int v25)] [.int v41, .int (10 : Int32)]
      refine x_iadd hC dX4_discussPaper_91 ?_
      exact x_iret hC hQ (z_N (Option.some.inj h)) (Nat.le_of_ble_eq_true rfl) (Nat.le_of_ble_eq_true rfl) dX4_discussPaper_92
    · replace h := it_f c27 h
      refine x_iload (i := 4) hC dX4_discussPaper_42 3 rfl ?_
      refine x_iload (i := 5) hC dX4_discussPaper_44 4 rfl ?_
      replace h := bd_el h
      obtain ⟨v44, S45, hb46, h⟩ := h
      refine x_callS hC (st := []) (mt_X4_has _ _ _ _ hb46) q_366 q_367 q_1 q_368 hy_X4_has ⟨Nat.le_of_ble_eq_true rfl, Nat.le_of_ble_eq_true rfl⟩ ⟨Nat.le_of_ble_eq_true rfl, Nat.le_of_ble_eq_true rfl⟩ rfl (Nat.le_of_ble_eq_true rfl) dX4_discussPaper_46 (r_N ?_) r_NX
      show PX Z 6 S45 0 0 49 [(0, va_rf r0), (1, .int i1), (3, va_rf v23), (4, .int v24), (5, .int v25)] [.int v44]
      refine x_if_eq (t := 66) hC dX4_discussPaper_49 (by decide) (fun c47 => ?_) (fun c47 => ?_)
      · replace h := it_t c47 h
        refine x_iinc (i := 5) (v := (v25 + (1 : Int32))) (l' := [(5, .int (v25 + (1 : Int32))), (0, va_rf r0), (1, .int i1), (3, va_rf v23), (4, .int v24)]) hC dX4_discussPaper_66 4 rfl rfl (⟨fun _ => c_rf r0, ⟨fun _ => rfl, ⟨fun _ => c_rf v23, ⟨fun _ => rfl, ⟨fun _ => rfl, trivial⟩⟩⟩⟩⟩) (by decide) rfl ?_
        refine x_goto (t := 35) hC dX4_discussPaper_69 (by decide) ?_
        refine x_sub (l' := [(0, va_rf r0), (1, .int i1), (3, va_rf v23), (4, .int v24), (5, .int (v25 + (1 : Int32)))]) [1, 2, 3, 4, 0] rfl ?_
        have hb := bk_x h hg_35
        exact hb
      · replace h := it_f c47 h
        refine x_aload_n (i := 0) hC dX4_discussPaper_52 rfl 0 rfl ?_
        replace h := dr_el h
        obtain ⟨a48, ea49, ha50, h⟩ := h
        refine x_getR hC ea49 ha50 kf_4 0 (by decide) rfl q_172 dX4_discussPaper_53 ?_
        replace h := dr_el h
        obtain ⟨a51, ea52, ha53, h⟩ := h
        refine x_getR hC ea52 ha53 kf_2 3 (by decide) rfl q_43 dX4_discussPaper_56 ?_
        refine x_iload (i := 5) hC dX4_discussPaper_59 4 rfl ?_
        refine x_dup2 hC dX4_discussPaper_61 rfl (c_rf (p_R S45 a51 3)) ?_
        replace h := dr_el h
        obtain ⟨a54, ea55, ha56, h⟩ := h
        replace h := ck_el h
        obtain ⟨hc57, h⟩ := h
        refine x_iaload hC ea55 ha56 hc57 dX4_discussPaper_62 ?_
        refine x_iconst (v := (1 : Int32)) hC dX4_discussPaper_63 (by decide) ?_
        refine x_iadd hC dX4_discussPaper_64 ?_
        replace h := ck_el h
        obtain ⟨hc58, h⟩ := h
        replace h := le_el h
        obtain ⟨S59, hx60, h⟩ := h
        refine x_iastore hC ea55 ha56 hc58 dX4_discussPaper_65 ?_
        refine x_tS hx60 ?_
        refine x_iinc (i := 5) (v := (v25 + (1 : Int32))) (l' := [(5, .int (v25 + (1 : Int32))), (0, va_rf r0), (1, .int i1), (3, va_rf v23), (4, .int v24)]) hC dX4_discussPaper_66 4 rfl rfl (⟨fun _ => c_rf r0, ⟨fun _ => rfl, ⟨fun _ => c_rf v23, ⟨fun _ => rfl, ⟨fun _ => rfl, trivial⟩⟩⟩⟩⟩) (by decide) rfl ?_
        refine x_goto (t := 35) hC dX4_discussPaper_69 (by decide) ?_
        refine x_sub (l' := [(0, va_rf r0), (1, .int i1), (3, va_rf v23), (4, .int v24), (5, .int (v25 + (1 : Int32)))]) [1, 2, 3, 4, 0] rfl ?_
        have hb := bk_x h hg_35
        exact hb
  · replace h := it_f c7 h
    refine x_aload_n (i := 0) hC dX4_discussPaper_10 rfl 1 rfl ?_
    refine x_iload_n (i := 2) hC dX4_discussPaper_11 rfl 0 rfl ?_
    replace h := dr_el h
    obtain ⟨a61, ea62, ha63, h⟩ := h
    replace h := bd_el h
    obtain ⟨v64, S65, hb66, h⟩ := h
    refine x_callV hC (st := []) (mt_X4_refuse _ _ _ _ hb66) ea62 ha63 kf_4 q_373 q_375 qs_11 q_1 q_376 ⟨rfl, hy_X4_refuse⟩ ⟨Nat.le_of_ble_eq_true rfl, Nat.le_of_ble_eq_true rfl⟩ ⟨Nat.le_of_ble_eq_true rfl, Nat.le_of_ble_eq_true rfl⟩ rfl (Nat.le_of_ble_eq_true rfl) dX4_discussPaper_12 (r_N ?_) r_NX
    show PX Z 6 S65 0 0 15 [(2, .int v4), (0, va_rf r0), (1, .int i1)] [.int v64]
    exact x_iret hC hQ (z_N (Option.some.inj h)) (Nat.le_of_ble_eq_true rfl) (Nat.le_of_ble_eq_true rfl) dX4_discussPaper_15
theorem dX4_discuss_0 : decode cX4_discuss 0 = .ok (.aload_n 0, 1) := by decide +kernel
theorem dX4_discuss_1 : decode cX4_discuss 1 = .ok (.iload_n 1, 1) := by decide +kernel
theorem dX4_discuss_2 : decode cX4_discuss 2 = .ok (.invokevirtual 125, 3) := by decide +kernel
theorem dX4_discuss_5 : decode cX4_discuss 5 = .ok (.aload_n 0, 1) := by decide +kernel
theorem dX4_discuss_6 : decode cX4_discuss 6 = .ok (.getfield 19, 3) := by decide +kernel
theorem dX4_discuss_9 : decode cX4_discuss 9 = .ok (.aload_n 0, 1) := by decide +kernel
theorem dX4_discuss_10 : decode cX4_discuss 10 = .ok (.getfield 10, 3) := by decide +kernel
theorem dX4_discuss_13 : decode cX4_discuss 13 = .ok (.invokevirtual 63, 3) := by decide +kernel
theorem dX4_discuss_16 : decode cX4_discuss 16 = .ok (.aload_n 0, 1) := by decide +kernel
theorem dX4_discuss_17 : decode cX4_discuss 17 = .ok (.iload_n 1, 1) := by decide +kernel
theorem dX4_discuss_18 : decode cX4_discuss 18 = .ok (.invokevirtual 155, 3) := by decide +kernel
theorem dX4_discuss_21 : decode cX4_discuss 21 = .ok (.ireturn, 1) := by decide +kernel
set_option maxRecDepth 100000 in
set_option maxHeartbeats 4000000 in
theorem mt_X4_discuss (r0 : Option Nat) (i1 : Int32) (S0 : PH) (Q : (Nat ⊕ Int32) → PH → Prop) (h : w_X4_discuss r0 i1 S0 Q) : MT yX4_discuss (.code yX4_discuss cX4_discuss 2 (Option.some FieldType.int)) 7 111 21 173 [va_rf r0, .int i1] S0 (oQ e_I Q) := by
  refine mt_of (own := RX4) (l0 := [(0, va_rf r0), (1, .int i1)]) rfl rfl (by cases r0 <;> exact Nat.le_of_ble_eq_true rfl) (by cases r0 <;> rfl) ?_
  intro Z hC hQ hE hN
  unfold w_X4_discuss at h
  refine x_aload_n (i := 0) hC dX4_discuss_0 rfl 0 rfl ?_
  refine x_iload_n (i := 1) hC dX4_discuss_1 rfl 1 rfl ?_
  obtain ⟨a1, ea2, ha3, h⟩ := h
  replace h := wbt_el h
  obtain ⟨v4, S5, hb24, h⟩ | ⟨j6, S7, hb24, h⟩ := h
  · refine x_callV hC (st := []) (mtr_X4_requirePaper _ _ _ (v4, S5) hb24) ea2 ha3 kf_4 q_332 q_334 qs_4 q_1 q_335 ⟨rfl, hy_X4_requirePaper⟩ ⟨Nat.le_of_ble_eq_true rfl, Nat.le_of_ble_eq_true rfl⟩ ⟨Nat.le_of_ble_eq_true rfl, Nat.le_of_ble_eq_true rfl⟩ rfl (Nat.le_of_ble_eq_true rfl) dX4_discuss_2 (r_N ?_) r_NX
    show PX Z 2 S5 0 0 5 [(0, va_rf r0), (1, .int i1)] []
    refine x_aload_n (i := 0) hC dX4_discuss_5 rfl 0 rfl ?_
    obtain ⟨a8, ea9, ha10, h⟩ := h
    refine x_getR hC ea9 ha10 kf_4 1 (by decide) rfl q_173 dX4_discuss_6 ?_
    refine x_aload_n (i := 0) hC dX4_discuss_9 rfl 0 rfl ?_
    refine x_getR hC ea9 ha10 kf_4 0 (by decide) rfl q_172 dX4_discuss_10 ?_
    obtain ⟨a11, ea12, ha13, h⟩ := h
    refine x_callV hC (st := []) (mt_X0_save _ _ _ _ h) ea12 ha13 kf_0 q_280 q_281 q_282 q_4 q_283 ⟨rfl, hy_X0_save⟩ ⟨Nat.le_of_ble_eq_true rfl, Nat.le_of_ble_eq_true rfl⟩ ⟨Nat.le_of_ble_eq_true rfl, Nat.le_of_ble_eq_true rfl⟩ rfl (Nat.le_of_ble_eq_true rfl) dX4_discuss_13 (r_W (fun v14 S15 h => ?_)) (r_Wx (fun _ _ h => (wq_l h).elim))
    replace h := wq_r h
    show PX Z 2 S15 21 173 16 [(0, va_rf r0), (1, .int i1)] []
    refine x_aload_n (i := 0) hC dX4_discuss_16 rfl 0 rfl ?_
    refine x_iload_n (i := 1) hC dX4_discuss_17 rfl 1 rfl ?_
    obtain ⟨a18, ea19, ha20, h⟩ := h
    obtain ⟨v21, S22, hb23, h⟩ := h
    refine x_callV hC (st := []) (mt_X4_discussPaper _ _ _ _ hb23) ea19 ha20 kf_4 q_586 q_588 qs_27 q_1 q_589 ⟨rfl, hy_X4_discussPaper⟩ ⟨Nat.le_of_ble_eq_true rfl, Nat.le_of_ble_eq_true rfl⟩ ⟨Nat.le_of_ble_eq_true rfl, Nat.le_of_ble_eq_true rfl⟩ rfl (Nat.le_of_ble_eq_true rfl) dX4_discuss_18 (r_N ?_) r_NX
    show PX Z 2 S22 21 173 21 [(0, va_rf r0), (1, .int i1)] [.int v21]
    exact x_iret hC hQ (z_W h) (Nat.le_of_ble_eq_true rfl) (Nat.le_of_ble_eq_true rfl) dX4_discuss_21
  · refine x_callV hC (st := []) (mt_X4_requirePaper _ _ _ _ hb24) ea2 ha3 kf_4 q_332 q_334 qs_4 q_1 q_335 ⟨rfl, hy_X4_requirePaper⟩ ⟨Nat.le_of_ble_eq_true rfl, Nat.le_of_ble_eq_true rfl⟩ ⟨Nat.le_of_ble_eq_true rfl, Nat.le_of_ble_eq_true rfl⟩ rfl (Nat.le_of_ble_eq_true rfl) dX4_discuss_2 r_X (r_XX ?_)
    exact x_out hC hQ hE (z_Y h) (Nat.le_of_ble_eq_true rfl) (Nat.le_of_ble_eq_true rfl)
theorem dX4_reasonAgainstRebuttal_0 : decode cX4_reasonAgainstRebuttal 0 = .ok (.aload_n 0, 1) := by decide +kernel
theorem dX4_reasonAgainstRebuttal_1 : decode cX4_reasonAgainstRebuttal 1 = .ok (.getfield 10, 3) := by decide +kernel
theorem dX4_reasonAgainstRebuttal_4 : decode cX4_reasonAgainstRebuttal 4 = .ok (.getfield 183, 3) := by decide +kernel
theorem dX4_reasonAgainstRebuttal_7 : decode cX4_reasonAgainstRebuttal 7 = .ok (.iload_n 1, 1) := by decide +kernel
theorem dX4_reasonAgainstRebuttal_8 : decode cX4_reasonAgainstRebuttal 8 = .ok (.iaload, 1) := by decide +kernel
theorem dX4_reasonAgainstRebuttal_9 : decode cX4_reasonAgainstRebuttal 9 = .ok (.ifCond .eq 5, 3) := by decide +kernel
theorem dX4_reasonAgainstRebuttal_12 : decode cX4_reasonAgainstRebuttal 12 = .ok (.iconst 1, 1) := by decide +kernel
theorem dX4_reasonAgainstRebuttal_13 : decode cX4_reasonAgainstRebuttal 13 = .ok (.ireturn, 1) := by decide +kernel
theorem dX4_reasonAgainstRebuttal_14 : decode cX4_reasonAgainstRebuttal 14 = .ok (.aload_n 0, 1) := by decide +kernel
theorem dX4_reasonAgainstRebuttal_15 : decode cX4_reasonAgainstRebuttal 15 = .ok (.getfield 10, 3) := by decide +kernel
theorem dX4_reasonAgainstRebuttal_18 : decode cX4_reasonAgainstRebuttal 18 = .ok (.getfield 167, 3) := by decide +kernel
theorem dX4_reasonAgainstRebuttal_21 : decode cX4_reasonAgainstRebuttal 21 = .ok (.iload_n 1, 1) := by decide +kernel
theorem dX4_reasonAgainstRebuttal_22 : decode cX4_reasonAgainstRebuttal 22 = .ok (.aaload, 1) := by decide +kernel
theorem dX4_reasonAgainstRebuttal_23 : decode cX4_reasonAgainstRebuttal 23 = .ok (.invokestatic 175, 3) := by decide +kernel
theorem dX4_reasonAgainstRebuttal_26 : decode cX4_reasonAgainstRebuttal 26 = .ok (.ifCond .ne 5, 3) := by decide +kernel
theorem dX4_reasonAgainstRebuttal_29 : decode cX4_reasonAgainstRebuttal 29 = .ok (.iconst 2, 1) := by decide +kernel
theorem dX4_reasonAgainstRebuttal_30 : decode cX4_reasonAgainstRebuttal 30 = .ok (.ireturn, 1) := by decide +kernel
theorem dX4_reasonAgainstRebuttal_31 : decode cX4_reasonAgainstRebuttal 31 = .ok (.aload_n 0, 1) := by decide +kernel
theorem dX4_reasonAgainstRebuttal_32 : decode cX4_reasonAgainstRebuttal 32 = .ok (.getfield 10, 3) := by decide +kernel
theorem dX4_reasonAgainstRebuttal_35 : decode cX4_reasonAgainstRebuttal 35 = .ok (.getfield 356, 3) := by decide +kernel
theorem dX4_reasonAgainstRebuttal_38 : decode cX4_reasonAgainstRebuttal 38 = .ok (.iload_n 1, 1) := by decide +kernel
theorem dX4_reasonAgainstRebuttal_39 : decode cX4_reasonAgainstRebuttal 39 = .ok (.iaload, 1) := by decide +kernel
theorem dX4_reasonAgainstRebuttal_40 : decode cX4_reasonAgainstRebuttal 40 = .ok (.ifCond .eq 7, 3) := by decide +kernel
theorem dX4_reasonAgainstRebuttal_43 : decode cX4_reasonAgainstRebuttal 43 = .ok (.iconst 3, 1) := by decide +kernel
theorem dX4_reasonAgainstRebuttal_44 : decode cX4_reasonAgainstRebuttal 44 = .ok (.goto 4, 3) := by decide +kernel
theorem dX4_reasonAgainstRebuttal_47 : decode cX4_reasonAgainstRebuttal 47 = .ok (.iconst 0, 1) := by decide +kernel
theorem dX4_reasonAgainstRebuttal_48 : decode cX4_reasonAgainstRebuttal 48 = .ok (.ireturn, 1) := by decide +kernel
set_option maxRecDepth 100000 in
set_option maxHeartbeats 4000000 in
theorem mt_X4_reasonAgainstRebuttal (r0 : Option Nat) (i1 : Int32) (S0 : PH) (y : Int32 × PH) (h : m_X4_reasonAgainstRebuttal r0 i1 S0 = some y) : MT yX4_reasonAgainstRebuttal (.code yX4_reasonAgainstRebuttal cX4_reasonAgainstRebuttal 2 (Option.some FieldType.int)) 2 42 0 0 [va_rf r0, .int i1] S0 (oQ e_I (qN y)) := by
  refine mt_of (own := RX4) (l0 := [(0, va_rf r0), (1, .int i1)]) rfl rfl (by cases r0 <;> exact Nat.le_of_ble_eq_true rfl) (by cases r0 <;> rfl) ?_
  intro Z hC hQ hE hN
  unfold m_X4_reasonAgainstRebuttal at h
  refine x_aload_n (i := 0) hC dX4_reasonAgainstRebuttal_0 rfl 0 rfl ?_
  replace h := dr_el h
  obtain ⟨a1, ea2, ha3, h⟩ := h
  refine x_getR hC ea2 ha3 kf_4 0 (by decide) rfl q_172 dX4_reasonAgainstRebuttal_1 ?_
  replace h := dr_el h
  obtain ⟨a4, ea5, ha6, h⟩ := h
  refine x_getR hC ea5 ha6 kf_2 9 (by decide) rfl q_55 dX4_reasonAgainstRebuttal_4 ?_
  refine x_iload_n (i := 1) hC dX4_reasonAgainstRebuttal_7 rfl 1 rfl ?_
  replace h := dr_el h
  obtain ⟨a7, ea8, ha9, h⟩ := h
  replace h := ck_el h
  obtain ⟨hc10, h⟩ := h
  refine x_iaload hC ea8 ha9 hc10 dX4_reasonAgainstRebuttal_8 ?_
  refine x_if_eq (t := 14) hC dX4_reasonAgainstRebuttal_9 (by decide) (fun c11 => ?_) (fun c11 => ?_)
  · replace h := it_t c11 h
    refine x_aload_n (i := 0) hC dX4_reasonAgainstRebuttal_14 rfl 0 rfl ?_
    refine x_getR hC ea2 ha3 kf_4 0 (by decide) rfl q_172 dX4_reasonAgainstRebuttal_15 ?_
    refine x_getR hC ea5 ha6 kf_2 10 (by decide) rfl q_57 dX4_reasonAgainstRebuttal_18 ?_
    refine x_iload_n (i := 1) hC dX4_reasonAgainstRebuttal_21 rfl 1 rfl ?_
    replace h := dr_el h
    obtain ⟨a12, ea13, ha14, h⟩ := h
    replace h := ck_el h
    obtain ⟨hc15, h⟩ := h
    refine x_aaload9 hC ea13 ha14 hc15 dX4_reasonAgainstRebuttal_22 ?_
    replace h := bd_el h
    obtain ⟨v16, S17, hb18, h⟩ := h
    refine x_callS hC (st := []) (mt_X4_writersIn _ _ _ hb18) q_431 q_432 q_1 q_433 hy_X4_writersIn ⟨Nat.le_of_ble_eq_true rfl, Nat.le_of_ble_eq_true rfl⟩ ⟨Nat.le_of_ble_eq_true rfl, Nat.le_of_ble_eq_true rfl⟩ rfl (Nat.le_of_ble_eq_true rfl) dX4_reasonAgainstRebuttal_23 (r_N ?_) r_NX
    show PX Z 2 S17 0 0 26 [(0, va_rf r0), (1, .int i1)] [.int v16]
    refine x_if_ne (t := 31) hC dX4_reasonAgainstRebuttal_26 (by decide) (fun c19 => ?_) (fun c19 => ?_)
    · replace h := it_f c19 h
      refine x_aload_n (i := 0) hC dX4_reasonAgainstRebuttal_31 rfl 0 rfl ?_
      replace h := dr_el h
      obtain ⟨a20, ea21, ha22, h⟩ := h
      refine x_getR hC ea21 ha22 kf_4 0 (by decide) rfl q_172 dX4_reasonAgainstRebuttal_32 ?_
      replace h := dr_el h
      obtain ⟨a23, ea24, ha25, h⟩ := h
      refine x_getR hC ea24 ha25 kf_2 8 (by decide) rfl q_53 dX4_reasonAgainstRebuttal_35 ?_
      refine x_iload_n (i := 1) hC dX4_reasonAgainstRebuttal_38 rfl 1 rfl ?_
      replace h := dr_el h
      obtain ⟨a26, ea27, ha28, h⟩ := h
      replace h := ck_el h
      obtain ⟨hc29, h⟩ := h
      refine x_iaload hC ea27 ha28 hc29 dX4_reasonAgainstRebuttal_39 ?_
      refine x_if_eq (t := 47) hC dX4_reasonAgainstRebuttal_40 (by decide) (fun c30 => ?_) (fun c30 => ?_)
      · replace h := it_t c30 h
        refine x_iconst (v := (0 : Int32)) hC dX4_reasonAgainstRebuttal_47 (by decide) ?_
        exact x_iret hC hQ (z_N (Option.some.inj h)) (Nat.le_of_ble_eq_true rfl) (Nat.le_of_ble_eq_true rfl) dX4_reasonAgainstRebuttal_48
      · replace h := it_f c30 h
        refine x_iconst (v := (3 : Int32)) hC dX4_reasonAgainstRebuttal_43 (by decide) ?_
        refine x_goto (t := 48) hC dX4_reasonAgainstRebuttal_44 (by decide) ?_
        exact x_iret hC hQ (z_N (Option.some.inj h)) (Nat.le_of_ble_eq_true rfl) (Nat.le_of_ble_eq_true rfl) dX4_reasonAgainstRebuttal_48
    · replace h := it_t c19 h
      refine x_iconst (v := (2 : Int32)) hC dX4_reasonAgainstRebuttal_29 (by decide) ?_
      exact x_iret hC hQ (z_N (Option.some.inj h)) (Nat.le_of_ble_eq_true rfl) (Nat.le_of_ble_eq_true rfl) dX4_reasonAgainstRebuttal_30
  · replace h := it_f c11 h
    refine x_iconst (v := (1 : Int32)) hC dX4_reasonAgainstRebuttal_12 (by decide) ?_
    exact x_iret hC hQ (z_N (Option.some.inj h)) (Nat.le_of_ble_eq_true rfl) (Nat.le_of_ble_eq_true rfl) dX4_reasonAgainstRebuttal_13
theorem dX4_raiseLeast_0 : decode cX4_raiseLeast 0 = .ok (.iconst (-1), 1) := by decide +kernel
theorem dX4_raiseLeast_1 : decode cX4_raiseLeast 1 = .ok (.istore_n 2, 1) := by decide +kernel
theorem dX4_raiseLeast_2 : decode cX4_raiseLeast 2 = .ok (.bipush 10, 2) := by decide +kernel
theorem dX4_raiseLeast_4 : decode cX4_raiseLeast 4 = .ok (.istore_n 3, 1) := by decide +kernel
theorem dX4_raiseLeast_5 : decode cX4_raiseLeast 5 = .ok (.iconst 0, 1) := by decide +kernel
theorem dX4_raiseLeast_6 : decode cX4_raiseLeast 6 = .ok (.istore 4, 2) := by decide +kernel
theorem dX4_raiseLeast_8 : decode cX4_raiseLeast 8 = .ok (.iload 4, 2) := by decide +kernel
theorem dX4_raiseLeast_10 : decode cX4_raiseLeast 10 = .ok (.aload_n 0, 1) := by decide +kernel
theorem dX4_raiseLeast_11 : decode cX4_raiseLeast 11 = .ok (.arraylength, 1) := by decide +kernel
theorem dX4_raiseLeast_12 : decode cX4_raiseLeast 12 = .ok (.if_icmp .ge 35, 3) := by decide +kernel
theorem dX4_raiseLeast_15 : decode cX4_raiseLeast 15 = .ok (.aload_n 0, 1) := by decide +kernel
theorem dX4_raiseLeast_16 : decode cX4_raiseLeast 16 = .ok (.iload 4, 2) := by decide +kernel
theorem dX4_raiseLeast_18 : decode cX4_raiseLeast 18 = .ok (.iaload, 1) := by decide +kernel
theorem dX4_raiseLeast_19 : decode cX4_raiseLeast 19 = .ok (.invokestatic 132, 3) := by decide +kernel
theorem dX4_raiseLeast_22 : decode cX4_raiseLeast 22 = .ok (.ifCond .eq 19, 3) := by decide +kernel
theorem dX4_raiseLeast_25 : decode cX4_raiseLeast 25 = .ok (.aload_n 0, 1) := by decide +kernel
theorem dX4_raiseLeast_26 : decode cX4_raiseLeast 26 = .ok (.iload 4, 2) := by decide +kernel
theorem dX4_raiseLeast_28 : decode cX4_raiseLeast 28 = .ok (.iaload, 1) := by decide +kernel
theorem dX4_raiseLeast_29 : decode cX4_raiseLeast 29 = .ok (.iload_n 3, 1) := by decide +kernel
theorem dX4_raiseLeast_30 : decode cX4_raiseLeast 30 = .ok (.if_icmp .ge 11, 3) := by decide +kernel
theorem dX4_raiseLeast_33 : decode cX4_raiseLeast 33 = .ok (.iload 4, 2) := by decide +kernel
theorem dX4_raiseLeast_35 : decode cX4_raiseLeast 35 = .ok (.istore_n 2, 1) := by decide +kernel
theorem dX4_raiseLeast_36 : decode cX4_raiseLeast 36 = .ok (.aload_n 0, 1) := by decide +kernel
theorem dX4_raiseLeast_37 : decode cX4_raiseLeast 37 = .ok (.iload 4, 2) := by decide +kernel
theorem dX4_raiseLeast_39 : decode cX4_raiseLeast 39 = .ok (.iaload, 1) := by decide +kernel
theorem dX4_raiseLeast_40 : decode cX4_raiseLeast 40 = .ok (.istore_n 3, 1) := by decide +kernel
theorem dX4_raiseLeast_41 : decode cX4_raiseLeast 41 = .ok (.iinc 4 1, 3) := by decide +kernel
theorem dX4_raiseLeast_44 : decode cX4_raiseLeast 44 = .ok (.goto (-36), 3) := by decide +kernel
theorem dX4_raiseLeast_47 : decode cX4_raiseLeast 47 = .ok (.iload_n 2, 1) := by decide +kernel
theorem dX4_raiseLeast_48 : decode cX4_raiseLeast 48 = .ok (.iconst (-1), 1) := by decide +kernel
theorem dX4_raiseLeast_49 : decode cX4_raiseLeast 49 = .ok (.if_icmp .eq 14, 3) := by decide +kernel
theorem dX4_raiseLeast_52 : decode cX4_raiseLeast 52 = .ok (.aload_n 0, 1) := by decide +kernel
theorem dX4_raiseLeast_53 : decode cX4_raiseLeast 53 = .ok (.iload_n 2, 1) := by decide +kernel
theorem dX4_raiseLeast_54 : decode cX4_raiseLeast 54 = .ok (.bipush 9, 2) := by decide +kernel
theorem dX4_raiseLeast_56 : decode cX4_raiseLeast 56 = .ok (.iload_n 3, 1) := by decide +kernel
theorem dX4_raiseLeast_57 : decode cX4_raiseLeast 57 = .ok (.iload_n 1, 1) := by decide +kernel
theorem dX4_raiseLeast_58 : decode cX4_raiseLeast 58 = .ok (.iadd, 1) := by decide +kernel
theorem dX4_raiseLeast_59 : decode cX4_raiseLeast 59 = .ok (.invokestatic 374, 3) := by decide +kernel
theorem dX4_raiseLeast_62 : decode cX4_raiseLeast 62 = .ok (.iastore, 1) := by decide +kernel
theorem dX4_raiseLeast_63 : decode cX4_raiseLeast 63 = .ok (.return_, 1) := by decide +kernel
set_option maxRecDepth 100000 in
set_option maxHeartbeats 4000000 in
theorem mt_X4_raiseLeast (r0 : Option Nat) (i1 : Int32) (S0 : PH) (y : Unit × PH) (h : m_X4_raiseLeast r0 i1 S0 = some y) : MT yX4_raiseLeast (.code yX4_raiseLeast cX4_raiseLeast 5 (Option.none : Option FieldType)) 1 21 0 0 [va_rf r0, .int i1] S0 (oQ e_V (qN y)) := by
  refine mt_of (own := RX4) (l0 := [(0, va_rf r0), (1, .int i1)]) rfl rfl (by cases r0 <;> exact Nat.le_of_ble_eq_true rfl) (by cases r0 <;> rfl) ?_
  intro Z hC hQ hE hN
  unfold m_X4_raiseLeast at h
  refine x_iconst (v := (-1 : Int32)) hC dX4_raiseLeast_0 (by decide) ?_
  refine x_istore_n (i := 2) (l' := [(2, .int (-1 : Int32)), (0, va_rf r0), (1, .int i1)]) hC dX4_raiseLeast_1 rfl (⟨fun _ => c_rf r0, ⟨fun _ => rfl, trivial⟩⟩) (by decide) rfl ?_
  refine x_bipush (v := (10 : Int32)) hC dX4_raiseLeast_2 (by decide) ?_
  refine x_istore_n (i := 3) (l' := [(3, .int (10 : Int32)), (2, .int (-1 : Int32)), (0, va_rf r0), (1, .int i1)]) hC dX4_raiseLeast_4 rfl (⟨fun _ => rfl, ⟨fun _ => c_rf r0, ⟨fun _ => rfl, trivial⟩⟩⟩) (by decide) rfl ?_
  refine x_iconst (v := (0 : Int32)) hC dX4_raiseLeast_5 (by decide) ?_
  refine x_istore (i := 4) (l' := [(4, .int (0 : Int32)), (3, .int (10 : Int32)), (2, .int (-1 : Int32)), (0, va_rf r0), (1, .int i1)]) hC dX4_raiseLeast_6 (⟨fun _ => rfl, ⟨fun _ => rfl, ⟨fun _ => c_rf r0, ⟨fun _ => rfl, trivial⟩⟩⟩⟩) (by decide) rfl ?_
  refine x_sub (l' := [(0, va_rf r0), (1, .int i1), (2, .int (-1 : Int32)), (3, .int (10 : Int32)), (4, .int (0 : Int32))]) [3, 4, 2, 1, 0] rfl ?_
  refine lp_sim (P := fun (t : (Int32 × Int32 × Int32 × PH)) => PX Z 5 t.2.2.2 0 0 8 [(0, va_rf r0), (1, .int i1), (2, .int t.1), (3, .int t.2.1), (4, .int t.2.2.1)] []) (G := fun r => r = y) ?_ h rfl
  clear h
  intro t x_8 h hg_8
  obtain ⟨v1, v2, v3, S4⟩ := t
  show PX Z 5 S4 0 0 8 [(0, va_rf r0), (1, .int i1), (2, .int v1), (3, .int v2), (4, .int v3)] []
  unfold st_X4_raiseLeast_8 at h
  refine x_iload (i := 4) hC dX4_raiseLeast_8 4 rfl ?_
  refine x_aload_n (i := 0) hC dX4_raiseLeast_10 rfl 0 rfl ?_
  replace h := dr_el h
  obtain ⟨a5, ea6, ha7, h⟩ := h
  refine x_alen6 hC ea6 ha7 dX4_raiseLeast_11 ?_
  refine x_icmp_ge (t := 47) hC dX4_raiseLeast_12 (by decide) (fun c8 => ?_) (fun c8 => ?_)
  · replace h := it_t c8 h
    replace h := ir_x h hg_8
    refine x_iload_n (i := 2) hC dX4_raiseLeast_47 rfl 2 rfl ?_
    refine x_iconst (v := (-1 : Int32)) hC dX4_raiseLeast_48 (by decide) ?_
    refine x_icmp_eq (t := 63) hC dX4_raiseLeast_49 (by decide) (fun c9 => ?_) (fun c9 => ?_)
    · replace h := it_t c9 h
      exact x_vret hC hQ (z_N (v := ()) (Option.some.inj h)) (Nat.le_of_ble_eq_true rfl) (Nat.le_of_ble_eq_true rfl) dX4_raiseLeast_63
    · replace h := it_f c9 h
      refine x_aload_n (i := 0) hC dX4_raiseLeast_52 rfl 0 rfl ?_
      refine x_iload_n (i := 2) hC dX4_raiseLeast_53 rfl 2 rfl ?_
      refine x_bipush (v := (9 : Int32)) hC dX4_raiseLeast_54 (by decide) ?_
      refine x_iload_n (i := 3) hC dX4_raiseLeast_56 rfl 3 rfl ?_
      refine x_iload_n (i := 1) hC dX4_raiseLeast_57 rfl 1 rfl ?_
      refine x_iadd hC dX4_raiseLeast_58 ?_
      refine x_mm (lo := true) hC q_542 q_mins q_mai q_minc (Nat.le_of_ble_eq_true rfl) ⟨Nat.le_of_ble_eq_true rfl, Nat.le_of_ble_eq_true rfl⟩ ⟨Nat.le_of_ble_eq_true rfl, Nat.le_of_ble_eq_true rfl⟩ dX4_raiseLeast_59 ?_
      refine x_tI (b := (mmin (9 : Int32) (v2 + i1))) rfl ?_
      replace h := ck_el h
      obtain ⟨hc10, h⟩ := h
      replace h := le_el h
      obtain ⟨S11, hx12, h⟩ := h
      refine x_iastore hC ea6 ha7 hc10 dX4_raiseLeast_62 ?_
      refine x_tS hx12 ?_
      exact x_vret hC hQ (z_N (v := ()) (Option.some.inj h)) (Nat.le_of_ble_eq_true rfl) (Nat.le_of_ble_eq_true rfl) dX4_raiseLeast_63
  · replace h := it_f c8 h
    refine x_aload_n (i := 0) hC dX4_raiseLeast_15 rfl 0 rfl ?_
    refine x_iload (i := 4) hC dX4_raiseLeast_16 4 rfl ?_
    replace h := ck_el h
    obtain ⟨hc13, h⟩ := h
    refine x_iaload hC ea6 ha7 hc13 dX4_raiseLeast_18 ?_
    replace h := bd_el h
    obtain ⟨v14, S15, hb16, h⟩ := h
    refine x_callS hC (st := []) (mt_X4_isScore _ _ _ hb16) q_434 q_435 q_1 q_436 hy_X4_isScore ⟨Nat.le_of_ble_eq_true rfl, Nat.le_of_ble_eq_true rfl⟩ ⟨Nat.le_of_ble_eq_true rfl, Nat.le_of_ble_eq_true rfl⟩ rfl (Nat.le_of_ble_eq_true rfl) dX4_raiseLeast_19 (r_N ?_) r_NX
    show PX Z 5 S15 0 0 22 [(0, va_rf r0), (1, .int i1), (2, .int v1), (3, .int v2), (4, .int v3)] [.int v14]
    refine x_if_eq (t := 41) hC dX4_raiseLeast_22 (by decide) (fun c17 => ?_) (fun c17 => ?_)
    · replace h := it_t c17 h
      refine x_iinc (i := 4) (v := (v3 + (1 : Int32))) (l' := [(4, .int (v3 + (1 : Int32))), (0, va_rf r0), (1, .int i1), (2, .int v1), (3, .int v2)]) hC dX4_raiseLeast_41 4 rfl rfl (⟨fun _ => c_rf r0, ⟨fun _ => rfl, ⟨fun _ => rfl, ⟨fun _ => rfl, ⟨fun _ => rfl, trivial⟩⟩⟩⟩⟩) (by decide) rfl ?_
      refine x_goto (t := 8) hC dX4_raiseLeast_44 (by decide) ?_
      refine x_sub (l' := [(0, va_rf r0), (1, .int i1), (2, .int v1), (3, .int v2), (4, .int (v3 + (1 : Int32)))]) [1, 2, 3, 4, 0] rfl ?_
      have hb := bk_x h hg_8
      exact hb
    · replace h := it_f c17 h
      refine x_aload_n (i := 0) hC dX4_raiseLeast_25 rfl 0 rfl ?_
      refine x_iload (i := 4) hC dX4_raiseLeast_26 4 rfl ?_
      replace h := dr_el h
      obtain ⟨a18, ea19, ha20, h⟩ := h
      replace h := ck_el h
      obtain ⟨hc21, h⟩ := h
      refine x_iaload hC ea19 ha20 hc21 dX4_raiseLeast_28 ?_
      refine x_iload_n (i := 3) hC dX4_raiseLeast_29 rfl 3 rfl ?_
      refine x_icmp_ge (t := 41) hC dX4_raiseLeast_30 (by decide) (fun c22 => ?_) (fun c22 => ?_)
      · replace h := it_t c22 h
        refine x_iinc (i := 4) (v := (v3 + (1 : Int32))) (l' := [(4, .int (v3 + (1 : Int32))), (0, va_rf r0), (1, .int i1), (2, .int v1), (3, .int v2)]) hC dX4_raiseLeast_41 4 rfl rfl (⟨fun _ => c_rf r0, ⟨fun _ => rfl, ⟨fun _ => rfl, ⟨fun _ => rfl, ⟨fun _ => rfl, trivial⟩⟩⟩⟩⟩) (by decide) rfl ?_
        refine x_goto (t := 8) hC dX4_raiseLeast_44 (by decide) ?_
        refine x_sub (l' := [(0, va_rf r0), (1, .int i1), (2, .int v1), (3, .int v2), (4, .int (v3 + (1 : Int32)))]) [1, 2, 3, 4, 0] rfl ?_
        have hb := bk_x h hg_8
        exact hb
      · replace h := it_f c22 h
        refine x_iload (i := 4) hC dX4_raiseLeast_33 4 rfl ?_
        refine x_istore_n (i := 2) (l' := [(2, .int v3), (0, va_rf r0), (1, .int i1), (3, .int v2), (4, .int v3)]) hC dX4_raiseLeast_35 rfl (⟨fun _ => c_rf r0, ⟨fun _ => rfl, ⟨fun _ => rfl, ⟨fun _ => rfl, ⟨fun _ => rfl, trivial⟩⟩⟩⟩⟩) (by decide) rfl ?_
        refine x_aload_n (i := 0) hC dX4_raiseLeast_36 rfl 1 rfl ?_
        refine x_iload (i := 4) hC dX4_raiseLeast_37 4 rfl ?_
        replace h := ck_el h
        obtain ⟨hc23, h⟩ := h
        refine x_iaload hC ea19 ha20 hc23 dX4_raiseLeast_39 ?_
        replace h := le_el h
        obtain ⟨x24, hx25, h⟩ := h
        refine x_tI hx25 ?_
        refine x_istore_n (i := 3) (l' := [(3, .int x24), (2, .int v3), (0, va_rf r0), (1, .int i1), (4, .int v3)]) hC dX4_raiseLeast_40 rfl (⟨fun _ => rfl, ⟨fun _ => c_rf r0, ⟨fun _ => rfl, ⟨fun _ => rfl, ⟨fun _ => rfl, trivial⟩⟩⟩⟩⟩) (by decide) rfl ?_
        refine x_iinc (i := 4) (v := (v3 + (1 : Int32))) (l' := [(4, .int (v3 + (1 : Int32))), (3, .int x24), (2, .int v3), (0, va_rf r0), (1, .int i1)]) hC dX4_raiseLeast_41 4 rfl rfl (⟨fun _ => rfl, ⟨fun _ => rfl, ⟨fun _ => c_rf r0, ⟨fun _ => rfl, ⟨fun _ => rfl, trivial⟩⟩⟩⟩⟩) (by decide) rfl ?_
        refine x_goto (t := 8) hC dX4_raiseLeast_44 (by decide) ?_
        refine x_sub (l' := [(0, va_rf r0), (1, .int i1), (2, .int v3), (3, .int x24), (4, .int (v3 + (1 : Int32)))]) [3, 4, 2, 1, 0] rfl ?_
        have hb := bk_x h hg_8
        exact hb
theorem dX4_giveCredit_0 : decode cX4_giveCredit 0 = .ok (.iconst 0, 1) := by decide +kernel
theorem dX4_giveCredit_1 : decode cX4_giveCredit 1 = .ok (.istore_n 2, 1) := by decide +kernel
theorem dX4_giveCredit_2 : decode cX4_giveCredit 2 = .ok (.iconst 0, 1) := by decide +kernel
theorem dX4_giveCredit_3 : decode cX4_giveCredit 3 = .ok (.istore_n 3, 1) := by decide +kernel
theorem dX4_giveCredit_4 : decode cX4_giveCredit 4 = .ok (.iload_n 3, 1) := by decide +kernel
theorem dX4_giveCredit_5 : decode cX4_giveCredit 5 = .ok (.bipush 8, 2) := by decide +kernel
theorem dX4_giveCredit_7 : decode cX4_giveCredit 7 = .ok (.if_icmp .ge 36, 3) := by decide +kernel
theorem dX4_giveCredit_10 : decode cX4_giveCredit 10 = .ok (.iload_n 1, 1) := by decide +kernel
theorem dX4_giveCredit_11 : decode cX4_giveCredit 11 = .ok (.iload_n 3, 1) := by decide +kernel
theorem dX4_giveCredit_12 : decode cX4_giveCredit 12 = .ok (.invokestatic 87, 3) := by decide +kernel
theorem dX4_giveCredit_15 : decode cX4_giveCredit 15 = .ok (.ifCond .eq 22, 3) := by decide +kernel
theorem dX4_giveCredit_18 : decode cX4_giveCredit 18 = .ok (.aload_n 0, 1) := by decide +kernel
theorem dX4_giveCredit_19 : decode cX4_giveCredit 19 = .ok (.getfield 10, 3) := by decide +kernel
theorem dX4_giveCredit_22 : decode cX4_giveCredit 22 = .ok (.getfield 112, 3) := by decide +kernel
theorem dX4_giveCredit_25 : decode cX4_giveCredit 25 = .ok (.ifCond .le 12, 3) := by decide +kernel
theorem dX4_giveCredit_28 : decode cX4_giveCredit 28 = .ok (.aload_n 0, 1) := by decide +kernel
theorem dX4_giveCredit_29 : decode cX4_giveCredit 29 = .ok (.iload_n 3, 1) := by decide +kernel
theorem dX4_giveCredit_30 : decode cX4_giveCredit 30 = .ok (.iconst 1, 1) := by decide +kernel
theorem dX4_giveCredit_31 : decode cX4_giveCredit 31 = .ok (.invokevirtual 306, 3) := by decide +kernel
theorem dX4_giveCredit_34 : decode cX4_giveCredit 34 = .ok (.iinc 2 1, 3) := by decide +kernel
theorem dX4_giveCredit_37 : decode cX4_giveCredit 37 = .ok (.iinc 3 1, 3) := by decide +kernel
theorem dX4_giveCredit_40 : decode cX4_giveCredit 40 = .ok (.goto (-36), 3) := by decide +kernel
theorem dX4_giveCredit_43 : decode cX4_giveCredit 43 = .ok (.iload_n 2, 1) := by decide +kernel
theorem dX4_giveCredit_44 : decode cX4_giveCredit 44 = .ok (.ireturn, 1) := by decide +kernel
set_option maxRecDepth 100000 in
set_option maxHeartbeats 4000000 in
theorem mt_X4_giveCredit (r0 : Option Nat) (i1 : Int32) (S0 : PH) (y : Int32 × PH) (h : m_X4_giveCredit r0 i1 S0 = some y) : MT yX4_giveCredit (.code yX4_giveCredit cX4_giveCredit 4 (Option.some FieldType.int)) 1 22 0 0 [va_rf r0, .int i1] S0 (oQ e_I (qN y)) := by
  refine mt_of (own := RX4) (l0 := [(0, va_rf r0), (1, .int i1)]) rfl rfl (by cases r0 <;> exact Nat.le_of_ble_eq_true rfl) (by cases r0 <;> rfl) ?_
  intro Z hC hQ hE hN
  unfold m_X4_giveCredit at h
  refine x_iconst (v := (0 : Int32)) hC dX4_giveCredit_0 (by decide) ?_
  refine x_istore_n (i := 2) (l' := [(2, .int (0 : Int32)), (0, va_rf r0), (1, .int i1)]) hC dX4_giveCredit_1 rfl (⟨fun _ => c_rf r0, ⟨fun _ => rfl, trivial⟩⟩) (by decide) rfl ?_
  refine x_iconst (v := (0 : Int32)) hC dX4_giveCredit_2 (by decide) ?_
  refine x_istore_n (i := 3) (l' := [(3, .int (0 : Int32)), (2, .int (0 : Int32)), (0, va_rf r0), (1, .int i1)]) hC dX4_giveCredit_3 rfl (⟨fun _ => rfl, ⟨fun _ => c_rf r0, ⟨fun _ => rfl, trivial⟩⟩⟩) (by decide) rfl ?_
  refine x_sub (l' := [(0, va_rf r0), (1, .int i1), (2, .int (0 : Int32)), (3, .int (0 : Int32))]) [2, 3, 1, 0] rfl ?_
  refine lp_sim (P := fun (t : (Int32 × Int32 × PH)) => PX Z 4 t.2.2 0 0 4 [(0, va_rf r0), (1, .int i1), (2, .int t.1), (3, .int t.2.1)] []) (G := fun r => r = y) ?_ h rfl
  clear h
  intro t x_4 h hg_4
  obtain ⟨v1, v2, S3⟩ := t
  show PX Z 4 S3 0 0 4 [(0, va_rf r0), (1, .int i1), (2, .int v1), (3, .int v2)] []
  unfold st_X4_giveCredit_4 at h
  refine x_iload_n (i := 3) hC dX4_giveCredit_4 rfl 3 rfl ?_
  refine x_bipush (v := (8 : Int32)) hC dX4_giveCredit_5 (by decide) ?_
  refine x_icmp_ge (t := 43) hC dX4_giveCredit_7 (by decide) (fun c4 => ?_) (fun c4 => ?_)
  · replace h := it_t c4 h
    replace h := ir_x h hg_4
    refine x_iload_n (i := 2) hC dX4_giveCredit_43 rfl 2 rfl ?_
    exact x_iret hC hQ (z_N (Option.some.inj h)) (Nat.le_of_ble_eq_true rfl) (Nat.le_of_ble_eq_true rfl) dX4_giveCredit_44
  · replace h := it_f c4 h
    refine x_iload_n (i := 1) hC dX4_giveCredit_10 rfl 1 rfl ?_
    refine x_iload_n (i := 3) hC dX4_giveCredit_11 rfl 3 rfl ?_
    replace h := bd_el h
    obtain ⟨v5, S6, hb7, h⟩ := h
    refine x_callS hC (st := []) (mt_X4_has _ _ _ _ hb7) q_366 q_367 q_1 q_368 hy_X4_has ⟨Nat.le_of_ble_eq_true rfl, Nat.le_of_ble_eq_true rfl⟩ ⟨Nat.le_of_ble_eq_true rfl, Nat.le_of_ble_eq_true rfl⟩ rfl (Nat.le_of_ble_eq_true rfl) dX4_giveCredit_12 (r_N ?_) r_NX
    show PX Z 4 S6 0 0 15 [(0, va_rf r0), (1, .int i1), (2, .int v1), (3, .int v2)] [.int v5]
    refine x_if_eq (t := 37) hC dX4_giveCredit_15 (by decide) (fun c8 => ?_) (fun c8 => ?_)
    · replace h := it_t c8 h
      refine x_iinc (i := 3) (v := (v2 + (1 : Int32))) (l' := [(3, .int (v2 + (1 : Int32))), (0, va_rf r0), (1, .int i1), (2, .int v1)]) hC dX4_giveCredit_37 3 rfl rfl (⟨fun _ => c_rf r0, ⟨fun _ => rfl, ⟨fun _ => rfl, ⟨fun _ => rfl, trivial⟩⟩⟩⟩) (by decide) rfl ?_
      refine x_goto (t := 4) hC dX4_giveCredit_40 (by decide) ?_
      refine x_sub (l' := [(0, va_rf r0), (1, .int i1), (2, .int v1), (3, .int (v2 + (1 : Int32)))]) [1, 2, 3, 0] rfl ?_
      have hb := bk_x h hg_4
      exact hb
    · replace h := it_f c8 h
      refine x_aload_n (i := 0) hC dX4_giveCredit_18 rfl 0 rfl ?_
      replace h := dr_el h
      obtain ⟨a9, ea10, ha11, h⟩ := h
      refine x_getR hC ea10 ha11 kf_4 0 (by decide) rfl q_172 dX4_giveCredit_19 ?_
      replace h := dr_el h
      obtain ⟨a12, ea13, ha14, h⟩ := h
      refine x_getI hC ea13 ha14 kf_2 14 (by decide) rfl q_65 dX4_giveCredit_22 ?_
      refine x_if_le (t := 37) hC dX4_giveCredit_25 (by decide) (fun c15 => ?_) (fun c15 => ?_)
      · replace h := it_t c15 h
        refine x_iinc (i := 3) (v := (v2 + (1 : Int32))) (l' := [(3, .int (v2 + (1 : Int32))), (0, va_rf r0), (1, .int i1), (2, .int v1)]) hC dX4_giveCredit_37 3 rfl rfl (⟨fun _ => c_rf r0, ⟨fun _ => rfl, ⟨fun _ => rfl, ⟨fun _ => rfl, trivial⟩⟩⟩⟩) (by decide) rfl ?_
        refine x_goto (t := 4) hC dX4_giveCredit_40 (by decide) ?_
        refine x_sub (l' := [(0, va_rf r0), (1, .int i1), (2, .int v1), (3, .int (v2 + (1 : Int32)))]) [1, 2, 3, 0] rfl ?_
        have hb := bk_x h hg_4
        exact hb
      · replace h := it_f c15 h
        refine x_aload_n (i := 0) hC dX4_giveCredit_28 rfl 0 rfl ?_
        refine x_iload_n (i := 3) hC dX4_giveCredit_29 rfl 3 rfl ?_
        refine x_iconst (v := (1 : Int32)) hC dX4_giveCredit_30 (by decide) ?_
        replace h := bd_el h
        obtain ⟨v16, S17, hb18, h⟩ := h
        refine x_callV hC (st := []) (mt_X4_giveFromPool _ _ _ _ _ hb18) ea10 ha11 kf_4 q_305 q_307 qs_3 q_1 q_308 ⟨rfl, hy_X4_giveFromPool⟩ ⟨Nat.le_of_ble_eq_true rfl, Nat.le_of_ble_eq_true rfl⟩ ⟨Nat.le_of_ble_eq_true rfl, Nat.le_of_ble_eq_true rfl⟩ rfl (Nat.le_of_ble_eq_true rfl) dX4_giveCredit_31 (r_N ?_) r_NX
        show PX Z 4 S17 0 0 34 [(0, va_rf r0), (1, .int i1), (2, .int v1), (3, .int v2)] []
        refine x_iinc (i := 2) (v := (v1 + (1 : Int32))) (l' := [(2, .int (v1 + (1 : Int32))), (0, va_rf r0), (1, .int i1), (3, .int v2)]) hC dX4_giveCredit_34 2 rfl rfl (⟨fun _ => c_rf r0, ⟨fun _ => rfl, ⟨fun _ => rfl, ⟨fun _ => rfl, trivial⟩⟩⟩⟩) (by decide) rfl ?_
        refine x_iinc (i := 3) (v := (v2 + (1 : Int32))) (l' := [(3, .int (v2 + (1 : Int32))), (2, .int (v1 + (1 : Int32))), (0, va_rf r0), (1, .int i1)]) hC dX4_giveCredit_37 3 rfl rfl (⟨fun _ => rfl, ⟨fun _ => c_rf r0, ⟨fun _ => rfl, ⟨fun _ => rfl, trivial⟩⟩⟩⟩) (by decide) rfl ?_
        refine x_goto (t := 4) hC dX4_giveCredit_40 (by decide) ?_
        refine x_sub (l' := [(0, va_rf r0), (1, .int i1), (2, .int (v1 + (1 : Int32))), (3, .int (v2 + (1 : Int32)))]) [2, 3, 1, 0] rfl ?_
        have hb := bk_x h hg_4
        exact hb
theorem dX4_rebutPaper_0 : decode cX4_rebutPaper 0 = .ok (.aload_n 0, 1) := by decide +kernel
theorem dX4_rebutPaper_1 : decode cX4_rebutPaper 1 = .ok (.iload_n 1, 1) := by decide +kernel
theorem dX4_rebutPaper_2 : decode cX4_rebutPaper 2 = .ok (.invokevirtual 349, 3) := by decide +kernel
theorem dX4_rebutPaper_5 : decode cX4_rebutPaper 5 = .ok (.istore_n 2, 1) := by decide +kernel
theorem dX4_rebutPaper_6 : decode cX4_rebutPaper 6 = .ok (.iload_n 2, 1) := by decide +kernel
theorem dX4_rebutPaper_7 : decode cX4_rebutPaper 7 = .ok (.ifCond .eq 9, 3) := by decide +kernel
theorem dX4_rebutPaper_10 : decode cX4_rebutPaper 10 = .ok (.aload_n 0, 1) := by decide +kernel
theorem dX4_rebutPaper_11 : decode cX4_rebutPaper 11 = .ok (.iload_n 2, 1) := by decide +kernel
theorem dX4_rebutPaper_12 : decode cX4_rebutPaper 12 = .ok (.invokevirtual 328, 3) := by decide +kernel
theorem dX4_rebutPaper_15 : decode cX4_rebutPaper 15 = .ok (.ireturn, 1) := by decide +kernel
theorem dX4_rebutPaper_16 : decode cX4_rebutPaper 16 = .ok (.aload_n 0, 1) := by decide +kernel
theorem dX4_rebutPaper_17 : decode cX4_rebutPaper 17 = .ok (.getfield 10, 3) := by decide +kernel
theorem dX4_rebutPaper_20 : decode cX4_rebutPaper 20 = .ok (.getfield 167, 3) := by decide +kernel
theorem dX4_rebutPaper_23 : decode cX4_rebutPaper 23 = .ok (.iload_n 1, 1) := by decide +kernel
theorem dX4_rebutPaper_24 : decode cX4_rebutPaper 24 = .ok (.aaload, 1) := by decide +kernel
theorem dX4_rebutPaper_25 : decode cX4_rebutPaper 25 = .ok (.astore_n 3, 1) := by decide +kernel
theorem dX4_rebutPaper_26 : decode cX4_rebutPaper 26 = .ok (.aload_n 3, 1) := by decide +kernel
theorem dX4_rebutPaper_27 : decode cX4_rebutPaper 27 = .ok (.aload_n 0, 1) := by decide +kernel
theorem dX4_rebutPaper_28 : decode cX4_rebutPaper 28 = .ok (.getfield 10, 3) := by decide +kernel
theorem dX4_rebutPaper_31 : decode cX4_rebutPaper 31 = .ok (.getfield 102, 3) := by decide +kernel
theorem dX4_rebutPaper_34 : decode cX4_rebutPaper 34 = .ok (.iconst 3, 1) := by decide +kernel
theorem dX4_rebutPaper_35 : decode cX4_rebutPaper 35 = .ok (.iaload, 1) := by decide +kernel
theorem dX4_rebutPaper_36 : decode cX4_rebutPaper 36 = .ok (.invokestatic 352, 3) := by decide +kernel
theorem dX4_rebutPaper_39 : decode cX4_rebutPaper 39 = .ok (.aload_n 0, 1) := by decide +kernel
theorem dX4_rebutPaper_40 : decode cX4_rebutPaper 40 = .ok (.getfield 10, 3) := by decide +kernel
theorem dX4_rebutPaper_43 : decode cX4_rebutPaper 43 = .ok (.getfield 356, 3) := by decide +kernel
theorem dX4_rebutPaper_46 : decode cX4_rebutPaper 46 = .ok (.iload_n 1, 1) := by decide +kernel
theorem dX4_rebutPaper_47 : decode cX4_rebutPaper 47 = .ok (.iconst 1, 1) := by decide +kernel
theorem dX4_rebutPaper_48 : decode cX4_rebutPaper 48 = .ok (.iastore, 1) := by decide +kernel
theorem dX4_rebutPaper_49 : decode cX4_rebutPaper 49 = .ok (.bipush 10, 2) := by decide +kernel
theorem dX4_rebutPaper_51 : decode cX4_rebutPaper 51 = .ok (.aload_n 0, 1) := by decide +kernel
theorem dX4_rebutPaper_52 : decode cX4_rebutPaper 52 = .ok (.aload_n 3, 1) := by decide +kernel
theorem dX4_rebutPaper_53 : decode cX4_rebutPaper 53 = .ok (.invokestatic 175, 3) := by decide +kernel
theorem dX4_rebutPaper_56 : decode cX4_rebutPaper 56 = .ok (.invokevirtual 359, 3) := by decide +kernel
theorem dX4_rebutPaper_59 : decode cX4_rebutPaper 59 = .ok (.iadd, 1) := by decide +kernel
theorem dX4_rebutPaper_60 : decode cX4_rebutPaper 60 = .ok (.ireturn, 1) := by decide +kernel
set_option maxRecDepth 100000 in
set_option maxHeartbeats 4000000 in
theorem mt_X4_rebutPaper (r0 : Option Nat) (i1 : Int32) (S0 : PH) (y : Int32 × PH) (h : m_X4_rebutPaper r0 i1 S0 = some y) : MT yX4_rebutPaper (.code yX4_rebutPaper cX4_rebutPaper 4 (Option.some FieldType.int)) 3 63 0 0 [va_rf r0, .int i1] S0 (oQ e_I (qN y)) := by
  refine mt_of (own := RX4) (l0 := [(0, va_rf r0), (1, .int i1)]) rfl rfl (by cases r0 <;> exact Nat.le_of_ble_eq_true rfl) (by cases r0 <;> rfl) ?_
  intro Z hC hQ hE hN
  unfold m_X4_rebutPaper at h
  refine x_aload_n (i := 0) hC dX4_rebutPaper_0 rfl 0 rfl ?_
  refine x_iload_n (i := 1) hC dX4_rebutPaper_1 rfl 1 rfl ?_
  replace h := dr_el h
  obtain ⟨a1, ea2, ha3, h⟩ := h
  replace h := bd_el h
  obtain ⟨v4, S5, hb6, h⟩ := h
  refine x_callV hC (st := []) (mt_X4_reasonAgainstRebuttal _ _ _ _ hb6) ea2 ha3 kf_4 q_605 q_607 qs_30 q_1 q_608 ⟨rfl, hy_X4_reasonAgainstRebuttal⟩ ⟨Nat.le_of_ble_eq_true rfl, Nat.le_of_ble_eq_true rfl⟩ ⟨Nat.le_of_ble_eq_true rfl, Nat.le_of_ble_eq_true rfl⟩ rfl (Nat.le_of_ble_eq_true rfl) dX4_rebutPaper_2 (r_N ?_) r_NX
  show PX Z 4 S5 0 0 5 [(0, va_rf r0), (1, .int i1)] [.int v4]
  refine x_istore_n (i := 2) (l' := [(2, .int v4), (0, va_rf r0), (1, .int i1)]) hC dX4_rebutPaper_5 rfl (⟨fun _ => c_rf r0, ⟨fun _ => rfl, trivial⟩⟩) (by decide) rfl ?_
  refine x_iload_n (i := 2) hC dX4_rebutPaper_6 rfl 0 rfl ?_
  refine x_if_eq (t := 16) hC dX4_rebutPaper_7 (by decide) (fun c7 => ?_) (fun c7 => ?_)
  · replace h := it_t c7 h
    refine x_aload_n (i := 0) hC dX4_rebutPaper_16 rfl 1 rfl ?_
    replace h := dr_el h
    obtain ⟨a8, ea9, ha10, h⟩ := h
    refine x_getR hC ea9 ha10 kf_4 0 (by decide) rfl q_172 dX4_rebutPaper_17 ?_
    replace h := dr_el h
    obtain ⟨a11, ea12, ha13, h⟩ := h
    refine x_getR hC ea12 ha13 kf_2 10 (by decide) rfl q_57 dX4_rebutPaper_20 ?_
    refine x_iload_n (i := 1) hC dX4_rebutPaper_23 rfl 2 rfl ?_
    replace h := dr_el h
    obtain ⟨a14, ea15, ha16, h⟩ := h
    replace h := ck_el h
    obtain ⟨hc17, h⟩ := h
    refine x_aaload9 hC ea15 ha16 hc17 dX4_rebutPaper_24 ?_
    replace h := le_el h
    obtain ⟨r18, hx19, h⟩ := h
    refine x_tA hx19 ?_
    refine x_astore_n (i := 3) (l' := [(3, va_rf r18), (2, .int v4), (0, va_rf r0), (1, .int i1)]) hC dX4_rebutPaper_25 rfl (⟨fun _ => rfl, ⟨fun _ => c_rf r0, ⟨fun _ => rfl, trivial⟩⟩⟩) (by decide) rfl ?_
    refine x_aload_n (i := 3) hC dX4_rebutPaper_26 rfl 0 rfl ?_
    refine x_aload_n (i := 0) hC dX4_rebutPaper_27 rfl 2 rfl ?_
    refine x_getR hC ea9 ha10 kf_4 0 (by decide) rfl q_172 dX4_rebutPaper_28 ?_
    refine x_getR hC ea12 ha13 kf_2 11 (by decide) rfl q_59 dX4_rebutPaper_31 ?_
    refine x_iconst (v := (3 : Int32)) hC dX4_rebutPaper_34 (by decide) ?_
    replace h := dr_el h
    obtain ⟨a20, ea21, ha22, h⟩ := h
    replace h := ck_el h
    obtain ⟨hc23, h⟩ := h
    refine x_iaload hC ea21 ha22 hc23 dX4_rebutPaper_35 ?_
    refine x_tI (b := (p_I S5 a20 3)) rfl ?_
    replace h := bd_el h
    obtain ⟨v24, S25, hb26, h⟩ := h
    refine x_callS hC (st := []) (mt_X4_raiseLeast _ _ _ _ hb26) q_609 q_610 q_1 q_611 hy_X4_raiseLeast ⟨Nat.le_of_ble_eq_true rfl, Nat.le_of_ble_eq_true rfl⟩ ⟨Nat.le_of_ble_eq_true rfl, Nat.le_of_ble_eq_true rfl⟩ rfl (Nat.le_of_ble_eq_true rfl) dX4_rebutPaper_36 (r_N ?_) r_NX
    show PX Z 4 S25 0 0 39 [(3, va_rf r18), (2, .int v4), (0, va_rf r0), (1, .int i1)] []
    refine x_aload_n (i := 0) hC dX4_rebutPaper_39 rfl 2 rfl ?_
    replace h := dr_el h
    obtain ⟨a27, ea28, ha29, h⟩ := h
    refine x_getR hC ea28 ha29 kf_4 0 (by decide) rfl q_172 dX4_rebutPaper_40 ?_
    replace h := dr_el h
    obtain ⟨a30, ea31, ha32, h⟩ := h
    refine x_getR hC ea31 ha32 kf_2 8 (by decide) rfl q_53 dX4_rebutPaper_43 ?_
    refine x_iload_n (i := 1) hC dX4_rebutPaper_46 rfl 3 rfl ?_
    refine x_iconst (v := (1 : Int32)) hC dX4_rebutPaper_47 (by decide) ?_
    replace h := dr_el h
    obtain ⟨a33, ea34, ha35, h⟩ := h
    replace h := ck_el h
    obtain ⟨hc36, h⟩ := h
    replace h := le_el h
    obtain ⟨S37, hx38, h⟩ := h
    refine x_iastore hC ea34 ha35 hc36 dX4_rebutPaper_48 ?_
    refine x_tS hx38 ?_
    refine x_bipush (v := (10 : Int32)) hC dX4_rebutPaper_49 (by decide) ?_
    refine x_aload_n (i := 0) hC dX4_rebutPaper_51 rfl 2 rfl ?_
    refine x_aload_n (i := 3) hC dX4_rebutPaper_52 rfl 0 rfl ?_
    replace h := bd_el h
    obtain ⟨v39, S40, hb41, h⟩ := h
    refine x_callS hC (st := [va_rf r0, .int (10 : Int32)]) (mt_X4_writersIn _ _ _ hb41) q_431 q_432 q_1 q_433 hy_X4_writersIn ⟨Nat.le_of_ble_eq_true rfl, Nat.le_of_ble_eq_true rfl⟩ ⟨Nat.le_of_ble_eq_true rfl, Nat.le_of_ble_eq_true rfl⟩ rfl (Nat.le_of_ble_eq_true rfl) dX4_rebutPaper_53 (r_N ?_) r_NX
    show PX Z 4 S40 0 0 56 [(3, va_rf r18), (2, .int v4), (0, va_rf r0), (1, .int i1)] [.int v39, va_rf r0, .int (10 : Int32)]
    replace h := dr_el h
    obtain ⟨a42, ea43, ha44, h⟩ := h
    replace h := bd_el h
    obtain ⟨v45, S46, hb47, h⟩ := h
    refine x_callV hC (st := [.int (10 : Int32)]) (mt_X4_giveCredit _ _ _ _ hb47) ea43 ha44 kf_4 q_612 q_614 qs_31 q_1 q_615 ⟨rfl, hy_X4_giveCredit⟩ ⟨Nat.le_of_ble_eq_true rfl, Nat.le_of_ble_eq_true rfl⟩ ⟨Nat.le_of_ble_eq_true rfl, Nat.le_of_ble_eq_true rfl⟩ rfl (Nat.le_of_ble_eq_true rfl) dX4_rebutPaper_56 (r_N ?_) r_NX
    show PX Z 4 S46 0 0 59 [(3, va_rf r18), (2, .int v4), (0, va_rf r0), (1, .int i1)] [.int v45, .int (10 : Int32)]
    refine x_iadd hC dX4_rebutPaper_59 ?_
    exact x_iret hC hQ (z_N (Option.some.inj h)) (Nat.le_of_ble_eq_true rfl) (Nat.le_of_ble_eq_true rfl) dX4_rebutPaper_60
  · replace h := it_f c7 h
    refine x_aload_n (i := 0) hC dX4_rebutPaper_10 rfl 1 rfl ?_
    refine x_iload_n (i := 2) hC dX4_rebutPaper_11 rfl 0 rfl ?_
    replace h := dr_el h
    obtain ⟨a48, ea49, ha50, h⟩ := h
    replace h := bd_el h
    obtain ⟨v51, S52, hb53, h⟩ := h
    refine x_callV hC (st := []) (mt_X4_refuse _ _ _ _ hb53) ea49 ha50 kf_4 q_373 q_375 qs_11 q_1 q_376 ⟨rfl, hy_X4_refuse⟩ ⟨Nat.le_of_ble_eq_true rfl, Nat.le_of_ble_eq_true rfl⟩ ⟨Nat.le_of_ble_eq_true rfl, Nat.le_of_ble_eq_true rfl⟩ rfl (Nat.le_of_ble_eq_true rfl) dX4_rebutPaper_12 (r_N ?_) r_NX
    show PX Z 4 S52 0 0 15 [(2, .int v4), (0, va_rf r0), (1, .int i1)] [.int v51]
    exact x_iret hC hQ (z_N (Option.some.inj h)) (Nat.le_of_ble_eq_true rfl) (Nat.le_of_ble_eq_true rfl) dX4_rebutPaper_15
