/-! THE WALKS: each method does what it means -/
theorem dX5_thrown_0 : decode cX5_thrown 0 = .ok (.aload_n 0, 1) := by decide +kernel
theorem dX5_thrown_1 : decode cX5_thrown 1 = .ok (.getfield 23, 3) := by decide +kernel
theorem dX5_thrown_4 : decode cX5_thrown 4 = .ok (.ireturn, 1) := by decide +kernel
set_option maxRecDepth 100000 in
set_option maxHeartbeats 4000000 in
theorem mt_X5_thrown (r0 : Option Nat) (S0 : PH) (y : Int32 × PH) (h : m_X5_thrown r0 S0 = some y) : MT yX5_thrown (.code yX5_thrown cX5_thrown 1 (Option.some FieldType.int)) 0 0 0 0 [va_rf r0] S0 (oQ e_I (qN y)) := by
  refine mt_of (own := RX5) (l0 := [(0, va_rf r0)]) rfl rfl (by cases r0 <;> exact Nat.le_of_ble_eq_true rfl) (by cases r0 <;> rfl) ?_
  intro Z hC hQ hE hN
  unfold m_X5_thrown at h
  refine x_aload_n (i := 0) hC dX5_thrown_0 rfl 0 rfl ?_
  replace h := dr_el h
  obtain ⟨a1, ea2, ha3, h⟩ := h
  refine x_getI hC ea2 ha3 kf_5 0 (by decide) rfl q_863 dX5_thrown_1 ?_
  exact x_iret hC hQ (z_N (Option.some.inj h)) (Nat.le_of_ble_eq_true rfl) (Nat.le_of_ble_eq_true rfl) dX5_thrown_4
theorem dX5_in_0 : decode cX5_in 0 = .ok (.iload_n 0, 1) := by decide +kernel
theorem dX5_in_1 : decode cX5_in 1 = .ok (.iload_n 1, 1) := by decide +kernel
theorem dX5_in_2 : decode cX5_in 2 = .ok (.if_icmp .lt 12, 3) := by decide +kernel
theorem dX5_in_5 : decode cX5_in 5 = .ok (.iload_n 0, 1) := by decide +kernel
theorem dX5_in_6 : decode cX5_in 6 = .ok (.iload_n 2, 1) := by decide +kernel
theorem dX5_in_7 : decode cX5_in 7 = .ok (.if_icmp .gt 7, 3) := by decide +kernel
theorem dX5_in_10 : decode cX5_in 10 = .ok (.iconst 1, 1) := by decide +kernel
theorem dX5_in_11 : decode cX5_in 11 = .ok (.goto 4, 3) := by decide +kernel
theorem dX5_in_14 : decode cX5_in 14 = .ok (.iconst 0, 1) := by decide +kernel
theorem dX5_in_15 : decode cX5_in 15 = .ok (.ireturn, 1) := by decide +kernel
set_option maxRecDepth 100000 in
set_option maxHeartbeats 4000000 in
theorem mt_X5_in (i0 : Int32) (i1 : Int32) (i2 : Int32) (S0 : PH) (y : Int32 × PH) (h : m_X5_in i0 i1 i2 S0 = some y) : MT yX5_in (.code yX5_in cX5_in 3 (Option.some FieldType.boolean)) 0 0 0 0 [.int i0, .int i1, .int i2] S0 (oQ e_I (qN y)) := by
  refine mt_of (own := RX5) (l0 := [(0, .int i0), (1, .int i1), (2, .int i2)]) rfl rfl (by exact Nat.le_of_ble_eq_true rfl) (by rfl) ?_
  intro Z hC hQ hE hN
  unfold m_X5_in at h
  refine x_iload_n (i := 0) hC dX5_in_0 rfl 0 rfl ?_
  refine x_iload_n (i := 1) hC dX5_in_1 rfl 1 rfl ?_
  refine x_icmp_lt (t := 14) hC dX5_in_2 (by decide) (fun c1 => ?_) (fun c1 => ?_)
  · replace h := it_t c1 h
    refine x_iconst (v := (0 : Int32)) hC dX5_in_14 (by decide) ?_
    exact x_zret hC hQ (by decide) (z_N (Option.some.inj h)) (Nat.le_of_ble_eq_true rfl) (Nat.le_of_ble_eq_true rfl) dX5_in_15
  · replace h := it_f c1 h
    refine x_iload_n (i := 0) hC dX5_in_5 rfl 0 rfl ?_
    refine x_iload_n (i := 2) hC dX5_in_6 rfl 2 rfl ?_
    refine x_icmp_gt (t := 14) hC dX5_in_7 (by decide) (fun c2 => ?_) (fun c2 => ?_)
    · replace h := it_t c2 h
      refine x_iconst (v := (0 : Int32)) hC dX5_in_14 (by decide) ?_
      exact x_zret hC hQ (by decide) (z_N (Option.some.inj h)) (Nat.le_of_ble_eq_true rfl) (Nat.le_of_ble_eq_true rfl) dX5_in_15
    · replace h := it_f c2 h
      refine x_iconst (v := (1 : Int32)) hC dX5_in_10 (by decide) ?_
      refine x_goto (t := 15) hC dX5_in_11 (by decide) ?_
      exact x_zret hC hQ (by decide) (z_N (Option.some.inj h)) (Nat.le_of_ble_eq_true rfl) (Nat.le_of_ble_eq_true rfl) dX5_in_15
theorem dX5_holds_0 : decode cX5_holds 0 = .ok (.aload_n 0, 1) := by decide +kernel
theorem dX5_holds_1 : decode cX5_holds 1 = .ok (.iload_n 1, 1) := by decide +kernel
theorem dX5_holds_2 : decode cX5_holds 2 = .ok (.putfield 23, 3) := by decide +kernel
theorem dX5_holds_5 : decode cX5_holds 5 = .ok (.iload_n 1, 1) := by decide +kernel
theorem dX5_holds_6 : decode cX5_holds 6 = .ok (.ifCond .ne 7, 3) := by decide +kernel
theorem dX5_holds_9 : decode cX5_holds 9 = .ok (.iconst 1, 1) := by decide +kernel
theorem dX5_holds_10 : decode cX5_holds 10 = .ok (.goto 4, 3) := by decide +kernel
theorem dX5_holds_13 : decode cX5_holds 13 = .ok (.iconst 0, 1) := by decide +kernel
theorem dX5_holds_14 : decode cX5_holds 14 = .ok (.ireturn, 1) := by decide +kernel
set_option maxRecDepth 100000 in
set_option maxHeartbeats 4000000 in
theorem mt_X5_holds (r0 : Option Nat) (i1 : Int32) (S0 : PH) (y : Int32 × PH) (h : m_X5_holds r0 i1 S0 = some y) : MT yX5_holds (.code yX5_holds cX5_holds 2 (Option.some FieldType.boolean)) 0 0 0 0 [va_rf r0, .int i1] S0 (oQ e_I (qN y)) := by
  refine mt_of (own := RX5) (l0 := [(0, va_rf r0), (1, .int i1)]) rfl rfl (by cases r0 <;> exact Nat.le_of_ble_eq_true rfl) (by cases r0 <;> rfl) ?_
  intro Z hC hQ hE hN
  unfold m_X5_holds at h
  refine x_aload_n (i := 0) hC dX5_holds_0 rfl 0 rfl ?_
  refine x_iload_n (i := 1) hC dX5_holds_1 rfl 1 rfl ?_
  replace h := dr_el h
  obtain ⟨a1, ea2, ha3, h⟩ := h
  replace h := le_el h
  obtain ⟨S4, hx5, h⟩ := h
  refine x_putI hC ea2 ha3 kf_5 0 (by decide) rfl rfl q_863 (Or.inl rfl) dX5_holds_2 ?_
  refine x_tS hx5 ?_
  refine x_iload_n (i := 1) hC dX5_holds_5 rfl 1 rfl ?_
  refine x_if_ne (t := 13) hC dX5_holds_6 (by decide) (fun c6 => ?_) (fun c6 => ?_)
  · replace h := it_f c6 h
    refine x_iconst (v := (0 : Int32)) hC dX5_holds_13 (by decide) ?_
    exact x_zret hC hQ (by decide) (z_N (Option.some.inj h)) (Nat.le_of_ble_eq_true rfl) (Nat.le_of_ble_eq_true rfl) dX5_holds_14
  · replace h := it_t c6 h
    refine x_iconst (v := (1 : Int32)) hC dX5_holds_9 (by decide) ?_
    refine x_goto (t := 14) hC dX5_holds_10 (by decide) ?_
    exact x_zret hC hQ (by decide) (z_N (Option.some.inj h)) (Nat.le_of_ble_eq_true rfl) (Nat.le_of_ble_eq_true rfl) dX5_holds_14
theorem dX5_has_0 : decode cX5_has 0 = .ok (.iload_n 0, 1) := by decide +kernel
theorem dX5_has_1 : decode cX5_has 1 = .ok (.iload_n 1, 1) := by decide +kernel
theorem dX5_has_2 : decode cX5_has 2 = .ok (.ishr, 1) := by decide +kernel
theorem dX5_has_3 : decode cX5_has 3 = .ok (.iconst 1, 1) := by decide +kernel
theorem dX5_has_4 : decode cX5_has 4 = .ok (.iand, 1) := by decide +kernel
theorem dX5_has_5 : decode cX5_has 5 = .ok (.iconst 1, 1) := by decide +kernel
theorem dX5_has_6 : decode cX5_has 6 = .ok (.if_icmp .ne 7, 3) := by decide +kernel
theorem dX5_has_9 : decode cX5_has 9 = .ok (.iconst 1, 1) := by decide +kernel
theorem dX5_has_10 : decode cX5_has 10 = .ok (.goto 4, 3) := by decide +kernel
theorem dX5_has_13 : decode cX5_has 13 = .ok (.iconst 0, 1) := by decide +kernel
theorem dX5_has_14 : decode cX5_has 14 = .ok (.ireturn, 1) := by decide +kernel
set_option maxRecDepth 100000 in
set_option maxHeartbeats 4000000 in
theorem mt_X5_has (i0 : Int32) (i1 : Int32) (S0 : PH) (y : Int32 × PH) (h : m_X5_has i0 i1 S0 = some y) : MT yX5_has (.code yX5_has cX5_has 2 (Option.some FieldType.boolean)) 0 0 0 0 [.int i0, .int i1] S0 (oQ e_I (qN y)) := by
  refine mt_of (own := RX5) (l0 := [(0, .int i0), (1, .int i1)]) rfl rfl (by exact Nat.le_of_ble_eq_true rfl) (by rfl) ?_
  intro Z hC hQ hE hN
  unfold m_X5_has at h
  refine x_iload_n (i := 0) hC dX5_has_0 rfl 0 rfl ?_
  refine x_iload_n (i := 1) hC dX5_has_1 rfl 1 rfl ?_
  refine x_ishr hC dX5_has_2 ?_
  refine x_iconst (v := (1 : Int32)) hC dX5_has_3 (by decide) ?_
  refine x_iand hC dX5_has_4 ?_
  refine x_iconst (v := (1 : Int32)) hC dX5_has_5 (by decide) ?_
  refine x_icmp_ne (t := 13) hC dX5_has_6 (by decide) (fun c1 => ?_) (fun c1 => ?_)
  · replace h := it_f c1 h
    refine x_iconst (v := (0 : Int32)) hC dX5_has_13 (by decide) ?_
    exact x_zret hC hQ (by decide) (z_N (Option.some.inj h)) (Nat.le_of_ble_eq_true rfl) (Nat.le_of_ble_eq_true rfl) dX5_has_14
  · replace h := it_t c1 h
    refine x_iconst (v := (1 : Int32)) hC dX5_has_9 (by decide) ?_
    refine x_goto (t := 14) hC dX5_has_10 (by decide) ?_
    exact x_zret hC hQ (by decide) (z_N (Option.some.inj h)) (Nat.le_of_ble_eq_true rfl) (Nat.le_of_ble_eq_true rfl) dX5_has_14
theorem dX5_ones_0 : decode cX5_ones 0 = .ok (.iconst 0, 1) := by decide +kernel
theorem dX5_ones_1 : decode cX5_ones 1 = .ok (.istore_n 1, 1) := by decide +kernel
theorem dX5_ones_2 : decode cX5_ones 2 = .ok (.iconst 0, 1) := by decide +kernel
theorem dX5_ones_3 : decode cX5_ones 3 = .ok (.istore_n 2, 1) := by decide +kernel
theorem dX5_ones_4 : decode cX5_ones 4 = .ok (.iload_n 2, 1) := by decide +kernel
theorem dX5_ones_5 : decode cX5_ones 5 = .ok (.bipush 8, 2) := by decide +kernel
theorem dX5_ones_7 : decode cX5_ones 7 = .ok (.if_icmp .ge 17, 3) := by decide +kernel
theorem dX5_ones_10 : decode cX5_ones 10 = .ok (.iload_n 1, 1) := by decide +kernel
theorem dX5_ones_11 : decode cX5_ones 11 = .ok (.iload_n 0, 1) := by decide +kernel
theorem dX5_ones_12 : decode cX5_ones 12 = .ok (.iload_n 2, 1) := by decide +kernel
theorem dX5_ones_13 : decode cX5_ones 13 = .ok (.ishr, 1) := by decide +kernel
theorem dX5_ones_14 : decode cX5_ones 14 = .ok (.iconst 1, 1) := by decide +kernel
theorem dX5_ones_15 : decode cX5_ones 15 = .ok (.iand, 1) := by decide +kernel
theorem dX5_ones_16 : decode cX5_ones 16 = .ok (.iadd, 1) := by decide +kernel
theorem dX5_ones_17 : decode cX5_ones 17 = .ok (.istore_n 1, 1) := by decide +kernel
theorem dX5_ones_18 : decode cX5_ones 18 = .ok (.iinc 2 1, 3) := by decide +kernel
theorem dX5_ones_21 : decode cX5_ones 21 = .ok (.goto (-17), 3) := by decide +kernel
theorem dX5_ones_24 : decode cX5_ones 24 = .ok (.iload_n 1, 1) := by decide +kernel
theorem dX5_ones_25 : decode cX5_ones 25 = .ok (.ireturn, 1) := by decide +kernel
set_option maxRecDepth 100000 in
set_option maxHeartbeats 4000000 in
theorem mt_X5_ones (i0 : Int32) (S0 : PH) (y : Int32 × PH) (h : m_X5_ones i0 S0 = some y) : MT yX5_ones (.code yX5_ones cX5_ones 3 (Option.some FieldType.int)) 0 0 0 0 [.int i0] S0 (oQ e_I (qN y)) := by
  refine mt_of (own := RX5) (l0 := [(0, .int i0)]) rfl rfl (by exact Nat.le_of_ble_eq_true rfl) (by rfl) ?_
  intro Z hC hQ hE hN
  unfold m_X5_ones at h
  refine x_iconst (v := (0 : Int32)) hC dX5_ones_0 (by decide) ?_
  refine x_istore_n (i := 1) (l' := [(1, .int (0 : Int32)), (0, .int i0)]) hC dX5_ones_1 rfl (⟨fun _ => rfl, trivial⟩) (by decide) rfl ?_
  refine x_iconst (v := (0 : Int32)) hC dX5_ones_2 (by decide) ?_
  refine x_istore_n (i := 2) (l' := [(2, .int (0 : Int32)), (1, .int (0 : Int32)), (0, .int i0)]) hC dX5_ones_3 rfl (⟨fun _ => rfl, ⟨fun _ => rfl, trivial⟩⟩) (by decide) rfl ?_
  refine x_sub (l' := [(0, .int i0), (1, .int (0 : Int32)), (2, .int (0 : Int32))]) [2, 1, 0] rfl ?_
  refine lp_sim (P := fun (t : (Int32 × Int32 × PH)) => PX Z 3 t.2.2 0 0 4 [(0, .int i0), (1, .int t.1), (2, .int t.2.1)] []) (G := fun r => r = y) ?_ h rfl
  clear h
  intro t x_4 h hg_4
  obtain ⟨v1, v2, S3⟩ := t
  show PX Z 3 S3 0 0 4 [(0, .int i0), (1, .int v1), (2, .int v2)] []
  unfold st_X5_ones_4 at h
  refine x_iload_n (i := 2) hC dX5_ones_4 rfl 2 rfl ?_
  refine x_bipush (v := (8 : Int32)) hC dX5_ones_5 (by decide) ?_
  refine x_icmp_ge (t := 24) hC dX5_ones_7 (by decide) (fun c4 => ?_) (fun c4 => ?_)
  · replace h := it_t c4 h
    replace h := ir_x h hg_4
    refine x_iload_n (i := 1) hC dX5_ones_24 rfl 1 rfl ?_
    exact x_iret hC hQ (z_N (Option.some.inj h)) (Nat.le_of_ble_eq_true rfl) (Nat.le_of_ble_eq_true rfl) dX5_ones_25
  · replace h := it_f c4 h
    refine x_iload_n (i := 1) hC dX5_ones_10 rfl 1 rfl ?_
    refine x_iload_n (i := 0) hC dX5_ones_11 rfl 0 rfl ?_
    refine x_iload_n (i := 2) hC dX5_ones_12 rfl 2 rfl ?_
    refine x_ishr hC dX5_ones_13 ?_
    refine x_iconst (v := (1 : Int32)) hC dX5_ones_14 (by decide) ?_
    refine x_iand hC dX5_ones_15 ?_
    refine x_iadd hC dX5_ones_16 ?_
    replace h := le_el h
    obtain ⟨x5, hx6, h⟩ := h
    refine x_tI hx6 ?_
    refine x_istore_n (i := 1) (l' := [(1, .int x5), (0, .int i0), (2, .int v2)]) hC dX5_ones_17 rfl (⟨fun _ => rfl, ⟨fun _ => rfl, ⟨fun _ => rfl, trivial⟩⟩⟩) (by decide) rfl ?_
    refine x_iinc (i := 2) (v := (v2 + (1 : Int32))) (l' := [(2, .int (v2 + (1 : Int32))), (1, .int x5), (0, .int i0)]) hC dX5_ones_18 2 rfl rfl (⟨fun _ => rfl, ⟨fun _ => rfl, ⟨fun _ => rfl, trivial⟩⟩⟩) (by decide) rfl ?_
    refine x_goto (t := 4) hC dX5_ones_21 (by decide) ?_
    refine x_sub (l' := [(0, .int i0), (1, .int x5), (2, .int (v2 + (1 : Int32)))]) [2, 1, 0] rfl ?_
    have hb := bk_x h hg_4
    exact hb
theorem dX5_isPerson_0 : decode cX5_isPerson 0 = .ok (.iload_n 0, 1) := by decide +kernel
theorem dX5_isPerson_1 : decode cX5_isPerson 1 = .ok (.iconst 0, 1) := by decide +kernel
theorem dX5_isPerson_2 : decode cX5_isPerson 2 = .ok (.bipush 7, 2) := by decide +kernel
theorem dX5_isPerson_4 : decode cX5_isPerson 4 = .ok (.invokestatic 27, 3) := by decide +kernel
theorem dX5_isPerson_7 : decode cX5_isPerson 7 = .ok (.ireturn, 1) := by decide +kernel
set_option maxRecDepth 100000 in
set_option maxHeartbeats 4000000 in
theorem mt_X5_isPerson (i0 : Int32) (S0 : PH) (y : Int32 × PH) (h : m_X5_isPerson i0 S0 = some y) : MT yX5_isPerson (.code yX5_isPerson cX5_isPerson 1 (Option.some FieldType.boolean)) 1 22 0 0 [.int i0] S0 (oQ e_I (qN y)) := by
  refine mt_of (own := RX5) (l0 := [(0, .int i0)]) rfl rfl (by exact Nat.le_of_ble_eq_true rfl) (by rfl) ?_
  intro Z hC hQ hE hN
  unfold m_X5_isPerson at h
  refine x_iload_n (i := 0) hC dX5_isPerson_0 rfl 0 rfl ?_
  refine x_iconst (v := (0 : Int32)) hC dX5_isPerson_1 (by decide) ?_
  refine x_bipush (v := (7 : Int32)) hC dX5_isPerson_2 (by decide) ?_
  replace h := bd_el h
  obtain ⟨v1, S2, hb3, h⟩ := h
  refine x_callS hC (st := []) (mt_X5_in _ _ _ _ _ hb3) q_912 q_913 q_7 q_914 hy_X5_in ⟨Nat.le_of_ble_eq_true rfl, Nat.le_of_ble_eq_true rfl⟩ ⟨Nat.le_of_ble_eq_true rfl, Nat.le_of_ble_eq_true rfl⟩ rfl (Nat.le_of_ble_eq_true rfl) dX5_isPerson_4 (r_N ?_) r_NX
  show PX Z 1 S2 0 0 7 [(0, .int i0)] [.int v1]
  replace h := ck_el h
  obtain ⟨hc4, h⟩ := h
  exact x_zret hC hQ (of_decide_eq_true hc4) (z_N (Option.some.inj h)) (Nat.le_of_ble_eq_true rfl) (Nat.le_of_ble_eq_true rfl) dX5_isPerson_7
theorem dX5_isPaper_0 : decode cX5_isPaper 0 = .ok (.iload_n 1, 1) := by decide +kernel
theorem dX5_isPaper_1 : decode cX5_isPaper 1 = .ok (.iconst 0, 1) := by decide +kernel
theorem dX5_isPaper_2 : decode cX5_isPaper 2 = .ok (.aload_n 0, 1) := by decide +kernel
theorem dX5_isPaper_3 : decode cX5_isPaper 3 = .ok (.getfield 7, 3) := by decide +kernel
theorem dX5_isPaper_6 : decode cX5_isPaper 6 = .ok (.bipush 8, 2) := by decide +kernel
theorem dX5_isPaper_8 : decode cX5_isPaper 8 = .ok (.iaload, 1) := by decide +kernel
theorem dX5_isPaper_9 : decode cX5_isPaper 9 = .ok (.iconst 1, 1) := by decide +kernel
theorem dX5_isPaper_10 : decode cX5_isPaper 10 = .ok (.isub, 1) := by decide +kernel
theorem dX5_isPaper_11 : decode cX5_isPaper 11 = .ok (.invokestatic 27, 3) := by decide +kernel
theorem dX5_isPaper_14 : decode cX5_isPaper 14 = .ok (.ireturn, 1) := by decide +kernel
set_option maxRecDepth 100000 in
set_option maxHeartbeats 4000000 in
theorem mt_X5_isPaper (r0 : Option Nat) (i1 : Int32) (S0 : PH) (y : Int32 × PH) (h : m_X5_isPaper r0 i1 S0 = some y) : MT yX5_isPaper (.code yX5_isPaper cX5_isPaper 2 (Option.some FieldType.boolean)) 1 22 0 0 [va_rf r0, .int i1] S0 (oQ e_I (qN y)) := by
  refine mt_of (own := RX5) (l0 := [(0, va_rf r0), (1, .int i1)]) rfl rfl (by cases r0 <;> exact Nat.le_of_ble_eq_true rfl) (by cases r0 <;> rfl) ?_
  intro Z hC hQ hE hN
  unfold m_X5_isPaper at h
  refine x_iload_n (i := 1) hC dX5_isPaper_0 rfl 1 rfl ?_
  refine x_iconst (v := (0 : Int32)) hC dX5_isPaper_1 (by decide) ?_
  refine x_aload_n (i := 0) hC dX5_isPaper_2 rfl 0 rfl ?_
  replace h := dr_el h
  obtain ⟨a1, ea2, ha3, h⟩ := h
  refine x_getR hC ea2 ha3 kf_5 1 (by decide) rfl q_864 dX5_isPaper_3 ?_
  refine x_bipush (v := (8 : Int32)) hC dX5_isPaper_6 (by decide) ?_
  replace h := dr_el h
  obtain ⟨a4, ea5, ha6, h⟩ := h
  replace h := ck_el h
  obtain ⟨hc7, h⟩ := h
  refine x_iaload hC ea5 ha6 hc7 dX5_isPaper_8 ?_
  refine x_tI (b := (p_I S0 a4 8)) rfl ?_
  refine x_iconst (v := (1 : Int32)) hC dX5_isPaper_9 (by decide) ?_
  refine x_isub hC dX5_isPaper_10 ?_
  replace h := bd_el h
  obtain ⟨v8, S9, hb10, h⟩ := h
  refine x_callS hC (st := []) (mt_X5_in _ _ _ _ _ hb10) q_912 q_913 q_7 q_914 hy_X5_in ⟨Nat.le_of_ble_eq_true rfl, Nat.le_of_ble_eq_true rfl⟩ ⟨Nat.le_of_ble_eq_true rfl, Nat.le_of_ble_eq_true rfl⟩ rfl (Nat.le_of_ble_eq_true rfl) dX5_isPaper_11 (r_N ?_) r_NX
  show PX Z 2 S9 0 0 14 [(0, va_rf r0), (1, .int i1)] [.int v8]
  replace h := ck_el h
  obtain ⟨hc11, h⟩ := h
  exact x_zret hC hQ (of_decide_eq_true hc11) (z_N (Option.some.inj h)) (Nat.le_of_ble_eq_true rfl) (Nat.le_of_ble_eq_true rfl) dX5_isPaper_14
theorem dX5_of_0 : decode cX5_of 0 = .ok (.aload_n 0, 1) := by decide +kernel
theorem dX5_of_1 : decode cX5_of 1 = .ok (.getfield 7, 3) := by decide +kernel
theorem dX5_of_4 : decode cX5_of 4 = .ok (.bipush 57, 2) := by decide +kernel
theorem dX5_of_6 : decode cX5_of 6 = .ok (.bipush 13, 2) := by decide +kernel
theorem dX5_of_8 : decode cX5_of 8 = .ok (.iload_n 1, 1) := by decide +kernel
theorem dX5_of_9 : decode cX5_of 9 = .ok (.imul, 1) := by decide +kernel
theorem dX5_of_10 : decode cX5_of 10 = .ok (.iadd, 1) := by decide +kernel
theorem dX5_of_11 : decode cX5_of 11 = .ok (.iload_n 2, 1) := by decide +kernel
theorem dX5_of_12 : decode cX5_of 12 = .ok (.iadd, 1) := by decide +kernel
theorem dX5_of_13 : decode cX5_of 13 = .ok (.iaload, 1) := by decide +kernel
theorem dX5_of_14 : decode cX5_of 14 = .ok (.ireturn, 1) := by decide +kernel
set_option maxRecDepth 100000 in
set_option maxHeartbeats 4000000 in
theorem mt_X5_of (r0 : Option Nat) (i1 : Int32) (i2 : Int32) (S0 : PH) (y : Int32 × PH) (h : m_X5_of r0 i1 i2 S0 = some y) : MT yX5_of (.code yX5_of cX5_of 3 (Option.some FieldType.int)) 0 0 0 0 [va_rf r0, .int i1, .int i2] S0 (oQ e_I (qN y)) := by
  refine mt_of (own := RX5) (l0 := [(0, va_rf r0), (1, .int i1), (2, .int i2)]) rfl rfl (by cases r0 <;> exact Nat.le_of_ble_eq_true rfl) (by cases r0 <;> rfl) ?_
  intro Z hC hQ hE hN
  unfold m_X5_of at h
  refine x_aload_n (i := 0) hC dX5_of_0 rfl 0 rfl ?_
  replace h := dr_el h
  obtain ⟨a1, ea2, ha3, h⟩ := h
  refine x_getR hC ea2 ha3 kf_5 1 (by decide) rfl q_864 dX5_of_1 ?_
  refine x_bipush (v := (57 : Int32)) hC dX5_of_4 (by decide) ?_
  refine x_bipush (v := (13 : Int32)) hC dX5_of_6 (by decide) ?_
  refine x_iload_n (i := 1) hC dX5_of_8 rfl 1 rfl ?_
  refine x_imul hC dX5_of_9 ?_
  refine x_iadd hC dX5_of_10 ?_
  refine x_iload_n (i := 2) hC dX5_of_11 rfl 2 rfl ?_
  refine x_iadd hC dX5_of_12 ?_
  replace h := dr_el h
  obtain ⟨a4, ea5, ha6, h⟩ := h
  replace h := ck_el h
  obtain ⟨hc7, h⟩ := h
  refine x_iaload hC ea5 ha6 hc7 dX5_of_13 ?_
  exact x_iret hC hQ (z_N (Option.some.inj h)) (Nat.le_of_ble_eq_true rfl) (Nat.le_of_ble_eq_true rfl) dX5_of_14
theorem dX5_lay_0 : decode cX5_lay 0 = .ok (.aload_n 0, 1) := by decide +kernel
theorem dX5_lay_1 : decode cX5_lay 1 = .ok (.getfield 7, 3) := by decide +kernel
theorem dX5_lay_4 : decode cX5_lay 4 = .ok (.bipush 57, 2) := by decide +kernel
theorem dX5_lay_6 : decode cX5_lay 6 = .ok (.bipush 13, 2) := by decide +kernel
theorem dX5_lay_8 : decode cX5_lay 8 = .ok (.iload_n 1, 1) := by decide +kernel
theorem dX5_lay_9 : decode cX5_lay 9 = .ok (.imul, 1) := by decide +kernel
theorem dX5_lay_10 : decode cX5_lay 10 = .ok (.iadd, 1) := by decide +kernel
theorem dX5_lay_11 : decode cX5_lay 11 = .ok (.iload_n 2, 1) := by decide +kernel
theorem dX5_lay_12 : decode cX5_lay 12 = .ok (.iadd, 1) := by decide +kernel
theorem dX5_lay_13 : decode cX5_lay 13 = .ok (.iload_n 3, 1) := by decide +kernel
theorem dX5_lay_14 : decode cX5_lay 14 = .ok (.iastore, 1) := by decide +kernel
theorem dX5_lay_15 : decode cX5_lay 15 = .ok (.return_, 1) := by decide +kernel
set_option maxRecDepth 100000 in
set_option maxHeartbeats 4000000 in
theorem mt_X5_lay (r0 : Option Nat) (i1 : Int32) (i2 : Int32) (i3 : Int32) (S0 : PH) (y : Unit × PH) (h : m_X5_lay r0 i1 i2 i3 S0 = some y) : MT yX5_lay (.code yX5_lay cX5_lay 4 (Option.none : Option FieldType)) 0 0 0 0 [va_rf r0, .int i1, .int i2, .int i3] S0 (oQ e_V (qN y)) := by
  refine mt_of (own := RX5) (l0 := [(0, va_rf r0), (1, .int i1), (2, .int i2), (3, .int i3)]) rfl rfl (by cases r0 <;> exact Nat.le_of_ble_eq_true rfl) (by cases r0 <;> rfl) ?_
  intro Z hC hQ hE hN
  unfold m_X5_lay at h
  refine x_aload_n (i := 0) hC dX5_lay_0 rfl 0 rfl ?_
  replace h := dr_el h
  obtain ⟨a1, ea2, ha3, h⟩ := h
  refine x_getR hC ea2 ha3 kf_5 1 (by decide) rfl q_864 dX5_lay_1 ?_
  refine x_bipush (v := (57 : Int32)) hC dX5_lay_4 (by decide) ?_
  refine x_bipush (v := (13 : Int32)) hC dX5_lay_6 (by decide) ?_
  refine x_iload_n (i := 1) hC dX5_lay_8 rfl 1 rfl ?_
  refine x_imul hC dX5_lay_9 ?_
  refine x_iadd hC dX5_lay_10 ?_
  refine x_iload_n (i := 2) hC dX5_lay_11 rfl 2 rfl ?_
  refine x_iadd hC dX5_lay_12 ?_
  refine x_iload_n (i := 3) hC dX5_lay_13 rfl 3 rfl ?_
  replace h := dr_el h
  obtain ⟨a4, ea5, ha6, h⟩ := h
  replace h := ck_el h
  obtain ⟨hc7, h⟩ := h
  replace h := le_el h
  obtain ⟨S8, hx9, h⟩ := h
  refine x_iastore hC ea5 ha6 hc7 dX5_lay_14 ?_
  refine x_tS hx9 ?_
  exact x_vret hC hQ (z_N (v := ()) (Option.some.inj h)) (Nat.le_of_ble_eq_true rfl) (Nat.le_of_ble_eq_true rfl) dX5_lay_15
theorem dX5_scoreOf_0 : decode cX5_scoreOf 0 = .ok (.aload_n 0, 1) := by decide +kernel
theorem dX5_scoreOf_1 : decode cX5_scoreOf 1 = .ok (.iload_n 2, 1) := by decide +kernel
theorem dX5_scoreOf_2 : decode cX5_scoreOf 2 = .ok (.iconst 5, 1) := by decide +kernel
theorem dX5_scoreOf_3 : decode cX5_scoreOf 3 = .ok (.iload_n 1, 1) := by decide +kernel
theorem dX5_scoreOf_4 : decode cX5_scoreOf 4 = .ok (.iadd, 1) := by decide +kernel
theorem dX5_scoreOf_5 : decode cX5_scoreOf 5 = .ok (.invokevirtual 31, 3) := by decide +kernel
theorem dX5_scoreOf_8 : decode cX5_scoreOf 8 = .ok (.ireturn, 1) := by decide +kernel
set_option maxRecDepth 100000 in
set_option maxHeartbeats 4000000 in
theorem mt_X5_scoreOf (r0 : Option Nat) (i1 : Int32) (i2 : Int32) (S0 : PH) (y : Int32 × PH) (h : m_X5_scoreOf r0 i1 i2 S0 = some y) : MT yX5_scoreOf (.code yX5_scoreOf cX5_scoreOf 3 (Option.some FieldType.int)) 1 22 0 0 [va_rf r0, .int i1, .int i2] S0 (oQ e_I (qN y)) := by
  refine mt_of (own := RX5) (l0 := [(0, va_rf r0), (1, .int i1), (2, .int i2)]) rfl rfl (by cases r0 <;> exact Nat.le_of_ble_eq_true rfl) (by cases r0 <;> rfl) ?_
  intro Z hC hQ hE hN
  unfold m_X5_scoreOf at h
  refine x_aload_n (i := 0) hC dX5_scoreOf_0 rfl 0 rfl ?_
  refine x_iload_n (i := 2) hC dX5_scoreOf_1 rfl 2 rfl ?_
  refine x_iconst (v := (5 : Int32)) hC dX5_scoreOf_2 (by decide) ?_
  refine x_iload_n (i := 1) hC dX5_scoreOf_3 rfl 1 rfl ?_
  refine x_iadd hC dX5_scoreOf_4 ?_
  replace h := dr_el h
  obtain ⟨a1, ea2, ha3, h⟩ := h
  replace h := bd_el h
  obtain ⟨v4, S5, hb6, h⟩ := h
  refine x_callV hC (st := []) (mt_X5_of _ _ _ _ _ hb6) ea2 ha3 kf_5 q_981 q_983 qs_52 q_7 q_984 ⟨rfl, hy_X5_of⟩ ⟨Nat.le_of_ble_eq_true rfl, Nat.le_of_ble_eq_true rfl⟩ ⟨Nat.le_of_ble_eq_true rfl, Nat.le_of_ble_eq_true rfl⟩ rfl (Nat.le_of_ble_eq_true rfl) dX5_scoreOf_5 (r_N ?_) r_NX
  show PX Z 3 S5 0 0 8 [(0, va_rf r0), (1, .int i1), (2, .int i2)] [.int v4]
  exact x_iret hC hQ (z_N (Option.some.inj h)) (Nat.le_of_ble_eq_true rfl) (Nat.le_of_ble_eq_true rfl) dX5_scoreOf_8
theorem dX5_isWritten_0 : decode cX5_isWritten 0 = .ok (.aload_n 0, 1) := by decide +kernel
theorem dX5_isWritten_1 : decode cX5_isWritten 1 = .ok (.iload_n 1, 1) := by decide +kernel
theorem dX5_isWritten_2 : decode cX5_isWritten 2 = .ok (.iload_n 2, 1) := by decide +kernel
theorem dX5_isWritten_3 : decode cX5_isWritten 3 = .ok (.invokevirtual 35, 3) := by decide +kernel
theorem dX5_isWritten_6 : decode cX5_isWritten 6 = .ok (.iconst 0, 1) := by decide +kernel
theorem dX5_isWritten_7 : decode cX5_isWritten 7 = .ok (.bipush 9, 2) := by decide +kernel
theorem dX5_isWritten_9 : decode cX5_isWritten 9 = .ok (.invokestatic 27, 3) := by decide +kernel
theorem dX5_isWritten_12 : decode cX5_isWritten 12 = .ok (.ireturn, 1) := by decide +kernel
set_option maxRecDepth 100000 in
set_option maxHeartbeats 4000000 in
theorem mt_X5_isWritten (r0 : Option Nat) (i1 : Int32) (i2 : Int32) (S0 : PH) (y : Int32 × PH) (h : m_X5_isWritten r0 i1 i2 S0 = some y) : MT yX5_isWritten (.code yX5_isWritten cX5_isWritten 3 (Option.some FieldType.boolean)) 2 44 0 0 [va_rf r0, .int i1, .int i2] S0 (oQ e_I (qN y)) := by
  refine mt_of (own := RX5) (l0 := [(0, va_rf r0), (1, .int i1), (2, .int i2)]) rfl rfl (by cases r0 <;> exact Nat.le_of_ble_eq_true rfl) (by cases r0 <;> rfl) ?_
  intro Z hC hQ hE hN
  unfold m_X5_isWritten at h
  refine x_aload_n (i := 0) hC dX5_isWritten_0 rfl 0 rfl ?_
  refine x_iload_n (i := 1) hC dX5_isWritten_1 rfl 1 rfl ?_
  refine x_iload_n (i := 2) hC dX5_isWritten_2 rfl 2 rfl ?_
  replace h := dr_el h
  obtain ⟨a1, ea2, ha3, h⟩ := h
  replace h := bd_el h
  obtain ⟨v4, S5, hb6, h⟩ := h
  refine x_callV hC (st := []) (mt_X5_scoreOf _ _ _ _ _ hb6) ea2 ha3 kf_5 q_985 q_987 qs_53 q_7 q_988 ⟨rfl, hy_X5_scoreOf⟩ ⟨Nat.le_of_ble_eq_true rfl, Nat.le_of_ble_eq_true rfl⟩ ⟨Nat.le_of_ble_eq_true rfl, Nat.le_of_ble_eq_true rfl⟩ rfl (Nat.le_of_ble_eq_true rfl) dX5_isWritten_3 (r_N ?_) r_NX
  show PX Z 3 S5 0 0 6 [(0, va_rf r0), (1, .int i1), (2, .int i2)] [.int v4]
  refine x_iconst (v := (0 : Int32)) hC dX5_isWritten_6 (by decide) ?_
  refine x_bipush (v := (9 : Int32)) hC dX5_isWritten_7 (by decide) ?_
  replace h := bd_el h
  obtain ⟨v7, S8, hb9, h⟩ := h
  refine x_callS hC (st := []) (mt_X5_in _ _ _ _ _ hb9) q_912 q_913 q_7 q_914 hy_X5_in ⟨Nat.le_of_ble_eq_true rfl, Nat.le_of_ble_eq_true rfl⟩ ⟨Nat.le_of_ble_eq_true rfl, Nat.le_of_ble_eq_true rfl⟩ rfl (Nat.le_of_ble_eq_true rfl) dX5_isWritten_9 (r_N ?_) r_NX
  show PX Z 3 S8 0 0 12 [(0, va_rf r0), (1, .int i1), (2, .int i2)] [.int v7]
  replace h := ck_el h
  obtain ⟨hc10, h⟩ := h
  exact x_zret hC hQ (of_decide_eq_true hc10) (z_N (Option.some.inj h)) (Nat.le_of_ble_eq_true rfl) (Nat.le_of_ble_eq_true rfl) dX5_isWritten_12
theorem dX5_reviewers_0 : decode cX5_reviewers 0 = .ok (.iconst 0, 1) := by decide +kernel
theorem dX5_reviewers_1 : decode cX5_reviewers 1 = .ok (.istore_n 3, 1) := by decide +kernel
theorem dX5_reviewers_2 : decode cX5_reviewers 2 = .ok (.iconst 0, 1) := by decide +kernel
theorem dX5_reviewers_3 : decode cX5_reviewers 3 = .ok (.istore 4, 2) := by decide +kernel
theorem dX5_reviewers_5 : decode cX5_reviewers 5 = .ok (.iload 4, 2) := by decide +kernel
theorem dX5_reviewers_7 : decode cX5_reviewers 7 = .ok (.bipush 8, 2) := by decide +kernel
theorem dX5_reviewers_9 : decode cX5_reviewers 9 = .ok (.if_icmp .ge 57, 3) := by decide +kernel
theorem dX5_reviewers_12 : decode cX5_reviewers 12 = .ok (.iload_n 2, 1) := by decide +kernel
theorem dX5_reviewers_13 : decode cX5_reviewers 13 = .ok (.ifCond .eq 13, 3) := by decide +kernel
theorem dX5_reviewers_16 : decode cX5_reviewers 16 = .ok (.aload_n 0, 1) := by decide +kernel
theorem dX5_reviewers_17 : decode cX5_reviewers 17 = .ok (.iload 4, 2) := by decide +kernel
theorem dX5_reviewers_19 : decode cX5_reviewers 19 = .ok (.iload_n 1, 1) := by decide +kernel
theorem dX5_reviewers_20 : decode cX5_reviewers 20 = .ok (.invokevirtual 38, 3) := by decide +kernel
theorem dX5_reviewers_23 : decode cX5_reviewers 23 = .ok (.goto 19, 3) := by decide +kernel
theorem dX5_reviewers_26 : decode cX5_reviewers 26 = .ok (.aload_n 0, 1) := by decide +kernel
theorem dX5_reviewers_27 : decode cX5_reviewers 27 = .ok (.iload 4, 2) := by decide +kernel
theorem dX5_reviewers_29 : decode cX5_reviewers 29 = .ok (.iload_n 1, 1) := by decide +kernel
theorem dX5_reviewers_30 : decode cX5_reviewers 30 = .ok (.invokevirtual 35, 3) := by decide +kernel
theorem dX5_reviewers_33 : decode cX5_reviewers 33 = .ok (.iconst (-1), 1) := by decide +kernel
theorem dX5_reviewers_34 : decode cX5_reviewers 34 = .ok (.if_icmp .eq 7, 3) := by decide +kernel
theorem dX5_reviewers_37 : decode cX5_reviewers 37 = .ok (.iconst 1, 1) := by decide +kernel
theorem dX5_reviewers_38 : decode cX5_reviewers 38 = .ok (.goto 4, 3) := by decide +kernel
theorem dX5_reviewers_41 : decode cX5_reviewers 41 = .ok (.iconst 0, 1) := by decide +kernel
theorem dX5_reviewers_42 : decode cX5_reviewers 42 = .ok (.istore 5, 2) := by decide +kernel
theorem dX5_reviewers_44 : decode cX5_reviewers 44 = .ok (.iload_n 3, 1) := by decide +kernel
theorem dX5_reviewers_45 : decode cX5_reviewers 45 = .ok (.iload 5, 2) := by decide +kernel
theorem dX5_reviewers_47 : decode cX5_reviewers 47 = .ok (.ifCond .eq 10, 3) := by decide +kernel
theorem dX5_reviewers_50 : decode cX5_reviewers 50 = .ok (.iconst 1, 1) := by decide +kernel
theorem dX5_reviewers_51 : decode cX5_reviewers 51 = .ok (.iload 4, 2) := by decide +kernel
theorem dX5_reviewers_53 : decode cX5_reviewers 53 = .ok (.ishl, 1) := by decide +kernel
theorem dX5_reviewers_54 : decode cX5_reviewers 54 = .ok (.goto 4, 3) := by decide +kernel
theorem dX5_reviewers_57 : decode cX5_reviewers 57 = .ok (.iconst 0, 1) := by decide +kernel
theorem dX5_reviewers_58 : decode cX5_reviewers 58 = .ok (.ior, 1) := by decide +kernel
theorem dX5_reviewers_59 : decode cX5_reviewers 59 = .ok (.istore_n 3, 1) := by decide +kernel
theorem dX5_reviewers_60 : decode cX5_reviewers 60 = .ok (.iinc 4 1, 3) := by decide +kernel
theorem dX5_reviewers_63 : decode cX5_reviewers 63 = .ok (.goto (-58), 3) := by decide +kernel
theorem dX5_reviewers_66 : decode cX5_reviewers 66 = .ok (.iload_n 3, 1) := by decide +kernel
theorem dX5_reviewers_67 : decode cX5_reviewers 67 = .ok (.ireturn, 1) := by decide +kernel
set_option maxRecDepth 100000 in
set_option maxHeartbeats 4000000 in
theorem mt_X5_reviewers (r0 : Option Nat) (i1 : Int32) (i2 : Int32) (S0 : PH) (y : Int32 × PH) (h : m_X5_reviewers r0 i1 i2 S0 = some y) : MT yX5_reviewers (.code yX5_reviewers cX5_reviewers 6 (Option.some FieldType.int)) 3 66 0 0 [va_rf r0, .int i1, .int i2] S0 (oQ e_I (qN y)) := by
  refine mt_of (own := RX5) (l0 := [(0, va_rf r0), (1, .int i1), (2, .int i2)]) rfl rfl (by cases r0 <;> exact Nat.le_of_ble_eq_true rfl) (by cases r0 <;> rfl) ?_
  intro Z hC hQ hE hN
  unfold m_X5_reviewers at h
  refine x_iconst (v := (0 : Int32)) hC dX5_reviewers_0 (by decide) ?_
  refine x_istore_n (i := 3) (l' := [(3, .int (0 : Int32)), (0, va_rf r0), (1, .int i1), (2, .int i2)]) hC dX5_reviewers_1 rfl (⟨fun _ => c_rf r0, ⟨fun _ => rfl, ⟨fun _ => rfl, trivial⟩⟩⟩) (by decide) rfl ?_
  refine x_iconst (v := (0 : Int32)) hC dX5_reviewers_2 (by decide) ?_
  refine x_istore (i := 4) (l' := [(4, .int (0 : Int32)), (3, .int (0 : Int32)), (0, va_rf r0), (1, .int i1), (2, .int i2)]) hC dX5_reviewers_3 (⟨fun _ => rfl, ⟨fun _ => c_rf r0, ⟨fun _ => rfl, ⟨fun _ => rfl, trivial⟩⟩⟩⟩) (by decide) rfl ?_
  refine x_sub (l' := [(0, va_rf r0), (1, .int i1), (2, .int i2), (3, .int (0 : Int32)), (4, .int (0 : Int32))]) [2, 3, 4, 1, 0] rfl ?_
  refine lp_sim (P := fun (t : (Int32 × Int32 × PH)) => PX Z 6 t.2.2 0 0 5 [(0, va_rf r0), (1, .int i1), (2, .int i2), (3, .int t.1), (4, .int t.2.1)] []) (G := fun r => r = y) ?_ h rfl
  clear h
  intro t x_5 h hg_5
  obtain ⟨v1, v2, S3⟩ := t
  show PX Z 6 S3 0 0 5 [(0, va_rf r0), (1, .int i1), (2, .int i2), (3, .int v1), (4, .int v2)] []
  have J_42 : ∀ (v13 : Int32) (v14 : Int32) (v15 : Int32) (S16 : PH), j_X5_reviewers_42 r0 i1 i2 v13 v14 v15 S16 = some x_5 → PX Z 6 S16 0 0 42 [(0, va_rf r0), (1, .int i1), (2, .int i2), (3, .int v13), (4, .int v14)] [.int v15] := by
    intro v13 v14 v15 S16 h
    unfold j_X5_reviewers_42 at h
    refine x_istore (i := 5) (l' := [(5, .int v15), (0, va_rf r0), (1, .int i1), (2, .int i2), (3, .int v13), (4, .int v14)]) hC dX5_reviewers_42 (⟨fun _ => c_rf r0, ⟨fun _ => rfl, ⟨fun _ => rfl, ⟨fun _ => rfl, ⟨fun _ => rfl, trivial⟩⟩⟩⟩⟩) (by decide) rfl ?_
    refine x_iload_n (i := 3) hC dX5_reviewers_44 rfl 4 rfl ?_
    refine x_iload (i := 5) hC dX5_reviewers_45 0 rfl ?_
    refine x_if_eq (t := 57) hC dX5_reviewers_47 (by decide) (fun c17 => ?_) (fun c17 => ?_)
    · replace h := it_t c17 h
      refine x_iconst (v := (0 : Int32)) hC dX5_reviewers_57 (by decide) ?_
      refine x_ior hC dX5_reviewers_58 ?_
      replace h := le_el h
      obtain ⟨x18, hx19, h⟩ := h
      refine x_tI hx19 ?_
      refine x_istore_n (i := 3) (l' := [(3, .int x18), (5, .int v15), (0, va_rf r0), (1, .int i1), (2, .int i2), (4, .int v14)]) hC dX5_reviewers_59 rfl (⟨fun _ => rfl, ⟨fun _ => c_rf r0, ⟨fun _ => rfl, ⟨fun _ => rfl, ⟨fun _ => rfl, ⟨fun _ => rfl, trivial⟩⟩⟩⟩⟩⟩) (by decide) rfl ?_
      refine x_iinc (i := 4) (v := (v14 + (1 : Int32))) (l' := [(4, .int (v14 + (1 : Int32))), (3, .int x18), (5, .int v15), (0, va_rf r0), (1, .int i1), (2, .int i2)]) hC dX5_reviewers_60 5 rfl rfl (⟨fun _ => rfl, ⟨fun _ => rfl, ⟨fun _ => c_rf r0, ⟨fun _ => rfl, ⟨fun _ => rfl, ⟨fun _ => rfl, trivial⟩⟩⟩⟩⟩⟩) (by decide) rfl ?_
      refine x_goto (t := 5) hC dX5_reviewers_63 (by decide) ?_
      refine x_sub (l' := [(0, va_rf r0), (1, .int i1), (2, .int i2), (3, .int x18), (4, .int (v14 + (1 : Int32)))]) [3, 4, 5, 1, 0] rfl ?_
      have hb := bk_x h hg_5
      exact hb
    · replace h := it_f c17 h
      refine x_iconst (v := (1 : Int32)) hC dX5_reviewers_50 (by decide) ?_
      refine x_iload (i := 4) hC dX5_reviewers_51 5 rfl ?_
      refine x_ishl hC dX5_reviewers_53 ?_
      refine x_goto (t := 58) hC dX5_reviewers_54 (by decide) ?_
      refine x_ior hC dX5_reviewers_58 ?_
      replace h := le_el h
      obtain ⟨x20, hx21, h⟩ := h
      refine x_tI hx21 ?_
      refine x_istore_n (i := 3) (l' := [(3, .int x20), (5, .int v15), (0, va_rf r0), (1, .int i1), (2, .int i2), (4, .int v14)]) hC dX5_reviewers_59 rfl (⟨fun _ => rfl, ⟨fun _ => c_rf r0, ⟨fun _ => rfl, ⟨fun _ => rfl, ⟨fun _ => rfl, ⟨fun _ => rfl, trivial⟩⟩⟩⟩⟩⟩) (by decide) rfl ?_
      refine x_iinc (i := 4) (v := (v14 + (1 : Int32))) (l' := [(4, .int (v14 + (1 : Int32))), (3, .int x20), (5, .int v15), (0, va_rf r0), (1, .int i1), (2, .int i2)]) hC dX5_reviewers_60 5 rfl rfl (⟨fun _ => rfl, ⟨fun _ => rfl, ⟨fun _ => c_rf r0, ⟨fun _ => rfl, ⟨fun _ => rfl, ⟨fun _ => rfl, trivial⟩⟩⟩⟩⟩⟩) (by decide) rfl ?_
      refine x_goto (t := 5) hC dX5_reviewers_63 (by decide) ?_
      refine x_sub (l' := [(0, va_rf r0), (1, .int i1), (2, .int i2), (3, .int x20), (4, .int (v14 + (1 : Int32)))]) [3, 4, 5, 1, 0] rfl ?_
      have hb := bk_x h hg_5
      exact hb
  unfold st_X5_reviewers_5 at h
  refine x_iload (i := 4) hC dX5_reviewers_5 4 rfl ?_
  refine x_bipush (v := (8 : Int32)) hC dX5_reviewers_7 (by decide) ?_
  refine x_icmp_ge (t := 66) hC dX5_reviewers_9 (by decide) (fun c4 => ?_) (fun c4 => ?_)
  · replace h := it_t c4 h
    replace h := ir_x h hg_5
    refine x_iload_n (i := 3) hC dX5_reviewers_66 rfl 3 rfl ?_
    exact x_iret hC hQ (z_N (Option.some.inj h)) (Nat.le_of_ble_eq_true rfl) (Nat.le_of_ble_eq_true rfl) dX5_reviewers_67
  · replace h := it_f c4 h
    refine x_iload_n (i := 2) hC dX5_reviewers_12 rfl 2 rfl ?_
    refine x_if_eq (t := 26) hC dX5_reviewers_13 (by decide) (fun c5 => ?_) (fun c5 => ?_)
    · replace h := it_t c5 h
      refine x_aload_n (i := 0) hC dX5_reviewers_26 rfl 0 rfl ?_
      refine x_iload (i := 4) hC dX5_reviewers_27 4 rfl ?_
      refine x_iload_n (i := 1) hC dX5_reviewers_29 rfl 1 rfl ?_
      replace h := dr_el h
      obtain ⟨a6, ea7, ha8, h⟩ := h
      replace h := bd_el h
      obtain ⟨v9, S10, hb11, h⟩ := h
      refine x_callV hC (st := []) (mt_X5_scoreOf _ _ _ _ _ hb11) ea7 ha8 kf_5 q_985 q_987 qs_53 q_7 q_988 ⟨rfl, hy_X5_scoreOf⟩ ⟨Nat.le_of_ble_eq_true rfl, Nat.le_of_ble_eq_true rfl⟩ ⟨Nat.le_of_ble_eq_true rfl, Nat.le_of_ble_eq_true rfl⟩ rfl (Nat.le_of_ble_eq_true rfl) dX5_reviewers_30 (r_N ?_) r_NX
      show PX Z 6 S10 0 0 33 [(0, va_rf r0), (1, .int i1), (2, .int i2), (3, .int v1), (4, .int v2)] [.int v9]
      refine x_iconst (v := (-1 : Int32)) hC dX5_reviewers_33 (by decide) ?_
      refine x_icmp_eq (t := 41) hC dX5_reviewers_34 (by decide) (fun c12 => ?_) (fun c12 => ?_)
      · replace h := it_t c12 h
        refine x_iconst (v := (0 : Int32)) hC dX5_reviewers_41 (by decide) ?_
        exact J_42 _ _ _ _ h
      · replace h := it_f c12 h
        refine x_iconst (v := (1 : Int32)) hC dX5_reviewers_37 (by decide) ?_
        refine x_goto (t := 42) hC dX5_reviewers_38 (by decide) ?_
        exact J_42 _ _ _ _ h
    · replace h := it_f c5 h
      refine x_aload_n (i := 0) hC dX5_reviewers_16 rfl 0 rfl ?_
      refine x_iload (i := 4) hC dX5_reviewers_17 4 rfl ?_
      refine x_iload_n (i := 1) hC dX5_reviewers_19 rfl 1 rfl ?_
      replace h := dr_el h
      obtain ⟨a22, ea23, ha24, h⟩ := h
      replace h := bd_el h
      obtain ⟨v25, S26, hb27, h⟩ := h
      refine x_callV hC (st := []) (mt_X5_isWritten _ _ _ _ _ hb27) ea23 ha24 kf_5 q_993 q_995 qs_55 q_7 q_996 ⟨rfl, hy_X5_isWritten⟩ ⟨Nat.le_of_ble_eq_true rfl, Nat.le_of_ble_eq_true rfl⟩ ⟨Nat.le_of_ble_eq_true rfl, Nat.le_of_ble_eq_true rfl⟩ rfl (Nat.le_of_ble_eq_true rfl) dX5_reviewers_20 (r_N ?_) r_NX
      show PX Z 6 S26 0 0 23 [(0, va_rf r0), (1, .int i1), (2, .int i2), (3, .int v1), (4, .int v2)] [.int v25]
      refine x_goto (t := 42) hC dX5_reviewers_23 (by decide) ?_
      exact J_42 _ _ _ _ h
theorem dX5_sumOf_0 : decode cX5_sumOf 0 = .ok (.iconst 0, 1) := by decide +kernel
theorem dX5_sumOf_1 : decode cX5_sumOf 1 = .ok (.istore_n 2, 1) := by decide +kernel
theorem dX5_sumOf_2 : decode cX5_sumOf 2 = .ok (.iconst 0, 1) := by decide +kernel
theorem dX5_sumOf_3 : decode cX5_sumOf 3 = .ok (.istore_n 3, 1) := by decide +kernel
theorem dX5_sumOf_4 : decode cX5_sumOf 4 = .ok (.iload_n 3, 1) := by decide +kernel
theorem dX5_sumOf_5 : decode cX5_sumOf 5 = .ok (.bipush 8, 2) := by decide +kernel
theorem dX5_sumOf_7 : decode cX5_sumOf 7 = .ok (.if_icmp .ge 31, 3) := by decide +kernel
theorem dX5_sumOf_10 : decode cX5_sumOf 10 = .ok (.iload_n 2, 1) := by decide +kernel
theorem dX5_sumOf_11 : decode cX5_sumOf 11 = .ok (.aload_n 0, 1) := by decide +kernel
theorem dX5_sumOf_12 : decode cX5_sumOf 12 = .ok (.iload_n 3, 1) := by decide +kernel
theorem dX5_sumOf_13 : decode cX5_sumOf 13 = .ok (.iload_n 1, 1) := by decide +kernel
theorem dX5_sumOf_14 : decode cX5_sumOf 14 = .ok (.invokevirtual 38, 3) := by decide +kernel
theorem dX5_sumOf_17 : decode cX5_sumOf 17 = .ok (.ifCond .eq 12, 3) := by decide +kernel
theorem dX5_sumOf_20 : decode cX5_sumOf 20 = .ok (.aload_n 0, 1) := by decide +kernel
theorem dX5_sumOf_21 : decode cX5_sumOf 21 = .ok (.iload_n 3, 1) := by decide +kernel
theorem dX5_sumOf_22 : decode cX5_sumOf 22 = .ok (.iload_n 1, 1) := by decide +kernel
theorem dX5_sumOf_23 : decode cX5_sumOf 23 = .ok (.invokevirtual 35, 3) := by decide +kernel
theorem dX5_sumOf_26 : decode cX5_sumOf 26 = .ok (.goto 4, 3) := by decide +kernel
theorem dX5_sumOf_29 : decode cX5_sumOf 29 = .ok (.iconst 0, 1) := by decide +kernel
theorem dX5_sumOf_30 : decode cX5_sumOf 30 = .ok (.iadd, 1) := by decide +kernel
theorem dX5_sumOf_31 : decode cX5_sumOf 31 = .ok (.istore_n 2, 1) := by decide +kernel
theorem dX5_sumOf_32 : decode cX5_sumOf 32 = .ok (.iinc 3 1, 3) := by decide +kernel
theorem dX5_sumOf_35 : decode cX5_sumOf 35 = .ok (.goto (-31), 3) := by decide +kernel
theorem dX5_sumOf_38 : decode cX5_sumOf 38 = .ok (.iload_n 2, 1) := by decide +kernel
theorem dX5_sumOf_39 : decode cX5_sumOf 39 = .ok (.ireturn, 1) := by decide +kernel
set_option maxRecDepth 100000 in
set_option maxHeartbeats 4000000 in
theorem mt_X5_sumOf (r0 : Option Nat) (i1 : Int32) (S0 : PH) (y : Int32 × PH) (h : m_X5_sumOf r0 i1 S0 = some y) : MT yX5_sumOf (.code yX5_sumOf cX5_sumOf 4 (Option.some FieldType.int)) 3 66 0 0 [va_rf r0, .int i1] S0 (oQ e_I (qN y)) := by
  refine mt_of (own := RX5) (l0 := [(0, va_rf r0), (1, .int i1)]) rfl rfl (by cases r0 <;> exact Nat.le_of_ble_eq_true rfl) (by cases r0 <;> rfl) ?_
  intro Z hC hQ hE hN
  unfold m_X5_sumOf at h
  refine x_iconst (v := (0 : Int32)) hC dX5_sumOf_0 (by decide) ?_
  refine x_istore_n (i := 2) (l' := [(2, .int (0 : Int32)), (0, va_rf r0), (1, .int i1)]) hC dX5_sumOf_1 rfl (⟨fun _ => c_rf r0, ⟨fun _ => rfl, trivial⟩⟩) (by decide) rfl ?_
  refine x_iconst (v := (0 : Int32)) hC dX5_sumOf_2 (by decide) ?_
  refine x_istore_n (i := 3) (l' := [(3, .int (0 : Int32)), (2, .int (0 : Int32)), (0, va_rf r0), (1, .int i1)]) hC dX5_sumOf_3 rfl (⟨fun _ => rfl, ⟨fun _ => c_rf r0, ⟨fun _ => rfl, trivial⟩⟩⟩) (by decide) rfl ?_
  refine x_sub (l' := [(0, va_rf r0), (1, .int i1), (2, .int (0 : Int32)), (3, .int (0 : Int32))]) [2, 3, 1, 0] rfl ?_
  refine lp_sim (P := fun (t : (Int32 × Int32 × PH)) => PX Z 4 t.2.2 0 0 4 [(0, va_rf r0), (1, .int i1), (2, .int t.1), (3, .int t.2.1)] []) (G := fun r => r = y) ?_ h rfl
  clear h
  intro t x_4 h hg_4
  obtain ⟨v1, v2, S3⟩ := t
  show PX Z 4 S3 0 0 4 [(0, va_rf r0), (1, .int i1), (2, .int v1), (3, .int v2)] []
  unfold st_X5_sumOf_4 at h
  refine x_iload_n (i := 3) hC dX5_sumOf_4 rfl 3 rfl ?_
  refine x_bipush (v := (8 : Int32)) hC dX5_sumOf_5 (by decide) ?_
  refine x_icmp_ge (t := 38) hC dX5_sumOf_7 (by decide) (fun c4 => ?_) (fun c4 => ?_)
  · replace h := it_t c4 h
    replace h := ir_x h hg_4
    refine x_iload_n (i := 2) hC dX5_sumOf_38 rfl 2 rfl ?_
    exact x_iret hC hQ (z_N (Option.some.inj h)) (Nat.le_of_ble_eq_true rfl) (Nat.le_of_ble_eq_true rfl) dX5_sumOf_39
  · replace h := it_f c4 h
    refine x_iload_n (i := 2) hC dX5_sumOf_10 rfl 2 rfl ?_
    refine x_aload_n (i := 0) hC dX5_sumOf_11 rfl 0 rfl ?_
    refine x_iload_n (i := 3) hC dX5_sumOf_12 rfl 3 rfl ?_
    refine x_iload_n (i := 1) hC dX5_sumOf_13 rfl 1 rfl ?_
    replace h := dr_el h
    obtain ⟨a5, ea6, ha7, h⟩ := h
    replace h := bd_el h
    obtain ⟨v8, S9, hb10, h⟩ := h
    refine x_callV hC (st := [.int v1]) (mt_X5_isWritten _ _ _ _ _ hb10) ea6 ha7 kf_5 q_993 q_995 qs_55 q_7 q_996 ⟨rfl, hy_X5_isWritten⟩ ⟨Nat.le_of_ble_eq_true rfl, Nat.le_of_ble_eq_true rfl⟩ ⟨Nat.le_of_ble_eq_true rfl, Nat.le_of_ble_eq_true rfl⟩ rfl (Nat.le_of_ble_eq_true rfl) dX5_sumOf_14 (r_N ?_) r_NX
    show PX Z 4 S9 0 0 17 [(0, va_rf r0), (1, .int i1), (2, .int v1), (3, .int v2)] [.int v8, .int v1]
    refine x_if_eq (t := 29) hC dX5_sumOf_17 (by decide) (fun c11 => ?_) (fun c11 => ?_)
    · replace h := it_t c11 h
      refine x_iconst (v := (0 : Int32)) hC dX5_sumOf_29 (by decide) ?_
      refine x_iadd hC dX5_sumOf_30 ?_
      replace h := le_el h
      obtain ⟨x12, hx13, h⟩ := h
      refine x_tI hx13 ?_
      refine x_istore_n (i := 2) (l' := [(2, .int x12), (0, va_rf r0), (1, .int i1), (3, .int v2)]) hC dX5_sumOf_31 rfl (⟨fun _ => c_rf r0, ⟨fun _ => rfl, ⟨fun _ => rfl, ⟨fun _ => rfl, trivial⟩⟩⟩⟩) (by decide) rfl ?_
      refine x_iinc (i := 3) (v := (v2 + (1 : Int32))) (l' := [(3, .int (v2 + (1 : Int32))), (2, .int x12), (0, va_rf r0), (1, .int i1)]) hC dX5_sumOf_32 3 rfl rfl (⟨fun _ => rfl, ⟨fun _ => c_rf r0, ⟨fun _ => rfl, ⟨fun _ => rfl, trivial⟩⟩⟩⟩) (by decide) rfl ?_
      refine x_goto (t := 4) hC dX5_sumOf_35 (by decide) ?_
      refine x_sub (l' := [(0, va_rf r0), (1, .int i1), (2, .int x12), (3, .int (v2 + (1 : Int32)))]) [2, 3, 1, 0] rfl ?_
      have hb := bk_x h hg_4
      exact hb
    · replace h := it_f c11 h
      refine x_aload_n (i := 0) hC dX5_sumOf_20 rfl 0 rfl ?_
      refine x_iload_n (i := 3) hC dX5_sumOf_21 rfl 3 rfl ?_
      refine x_iload_n (i := 1) hC dX5_sumOf_22 rfl 1 rfl ?_
      replace h := dr_el h
      obtain ⟨a14, ea15, ha16, h⟩ := h
      replace h := bd_el h
      obtain ⟨v17, S18, hb19, h⟩ := h
      refine x_callV hC (st := [.int v1]) (mt_X5_scoreOf _ _ _ _ _ hb19) ea15 ha16 kf_5 q_985 q_987 qs_53 q_7 q_988 ⟨rfl, hy_X5_scoreOf⟩ ⟨Nat.le_of_ble_eq_true rfl, Nat.le_of_ble_eq_true rfl⟩ ⟨Nat.le_of_ble_eq_true rfl, Nat.le_of_ble_eq_true rfl⟩ rfl (Nat.le_of_ble_eq_true rfl) dX5_sumOf_23 (r_N ?_) r_NX
      show PX Z 4 S18 0 0 26 [(0, va_rf r0), (1, .int i1), (2, .int v1), (3, .int v2)] [.int v17, .int v1]
      refine x_goto (t := 30) hC dX5_sumOf_26 (by decide) ?_
      refine x_iadd hC dX5_sumOf_30 ?_
      replace h := le_el h
      obtain ⟨x20, hx21, h⟩ := h
      refine x_tI hx21 ?_
      refine x_istore_n (i := 2) (l' := [(2, .int x20), (0, va_rf r0), (1, .int i1), (3, .int v2)]) hC dX5_sumOf_31 rfl (⟨fun _ => c_rf r0, ⟨fun _ => rfl, ⟨fun _ => rfl, ⟨fun _ => rfl, trivial⟩⟩⟩⟩) (by decide) rfl ?_
      refine x_iinc (i := 3) (v := (v2 + (1 : Int32))) (l' := [(3, .int (v2 + (1 : Int32))), (2, .int x20), (0, va_rf r0), (1, .int i1)]) hC dX5_sumOf_32 3 rfl rfl (⟨fun _ => rfl, ⟨fun _ => c_rf r0, ⟨fun _ => rfl, ⟨fun _ => rfl, trivial⟩⟩⟩⟩) (by decide) rfl ?_
      refine x_goto (t := 4) hC dX5_sumOf_35 (by decide) ?_
      refine x_sub (l' := [(0, va_rf r0), (1, .int i1), (2, .int x20), (3, .int (v2 + (1 : Int32)))]) [2, 3, 1, 0] rfl ?_
      have hb := bk_x h hg_4
      exact hb
theorem dX5_around_0 : decode cX5_around 0 = .ok (.iload_n 1, 1) := by decide +kernel
theorem dX5_around_1 : decode cX5_around 1 = .ok (.istore_n 2, 1) := by decide +kernel
theorem dX5_around_2 : decode cX5_around 2 = .ok (.iconst 0, 1) := by decide +kernel
theorem dX5_around_3 : decode cX5_around 3 = .ok (.istore_n 3, 1) := by decide +kernel
theorem dX5_around_4 : decode cX5_around 4 = .ok (.iload_n 3, 1) := by decide +kernel
theorem dX5_around_5 : decode cX5_around 5 = .ok (.bipush 8, 2) := by decide +kernel
theorem dX5_around_7 : decode cX5_around 7 = .ok (.if_icmp .ge 33, 3) := by decide +kernel
theorem dX5_around_10 : decode cX5_around 10 = .ok (.iload_n 2, 1) := by decide +kernel
theorem dX5_around_11 : decode cX5_around 11 = .ok (.iload_n 1, 1) := by decide +kernel
theorem dX5_around_12 : decode cX5_around 12 = .ok (.iload_n 3, 1) := by decide +kernel
theorem dX5_around_13 : decode cX5_around 13 = .ok (.invokestatic 42, 3) := by decide +kernel
theorem dX5_around_16 : decode cX5_around 16 = .ok (.ifCond .eq 15, 3) := by decide +kernel
theorem dX5_around_19 : decode cX5_around 19 = .ok (.aload_n 0, 1) := by decide +kernel
theorem dX5_around_20 : decode cX5_around 20 = .ok (.getfield 7, 3) := by decide +kernel
theorem dX5_around_23 : decode cX5_around 23 = .ok (.bipush 25, 2) := by decide +kernel
theorem dX5_around_25 : decode cX5_around 25 = .ok (.iload_n 3, 1) := by decide +kernel
theorem dX5_around_26 : decode cX5_around 26 = .ok (.iadd, 1) := by decide +kernel
theorem dX5_around_27 : decode cX5_around 27 = .ok (.iaload, 1) := by decide +kernel
theorem dX5_around_28 : decode cX5_around 28 = .ok (.goto 4, 3) := by decide +kernel
theorem dX5_around_31 : decode cX5_around 31 = .ok (.iconst 0, 1) := by decide +kernel
theorem dX5_around_32 : decode cX5_around 32 = .ok (.ior, 1) := by decide +kernel
theorem dX5_around_33 : decode cX5_around 33 = .ok (.istore_n 2, 1) := by decide +kernel
theorem dX5_around_34 : decode cX5_around 34 = .ok (.iinc 3 1, 3) := by decide +kernel
theorem dX5_around_37 : decode cX5_around 37 = .ok (.goto (-33), 3) := by decide +kernel
theorem dX5_around_40 : decode cX5_around 40 = .ok (.iload_n 2, 1) := by decide +kernel
theorem dX5_around_41 : decode cX5_around 41 = .ok (.ireturn, 1) := by decide +kernel
set_option maxRecDepth 100000 in
set_option maxHeartbeats 4000000 in
theorem mt_X5_around (r0 : Option Nat) (i1 : Int32) (S0 : PH) (y : Int32 × PH) (h : m_X5_around r0 i1 S0 = some y) : MT yX5_around (.code yX5_around cX5_around 4 (Option.some FieldType.int)) 1 21 0 0 [va_rf r0, .int i1] S0 (oQ e_I (qN y)) := by
  refine mt_of (own := RX5) (l0 := [(0, va_rf r0), (1, .int i1)]) rfl rfl (by cases r0 <;> exact Nat.le_of_ble_eq_true rfl) (by cases r0 <;> rfl) ?_
  intro Z hC hQ hE hN
  unfold m_X5_around at h
  refine x_iload_n (i := 1) hC dX5_around_0 rfl 1 rfl ?_
  refine x_istore_n (i := 2) (l' := [(2, .int i1), (0, va_rf r0), (1, .int i1)]) hC dX5_around_1 rfl (⟨fun _ => c_rf r0, ⟨fun _ => rfl, trivial⟩⟩) (by decide) rfl ?_
  refine x_iconst (v := (0 : Int32)) hC dX5_around_2 (by decide) ?_
  refine x_istore_n (i := 3) (l' := [(3, .int (0 : Int32)), (2, .int i1), (0, va_rf r0), (1, .int i1)]) hC dX5_around_3 rfl (⟨fun _ => rfl, ⟨fun _ => c_rf r0, ⟨fun _ => rfl, trivial⟩⟩⟩) (by decide) rfl ?_
  refine x_sub (l' := [(0, va_rf r0), (1, .int i1), (2, .int i1), (3, .int (0 : Int32))]) [2, 3, 1, 0] rfl ?_
  refine lp_sim (P := fun (t : (Int32 × Int32 × PH)) => PX Z 4 t.2.2 0 0 4 [(0, va_rf r0), (1, .int i1), (2, .int t.1), (3, .int t.2.1)] []) (G := fun r => r = y) ?_ h rfl
  clear h
  intro t x_4 h hg_4
  obtain ⟨v1, v2, S3⟩ := t
  show PX Z 4 S3 0 0 4 [(0, va_rf r0), (1, .int i1), (2, .int v1), (3, .int v2)] []
  unfold st_X5_around_4 at h
  refine x_iload_n (i := 3) hC dX5_around_4 rfl 3 rfl ?_
  refine x_bipush (v := (8 : Int32)) hC dX5_around_5 (by decide) ?_
  refine x_icmp_ge (t := 40) hC dX5_around_7 (by decide) (fun c4 => ?_) (fun c4 => ?_)
  · replace h := it_t c4 h
    replace h := ir_x h hg_4
    refine x_iload_n (i := 2) hC dX5_around_40 rfl 2 rfl ?_
    exact x_iret hC hQ (z_N (Option.some.inj h)) (Nat.le_of_ble_eq_true rfl) (Nat.le_of_ble_eq_true rfl) dX5_around_41
  · replace h := it_f c4 h
    refine x_iload_n (i := 2) hC dX5_around_10 rfl 2 rfl ?_
    refine x_iload_n (i := 1) hC dX5_around_11 rfl 1 rfl ?_
    refine x_iload_n (i := 3) hC dX5_around_12 rfl 3 rfl ?_
    replace h := bd_el h
    obtain ⟨v5, S6, hb7, h⟩ := h
    refine x_callS hC (st := [.int v1]) (mt_X5_has _ _ _ _ hb7) q_1008 q_1009 q_7 q_1010 hy_X5_has ⟨Nat.le_of_ble_eq_true rfl, Nat.le_of_ble_eq_true rfl⟩ ⟨Nat.le_of_ble_eq_true rfl, Nat.le_of_ble_eq_true rfl⟩ rfl (Nat.le_of_ble_eq_true rfl) dX5_around_13 (r_N ?_) r_NX
    show PX Z 4 S6 0 0 16 [(0, va_rf r0), (1, .int i1), (2, .int v1), (3, .int v2)] [.int v5, .int v1]
    refine x_if_eq (t := 31) hC dX5_around_16 (by decide) (fun c8 => ?_) (fun c8 => ?_)
    · replace h := it_t c8 h
      refine x_iconst (v := (0 : Int32)) hC dX5_around_31 (by decide) ?_
      refine x_ior hC dX5_around_32 ?_
      replace h := le_el h
      obtain ⟨x9, hx10, h⟩ := h
      refine x_tI hx10 ?_
      refine x_istore_n (i := 2) (l' := [(2, .int x9), (0, va_rf r0), (1, .int i1), (3, .int v2)]) hC dX5_around_33 rfl (⟨fun _ => c_rf r0, ⟨fun _ => rfl, ⟨fun _ => rfl, ⟨fun _ => rfl, trivial⟩⟩⟩⟩) (by decide) rfl ?_
      refine x_iinc (i := 3) (v := (v2 + (1 : Int32))) (l' := [(3, .int (v2 + (1 : Int32))), (2, .int x9), (0, va_rf r0), (1, .int i1)]) hC dX5_around_34 3 rfl rfl (⟨fun _ => rfl, ⟨fun _ => c_rf r0, ⟨fun _ => rfl, ⟨fun _ => rfl, trivial⟩⟩⟩⟩) (by decide) rfl ?_
      refine x_goto (t := 4) hC dX5_around_37 (by decide) ?_
      refine x_sub (l' := [(0, va_rf r0), (1, .int i1), (2, .int x9), (3, .int (v2 + (1 : Int32)))]) [2, 3, 1, 0] rfl ?_
      have hb := bk_x h hg_4
      exact hb
    · replace h := it_f c8 h
      refine x_aload_n (i := 0) hC dX5_around_19 rfl 0 rfl ?_
      replace h := dr_el h
      obtain ⟨a11, ea12, ha13, h⟩ := h
      refine x_getR hC ea12 ha13 kf_5 1 (by decide) rfl q_864 dX5_around_20 ?_
      refine x_bipush (v := (25 : Int32)) hC dX5_around_23 (by decide) ?_
      refine x_iload_n (i := 3) hC dX5_around_25 rfl 3 rfl ?_
      refine x_iadd hC dX5_around_26 ?_
      replace h := dr_el h
      obtain ⟨a14, ea15, ha16, h⟩ := h
      replace h := ck_el h
      obtain ⟨hc17, h⟩ := h
      refine x_iaload hC ea15 ha16 hc17 dX5_around_27 ?_
      refine x_goto (t := 32) hC dX5_around_28 (by decide) ?_
      refine x_ior hC dX5_around_32 ?_
      replace h := le_el h
      obtain ⟨x18, hx19, h⟩ := h
      refine x_tI hx19 ?_
      refine x_istore_n (i := 2) (l' := [(2, .int x18), (0, va_rf r0), (1, .int i1), (3, .int v2)]) hC dX5_around_33 rfl (⟨fun _ => c_rf r0, ⟨fun _ => rfl, ⟨fun _ => rfl, ⟨fun _ => rfl, trivial⟩⟩⟩⟩) (by decide) rfl ?_
      refine x_iinc (i := 3) (v := (v2 + (1 : Int32))) (l' := [(3, .int (v2 + (1 : Int32))), (2, .int x18), (0, va_rf r0), (1, .int i1)]) hC dX5_around_34 3 rfl rfl (⟨fun _ => rfl, ⟨fun _ => c_rf r0, ⟨fun _ => rfl, ⟨fun _ => rfl, trivial⟩⟩⟩⟩) (by decide) rfl ?_
      refine x_goto (t := 4) hC dX5_around_37 (by decide) ?_
      refine x_sub (l' := [(0, va_rf r0), (1, .int i1), (2, .int x18), (3, .int (v2 + (1 : Int32)))]) [2, 3, 1, 0] rfl ?_
      have hb := bk_x h hg_4
      exact hb
theorem dX5_isInConflict_0 : decode cX5_isInConflict 0 = .ok (.aload_n 0, 1) := by decide +kernel
theorem dX5_isInConflict_1 : decode cX5_isInConflict 1 = .ok (.iload_n 2, 1) := by decide +kernel
theorem dX5_isInConflict_2 : decode cX5_isInConflict 2 = .ok (.iconst 1, 1) := by decide +kernel
theorem dX5_isInConflict_3 : decode cX5_isInConflict 3 = .ok (.invokevirtual 31, 3) := by decide +kernel
theorem dX5_isInConflict_6 : decode cX5_isInConflict 6 = .ok (.istore_n 3, 1) := by decide +kernel
theorem dX5_isInConflict_7 : decode cX5_isInConflict 7 = .ok (.iconst 0, 1) := by decide +kernel
theorem dX5_isInConflict_8 : decode cX5_isInConflict 8 = .ok (.istore 4, 2) := by decide +kernel
theorem dX5_isInConflict_10 : decode cX5_isInConflict 10 = .ok (.iload 4, 2) := by decide +kernel
theorem dX5_isInConflict_12 : decode cX5_isInConflict 12 = .ok (.aload_n 0, 1) := by decide +kernel
theorem dX5_isInConflict_13 : decode cX5_isInConflict 13 = .ok (.getfield 7, 3) := by decide +kernel
theorem dX5_isInConflict_16 : decode cX5_isInConflict 16 = .ok (.iconst 5, 1) := by decide +kernel
theorem dX5_isInConflict_17 : decode cX5_isInConflict 17 = .ok (.iaload, 1) := by decide +kernel
theorem dX5_isInConflict_18 : decode cX5_isInConflict 18 = .ok (.if_icmp .ge 15, 3) := by decide +kernel
theorem dX5_isInConflict_21 : decode cX5_isInConflict 21 = .ok (.aload_n 0, 1) := by decide +kernel
theorem dX5_isInConflict_22 : decode cX5_isInConflict 22 = .ok (.iload_n 3, 1) := by decide +kernel
theorem dX5_isInConflict_23 : decode cX5_isInConflict 23 = .ok (.invokevirtual 45, 3) := by decide +kernel
theorem dX5_isInConflict_26 : decode cX5_isInConflict 26 = .ok (.istore_n 3, 1) := by decide +kernel
theorem dX5_isInConflict_27 : decode cX5_isInConflict 27 = .ok (.iinc 4 1, 3) := by decide +kernel
theorem dX5_isInConflict_30 : decode cX5_isInConflict 30 = .ok (.goto (-20), 3) := by decide +kernel
theorem dX5_isInConflict_33 : decode cX5_isInConflict 33 = .ok (.iload_n 3, 1) := by decide +kernel
theorem dX5_isInConflict_34 : decode cX5_isInConflict 34 = .ok (.iload_n 1, 1) := by decide +kernel
theorem dX5_isInConflict_35 : decode cX5_isInConflict 35 = .ok (.invokestatic 42, 3) := by decide +kernel
theorem dX5_isInConflict_38 : decode cX5_isInConflict 38 = .ok (.ireturn, 1) := by decide +kernel
set_option maxRecDepth 100000 in
set_option maxHeartbeats 4000000 in
theorem mt_X5_isInConflict (r0 : Option Nat) (i1 : Int32) (i2 : Int32) (S0 : PH) (y : Int32 × PH) (h : m_X5_isInConflict r0 i1 i2 S0 = some y) : MT yX5_isInConflict (.code yX5_isInConflict cX5_isInConflict 5 (Option.some FieldType.boolean)) 2 44 0 0 [va_rf r0, .int i1, .int i2] S0 (oQ e_I (qN y)) := by
  refine mt_of (own := RX5) (l0 := [(0, va_rf r0), (1, .int i1), (2, .int i2)]) rfl rfl (by cases r0 <;> exact Nat.le_of_ble_eq_true rfl) (by cases r0 <;> rfl) ?_
  intro Z hC hQ hE hN
  unfold m_X5_isInConflict at h
  refine x_aload_n (i := 0) hC dX5_isInConflict_0 rfl 0 rfl ?_
  refine x_iload_n (i := 2) hC dX5_isInConflict_1 rfl 2 rfl ?_
  refine x_iconst (v := (1 : Int32)) hC dX5_isInConflict_2 (by decide) ?_
  replace h := dr_el h
  obtain ⟨a1, ea2, ha3, h⟩ := h
  replace h := bd_el h
  obtain ⟨v4, S5, hb6, h⟩ := h
  refine x_callV hC (st := []) (mt_X5_of _ _ _ _ _ hb6) ea2 ha3 kf_5 q_981 q_983 qs_52 q_7 q_984 ⟨rfl, hy_X5_of⟩ ⟨Nat.le_of_ble_eq_true rfl, Nat.le_of_ble_eq_true rfl⟩ ⟨Nat.le_of_ble_eq_true rfl, Nat.le_of_ble_eq_true rfl⟩ rfl (Nat.le_of_ble_eq_true rfl) dX5_isInConflict_3 (r_N ?_) r_NX
  show PX Z 5 S5 0 0 6 [(0, va_rf r0), (1, .int i1), (2, .int i2)] [.int v4]
  refine x_istore_n (i := 3) (l' := [(3, .int v4), (0, va_rf r0), (1, .int i1), (2, .int i2)]) hC dX5_isInConflict_6 rfl (⟨fun _ => c_rf r0, ⟨fun _ => rfl, ⟨fun _ => rfl, trivial⟩⟩⟩) (by decide) rfl ?_
  refine x_iconst (v := (0 : Int32)) hC dX5_isInConflict_7 (by decide) ?_
  refine x_istore (i := 4) (l' := [(4, .int (0 : Int32)), (3, .int v4), (0, va_rf r0), (1, .int i1), (2, .int i2)]) hC dX5_isInConflict_8 (⟨fun _ => rfl, ⟨fun _ => c_rf r0, ⟨fun _ => rfl, ⟨fun _ => rfl, trivial⟩⟩⟩⟩) (by decide) rfl ?_
  refine x_sub (l' := [(0, va_rf r0), (1, .int i1), (2, .int i2), (3, .int v4), (4, .int (0 : Int32))]) [2, 3, 4, 1, 0] rfl ?_
  refine lp_sim (P := fun (t : (Int32 × Int32 × PH)) => PX Z 5 t.2.2 0 0 10 [(0, va_rf r0), (1, .int i1), (2, .int i2), (3, .int t.1), (4, .int t.2.1)] []) (G := fun r => r = y) ?_ h rfl
  clear h
  intro t x_10 h hg_10
  obtain ⟨v7, v8, S9⟩ := t
  show PX Z 5 S9 0 0 10 [(0, va_rf r0), (1, .int i1), (2, .int i2), (3, .int v7), (4, .int v8)] []
  unfold st_X5_isInConflict_10 at h
  refine x_iload (i := 4) hC dX5_isInConflict_10 4 rfl ?_
  refine x_aload_n (i := 0) hC dX5_isInConflict_12 rfl 0 rfl ?_
  replace h := dr_el h
  obtain ⟨a10, ea11, ha12, h⟩ := h
  refine x_getR hC ea11 ha12 kf_5 1 (by decide) rfl q_864 dX5_isInConflict_13 ?_
  refine x_iconst (v := (5 : Int32)) hC dX5_isInConflict_16 (by decide) ?_
  replace h := dr_el h
  obtain ⟨a13, ea14, ha15, h⟩ := h
  replace h := ck_el h
  obtain ⟨hc16, h⟩ := h
  refine x_iaload hC ea14 ha15 hc16 dX5_isInConflict_17 ?_
  refine x_tI (b := (p_I S9 a13 5)) rfl ?_
  refine x_icmp_ge (t := 33) hC dX5_isInConflict_18 (by decide) (fun c17 => ?_) (fun c17 => ?_)
  · replace h := it_t c17 h
    replace h := ir_x h hg_10
    refine x_iload_n (i := 3) hC dX5_isInConflict_33 rfl 3 rfl ?_
    refine x_iload_n (i := 1) hC dX5_isInConflict_34 rfl 1 rfl ?_
    replace h := bd_el h
    obtain ⟨v18, S19, hb20, h⟩ := h
    refine x_callS hC (st := []) (mt_X5_has _ _ _ _ hb20) q_1008 q_1009 q_7 q_1010 hy_X5_has ⟨Nat.le_of_ble_eq_true rfl, Nat.le_of_ble_eq_true rfl⟩ ⟨Nat.le_of_ble_eq_true rfl, Nat.le_of_ble_eq_true rfl⟩ rfl (Nat.le_of_ble_eq_true rfl) dX5_isInConflict_35 (r_N ?_) r_NX
    show PX Z 5 S19 0 0 38 [(0, va_rf r0), (1, .int i1), (2, .int i2), (3, .int v7), (4, .int v8)] [.int v18]
    replace h := ck_el h
    obtain ⟨hc21, h⟩ := h
    exact x_zret hC hQ (of_decide_eq_true hc21) (z_N (Option.some.inj h)) (Nat.le_of_ble_eq_true rfl) (Nat.le_of_ble_eq_true rfl) dX5_isInConflict_38
  · replace h := it_f c17 h
    refine x_aload_n (i := 0) hC dX5_isInConflict_21 rfl 0 rfl ?_
    refine x_iload_n (i := 3) hC dX5_isInConflict_22 rfl 3 rfl ?_
    replace h := bd_el h
    obtain ⟨v22, S23, hb24, h⟩ := h
    refine x_callV hC (st := []) (mt_X5_around _ _ _ _ hb24) ea11 ha12 kf_5 q_1004 q_1006 qs_57 q_7 q_1007 ⟨rfl, hy_X5_around⟩ ⟨Nat.le_of_ble_eq_true rfl, Nat.le_of_ble_eq_true rfl⟩ ⟨Nat.le_of_ble_eq_true rfl, Nat.le_of_ble_eq_true rfl⟩ rfl (Nat.le_of_ble_eq_true rfl) dX5_isInConflict_23 (r_N ?_) r_NX
    show PX Z 5 S23 0 0 26 [(0, va_rf r0), (1, .int i1), (2, .int i2), (3, .int v7), (4, .int v8)] [.int v22]
    refine x_istore_n (i := 3) (l' := [(3, .int v22), (0, va_rf r0), (1, .int i1), (2, .int i2), (4, .int v8)]) hC dX5_isInConflict_26 rfl (⟨fun _ => c_rf r0, ⟨fun _ => rfl, ⟨fun _ => rfl, ⟨fun _ => rfl, ⟨fun _ => rfl, trivial⟩⟩⟩⟩⟩) (by decide) rfl ?_
    refine x_iinc (i := 4) (v := (v8 + (1 : Int32))) (l' := [(4, .int (v8 + (1 : Int32))), (3, .int v22), (0, va_rf r0), (1, .int i1), (2, .int i2)]) hC dX5_isInConflict_27 4 rfl rfl (⟨fun _ => rfl, ⟨fun _ => c_rf r0, ⟨fun _ => rfl, ⟨fun _ => rfl, ⟨fun _ => rfl, trivial⟩⟩⟩⟩⟩) (by decide) rfl ?_
    refine x_goto (t := 10) hC dX5_isInConflict_30 (by decide) ?_
    refine x_sub (l' := [(0, va_rf r0), (1, .int i1), (2, .int i2), (3, .int v22), (4, .int (v8 + (1 : Int32)))]) [2, 3, 4, 1, 0] rfl ?_
    have hb := bk_x h hg_10
    exact hb
theorem dX5_pays_0 : decode cX5_pays 0 = .ok (.aload_n 0, 1) := by decide +kernel
theorem dX5_pays_1 : decode cX5_pays 1 = .ok (.getfield 7, 3) := by decide +kernel
theorem dX5_pays_4 : decode cX5_pays 4 = .ok (.bipush 9, 2) := by decide +kernel
theorem dX5_pays_6 : decode cX5_pays 6 = .ok (.iload_n 1, 1) := by decide +kernel
theorem dX5_pays_7 : decode cX5_pays 7 = .ok (.iadd, 1) := by decide +kernel
theorem dX5_pays_8 : decode cX5_pays 8 = .ok (.dup2, 1) := by decide +kernel
theorem dX5_pays_9 : decode cX5_pays 9 = .ok (.iaload, 1) := by decide +kernel
theorem dX5_pays_10 : decode cX5_pays 10 = .ok (.iload_n 2, 1) := by decide +kernel
theorem dX5_pays_11 : decode cX5_pays 11 = .ok (.isub, 1) := by decide +kernel
theorem dX5_pays_12 : decode cX5_pays 12 = .ok (.iastore, 1) := by decide +kernel
theorem dX5_pays_13 : decode cX5_pays 13 = .ok (.aload_n 0, 1) := by decide +kernel
theorem dX5_pays_14 : decode cX5_pays 14 = .ok (.getfield 7, 3) := by decide +kernel
theorem dX5_pays_17 : decode cX5_pays 17 = .ok (.bipush 41, 2) := by decide +kernel
theorem dX5_pays_19 : decode cX5_pays 19 = .ok (.iload_n 1, 1) := by decide +kernel
theorem dX5_pays_20 : decode cX5_pays 20 = .ok (.iadd, 1) := by decide +kernel
theorem dX5_pays_21 : decode cX5_pays 21 = .ok (.dup2, 1) := by decide +kernel
theorem dX5_pays_22 : decode cX5_pays 22 = .ok (.iaload, 1) := by decide +kernel
theorem dX5_pays_23 : decode cX5_pays 23 = .ok (.iload_n 2, 1) := by decide +kernel
theorem dX5_pays_24 : decode cX5_pays 24 = .ok (.iadd, 1) := by decide +kernel
theorem dX5_pays_25 : decode cX5_pays 25 = .ok (.iastore, 1) := by decide +kernel
theorem dX5_pays_26 : decode cX5_pays 26 = .ok (.return_, 1) := by decide +kernel
set_option maxRecDepth 100000 in
set_option maxHeartbeats 4000000 in
theorem mt_X5_pays (r0 : Option Nat) (i1 : Int32) (i2 : Int32) (S0 : PH) (y : Unit × PH) (h : m_X5_pays r0 i1 i2 S0 = some y) : MT yX5_pays (.code yX5_pays cX5_pays 3 (Option.none : Option FieldType)) 0 0 0 0 [va_rf r0, .int i1, .int i2] S0 (oQ e_V (qN y)) := by
  refine mt_of (own := RX5) (l0 := [(0, va_rf r0), (1, .int i1), (2, .int i2)]) rfl rfl (by cases r0 <;> exact Nat.le_of_ble_eq_true rfl) (by cases r0 <;> rfl) ?_
  intro Z hC hQ hE hN
  unfold m_X5_pays at h
  refine x_aload_n (i := 0) hC dX5_pays_0 rfl 0 rfl ?_
  replace h := dr_el h
  obtain ⟨a1, ea2, ha3, h⟩ := h
  refine x_getR hC ea2 ha3 kf_5 1 (by decide) rfl q_864 dX5_pays_1 ?_
  refine x_bipush (v := (9 : Int32)) hC dX5_pays_4 (by decide) ?_
  refine x_iload_n (i := 1) hC dX5_pays_6 rfl 1 rfl ?_
  refine x_iadd hC dX5_pays_7 ?_
  refine x_dup2 hC dX5_pays_8 rfl (c_rf (p_R S0 a1 1)) ?_
  replace h := dr_el h
  obtain ⟨a4, ea5, ha6, h⟩ := h
  replace h := ck_el h
  obtain ⟨hc7, h⟩ := h
  refine x_iaload hC ea5 ha6 hc7 dX5_pays_9 ?_
  refine x_iload_n (i := 2) hC dX5_pays_10 rfl 2 rfl ?_
  refine x_isub hC dX5_pays_11 ?_
  replace h := ck_el h
  obtain ⟨hc8, h⟩ := h
  replace h := le_el h
  obtain ⟨S9, hx10, h⟩ := h
  refine x_iastore hC ea5 ha6 hc8 dX5_pays_12 ?_
  refine x_tS hx10 ?_
  refine x_aload_n (i := 0) hC dX5_pays_13 rfl 0 rfl ?_
  replace h := dr_el h
  obtain ⟨a11, ea12, ha13, h⟩ := h
  refine x_getR hC ea12 ha13 kf_5 1 (by decide) rfl q_864 dX5_pays_14 ?_
  refine x_bipush (v := (41 : Int32)) hC dX5_pays_17 (by decide) ?_
  refine x_iload_n (i := 1) hC dX5_pays_19 rfl 1 rfl ?_
  refine x_iadd hC dX5_pays_20 ?_
  refine x_dup2 hC dX5_pays_21 rfl (c_rf (p_R S9 a11 1)) ?_
  replace h := dr_el h
  obtain ⟨a14, ea15, ha16, h⟩ := h
  replace h := ck_el h
  obtain ⟨hc17, h⟩ := h
  refine x_iaload hC ea15 ha16 hc17 dX5_pays_22 ?_
  refine x_iload_n (i := 2) hC dX5_pays_23 rfl 2 rfl ?_
  refine x_iadd hC dX5_pays_24 ?_
  replace h := ck_el h
  obtain ⟨hc18, h⟩ := h
  replace h := le_el h
  obtain ⟨S19, hx20, h⟩ := h
  refine x_iastore hC ea15 ha16 hc18 dX5_pays_25 ?_
  refine x_tS hx20 ?_
  exact x_vret hC hQ (z_N (v := ()) (Option.some.inj h)) (Nat.le_of_ble_eq_true rfl) (Nat.le_of_ble_eq_true rfl) dX5_pays_26
theorem dX5_gets_0 : decode cX5_gets 0 = .ok (.aload_n 0, 1) := by decide +kernel
theorem dX5_gets_1 : decode cX5_gets 1 = .ok (.getfield 7, 3) := by decide +kernel
theorem dX5_gets_4 : decode cX5_gets 4 = .ok (.bipush 9, 2) := by decide +kernel
theorem dX5_gets_6 : decode cX5_gets 6 = .ok (.iload_n 1, 1) := by decide +kernel
theorem dX5_gets_7 : decode cX5_gets 7 = .ok (.iadd, 1) := by decide +kernel
theorem dX5_gets_8 : decode cX5_gets 8 = .ok (.dup2, 1) := by decide +kernel
theorem dX5_gets_9 : decode cX5_gets 9 = .ok (.iaload, 1) := by decide +kernel
theorem dX5_gets_10 : decode cX5_gets 10 = .ok (.iload_n 2, 1) := by decide +kernel
theorem dX5_gets_11 : decode cX5_gets 11 = .ok (.iadd, 1) := by decide +kernel
theorem dX5_gets_12 : decode cX5_gets 12 = .ok (.iastore, 1) := by decide +kernel
theorem dX5_gets_13 : decode cX5_gets 13 = .ok (.aload_n 0, 1) := by decide +kernel
theorem dX5_gets_14 : decode cX5_gets 14 = .ok (.getfield 7, 3) := by decide +kernel
theorem dX5_gets_17 : decode cX5_gets 17 = .ok (.bipush 33, 2) := by decide +kernel
theorem dX5_gets_19 : decode cX5_gets 19 = .ok (.iload_n 1, 1) := by decide +kernel
theorem dX5_gets_20 : decode cX5_gets 20 = .ok (.iadd, 1) := by decide +kernel
theorem dX5_gets_21 : decode cX5_gets 21 = .ok (.dup2, 1) := by decide +kernel
theorem dX5_gets_22 : decode cX5_gets 22 = .ok (.iaload, 1) := by decide +kernel
theorem dX5_gets_23 : decode cX5_gets 23 = .ok (.iload_n 2, 1) := by decide +kernel
theorem dX5_gets_24 : decode cX5_gets 24 = .ok (.iadd, 1) := by decide +kernel
theorem dX5_gets_25 : decode cX5_gets 25 = .ok (.iastore, 1) := by decide +kernel
theorem dX5_gets_26 : decode cX5_gets 26 = .ok (.aload_n 0, 1) := by decide +kernel
theorem dX5_gets_27 : decode cX5_gets 27 = .ok (.getfield 7, 3) := by decide +kernel
theorem dX5_gets_30 : decode cX5_gets 30 = .ok (.iconst 0, 1) := by decide +kernel
theorem dX5_gets_31 : decode cX5_gets 31 = .ok (.dup2, 1) := by decide +kernel
theorem dX5_gets_32 : decode cX5_gets 32 = .ok (.iaload, 1) := by decide +kernel
theorem dX5_gets_33 : decode cX5_gets 33 = .ok (.iload_n 2, 1) := by decide +kernel
theorem dX5_gets_34 : decode cX5_gets 34 = .ok (.isub, 1) := by decide +kernel
theorem dX5_gets_35 : decode cX5_gets 35 = .ok (.iastore, 1) := by decide +kernel
theorem dX5_gets_36 : decode cX5_gets 36 = .ok (.return_, 1) := by decide +kernel
set_option maxRecDepth 100000 in
set_option maxHeartbeats 4000000 in
theorem mt_X5_gets (r0 : Option Nat) (i1 : Int32) (i2 : Int32) (S0 : PH) (y : Unit × PH) (h : m_X5_gets r0 i1 i2 S0 = some y) : MT yX5_gets (.code yX5_gets cX5_gets 3 (Option.none : Option FieldType)) 0 0 0 0 [va_rf r0, .int i1, .int i2] S0 (oQ e_V (qN y)) := by
  refine mt_of (own := RX5) (l0 := [(0, va_rf r0), (1, .int i1), (2, .int i2)]) rfl rfl (by cases r0 <;> exact Nat.le_of_ble_eq_true rfl) (by cases r0 <;> rfl) ?_
  intro Z hC hQ hE hN
  unfold m_X5_gets at h
  refine x_aload_n (i := 0) hC dX5_gets_0 rfl 0 rfl ?_
  replace h := dr_el h
  obtain ⟨a1, ea2, ha3, h⟩ := h
  refine x_getR hC ea2 ha3 kf_5 1 (by decide) rfl q_864 dX5_gets_1 ?_
  refine x_bipush (v := (9 : Int32)) hC dX5_gets_4 (by decide) ?_
  refine x_iload_n (i := 1) hC dX5_gets_6 rfl 1 rfl ?_
  refine x_iadd hC dX5_gets_7 ?_
  refine x_dup2 hC dX5_gets_8 rfl (c_rf (p_R S0 a1 1)) ?_
  replace h := dr_el h
  obtain ⟨a4, ea5, ha6, h⟩ := h
  replace h := ck_el h
  obtain ⟨hc7, h⟩ := h
  refine x_iaload hC ea5 ha6 hc7 dX5_gets_9 ?_
  refine x_iload_n (i := 2) hC dX5_gets_10 rfl 2 rfl ?_
  refine x_iadd hC dX5_gets_11 ?_
  replace h := ck_el h
  obtain ⟨hc8, h⟩ := h
  replace h := le_el h
  obtain ⟨S9, hx10, h⟩ := h
  refine x_iastore hC ea5 ha6 hc8 dX5_gets_12 ?_
  refine x_tS hx10 ?_
  refine x_aload_n (i := 0) hC dX5_gets_13 rfl 0 rfl ?_
  replace h := dr_el h
  obtain ⟨a11, ea12, ha13, h⟩ := h
  refine x_getR hC ea12 ha13 kf_5 1 (by decide) rfl q_864 dX5_gets_14 ?_
  refine x_bipush (v := (33 : Int32)) hC dX5_gets_17 (by decide) ?_
  refine x_iload_n (i := 1) hC dX5_gets_19 rfl 1 rfl ?_
  refine x_iadd hC dX5_gets_20 ?_
  refine x_dup2 hC dX5_gets_21 rfl (c_rf (p_R S9 a11 1)) ?_
  replace h := dr_el h
  obtain ⟨a14, ea15, ha16, h⟩ := h
  replace h := ck_el h
  obtain ⟨hc17, h⟩ := h
  refine x_iaload hC ea15 ha16 hc17 dX5_gets_22 ?_
  refine x_iload_n (i := 2) hC dX5_gets_23 rfl 2 rfl ?_
  refine x_iadd hC dX5_gets_24 ?_
  replace h := ck_el h
  obtain ⟨hc18, h⟩ := h
  replace h := le_el h
  obtain ⟨S19, hx20, h⟩ := h
  refine x_iastore hC ea15 ha16 hc18 dX5_gets_25 ?_
  refine x_tS hx20 ?_
  refine x_aload_n (i := 0) hC dX5_gets_26 rfl 0 rfl ?_
  replace h := dr_el h
  obtain ⟨a21, ea22, ha23, h⟩ := h
  refine x_getR hC ea22 ha23 kf_5 1 (by decide) rfl q_864 dX5_gets_27 ?_
  refine x_iconst (v := (0 : Int32)) hC dX5_gets_30 (by decide) ?_
  refine x_dup2 hC dX5_gets_31 rfl (c_rf (p_R S19 a21 1)) ?_
  replace h := dr_el h
  obtain ⟨a24, ea25, ha26, h⟩ := h
  replace h := ck_el h
  obtain ⟨hc27, h⟩ := h
  refine x_iaload hC ea25 ha26 hc27 dX5_gets_32 ?_
  refine x_tI (b := (p_I S19 a24 0)) rfl ?_
  refine x_iload_n (i := 2) hC dX5_gets_33 rfl 2 rfl ?_
  refine x_isub hC dX5_gets_34 ?_
  replace h := ck_el h
  obtain ⟨hc28, h⟩ := h
  replace h := le_el h
  obtain ⟨S29, hx30, h⟩ := h
  refine x_iastore hC ea25 ha26 hc28 dX5_gets_35 ?_
  refine x_tS hx30 ?_
  exact x_vret hC hQ (z_N (v := ()) (Option.some.inj h)) (Nat.le_of_ble_eq_true rfl) (Nat.le_of_ble_eq_true rfl) dX5_gets_36
theorem dX5_copies_0 : decode cX5_copies 0 = .ok (.iconst 0, 1) := by decide +kernel
theorem dX5_copies_1 : decode cX5_copies 1 = .ok (.istore_n 3, 1) := by decide +kernel
theorem dX5_copies_2 : decode cX5_copies 2 = .ok (.iload_n 3, 1) := by decide +kernel
theorem dX5_copies_3 : decode cX5_copies 3 = .ok (.sipush 161, 3) := by decide +kernel
theorem dX5_copies_6 : decode cX5_copies 6 = .ok (.if_icmp .ge 33, 3) := by decide +kernel
theorem dX5_copies_9 : decode cX5_copies 9 = .ok (.aload_n 0, 1) := by decide +kernel
theorem dX5_copies_10 : decode cX5_copies 10 = .ok (.getfield 7, 3) := by decide +kernel
theorem dX5_copies_13 : decode cX5_copies 13 = .ok (.sipush 161, 3) := by decide +kernel
theorem dX5_copies_16 : decode cX5_copies 16 = .ok (.iload_n 2, 1) := by decide +kernel
theorem dX5_copies_17 : decode cX5_copies 17 = .ok (.imul, 1) := by decide +kernel
theorem dX5_copies_18 : decode cX5_copies 18 = .ok (.iload_n 3, 1) := by decide +kernel
theorem dX5_copies_19 : decode cX5_copies 19 = .ok (.iadd, 1) := by decide +kernel
theorem dX5_copies_20 : decode cX5_copies 20 = .ok (.aload_n 0, 1) := by decide +kernel
theorem dX5_copies_21 : decode cX5_copies 21 = .ok (.getfield 7, 3) := by decide +kernel
theorem dX5_copies_24 : decode cX5_copies 24 = .ok (.sipush 161, 3) := by decide +kernel
theorem dX5_copies_27 : decode cX5_copies 27 = .ok (.iload_n 1, 1) := by decide +kernel
theorem dX5_copies_28 : decode cX5_copies 28 = .ok (.imul, 1) := by decide +kernel
theorem dX5_copies_29 : decode cX5_copies 29 = .ok (.iload_n 3, 1) := by decide +kernel
theorem dX5_copies_30 : decode cX5_copies 30 = .ok (.iadd, 1) := by decide +kernel
theorem dX5_copies_31 : decode cX5_copies 31 = .ok (.iaload, 1) := by decide +kernel
theorem dX5_copies_32 : decode cX5_copies 32 = .ok (.iastore, 1) := by decide +kernel
theorem dX5_copies_33 : decode cX5_copies 33 = .ok (.iinc 3 1, 3) := by decide +kernel
theorem dX5_copies_36 : decode cX5_copies 36 = .ok (.goto (-34), 3) := by decide +kernel
theorem dX5_copies_39 : decode cX5_copies 39 = .ok (.return_, 1) := by decide +kernel
set_option maxRecDepth 100000 in
set_option maxHeartbeats 4000000 in
theorem mt_X5_copies (r0 : Option Nat) (i1 : Int32) (i2 : Int32) (S0 : PH) (y : Unit × PH) (h : m_X5_copies r0 i1 i2 S0 = some y) : MT yX5_copies (.code yX5_copies cX5_copies 4 (Option.none : Option FieldType)) 0 0 0 0 [va_rf r0, .int i1, .int i2] S0 (oQ e_V (qN y)) := by
  refine mt_of (own := RX5) (l0 := [(0, va_rf r0), (1, .int i1), (2, .int i2)]) rfl rfl (by cases r0 <;> exact Nat.le_of_ble_eq_true rfl) (by cases r0 <;> rfl) ?_
  intro Z hC hQ hE hN
  unfold m_X5_copies at h
  refine x_iconst (v := (0 : Int32)) hC dX5_copies_0 (by decide) ?_
  refine x_istore_n (i := 3) (l' := [(3, .int (0 : Int32)), (0, va_rf r0), (1, .int i1), (2, .int i2)]) hC dX5_copies_1 rfl (⟨fun _ => c_rf r0, ⟨fun _ => rfl, ⟨fun _ => rfl, trivial⟩⟩⟩) (by decide) rfl ?_
  refine x_sub (l' := [(0, va_rf r0), (1, .int i1), (2, .int i2), (3, .int (0 : Int32))]) [1, 2, 3, 0] rfl ?_
  refine lp_sim (P := fun (t : (Int32 × PH)) => PX Z 4 t.2 0 0 2 [(0, va_rf r0), (1, .int i1), (2, .int i2), (3, .int t.1)] []) (G := fun r => r = y) ?_ h rfl
  clear h
  intro t x_2 h hg_2
  obtain ⟨v1, S2⟩ := t
  show PX Z 4 S2 0 0 2 [(0, va_rf r0), (1, .int i1), (2, .int i2), (3, .int v1)] []
  unfold st_X5_copies_2 at h
  refine x_iload_n (i := 3) hC dX5_copies_2 rfl 3 rfl ?_
  refine x_sipush (v := (161 : Int32)) hC dX5_copies_3 (by decide) ?_
  refine x_icmp_ge (t := 39) hC dX5_copies_6 (by decide) (fun c3 => ?_) (fun c3 => ?_)
  · replace h := it_t c3 h
    replace h := ir_x h hg_2
    exact x_vret hC hQ (z_N (v := ()) (Option.some.inj h)) (Nat.le_of_ble_eq_true rfl) (Nat.le_of_ble_eq_true rfl) dX5_copies_39
  · replace h := it_f c3 h
    refine x_aload_n (i := 0) hC dX5_copies_9 rfl 0 rfl ?_
    replace h := dr_el h
    obtain ⟨a4, ea5, ha6, h⟩ := h
    refine x_getR hC ea5 ha6 kf_5 1 (by decide) rfl q_864 dX5_copies_10 ?_
    refine x_sipush (v := (161 : Int32)) hC dX5_copies_13 (by decide) ?_
    refine x_iload_n (i := 2) hC dX5_copies_16 rfl 2 rfl ?_
    refine x_imul hC dX5_copies_17 ?_
    refine x_iload_n (i := 3) hC dX5_copies_18 rfl 3 rfl ?_
    refine x_iadd hC dX5_copies_19 ?_
    refine x_aload_n (i := 0) hC dX5_copies_20 rfl 0 rfl ?_
    refine x_getR hC ea5 ha6 kf_5 1 (by decide) rfl q_864 dX5_copies_21 ?_
    refine x_sipush (v := (161 : Int32)) hC dX5_copies_24 (by decide) ?_
    refine x_iload_n (i := 1) hC dX5_copies_27 rfl 1 rfl ?_
    refine x_imul hC dX5_copies_28 ?_
    refine x_iload_n (i := 3) hC dX5_copies_29 rfl 3 rfl ?_
    refine x_iadd hC dX5_copies_30 ?_
    replace h := dr_el h
    obtain ⟨a7, ea8, ha9, h⟩ := h
    replace h := ck_el h
    obtain ⟨hc10, h⟩ := h
    refine x_iaload hC ea8 ha9 hc10 dX5_copies_31 ?_
    replace h := ck_el h
    obtain ⟨hc11, h⟩ := h
    replace h := le_el h
    obtain ⟨S12, hx13, h⟩ := h
    refine x_iastore hC ea8 ha9 hc11 dX5_copies_32 ?_
    refine x_tS hx13 ?_
    refine x_iinc (i := 3) (v := (v1 + (1 : Int32))) (l' := [(3, .int (v1 + (1 : Int32))), (0, va_rf r0), (1, .int i1), (2, .int i2)]) hC dX5_copies_33 3 rfl rfl (⟨fun _ => c_rf r0, ⟨fun _ => rfl, ⟨fun _ => rfl, ⟨fun _ => rfl, trivial⟩⟩⟩⟩) (by decide) rfl ?_
    refine x_goto (t := 2) hC dX5_copies_36 (by decide) ?_
    refine x_sub (l' := [(0, va_rf r0), (1, .int i1), (2, .int i2), (3, .int (v1 + (1 : Int32)))]) [1, 2, 3, 0] rfl ?_
    have hb := bk_x h hg_2
    exact hb
theorem dX5_save_0 : decode cX5_save 0 = .ok (.iconst 1, 1) := by decide +kernel
theorem dX5_save_1 : decode cX5_save 1 = .ok (.istore_n 1, 1) := by decide +kernel
theorem dX5_save_2 : decode cX5_save 2 = .ok (.iload_n 1, 1) := by decide +kernel
theorem dX5_save_3 : decode cX5_save 3 = .ok (.bipush 6, 2) := by decide +kernel
theorem dX5_save_5 : decode cX5_save 5 = .ok (.if_icmp .ge 26, 3) := by decide +kernel
theorem dX5_save_8 : decode cX5_save 8 = .ok (.aload_n 0, 1) := by decide +kernel
theorem dX5_save_9 : decode cX5_save 9 = .ok (.getfield 49, 3) := by decide +kernel
theorem dX5_save_12 : decode cX5_save 12 = .ok (.bipush 6, 2) := by decide +kernel
theorem dX5_save_14 : decode cX5_save 14 = .ok (.if_icmp .ne 17, 3) := by decide +kernel
theorem dX5_save_17 : decode cX5_save 17 = .ok (.aload_n 0, 1) := by decide +kernel
theorem dX5_save_18 : decode cX5_save 18 = .ok (.iload_n 1, 1) := by decide +kernel
theorem dX5_save_19 : decode cX5_save 19 = .ok (.iconst 1, 1) := by decide +kernel
theorem dX5_save_20 : decode cX5_save 20 = .ok (.iadd, 1) := by decide +kernel
theorem dX5_save_21 : decode cX5_save 21 = .ok (.iload_n 1, 1) := by decide +kernel
theorem dX5_save_22 : decode cX5_save 22 = .ok (.invokevirtual 52, 3) := by decide +kernel
theorem dX5_save_25 : decode cX5_save 25 = .ok (.iinc 1 1, 3) := by decide +kernel
theorem dX5_save_28 : decode cX5_save 28 = .ok (.goto (-26), 3) := by decide +kernel
theorem dX5_save_31 : decode cX5_save 31 = .ok (.aload_n 0, 1) := by decide +kernel
theorem dX5_save_32 : decode cX5_save 32 = .ok (.dup, 1) := by decide +kernel
theorem dX5_save_33 : decode cX5_save 33 = .ok (.getfield 49, 3) := by decide +kernel
theorem dX5_save_36 : decode cX5_save 36 = .ok (.aload_n 0, 1) := by decide +kernel
theorem dX5_save_37 : decode cX5_save 37 = .ok (.getfield 49, 3) := by decide +kernel
theorem dX5_save_40 : decode cX5_save 40 = .ok (.bipush 6, 2) := by decide +kernel
theorem dX5_save_42 : decode cX5_save 42 = .ok (.if_icmp .ge 7, 3) := by decide +kernel
theorem dX5_save_45 : decode cX5_save 45 = .ok (.iconst 1, 1) := by decide +kernel
theorem dX5_save_46 : decode cX5_save 46 = .ok (.goto 4, 3) := by decide +kernel
theorem dX5_save_49 : decode cX5_save 49 = .ok (.iconst 0, 1) := by decide +kernel
theorem dX5_save_50 : decode cX5_save 50 = .ok (.iadd, 1) := by decide +kernel
theorem dX5_save_51 : decode cX5_save 51 = .ok (.putfield 49, 3) := by decide +kernel
theorem dX5_save_54 : decode cX5_save 54 = .ok (.aload_n 0, 1) := by decide +kernel
theorem dX5_save_55 : decode cX5_save 55 = .ok (.iconst 0, 1) := by decide +kernel
theorem dX5_save_56 : decode cX5_save 56 = .ok (.aload_n 0, 1) := by decide +kernel
theorem dX5_save_57 : decode cX5_save 57 = .ok (.getfield 49, 3) := by decide +kernel
theorem dX5_save_60 : decode cX5_save 60 = .ok (.invokevirtual 52, 3) := by decide +kernel
theorem dX5_save_63 : decode cX5_save 63 = .ok (.return_, 1) := by decide +kernel
set_option maxRecDepth 100000 in
set_option maxHeartbeats 4000000 in
theorem mt_X5_save (r0 : Option Nat) (S0 : PH) (y : Unit × PH) (h : m_X5_save r0 S0 = some y) : MT yX5_save (.code yX5_save cX5_save 2 (Option.none : Option FieldType)) 1 23 0 0 [va_rf r0] S0 (oQ e_V (qN y)) := by
  refine mt_of (own := RX5) (l0 := [(0, va_rf r0)]) rfl rfl (by cases r0 <;> exact Nat.le_of_ble_eq_true rfl) (by cases r0 <;> rfl) ?_
  intro Z hC hQ hE hN
  have J_50 : ∀ (v9 : Option Nat) (v10 : Int32) (v11 : Int32) (S12 : PH), j_X5_save_50 r0 v9 v10 v11 S12 = some y → PX Z 2 S12 0 0 50 [(0, va_rf r0)] [.int v11, .int v10, va_rf v9] := by
    intro v9 v10 v11 S12 h
    unfold j_X5_save_50 at h
    refine x_iadd hC dX5_save_50 ?_
    replace h := dr_el h
    obtain ⟨a13, ea14, ha15, h⟩ := h
    replace h := le_el h
    obtain ⟨S16, hx17, h⟩ := h
    refine x_putI hC ea14 ha15 kf_5 2 (by decide) rfl rfl q_865 (Or.inl rfl) dX5_save_51 ?_
    refine x_tS hx17 ?_
    refine x_aload_n (i := 0) hC dX5_save_54 rfl 0 rfl ?_
    refine x_iconst (v := (0 : Int32)) hC dX5_save_55 (by decide) ?_
    refine x_aload_n (i := 0) hC dX5_save_56 rfl 0 rfl ?_
    replace h := dr_el h
    obtain ⟨a18, ea19, ha20, h⟩ := h
    refine x_getI hC ea19 ha20 kf_5 2 (by decide) rfl q_865 dX5_save_57 ?_
    replace h := bd_el h
    obtain ⟨v21, S22, hb23, h⟩ := h
    refine x_callV hC (st := []) (mt_X5_copies _ _ _ _ _ hb23) ea19 ha20 kf_5 q_923 q_925 qs_45 q_7 q_926 ⟨rfl, hy_X5_copies⟩ ⟨Nat.le_of_ble_eq_true rfl, Nat.le_of_ble_eq_true rfl⟩ ⟨Nat.le_of_ble_eq_true rfl, Nat.le_of_ble_eq_true rfl⟩ rfl (Nat.le_of_ble_eq_true rfl) dX5_save_60 (r_N ?_) r_NX
    show PX Z 2 S22 0 0 63 [(0, va_rf r0)] []
    exact x_vret hC hQ (z_N (v := ()) (Option.some.inj h)) (Nat.le_of_ble_eq_true rfl) (Nat.le_of_ble_eq_true rfl) dX5_save_63
  have J_31 : ∀ (S4 : PH), j_X5_save_31 r0 S4 = some y → PX Z 2 S4 0 0 31 [(0, va_rf r0)] [] := by
    intro S4 h
    unfold j_X5_save_31 at h
    refine x_aload_n (i := 0) hC dX5_save_31 rfl 0 rfl ?_
    refine x_dup hC dX5_save_32 (c_rf r0) ?_
    replace h := dr_el h
    obtain ⟨a5, ea6, ha7, h⟩ := h
    refine x_getI hC ea6 ha7 kf_5 2 (by decide) rfl q_865 dX5_save_33 ?_
    refine x_aload_n (i := 0) hC dX5_save_36 rfl 0 rfl ?_
    refine x_getI hC ea6 ha7 kf_5 2 (by decide) rfl q_865 dX5_save_37 ?_
    refine x_bipush (v := (6 : Int32)) hC dX5_save_40 (by decide) ?_
    refine x_icmp_ge (t := 49) hC dX5_save_42 (by decide) (fun c8 => ?_) (fun c8 => ?_)
    · replace h := it_t c8 h
      refine x_iconst (v := (0 : Int32)) hC dX5_save_49 (by decide) ?_
      exact J_50 _ _ _ _ h
    · replace h := it_f c8 h
      refine x_iconst (v := (1 : Int32)) hC dX5_save_45 (by decide) ?_
      refine x_goto (t := 50) hC dX5_save_46 (by decide) ?_
      exact J_50 _ _ _ _ h
  unfold m_X5_save at h
  refine x_iconst (v := (1 : Int32)) hC dX5_save_0 (by decide) ?_
  refine x_istore_n (i := 1) (l' := [(1, .int (1 : Int32)), (0, va_rf r0)]) hC dX5_save_1 rfl (⟨fun _ => c_rf r0, trivial⟩) (by decide) rfl ?_
  refine x_sub (l' := [(0, va_rf r0), (1, .int (1 : Int32))]) [1, 0] rfl ?_
  refine lp_sim (P := fun (t : (Int32 × PH)) => PX Z 2 t.2 0 0 2 [(0, va_rf r0), (1, .int t.1)] []) (G := fun r => r = y) ?_ h rfl
  clear h
  intro t x_2 h hg_2
  obtain ⟨v1, S2⟩ := t
  show PX Z 2 S2 0 0 2 [(0, va_rf r0), (1, .int v1)] []
  unfold st_X5_save_2 at h
  refine x_iload_n (i := 1) hC dX5_save_2 rfl 1 rfl ?_
  refine x_bipush (v := (6 : Int32)) hC dX5_save_3 (by decide) ?_
  refine x_icmp_ge (t := 31) hC dX5_save_5 (by decide) (fun c3 => ?_) (fun c3 => ?_)
  · replace h := it_t c3 h
    replace h := ir_x h hg_2
    refine x_sub (l' := [(0, va_rf r0)]) [0] rfl ?_
    exact J_31 _ h
  · replace h := it_f c3 h
    refine x_aload_n (i := 0) hC dX5_save_8 rfl 0 rfl ?_
    replace h := dr_el h
    obtain ⟨a24, ea25, ha26, h⟩ := h
    refine x_getI hC ea25 ha26 kf_5 2 (by decide) rfl q_865 dX5_save_9 ?_
    refine x_bipush (v := (6 : Int32)) hC dX5_save_12 (by decide) ?_
    refine x_icmp_ne (t := 31) hC dX5_save_14 (by decide) (fun c27 => ?_) (fun c27 => ?_)
    · replace h := it_f c27 h
      replace h := ir_x h hg_2
      refine x_sub (l' := [(0, va_rf r0)]) [0] rfl ?_
      exact J_31 _ h
    · replace h := it_t c27 h
      refine x_aload_n (i := 0) hC dX5_save_17 rfl 0 rfl ?_
      refine x_iload_n (i := 1) hC dX5_save_18 rfl 1 rfl ?_
      refine x_iconst (v := (1 : Int32)) hC dX5_save_19 (by decide) ?_
      refine x_iadd hC dX5_save_20 ?_
      refine x_iload_n (i := 1) hC dX5_save_21 rfl 1 rfl ?_
      replace h := bd_el h
      obtain ⟨v28, S29, hb30, h⟩ := h
      refine x_callV hC (st := []) (mt_X5_copies _ _ _ _ _ hb30) ea25 ha26 kf_5 q_923 q_925 qs_45 q_7 q_926 ⟨rfl, hy_X5_copies⟩ ⟨Nat.le_of_ble_eq_true rfl, Nat.le_of_ble_eq_true rfl⟩ ⟨Nat.le_of_ble_eq_true rfl, Nat.le_of_ble_eq_true rfl⟩ rfl (Nat.le_of_ble_eq_true rfl) dX5_save_22 (r_N ?_) r_NX
      show PX Z 2 S29 0 0 25 [(0, va_rf r0), (1, .int v1)] []
      refine x_iinc (i := 1) (v := (v1 + (1 : Int32))) (l' := [(1, .int (v1 + (1 : Int32))), (0, va_rf r0)]) hC dX5_save_25 1 rfl rfl (⟨fun _ => c_rf r0, ⟨fun _ => rfl, trivial⟩⟩) (by decide) rfl ?_
      refine x_goto (t := 2) hC dX5_save_28 (by decide) ?_
      refine x_sub (l' := [(0, va_rf r0), (1, .int (v1 + (1 : Int32)))]) [1, 0] rfl ?_
      have hb := bk_x h hg_2
      exact hb
theorem dX5_paper_0 : decode cX5_paper 0 = .ok (.aload_n 0, 1) := by decide +kernel
theorem dX5_paper_1 : decode cX5_paper 1 = .ok (.iload_n 1, 1) := by decide +kernel
theorem dX5_paper_2 : decode cX5_paper 2 = .ok (.iconst 0, 1) := by decide +kernel
theorem dX5_paper_3 : decode cX5_paper 3 = .ok (.iconst 3, 1) := by decide +kernel
theorem dX5_paper_4 : decode cX5_paper 4 = .ok (.invokestatic 27, 3) := by decide +kernel
theorem dX5_paper_7 : decode cX5_paper 7 = .ok (.ifCond .eq 14, 3) := by decide +kernel
theorem dX5_paper_10 : decode cX5_paper 10 = .ok (.iload_n 2, 1) := by decide +kernel
theorem dX5_paper_11 : decode cX5_paper 11 = .ok (.iconst 1, 1) := by decide +kernel
theorem dX5_paper_12 : decode cX5_paper 12 = .ok (.sipush 255, 3) := by decide +kernel
theorem dX5_paper_15 : decode cX5_paper 15 = .ok (.invokestatic 27, 3) := by decide +kernel
theorem dX5_paper_18 : decode cX5_paper 18 = .ok (.ifCond .ne 7, 3) := by decide +kernel
theorem dX5_paper_21 : decode cX5_paper 21 = .ok (.iconst 1, 1) := by decide +kernel
theorem dX5_paper_22 : decode cX5_paper 22 = .ok (.goto 20, 3) := by decide +kernel
theorem dX5_paper_25 : decode cX5_paper 25 = .ok (.aload_n 0, 1) := by decide +kernel
theorem dX5_paper_26 : decode cX5_paper 26 = .ok (.getfield 7, 3) := by decide +kernel
theorem dX5_paper_29 : decode cX5_paper 29 = .ok (.bipush 8, 2) := by decide +kernel
theorem dX5_paper_31 : decode cX5_paper 31 = .ok (.iaload, 1) := by decide +kernel
theorem dX5_paper_32 : decode cX5_paper 32 = .ok (.bipush 8, 2) := by decide +kernel
theorem dX5_paper_34 : decode cX5_paper 34 = .ok (.if_icmp .ne 7, 3) := by decide +kernel
theorem dX5_paper_37 : decode cX5_paper 37 = .ok (.iconst 2, 1) := by decide +kernel
theorem dX5_paper_38 : decode cX5_paper 38 = .ok (.goto 4, 3) := by decide +kernel
theorem dX5_paper_41 : decode cX5_paper 41 = .ok (.iconst 0, 1) := by decide +kernel
theorem dX5_paper_42 : decode cX5_paper 42 = .ok (.invokevirtual 56, 3) := by decide +kernel
theorem dX5_paper_45 : decode cX5_paper 45 = .ok (.ifCond .ne 5, 3) := by decide +kernel
theorem dX5_paper_48 : decode cX5_paper 48 = .ok (.iconst 0, 1) := by decide +kernel
theorem dX5_paper_49 : decode cX5_paper 49 = .ok (.ireturn, 1) := by decide +kernel
theorem dX5_paper_50 : decode cX5_paper 50 = .ok (.aload_n 0, 1) := by decide +kernel
theorem dX5_paper_51 : decode cX5_paper 51 = .ok (.invokevirtual 60, 3) := by decide +kernel
theorem dX5_paper_54 : decode cX5_paper 54 = .ok (.aload_n 0, 1) := by decide +kernel
theorem dX5_paper_55 : decode cX5_paper 55 = .ok (.getfield 7, 3) := by decide +kernel
theorem dX5_paper_58 : decode cX5_paper 58 = .ok (.bipush 8, 2) := by decide +kernel
theorem dX5_paper_60 : decode cX5_paper 60 = .ok (.iaload, 1) := by decide +kernel
theorem dX5_paper_61 : decode cX5_paper 61 = .ok (.istore_n 3, 1) := by decide +kernel
theorem dX5_paper_62 : decode cX5_paper 62 = .ok (.aload_n 0, 1) := by decide +kernel
theorem dX5_paper_63 : decode cX5_paper 63 = .ok (.iload_n 3, 1) := by decide +kernel
theorem dX5_paper_64 : decode cX5_paper 64 = .ok (.iconst 0, 1) := by decide +kernel
theorem dX5_paper_65 : decode cX5_paper 65 = .ok (.iload_n 1, 1) := by decide +kernel
theorem dX5_paper_66 : decode cX5_paper 66 = .ok (.invokevirtual 63, 3) := by decide +kernel
theorem dX5_paper_69 : decode cX5_paper 69 = .ok (.aload_n 0, 1) := by decide +kernel
theorem dX5_paper_70 : decode cX5_paper 70 = .ok (.iload_n 3, 1) := by decide +kernel
theorem dX5_paper_71 : decode cX5_paper 71 = .ok (.iconst 1, 1) := by decide +kernel
theorem dX5_paper_72 : decode cX5_paper 72 = .ok (.iload_n 2, 1) := by decide +kernel
theorem dX5_paper_73 : decode cX5_paper 73 = .ok (.invokevirtual 63, 3) := by decide +kernel
theorem dX5_paper_76 : decode cX5_paper 76 = .ok (.aload_n 0, 1) := by decide +kernel
theorem dX5_paper_77 : decode cX5_paper 77 = .ok (.iload_n 3, 1) := by decide +kernel
theorem dX5_paper_78 : decode cX5_paper 78 = .ok (.iconst 2, 1) := by decide +kernel
theorem dX5_paper_79 : decode cX5_paper 79 = .ok (.iconst 0, 1) := by decide +kernel
theorem dX5_paper_80 : decode cX5_paper 80 = .ok (.invokevirtual 63, 3) := by decide +kernel
theorem dX5_paper_83 : decode cX5_paper 83 = .ok (.aload_n 0, 1) := by decide +kernel
theorem dX5_paper_84 : decode cX5_paper 84 = .ok (.iload_n 3, 1) := by decide +kernel
theorem dX5_paper_85 : decode cX5_paper 85 = .ok (.iconst 3, 1) := by decide +kernel
theorem dX5_paper_86 : decode cX5_paper 86 = .ok (.iconst 0, 1) := by decide +kernel
theorem dX5_paper_87 : decode cX5_paper 87 = .ok (.invokevirtual 63, 3) := by decide +kernel
theorem dX5_paper_90 : decode cX5_paper 90 = .ok (.aload_n 0, 1) := by decide +kernel
theorem dX5_paper_91 : decode cX5_paper 91 = .ok (.iload_n 3, 1) := by decide +kernel
theorem dX5_paper_92 : decode cX5_paper 92 = .ok (.iconst 4, 1) := by decide +kernel
theorem dX5_paper_93 : decode cX5_paper 93 = .ok (.iconst 0, 1) := by decide +kernel
theorem dX5_paper_94 : decode cX5_paper 94 = .ok (.invokevirtual 63, 3) := by decide +kernel
theorem dX5_paper_97 : decode cX5_paper 97 = .ok (.iconst 0, 1) := by decide +kernel
theorem dX5_paper_98 : decode cX5_paper 98 = .ok (.istore 4, 2) := by decide +kernel
theorem dX5_paper_100 : decode cX5_paper 100 = .ok (.iload 4, 2) := by decide +kernel
theorem dX5_paper_102 : decode cX5_paper 102 = .ok (.bipush 8, 2) := by decide +kernel
theorem dX5_paper_104 : decode cX5_paper 104 = .ok (.if_icmp .ge 19, 3) := by decide +kernel
theorem dX5_paper_107 : decode cX5_paper 107 = .ok (.aload_n 0, 1) := by decide +kernel
theorem dX5_paper_108 : decode cX5_paper 108 = .ok (.iload_n 3, 1) := by decide +kernel
theorem dX5_paper_109 : decode cX5_paper 109 = .ok (.iconst 5, 1) := by decide +kernel
theorem dX5_paper_110 : decode cX5_paper 110 = .ok (.iload 4, 2) := by decide +kernel
theorem dX5_paper_112 : decode cX5_paper 112 = .ok (.iadd, 1) := by decide +kernel
theorem dX5_paper_113 : decode cX5_paper 113 = .ok (.iconst (-1), 1) := by decide +kernel
theorem dX5_paper_114 : decode cX5_paper 114 = .ok (.invokevirtual 63, 3) := by decide +kernel
theorem dX5_paper_117 : decode cX5_paper 117 = .ok (.iinc 4 1, 3) := by decide +kernel
theorem dX5_paper_120 : decode cX5_paper 120 = .ok (.goto (-20), 3) := by decide +kernel
theorem dX5_paper_123 : decode cX5_paper 123 = .ok (.aload_n 0, 1) := by decide +kernel
theorem dX5_paper_124 : decode cX5_paper 124 = .ok (.getfield 7, 3) := by decide +kernel
theorem dX5_paper_127 : decode cX5_paper 127 = .ok (.bipush 8, 2) := by decide +kernel
theorem dX5_paper_129 : decode cX5_paper 129 = .ok (.dup2, 1) := by decide +kernel
theorem dX5_paper_130 : decode cX5_paper 130 = .ok (.iaload, 1) := by decide +kernel
theorem dX5_paper_131 : decode cX5_paper 131 = .ok (.iconst 1, 1) := by decide +kernel
theorem dX5_paper_132 : decode cX5_paper 132 = .ok (.iadd, 1) := by decide +kernel
theorem dX5_paper_133 : decode cX5_paper 133 = .ok (.iastore, 1) := by decide +kernel
theorem dX5_paper_134 : decode cX5_paper 134 = .ok (.iload_n 3, 1) := by decide +kernel
theorem dX5_paper_135 : decode cX5_paper 135 = .ok (.ireturn, 1) := by decide +kernel
set_option maxRecDepth 100000 in
set_option maxHeartbeats 4000000 in
theorem mt_X5_paper (r0 : Option Nat) (i1 : Int32) (i2 : Int32) (S0 : PH) (y : Int32 × PH) (h : m_X5_paper r0 i1 i2 S0 = some y) : MT yX5_paper (.code yX5_paper cX5_paper 5 (Option.some FieldType.int)) 2 44 0 0 [va_rf r0, .int i1, .int i2] S0 (oQ e_I (qN y)) := by
  refine mt_of (own := RX5) (l0 := [(0, va_rf r0), (1, .int i1), (2, .int i2)]) rfl rfl (by cases r0 <;> exact Nat.le_of_ble_eq_true rfl) (by cases r0 <;> rfl) ?_
  intro Z hC hQ hE hN
  have J_42 : ∀ (v5 : Option Nat) (v6 : Int32) (S7 : PH), j_X5_paper_42 r0 i1 i2 v5 v6 S7 = some y → PX Z 5 S7 0 0 42 [(0, va_rf r0), (1, .int i1), (2, .int i2)] [.int v6, va_rf v5] := by
    intro v5 v6 S7 h
    unfold j_X5_paper_42 at h
    replace h := dr_el h
    obtain ⟨a8, ea9, ha10, h⟩ := h
    replace h := bd_el h
    obtain ⟨v11, S12, hb13, h⟩ := h
    refine x_callV hC (st := []) (mt_X5_holds _ _ _ _ hb13) ea9 ha10 kf_5 q_915 q_917 qs_43 q_7 q_918 ⟨rfl, hy_X5_holds⟩ ⟨Nat.le_of_ble_eq_true rfl, Nat.le_of_ble_eq_true rfl⟩ ⟨Nat.le_of_ble_eq_true rfl, Nat.le_of_ble_eq_true rfl⟩ rfl (Nat.le_of_ble_eq_true rfl) dX5_paper_42 (r_N ?_) r_NX
    show PX Z 5 S12 0 0 45 [(0, va_rf r0), (1, .int i1), (2, .int i2)] [.int v11]
    refine x_if_ne (t := 50) hC dX5_paper_45 (by decide) (fun c14 => ?_) (fun c14 => ?_)
    · replace h := it_f c14 h
      refine x_aload_n (i := 0) hC dX5_paper_50 rfl 0 rfl ?_
      replace h := dr_el h
      obtain ⟨a15, ea16, ha17, h⟩ := h
      replace h := bd_el h
      obtain ⟨v18, S19, hb20, h⟩ := h
      refine x_callV hC (st := []) (mt_X5_save _ _ _ hb20) ea16 ha17 kf_5 q_919 q_921 qs_44 q_7 q_922 ⟨rfl, hy_X5_save⟩ ⟨Nat.le_of_ble_eq_true rfl, Nat.le_of_ble_eq_true rfl⟩ ⟨Nat.le_of_ble_eq_true rfl, Nat.le_of_ble_eq_true rfl⟩ rfl (Nat.le_of_ble_eq_true rfl) dX5_paper_51 (r_N ?_) r_NX
      show PX Z 5 S19 0 0 54 [(0, va_rf r0), (1, .int i1), (2, .int i2)] []
      refine x_aload_n (i := 0) hC dX5_paper_54 rfl 0 rfl ?_
      replace h := dr_el h
      obtain ⟨a21, ea22, ha23, h⟩ := h
      refine x_getR hC ea22 ha23 kf_5 1 (by decide) rfl q_864 dX5_paper_55 ?_
      refine x_bipush (v := (8 : Int32)) hC dX5_paper_58 (by decide) ?_
      replace h := dr_el h
      obtain ⟨a24, ea25, ha26, h⟩ := h
      replace h := ck_el h
      obtain ⟨hc27, h⟩ := h
      refine x_iaload hC ea25 ha26 hc27 dX5_paper_60 ?_
      refine x_tI (b := (p_I S19 a24 8)) rfl ?_
      replace h := le_el h
      obtain ⟨x28, hx29, h⟩ := h
      refine x_tI hx29 ?_
      refine x_istore_n (i := 3) (l' := [(3, .int x28), (0, va_rf r0), (1, .int i1), (2, .int i2)]) hC dX5_paper_61 rfl (⟨fun _ => c_rf r0, ⟨fun _ => rfl, ⟨fun _ => rfl, trivial⟩⟩⟩) (by decide) rfl ?_
      refine x_aload_n (i := 0) hC dX5_paper_62 rfl 1 rfl ?_
      refine x_iload_n (i := 3) hC dX5_paper_63 rfl 0 rfl ?_
      refine x_iconst (v := (0 : Int32)) hC dX5_paper_64 (by decide) ?_
      refine x_iload_n (i := 1) hC dX5_paper_65 rfl 2 rfl ?_
      replace h := bd_el h
      obtain ⟨v30, S31, hb32, h⟩ := h
      refine x_callV hC (st := []) (mt_X5_lay _ _ _ _ _ _ hb32) ea22 ha23 kf_5 q_927 q_929 qs_46 q_7 q_930 ⟨rfl, hy_X5_lay⟩ ⟨Nat.le_of_ble_eq_true rfl, Nat.le_of_ble_eq_true rfl⟩ ⟨Nat.le_of_ble_eq_true rfl, Nat.le_of_ble_eq_true rfl⟩ rfl (Nat.le_of_ble_eq_true rfl) dX5_paper_66 (r_N ?_) r_NX
      show PX Z 5 S31 0 0 69 [(3, .int x28), (0, va_rf r0), (1, .int i1), (2, .int i2)] []
      refine x_aload_n (i := 0) hC dX5_paper_69 rfl 1 rfl ?_
      refine x_iload_n (i := 3) hC dX5_paper_70 rfl 0 rfl ?_
      refine x_iconst (v := (1 : Int32)) hC dX5_paper_71 (by decide) ?_
      refine x_iload_n (i := 2) hC dX5_paper_72 rfl 3 rfl ?_
      replace h := dr_el h
      obtain ⟨a33, ea34, ha35, h⟩ := h
      replace h := bd_el h
      obtain ⟨v36, S37, hb38, h⟩ := h
      refine x_callV hC (st := []) (mt_X5_lay _ _ _ _ _ _ hb38) ea34 ha35 kf_5 q_927 q_929 qs_46 q_7 q_930 ⟨rfl, hy_X5_lay⟩ ⟨Nat.le_of_ble_eq_true rfl, Nat.le_of_ble_eq_true rfl⟩ ⟨Nat.le_of_ble_eq_true rfl, Nat.le_of_ble_eq_true rfl⟩ rfl (Nat.le_of_ble_eq_true rfl) dX5_paper_73 (r_N ?_) r_NX
      show PX Z 5 S37 0 0 76 [(3, .int x28), (0, va_rf r0), (1, .int i1), (2, .int i2)] []
      refine x_aload_n (i := 0) hC dX5_paper_76 rfl 1 rfl ?_
      refine x_iload_n (i := 3) hC dX5_paper_77 rfl 0 rfl ?_
      refine x_iconst (v := (2 : Int32)) hC dX5_paper_78 (by decide) ?_
      refine x_iconst (v := (0 : Int32)) hC dX5_paper_79 (by decide) ?_
      replace h := dr_el h
      obtain ⟨a39, ea40, ha41, h⟩ := h
      replace h := bd_el h
      obtain ⟨v42, S43, hb44, h⟩ := h
      refine x_callV hC (st := []) (mt_X5_lay _ _ _ _ _ _ hb44) ea40 ha41 kf_5 q_927 q_929 qs_46 q_7 q_930 ⟨rfl, hy_X5_lay⟩ ⟨Nat.le_of_ble_eq_true rfl, Nat.le_of_ble_eq_true rfl⟩ ⟨Nat.le_of_ble_eq_true rfl, Nat.le_of_ble_eq_true rfl⟩ rfl (Nat.le_of_ble_eq_true rfl) dX5_paper_80 (r_N ?_) r_NX
      show PX Z 5 S43 0 0 83 [(3, .int x28), (0, va_rf r0), (1, .int i1), (2, .int i2)] []
      refine x_aload_n (i := 0) hC dX5_paper_83 rfl 1 rfl ?_
      refine x_iload_n (i := 3) hC dX5_paper_84 rfl 0 rfl ?_
      refine x_iconst (v := (3 : Int32)) hC dX5_paper_85 (by decide) ?_
      refine x_iconst (v := (0 : Int32)) hC dX5_paper_86 (by decide) ?_
      replace h := dr_el h
      obtain ⟨a45, ea46, ha47, h⟩ := h
      replace h := bd_el h
      obtain ⟨v48, S49, hb50, h⟩ := h
      refine x_callV hC (st := []) (mt_X5_lay _ _ _ _ _ _ hb50) ea46 ha47 kf_5 q_927 q_929 qs_46 q_7 q_930 ⟨rfl, hy_X5_lay⟩ ⟨Nat.le_of_ble_eq_true rfl, Nat.le_of_ble_eq_true rfl⟩ ⟨Nat.le_of_ble_eq_true rfl, Nat.le_of_ble_eq_true rfl⟩ rfl (Nat.le_of_ble_eq_true rfl) dX5_paper_87 (r_N ?_) r_NX
      show PX Z 5 S49 0 0 90 [(3, .int x28), (0, va_rf r0), (1, .int i1), (2, .int i2)] []
      refine x_aload_n (i := 0) hC dX5_paper_90 rfl 1 rfl ?_
      refine x_iload_n (i := 3) hC dX5_paper_91 rfl 0 rfl ?_
      refine x_iconst (v := (4 : Int32)) hC dX5_paper_92 (by decide) ?_
      refine x_iconst (v := (0 : Int32)) hC dX5_paper_93 (by decide) ?_
      replace h := dr_el h
      obtain ⟨a51, ea52, ha53, h⟩ := h
      replace h := bd_el h
      obtain ⟨v54, S55, hb56, h⟩ := h
      refine x_callV hC (st := []) (mt_X5_lay _ _ _ _ _ _ hb56) ea52 ha53 kf_5 q_927 q_929 qs_46 q_7 q_930 ⟨rfl, hy_X5_lay⟩ ⟨Nat.le_of_ble_eq_true rfl, Nat.le_of_ble_eq_true rfl⟩ ⟨Nat.le_of_ble_eq_true rfl, Nat.le_of_ble_eq_true rfl⟩ rfl (Nat.le_of_ble_eq_true rfl) dX5_paper_94 (r_N ?_) r_NX
      show PX Z 5 S55 0 0 97 [(3, .int x28), (0, va_rf r0), (1, .int i1), (2, .int i2)] []
      refine x_iconst (v := (0 : Int32)) hC dX5_paper_97 (by decide) ?_
      refine x_istore (i := 4) (l' := [(4, .int (0 : Int32)), (3, .int x28), (0, va_rf r0), (1, .int i1), (2, .int i2)]) hC dX5_paper_98 (⟨fun _ => rfl, ⟨fun _ => c_rf r0, ⟨fun _ => rfl, ⟨fun _ => rfl, trivial⟩⟩⟩⟩) (by decide) rfl ?_
      refine x_sub (l' := [(0, va_rf r0), (1, .int i1), (2, .int i2), (3, .int x28), (4, .int (0 : Int32))]) [2, 3, 4, 1, 0] rfl ?_
      refine lp_sim (P := fun (t : (Int32 × Int32 × PH)) => PX Z 5 t.2.2 0 0 100 [(0, va_rf r0), (1, .int i1), (2, .int i2), (3, .int t.1), (4, .int t.2.1)] []) (G := fun r => r = y) ?_ h rfl
      clear h
      intro t x_100 h hg_100
      obtain ⟨v57, v58, S59⟩ := t
      show PX Z 5 S59 0 0 100 [(0, va_rf r0), (1, .int i1), (2, .int i2), (3, .int v57), (4, .int v58)] []
      unfold st_X5_paper_100 at h
      refine x_iload (i := 4) hC dX5_paper_100 4 rfl ?_
      refine x_bipush (v := (8 : Int32)) hC dX5_paper_102 (by decide) ?_
      refine x_icmp_ge (t := 123) hC dX5_paper_104 (by decide) (fun c60 => ?_) (fun c60 => ?_)
      · replace h := it_t c60 h
        replace h := ir_x h hg_100
        refine x_aload_n (i := 0) hC dX5_paper_123 rfl 0 rfl ?_
        replace h := dr_el h
        obtain ⟨a61, ea62, ha63, h⟩ := h
        refine x_getR hC ea62 ha63 kf_5 1 (by decide) rfl q_864 dX5_paper_124 ?_
        refine x_bipush (v := (8 : Int32)) hC dX5_paper_127 (by decide) ?_
        refine x_dup2 hC dX5_paper_129 rfl (c_rf (p_R S59 a61 1)) ?_
        replace h := dr_el h
        obtain ⟨a64, ea65, ha66, h⟩ := h
        replace h := ck_el h
        obtain ⟨hc67, h⟩ := h
        refine x_iaload hC ea65 ha66 hc67 dX5_paper_130 ?_
        refine x_tI (b := (p_I S59 a64 8)) rfl ?_
        refine x_iconst (v := (1 : Int32)) hC dX5_paper_131 (by decide) ?_
        refine x_iadd hC dX5_paper_132 ?_
        replace h := ck_el h
        obtain ⟨hc68, h⟩ := h
        replace h := le_el h
        obtain ⟨S69, hx70, h⟩ := h
        refine x_iastore hC ea65 ha66 hc68 dX5_paper_133 ?_
        refine x_tS hx70 ?_
        refine x_iload_n (i := 3) hC dX5_paper_134 rfl 3 rfl ?_
        exact x_iret hC hQ (z_N (Option.some.inj h)) (Nat.le_of_ble_eq_true rfl) (Nat.le_of_ble_eq_true rfl) dX5_paper_135
      · replace h := it_f c60 h
        refine x_aload_n (i := 0) hC dX5_paper_107 rfl 0 rfl ?_
        refine x_iload_n (i := 3) hC dX5_paper_108 rfl 3 rfl ?_
        refine x_iconst (v := (5 : Int32)) hC dX5_paper_109 (by decide) ?_
        refine x_iload (i := 4) hC dX5_paper_110 4 rfl ?_
        refine x_iadd hC dX5_paper_112 ?_
        refine x_iconst (v := (-1 : Int32)) hC dX5_paper_113 (by decide) ?_
        replace h := dr_el h
        obtain ⟨a71, ea72, ha73, h⟩ := h
        replace h := bd_el h
        obtain ⟨v74, S75, hb76, h⟩ := h
        refine x_callV hC (st := []) (mt_X5_lay _ _ _ _ _ _ hb76) ea72 ha73 kf_5 q_927 q_929 qs_46 q_7 q_930 ⟨rfl, hy_X5_lay⟩ ⟨Nat.le_of_ble_eq_true rfl, Nat.le_of_ble_eq_true rfl⟩ ⟨Nat.le_of_ble_eq_true rfl, Nat.le_of_ble_eq_true rfl⟩ rfl (Nat.le_of_ble_eq_true rfl) dX5_paper_114 (r_N ?_) r_NX
        show PX Z 5 S75 0 0 117 [(0, va_rf r0), (1, .int i1), (2, .int i2), (3, .int v57), (4, .int v58)] []
        refine x_iinc (i := 4) (v := (v58 + (1 : Int32))) (l' := [(4, .int (v58 + (1 : Int32))), (0, va_rf r0), (1, .int i1), (2, .int i2), (3, .int v57)]) hC dX5_paper_117 4 rfl rfl (⟨fun _ => c_rf r0, ⟨fun _ => rfl, ⟨fun _ => rfl, ⟨fun _ => rfl, ⟨fun _ => rfl, trivial⟩⟩⟩⟩⟩) (by decide) rfl ?_
        refine x_goto (t := 100) hC dX5_paper_120 (by decide) ?_
        refine x_sub (l' := [(0, va_rf r0), (1, .int i1), (2, .int i2), (3, .int v57), (4, .int (v58 + (1 : Int32)))]) [1, 2, 3, 4, 0] rfl ?_
        have hb := bk_x h hg_100
        exact hb
    · replace h := it_t c14 h
      refine x_iconst (v := (0 : Int32)) hC dX5_paper_48 (by decide) ?_
      exact x_iret hC hQ (z_N (Option.some.inj h)) (Nat.le_of_ble_eq_true rfl) (Nat.le_of_ble_eq_true rfl) dX5_paper_49
  unfold m_X5_paper at h
  refine x_aload_n (i := 0) hC dX5_paper_0 rfl 0 rfl ?_
  refine x_iload_n (i := 1) hC dX5_paper_1 rfl 1 rfl ?_
  refine x_iconst (v := (0 : Int32)) hC dX5_paper_2 (by decide) ?_
  refine x_iconst (v := (3 : Int32)) hC dX5_paper_3 (by decide) ?_
  replace h := bd_el h
  obtain ⟨v1, S2, hb3, h⟩ := h
  refine x_callS hC (st := [va_rf r0]) (mt_X5_in _ _ _ _ _ hb3) q_912 q_913 q_7 q_914 hy_X5_in ⟨Nat.le_of_ble_eq_true rfl, Nat.le_of_ble_eq_true rfl⟩ ⟨Nat.le_of_ble_eq_true rfl, Nat.le_of_ble_eq_true rfl⟩ rfl (Nat.le_of_ble_eq_true rfl) dX5_paper_4 (r_N ?_) r_NX
  show PX Z 5 S2 0 0 7 [(0, va_rf r0), (1, .int i1), (2, .int i2)] [.int v1, va_rf r0]
  refine x_if_eq (t := 21) hC dX5_paper_7 (by decide) (fun c4 => ?_) (fun c4 => ?_)
  · replace h := it_t c4 h
    refine x_iconst (v := (1 : Int32)) hC dX5_paper_21 (by decide) ?_
    refine x_goto (t := 42) hC dX5_paper_22 (by decide) ?_
    exact J_42 _ _ _ h
  · replace h := it_f c4 h
    refine x_iload_n (i := 2) hC dX5_paper_10 rfl 2 rfl ?_
    refine x_iconst (v := (1 : Int32)) hC dX5_paper_11 (by decide) ?_
    refine x_sipush (v := (255 : Int32)) hC dX5_paper_12 (by decide) ?_
    replace h := bd_el h
    obtain ⟨v77, S78, hb79, h⟩ := h
    refine x_callS hC (st := [va_rf r0]) (mt_X5_in _ _ _ _ _ hb79) q_912 q_913 q_7 q_914 hy_X5_in ⟨Nat.le_of_ble_eq_true rfl, Nat.le_of_ble_eq_true rfl⟩ ⟨Nat.le_of_ble_eq_true rfl, Nat.le_of_ble_eq_true rfl⟩ rfl (Nat.le_of_ble_eq_true rfl) dX5_paper_15 (r_N ?_) r_NX
    show PX Z 5 S78 0 0 18 [(0, va_rf r0), (1, .int i1), (2, .int i2)] [.int v77, va_rf r0]
    refine x_if_ne (t := 25) hC dX5_paper_18 (by decide) (fun c80 => ?_) (fun c80 => ?_)
    · replace h := it_f c80 h
      refine x_aload_n (i := 0) hC dX5_paper_25 rfl 0 rfl ?_
      replace h := dr_el h
      obtain ⟨a81, ea82, ha83, h⟩ := h
      refine x_getR hC ea82 ha83 kf_5 1 (by decide) rfl q_864 dX5_paper_26 ?_
      refine x_bipush (v := (8 : Int32)) hC dX5_paper_29 (by decide) ?_
      replace h := dr_el h
      obtain ⟨a84, ea85, ha86, h⟩ := h
      replace h := ck_el h
      obtain ⟨hc87, h⟩ := h
      refine x_iaload hC ea85 ha86 hc87 dX5_paper_31 ?_
      refine x_tI (b := (p_I S78 a84 8)) rfl ?_
      refine x_bipush (v := (8 : Int32)) hC dX5_paper_32 (by decide) ?_
      refine x_icmp_ne (t := 41) hC dX5_paper_34 (by decide) (fun c88 => ?_) (fun c88 => ?_)
      · replace h := it_f c88 h
        refine x_iconst (v := (0 : Int32)) hC dX5_paper_41 (by decide) ?_
        exact J_42 _ _ _ h
      · replace h := it_t c88 h
        refine x_iconst (v := (2 : Int32)) hC dX5_paper_37 (by decide) ?_
        refine x_goto (t := 42) hC dX5_paper_38 (by decide) ?_
        exact J_42 _ _ _ h
    · replace h := it_t c80 h
      refine x_iconst (v := (1 : Int32)) hC dX5_paper_21 (by decide) ?_
      refine x_goto (t := 42) hC dX5_paper_22 (by decide) ?_
      exact J_42 _ _ _ h
theorem dX5_topics_0 : decode cX5_topics 0 = .ok (.aload_n 0, 1) := by decide +kernel
theorem dX5_topics_1 : decode cX5_topics 1 = .ok (.iload_n 1, 1) := by decide +kernel
theorem dX5_topics_2 : decode cX5_topics 2 = .ok (.invokestatic 67, 3) := by decide +kernel
theorem dX5_topics_5 : decode cX5_topics 5 = .ok (.ifCond .ne 7, 3) := by decide +kernel
theorem dX5_topics_8 : decode cX5_topics 8 = .ok (.iconst 1, 1) := by decide +kernel
theorem dX5_topics_9 : decode cX5_topics 9 = .ok (.goto 18, 3) := by decide +kernel
theorem dX5_topics_12 : decode cX5_topics 12 = .ok (.iload_n 2, 1) := by decide +kernel
theorem dX5_topics_13 : decode cX5_topics 13 = .ok (.iconst 0, 1) := by decide +kernel
theorem dX5_topics_14 : decode cX5_topics 14 = .ok (.bipush 15, 2) := by decide +kernel
theorem dX5_topics_16 : decode cX5_topics 16 = .ok (.invokestatic 27, 3) := by decide +kernel
theorem dX5_topics_19 : decode cX5_topics 19 = .ok (.ifCond .ne 7, 3) := by decide +kernel
theorem dX5_topics_22 : decode cX5_topics 22 = .ok (.iconst 2, 1) := by decide +kernel
theorem dX5_topics_23 : decode cX5_topics 23 = .ok (.goto 4, 3) := by decide +kernel
theorem dX5_topics_26 : decode cX5_topics 26 = .ok (.iconst 0, 1) := by decide +kernel
theorem dX5_topics_27 : decode cX5_topics 27 = .ok (.invokevirtual 56, 3) := by decide +kernel
theorem dX5_topics_30 : decode cX5_topics 30 = .ok (.ifCond .ne 5, 3) := by decide +kernel
theorem dX5_topics_33 : decode cX5_topics 33 = .ok (.iconst 0, 1) := by decide +kernel
theorem dX5_topics_34 : decode cX5_topics 34 = .ok (.ireturn, 1) := by decide +kernel
theorem dX5_topics_35 : decode cX5_topics 35 = .ok (.aload_n 0, 1) := by decide +kernel
theorem dX5_topics_36 : decode cX5_topics 36 = .ok (.invokevirtual 60, 3) := by decide +kernel
theorem dX5_topics_39 : decode cX5_topics 39 = .ok (.aload_n 0, 1) := by decide +kernel
theorem dX5_topics_40 : decode cX5_topics 40 = .ok (.getfield 7, 3) := by decide +kernel
theorem dX5_topics_43 : decode cX5_topics 43 = .ok (.bipush 17, 2) := by decide +kernel
theorem dX5_topics_45 : decode cX5_topics 45 = .ok (.iload_n 1, 1) := by decide +kernel
theorem dX5_topics_46 : decode cX5_topics 46 = .ok (.iadd, 1) := by decide +kernel
theorem dX5_topics_47 : decode cX5_topics 47 = .ok (.iaload, 1) := by decide +kernel
theorem dX5_topics_48 : decode cX5_topics 48 = .ok (.istore_n 3, 1) := by decide +kernel
theorem dX5_topics_49 : decode cX5_topics 49 = .ok (.aload_n 0, 1) := by decide +kernel
theorem dX5_topics_50 : decode cX5_topics 50 = .ok (.getfield 7, 3) := by decide +kernel
theorem dX5_topics_53 : decode cX5_topics 53 = .ok (.bipush 17, 2) := by decide +kernel
theorem dX5_topics_55 : decode cX5_topics 55 = .ok (.iload_n 1, 1) := by decide +kernel
theorem dX5_topics_56 : decode cX5_topics 56 = .ok (.iadd, 1) := by decide +kernel
theorem dX5_topics_57 : decode cX5_topics 57 = .ok (.iload_n 2, 1) := by decide +kernel
theorem dX5_topics_58 : decode cX5_topics 58 = .ok (.iastore, 1) := by decide +kernel
theorem dX5_topics_59 : decode cX5_topics 59 = .ok (.iload_n 3, 1) := by decide +kernel
theorem dX5_topics_60 : decode cX5_topics 60 = .ok (.ireturn, 1) := by decide +kernel
set_option maxRecDepth 100000 in
set_option maxHeartbeats 4000000 in
theorem mt_X5_topics (r0 : Option Nat) (i1 : Int32) (i2 : Int32) (S0 : PH) (y : Int32 × PH) (h : m_X5_topics r0 i1 i2 S0 = some y) : MT yX5_topics (.code yX5_topics cX5_topics 4 (Option.some FieldType.int)) 2 44 0 0 [va_rf r0, .int i1, .int i2] S0 (oQ e_I (qN y)) := by
  refine mt_of (own := RX5) (l0 := [(0, va_rf r0), (1, .int i1), (2, .int i2)]) rfl rfl (by cases r0 <;> exact Nat.le_of_ble_eq_true rfl) (by cases r0 <;> rfl) ?_
  intro Z hC hQ hE hN
  have J_27 : ∀ (v9 : Option Nat) (v10 : Int32) (S11 : PH), j_X5_topics_27 r0 i1 i2 v9 v10 S11 = some y → PX Z 4 S11 0 0 27 [(0, va_rf r0), (1, .int i1), (2, .int i2)] [.int v10, va_rf v9] := by
    intro v9 v10 S11 h
    unfold j_X5_topics_27 at h
    replace h := dr_el h
    obtain ⟨a12, ea13, ha14, h⟩ := h
    replace h := bd_el h
    obtain ⟨v15, S16, hb17, h⟩ := h
    refine x_callV hC (st := []) (mt_X5_holds _ _ _ _ hb17) ea13 ha14 kf_5 q_915 q_917 qs_43 q_7 q_918 ⟨rfl, hy_X5_holds⟩ ⟨Nat.le_of_ble_eq_true rfl, Nat.le_of_ble_eq_true rfl⟩ ⟨Nat.le_of_ble_eq_true rfl, Nat.le_of_ble_eq_true rfl⟩ rfl (Nat.le_of_ble_eq_true rfl) dX5_topics_27 (r_N ?_) r_NX
    show PX Z 4 S16 0 0 30 [(0, va_rf r0), (1, .int i1), (2, .int i2)] [.int v15]
    refine x_if_ne (t := 35) hC dX5_topics_30 (by decide) (fun c18 => ?_) (fun c18 => ?_)
    · replace h := it_f c18 h
      refine x_aload_n (i := 0) hC dX5_topics_35 rfl 0 rfl ?_
      replace h := dr_el h
      obtain ⟨a19, ea20, ha21, h⟩ := h
      replace h := bd_el h
      obtain ⟨v22, S23, hb24, h⟩ := h
      refine x_callV hC (st := []) (mt_X5_save _ _ _ hb24) ea20 ha21 kf_5 q_919 q_921 qs_44 q_7 q_922 ⟨rfl, hy_X5_save⟩ ⟨Nat.le_of_ble_eq_true rfl, Nat.le_of_ble_eq_true rfl⟩ ⟨Nat.le_of_ble_eq_true rfl, Nat.le_of_ble_eq_true rfl⟩ rfl (Nat.le_of_ble_eq_true rfl) dX5_topics_36 (r_N ?_) r_NX
      show PX Z 4 S23 0 0 39 [(0, va_rf r0), (1, .int i1), (2, .int i2)] []
      refine x_aload_n (i := 0) hC dX5_topics_39 rfl 0 rfl ?_
      replace h := dr_el h
      obtain ⟨a25, ea26, ha27, h⟩ := h
      refine x_getR hC ea26 ha27 kf_5 1 (by decide) rfl q_864 dX5_topics_40 ?_
      refine x_bipush (v := (17 : Int32)) hC dX5_topics_43 (by decide) ?_
      refine x_iload_n (i := 1) hC dX5_topics_45 rfl 1 rfl ?_
      refine x_iadd hC dX5_topics_46 ?_
      replace h := dr_el h
      obtain ⟨a28, ea29, ha30, h⟩ := h
      replace h := ck_el h
      obtain ⟨hc31, h⟩ := h
      refine x_iaload hC ea29 ha30 hc31 dX5_topics_47 ?_
      replace h := le_el h
      obtain ⟨x32, hx33, h⟩ := h
      refine x_tI hx33 ?_
      refine x_istore_n (i := 3) (l' := [(3, .int x32), (0, va_rf r0), (1, .int i1), (2, .int i2)]) hC dX5_topics_48 rfl (⟨fun _ => c_rf r0, ⟨fun _ => rfl, ⟨fun _ => rfl, trivial⟩⟩⟩) (by decide) rfl ?_
      refine x_aload_n (i := 0) hC dX5_topics_49 rfl 1 rfl ?_
      refine x_getR hC ea26 ha27 kf_5 1 (by decide) rfl q_864 dX5_topics_50 ?_
      refine x_bipush (v := (17 : Int32)) hC dX5_topics_53 (by decide) ?_
      refine x_iload_n (i := 1) hC dX5_topics_55 rfl 2 rfl ?_
      refine x_iadd hC dX5_topics_56 ?_
      refine x_iload_n (i := 2) hC dX5_topics_57 rfl 3 rfl ?_
      replace h := ck_el h
      obtain ⟨hc34, h⟩ := h
      replace h := le_el h
      obtain ⟨S35, hx36, h⟩ := h
      refine x_iastore hC ea29 ha30 hc34 dX5_topics_58 ?_
      refine x_tS hx36 ?_
      refine x_iload_n (i := 3) hC dX5_topics_59 rfl 0 rfl ?_
      exact x_iret hC hQ (z_N (Option.some.inj h)) (Nat.le_of_ble_eq_true rfl) (Nat.le_of_ble_eq_true rfl) dX5_topics_60
    · replace h := it_t c18 h
      refine x_iconst (v := (0 : Int32)) hC dX5_topics_33 (by decide) ?_
      exact x_iret hC hQ (z_N (Option.some.inj h)) (Nat.le_of_ble_eq_true rfl) (Nat.le_of_ble_eq_true rfl) dX5_topics_34
  unfold m_X5_topics at h
  refine x_aload_n (i := 0) hC dX5_topics_0 rfl 0 rfl ?_
  refine x_iload_n (i := 1) hC dX5_topics_1 rfl 1 rfl ?_
  replace h := bd_el h
  obtain ⟨v1, S2, hb3, h⟩ := h
  refine x_callS hC (st := [va_rf r0]) (mt_X5_isPerson _ _ _ hb3) q_935 q_936 q_7 q_937 hy_X5_isPerson ⟨Nat.le_of_ble_eq_true rfl, Nat.le_of_ble_eq_true rfl⟩ ⟨Nat.le_of_ble_eq_true rfl, Nat.le_of_ble_eq_true rfl⟩ rfl (Nat.le_of_ble_eq_true rfl) dX5_topics_2 (r_N ?_) r_NX
  show PX Z 4 S2 0 0 5 [(0, va_rf r0), (1, .int i1), (2, .int i2)] [.int v1, va_rf r0]
  refine x_if_ne (t := 12) hC dX5_topics_5 (by decide) (fun c4 => ?_) (fun c4 => ?_)
  · replace h := it_f c4 h
    refine x_iload_n (i := 2) hC dX5_topics_12 rfl 2 rfl ?_
    refine x_iconst (v := (0 : Int32)) hC dX5_topics_13 (by decide) ?_
    refine x_bipush (v := (15 : Int32)) hC dX5_topics_14 (by decide) ?_
    replace h := bd_el h
    obtain ⟨v5, S6, hb7, h⟩ := h
    refine x_callS hC (st := [va_rf r0]) (mt_X5_in _ _ _ _ _ hb7) q_912 q_913 q_7 q_914 hy_X5_in ⟨Nat.le_of_ble_eq_true rfl, Nat.le_of_ble_eq_true rfl⟩ ⟨Nat.le_of_ble_eq_true rfl, Nat.le_of_ble_eq_true rfl⟩ rfl (Nat.le_of_ble_eq_true rfl) dX5_topics_16 (r_N ?_) r_NX
    show PX Z 4 S6 0 0 19 [(0, va_rf r0), (1, .int i1), (2, .int i2)] [.int v5, va_rf r0]
    refine x_if_ne (t := 26) hC dX5_topics_19 (by decide) (fun c8 => ?_) (fun c8 => ?_)
    · replace h := it_f c8 h
      refine x_iconst (v := (0 : Int32)) hC dX5_topics_26 (by decide) ?_
      exact J_27 _ _ _ h
    · replace h := it_t c8 h
      refine x_iconst (v := (2 : Int32)) hC dX5_topics_22 (by decide) ?_
      refine x_goto (t := 27) hC dX5_topics_23 (by decide) ?_
      exact J_27 _ _ _ h
  · replace h := it_t c4 h
    refine x_iconst (v := (1 : Int32)) hC dX5_topics_8 (by decide) ?_
    refine x_goto (t := 27) hC dX5_topics_9 (by decide) ?_
    exact J_27 _ _ _ h
theorem dX5_meet_0 : decode cX5_meet 0 = .ok (.aload_n 0, 1) := by decide +kernel
theorem dX5_meet_1 : decode cX5_meet 1 = .ok (.iload_n 1, 1) := by decide +kernel
theorem dX5_meet_2 : decode cX5_meet 2 = .ok (.invokestatic 67, 3) := by decide +kernel
theorem dX5_meet_5 : decode cX5_meet 5 = .ok (.ifCond .eq 10, 3) := by decide +kernel
theorem dX5_meet_8 : decode cX5_meet 8 = .ok (.iload_n 2, 1) := by decide +kernel
theorem dX5_meet_9 : decode cX5_meet 9 = .ok (.invokestatic 67, 3) := by decide +kernel
theorem dX5_meet_12 : decode cX5_meet 12 = .ok (.ifCond .ne 7, 3) := by decide +kernel
theorem dX5_meet_15 : decode cX5_meet 15 = .ok (.iconst 1, 1) := by decide +kernel
theorem dX5_meet_16 : decode cX5_meet 16 = .ok (.goto 13, 3) := by decide +kernel
theorem dX5_meet_19 : decode cX5_meet 19 = .ok (.iload_n 1, 1) := by decide +kernel
theorem dX5_meet_20 : decode cX5_meet 20 = .ok (.iload_n 2, 1) := by decide +kernel
theorem dX5_meet_21 : decode cX5_meet 21 = .ok (.if_icmp .ne 7, 3) := by decide +kernel
theorem dX5_meet_24 : decode cX5_meet 24 = .ok (.iconst 2, 1) := by decide +kernel
theorem dX5_meet_25 : decode cX5_meet 25 = .ok (.goto 4, 3) := by decide +kernel
theorem dX5_meet_28 : decode cX5_meet 28 = .ok (.iconst 0, 1) := by decide +kernel
theorem dX5_meet_29 : decode cX5_meet 29 = .ok (.invokevirtual 56, 3) := by decide +kernel
theorem dX5_meet_32 : decode cX5_meet 32 = .ok (.ifCond .ne 5, 3) := by decide +kernel
theorem dX5_meet_35 : decode cX5_meet 35 = .ok (.iconst 0, 1) := by decide +kernel
theorem dX5_meet_36 : decode cX5_meet 36 = .ok (.ireturn, 1) := by decide +kernel
theorem dX5_meet_37 : decode cX5_meet 37 = .ok (.aload_n 0, 1) := by decide +kernel
theorem dX5_meet_38 : decode cX5_meet 38 = .ok (.invokevirtual 60, 3) := by decide +kernel
theorem dX5_meet_41 : decode cX5_meet 41 = .ok (.aload_n 0, 1) := by decide +kernel
theorem dX5_meet_42 : decode cX5_meet 42 = .ok (.getfield 7, 3) := by decide +kernel
theorem dX5_meet_45 : decode cX5_meet 45 = .ok (.bipush 25, 2) := by decide +kernel
theorem dX5_meet_47 : decode cX5_meet 47 = .ok (.iload_n 1, 1) := by decide +kernel
theorem dX5_meet_48 : decode cX5_meet 48 = .ok (.iadd, 1) := by decide +kernel
theorem dX5_meet_49 : decode cX5_meet 49 = .ok (.dup2, 1) := by decide +kernel
theorem dX5_meet_50 : decode cX5_meet 50 = .ok (.iaload, 1) := by decide +kernel
theorem dX5_meet_51 : decode cX5_meet 51 = .ok (.iconst 1, 1) := by decide +kernel
theorem dX5_meet_52 : decode cX5_meet 52 = .ok (.iload_n 2, 1) := by decide +kernel
theorem dX5_meet_53 : decode cX5_meet 53 = .ok (.ishl, 1) := by decide +kernel
theorem dX5_meet_54 : decode cX5_meet 54 = .ok (.ixor, 1) := by decide +kernel
theorem dX5_meet_55 : decode cX5_meet 55 = .ok (.iastore, 1) := by decide +kernel
theorem dX5_meet_56 : decode cX5_meet 56 = .ok (.aload_n 0, 1) := by decide +kernel
theorem dX5_meet_57 : decode cX5_meet 57 = .ok (.getfield 7, 3) := by decide +kernel
theorem dX5_meet_60 : decode cX5_meet 60 = .ok (.bipush 25, 2) := by decide +kernel
theorem dX5_meet_62 : decode cX5_meet 62 = .ok (.iload_n 2, 1) := by decide +kernel
theorem dX5_meet_63 : decode cX5_meet 63 = .ok (.iadd, 1) := by decide +kernel
theorem dX5_meet_64 : decode cX5_meet 64 = .ok (.dup2, 1) := by decide +kernel
theorem dX5_meet_65 : decode cX5_meet 65 = .ok (.iaload, 1) := by decide +kernel
theorem dX5_meet_66 : decode cX5_meet 66 = .ok (.iconst 1, 1) := by decide +kernel
theorem dX5_meet_67 : decode cX5_meet 67 = .ok (.iload_n 1, 1) := by decide +kernel
theorem dX5_meet_68 : decode cX5_meet 68 = .ok (.ishl, 1) := by decide +kernel
theorem dX5_meet_69 : decode cX5_meet 69 = .ok (.ixor, 1) := by decide +kernel
theorem dX5_meet_70 : decode cX5_meet 70 = .ok (.iastore, 1) := by decide +kernel
theorem dX5_meet_71 : decode cX5_meet 71 = .ok (.aload_n 0, 1) := by decide +kernel
theorem dX5_meet_72 : decode cX5_meet 72 = .ok (.getfield 7, 3) := by decide +kernel
theorem dX5_meet_75 : decode cX5_meet 75 = .ok (.bipush 25, 2) := by decide +kernel
theorem dX5_meet_77 : decode cX5_meet 77 = .ok (.iload_n 1, 1) := by decide +kernel
theorem dX5_meet_78 : decode cX5_meet 78 = .ok (.iadd, 1) := by decide +kernel
theorem dX5_meet_79 : decode cX5_meet 79 = .ok (.iaload, 1) := by decide +kernel
theorem dX5_meet_80 : decode cX5_meet 80 = .ok (.iload_n 2, 1) := by decide +kernel
theorem dX5_meet_81 : decode cX5_meet 81 = .ok (.ishr, 1) := by decide +kernel
theorem dX5_meet_82 : decode cX5_meet 82 = .ok (.iconst 1, 1) := by decide +kernel
theorem dX5_meet_83 : decode cX5_meet 83 = .ok (.iand, 1) := by decide +kernel
theorem dX5_meet_84 : decode cX5_meet 84 = .ok (.ireturn, 1) := by decide +kernel
set_option maxRecDepth 100000 in
set_option maxHeartbeats 4000000 in
theorem mt_X5_meet (r0 : Option Nat) (i1 : Int32) (i2 : Int32) (S0 : PH) (y : Int32 × PH) (h : m_X5_meet r0 i1 i2 S0 = some y) : MT yX5_meet (.code yX5_meet cX5_meet 3 (Option.some FieldType.int)) 2 44 0 0 [va_rf r0, .int i1, .int i2] S0 (oQ e_I (qN y)) := by
  refine mt_of (own := RX5) (l0 := [(0, va_rf r0), (1, .int i1), (2, .int i2)]) rfl rfl (by cases r0 <;> exact Nat.le_of_ble_eq_true rfl) (by cases r0 <;> rfl) ?_
  intro Z hC hQ hE hN
  have J_29 : ∀ (v5 : Option Nat) (v6 : Int32) (S7 : PH), j_X5_meet_29 r0 i1 i2 v5 v6 S7 = some y → PX Z 3 S7 0 0 29 [(0, va_rf r0), (1, .int i1), (2, .int i2)] [.int v6, va_rf v5] := by
    intro v5 v6 S7 h
    unfold j_X5_meet_29 at h
    replace h := dr_el h
    obtain ⟨a8, ea9, ha10, h⟩ := h
    replace h := bd_el h
    obtain ⟨v11, S12, hb13, h⟩ := h
    refine x_callV hC (st := []) (mt_X5_holds _ _ _ _ hb13) ea9 ha10 kf_5 q_915 q_917 qs_43 q_7 q_918 ⟨rfl, hy_X5_holds⟩ ⟨Nat.le_of_ble_eq_true rfl, Nat.le_of_ble_eq_true rfl⟩ ⟨Nat.le_of_ble_eq_true rfl, Nat.le_of_ble_eq_true rfl⟩ rfl (Nat.le_of_ble_eq_true rfl) dX5_meet_29 (r_N ?_) r_NX
    show PX Z 3 S12 0 0 32 [(0, va_rf r0), (1, .int i1), (2, .int i2)] [.int v11]
    refine x_if_ne (t := 37) hC dX5_meet_32 (by decide) (fun c14 => ?_) (fun c14 => ?_)
    · replace h := it_f c14 h
      refine x_aload_n (i := 0) hC dX5_meet_37 rfl 0 rfl ?_
      replace h := dr_el h
      obtain ⟨a15, ea16, ha17, h⟩ := h
      replace h := bd_el h
      obtain ⟨v18, S19, hb20, h⟩ := h
      refine x_callV hC (st := []) (mt_X5_save _ _ _ hb20) ea16 ha17 kf_5 q_919 q_921 qs_44 q_7 q_922 ⟨rfl, hy_X5_save⟩ ⟨Nat.le_of_ble_eq_true rfl, Nat.le_of_ble_eq_true rfl⟩ ⟨Nat.le_of_ble_eq_true rfl, Nat.le_of_ble_eq_true rfl⟩ rfl (Nat.le_of_ble_eq_true rfl) dX5_meet_38 (r_N ?_) r_NX
      show PX Z 3 S19 0 0 41 [(0, va_rf r0), (1, .int i1), (2, .int i2)] []
      refine x_aload_n (i := 0) hC dX5_meet_41 rfl 0 rfl ?_
      replace h := dr_el h
      obtain ⟨a21, ea22, ha23, h⟩ := h
      refine x_getR hC ea22 ha23 kf_5 1 (by decide) rfl q_864 dX5_meet_42 ?_
      refine x_bipush (v := (25 : Int32)) hC dX5_meet_45 (by decide) ?_
      refine x_iload_n (i := 1) hC dX5_meet_47 rfl 1 rfl ?_
      refine x_iadd hC dX5_meet_48 ?_
      refine x_dup2 hC dX5_meet_49 rfl (c_rf (p_R S19 a21 1)) ?_
      replace h := dr_el h
      obtain ⟨a24, ea25, ha26, h⟩ := h
      replace h := ck_el h
      obtain ⟨hc27, h⟩ := h
      refine x_iaload hC ea25 ha26 hc27 dX5_meet_50 ?_
      refine x_iconst (v := (1 : Int32)) hC dX5_meet_51 (by decide) ?_
      refine x_iload_n (i := 2) hC dX5_meet_52 rfl 2 rfl ?_
      refine x_ishl hC dX5_meet_53 ?_
      refine x_ixor hC dX5_meet_54 ?_
      replace h := ck_el h
      obtain ⟨hc28, h⟩ := h
      replace h := le_el h
      obtain ⟨S29, hx30, h⟩ := h
      refine x_iastore hC ea25 ha26 hc28 dX5_meet_55 ?_
      refine x_tS hx30 ?_
      refine x_aload_n (i := 0) hC dX5_meet_56 rfl 0 rfl ?_
      replace h := dr_el h
      obtain ⟨a31, ea32, ha33, h⟩ := h
      refine x_getR hC ea32 ha33 kf_5 1 (by decide) rfl q_864 dX5_meet_57 ?_
      refine x_bipush (v := (25 : Int32)) hC dX5_meet_60 (by decide) ?_
      refine x_iload_n (i := 2) hC dX5_meet_62 rfl 2 rfl ?_
      refine x_iadd hC dX5_meet_63 ?_
      refine x_dup2 hC dX5_meet_64 rfl (c_rf (p_R S29 a31 1)) ?_
      replace h := dr_el h
      obtain ⟨a34, ea35, ha36, h⟩ := h
      replace h := ck_el h
      obtain ⟨hc37, h⟩ := h
      refine x_iaload hC ea35 ha36 hc37 dX5_meet_65 ?_
      refine x_iconst (v := (1 : Int32)) hC dX5_meet_66 (by decide) ?_
      refine x_iload_n (i := 1) hC dX5_meet_67 rfl 1 rfl ?_
      refine x_ishl hC dX5_meet_68 ?_
      refine x_ixor hC dX5_meet_69 ?_
      replace h := ck_el h
      obtain ⟨hc38, h⟩ := h
      replace h := le_el h
      obtain ⟨S39, hx40, h⟩ := h
      refine x_iastore hC ea35 ha36 hc38 dX5_meet_70 ?_
      refine x_tS hx40 ?_
      refine x_aload_n (i := 0) hC dX5_meet_71 rfl 0 rfl ?_
      replace h := dr_el h
      obtain ⟨a41, ea42, ha43, h⟩ := h
      refine x_getR hC ea42 ha43 kf_5 1 (by decide) rfl q_864 dX5_meet_72 ?_
      refine x_bipush (v := (25 : Int32)) hC dX5_meet_75 (by decide) ?_
      refine x_iload_n (i := 1) hC dX5_meet_77 rfl 1 rfl ?_
      refine x_iadd hC dX5_meet_78 ?_
      replace h := dr_el h
      obtain ⟨a44, ea45, ha46, h⟩ := h
      replace h := ck_el h
      obtain ⟨hc47, h⟩ := h
      refine x_iaload hC ea45 ha46 hc47 dX5_meet_79 ?_
      refine x_iload_n (i := 2) hC dX5_meet_80 rfl 2 rfl ?_
      refine x_ishr hC dX5_meet_81 ?_
      refine x_iconst (v := (1 : Int32)) hC dX5_meet_82 (by decide) ?_
      refine x_iand hC dX5_meet_83 ?_
      exact x_iret hC hQ (z_N (Option.some.inj h)) (Nat.le_of_ble_eq_true rfl) (Nat.le_of_ble_eq_true rfl) dX5_meet_84
    · replace h := it_t c14 h
      refine x_iconst (v := (0 : Int32)) hC dX5_meet_35 (by decide) ?_
      exact x_iret hC hQ (z_N (Option.some.inj h)) (Nat.le_of_ble_eq_true rfl) (Nat.le_of_ble_eq_true rfl) dX5_meet_36
  unfold m_X5_meet at h
  refine x_aload_n (i := 0) hC dX5_meet_0 rfl 0 rfl ?_
  refine x_iload_n (i := 1) hC dX5_meet_1 rfl 1 rfl ?_
  replace h := bd_el h
  obtain ⟨v1, S2, hb3, h⟩ := h
  refine x_callS hC (st := [va_rf r0]) (mt_X5_isPerson _ _ _ hb3) q_935 q_936 q_7 q_937 hy_X5_isPerson ⟨Nat.le_of_ble_eq_true rfl, Nat.le_of_ble_eq_true rfl⟩ ⟨Nat.le_of_ble_eq_true rfl, Nat.le_of_ble_eq_true rfl⟩ rfl (Nat.le_of_ble_eq_true rfl) dX5_meet_2 (r_N ?_) r_NX
  show PX Z 3 S2 0 0 5 [(0, va_rf r0), (1, .int i1), (2, .int i2)] [.int v1, va_rf r0]
  refine x_if_eq (t := 15) hC dX5_meet_5 (by decide) (fun c4 => ?_) (fun c4 => ?_)
  · replace h := it_t c4 h
    refine x_iconst (v := (1 : Int32)) hC dX5_meet_15 (by decide) ?_
    refine x_goto (t := 29) hC dX5_meet_16 (by decide) ?_
    exact J_29 _ _ _ h
  · replace h := it_f c4 h
    refine x_iload_n (i := 2) hC dX5_meet_8 rfl 2 rfl ?_
    replace h := bd_el h
    obtain ⟨v48, S49, hb50, h⟩ := h
    refine x_callS hC (st := [va_rf r0]) (mt_X5_isPerson _ _ _ hb50) q_935 q_936 q_7 q_937 hy_X5_isPerson ⟨Nat.le_of_ble_eq_true rfl, Nat.le_of_ble_eq_true rfl⟩ ⟨Nat.le_of_ble_eq_true rfl, Nat.le_of_ble_eq_true rfl⟩ rfl (Nat.le_of_ble_eq_true rfl) dX5_meet_9 (r_N ?_) r_NX
    show PX Z 3 S49 0 0 12 [(0, va_rf r0), (1, .int i1), (2, .int i2)] [.int v48, va_rf r0]
    refine x_if_ne (t := 19) hC dX5_meet_12 (by decide) (fun c51 => ?_) (fun c51 => ?_)
    · replace h := it_f c51 h
      refine x_iload_n (i := 1) hC dX5_meet_19 rfl 1 rfl ?_
      refine x_iload_n (i := 2) hC dX5_meet_20 rfl 2 rfl ?_
      refine x_icmp_ne (t := 28) hC dX5_meet_21 (by decide) (fun c52 => ?_) (fun c52 => ?_)
      · replace h := it_f c52 h
        refine x_iconst (v := (0 : Int32)) hC dX5_meet_28 (by decide) ?_
        exact J_29 _ _ _ h
      · replace h := it_t c52 h
        refine x_iconst (v := (2 : Int32)) hC dX5_meet_24 (by decide) ?_
        refine x_goto (t := 29) hC dX5_meet_25 (by decide) ?_
        exact J_29 _ _ _ h
    · replace h := it_t c51 h
      refine x_iconst (v := (1 : Int32)) hC dX5_meet_15 (by decide) ?_
      refine x_goto (t := 29) hC dX5_meet_16 (by decide) ?_
      exact J_29 _ _ _ h
theorem dX5_mostOf_0 : decode cX5_mostOf 0 = .ok (.iload_n 0, 1) := by decide +kernel
theorem dX5_mostOf_1 : decode cX5_mostOf 1 = .ok (.ifCond .ne 7, 3) := by decide +kernel
theorem dX5_mostOf_4 : decode cX5_mostOf 4 = .ok (.iconst 4, 1) := by decide +kernel
theorem dX5_mostOf_5 : decode cX5_mostOf 5 = .ok (.goto 23, 3) := by decide +kernel
theorem dX5_mostOf_8 : decode cX5_mostOf 8 = .ok (.iload_n 0, 1) := by decide +kernel
theorem dX5_mostOf_9 : decode cX5_mostOf 9 = .ok (.iconst 1, 1) := by decide +kernel
theorem dX5_mostOf_10 : decode cX5_mostOf 10 = .ok (.if_icmp .ne 7, 3) := by decide +kernel
theorem dX5_mostOf_13 : decode cX5_mostOf 13 = .ok (.iconst 2, 1) := by decide +kernel
theorem dX5_mostOf_14 : decode cX5_mostOf 14 = .ok (.goto 14, 3) := by decide +kernel
theorem dX5_mostOf_17 : decode cX5_mostOf 17 = .ok (.iload_n 0, 1) := by decide +kernel
theorem dX5_mostOf_18 : decode cX5_mostOf 18 = .ok (.iconst 2, 1) := by decide +kernel
theorem dX5_mostOf_19 : decode cX5_mostOf 19 = .ok (.if_icmp .ne 8, 3) := by decide +kernel
theorem dX5_mostOf_22 : decode cX5_mostOf 22 = .ok (.bipush 9, 2) := by decide +kernel
theorem dX5_mostOf_24 : decode cX5_mostOf 24 = .ok (.goto 4, 3) := by decide +kernel
theorem dX5_mostOf_27 : decode cX5_mostOf 27 = .ok (.iconst 3, 1) := by decide +kernel
theorem dX5_mostOf_28 : decode cX5_mostOf 28 = .ok (.ireturn, 1) := by decide +kernel
set_option maxRecDepth 100000 in
set_option maxHeartbeats 4000000 in
theorem mt_X5_mostOf (i0 : Int32) (S0 : PH) (y : Int32 × PH) (h : m_X5_mostOf i0 S0 = some y) : MT yX5_mostOf (.code yX5_mostOf cX5_mostOf 1 (Option.some FieldType.int)) 0 0 0 0 [.int i0] S0 (oQ e_I (qN y)) := by
  refine mt_of (own := RX5) (l0 := [(0, .int i0)]) rfl rfl (by exact Nat.le_of_ble_eq_true rfl) (by rfl) ?_
  intro Z hC hQ hE hN
  unfold m_X5_mostOf at h
  refine x_iload_n (i := 0) hC dX5_mostOf_0 rfl 0 rfl ?_
  refine x_if_ne (t := 8) hC dX5_mostOf_1 (by decide) (fun c1 => ?_) (fun c1 => ?_)
  · replace h := it_f c1 h
    refine x_iload_n (i := 0) hC dX5_mostOf_8 rfl 0 rfl ?_
    refine x_iconst (v := (1 : Int32)) hC dX5_mostOf_9 (by decide) ?_
    refine x_icmp_ne (t := 17) hC dX5_mostOf_10 (by decide) (fun c2 => ?_) (fun c2 => ?_)
    · replace h := it_f c2 h
      refine x_iload_n (i := 0) hC dX5_mostOf_17 rfl 0 rfl ?_
      refine x_iconst (v := (2 : Int32)) hC dX5_mostOf_18 (by decide) ?_
      refine x_icmp_ne (t := 27) hC dX5_mostOf_19 (by decide) (fun c3 => ?_) (fun c3 => ?_)
      · replace h := it_f c3 h
        refine x_iconst (v := (3 : Int32)) hC dX5_mostOf_27 (by decide) ?_
        exact x_iret hC hQ (z_N (Option.some.inj h)) (Nat.le_of_ble_eq_true rfl) (Nat.le_of_ble_eq_true rfl) dX5_mostOf_28
      · replace h := it_t c3 h
        refine x_bipush (v := (9 : Int32)) hC dX5_mostOf_22 (by decide) ?_
        refine x_goto (t := 28) hC dX5_mostOf_24 (by decide) ?_
        exact x_iret hC hQ (z_N (Option.some.inj h)) (Nat.le_of_ble_eq_true rfl) (Nat.le_of_ble_eq_true rfl) dX5_mostOf_28
    · replace h := it_t c2 h
      refine x_iconst (v := (2 : Int32)) hC dX5_mostOf_13 (by decide) ?_
      refine x_goto (t := 28) hC dX5_mostOf_14 (by decide) ?_
      exact x_iret hC hQ (z_N (Option.some.inj h)) (Nat.le_of_ble_eq_true rfl) (Nat.le_of_ble_eq_true rfl) dX5_mostOf_28
  · replace h := it_t c1 h
    refine x_iconst (v := (4 : Int32)) hC dX5_mostOf_4 (by decide) ?_
    refine x_goto (t := 28) hC dX5_mostOf_5 (by decide) ?_
    exact x_iret hC hQ (z_N (Option.some.inj h)) (Nat.le_of_ble_eq_true rfl) (Nat.le_of_ble_eq_true rfl) dX5_mostOf_28
theorem dX5_set_0 : decode cX5_set 0 = .ok (.aload_n 0, 1) := by decide +kernel
theorem dX5_set_1 : decode cX5_set 1 = .ok (.iload_n 1, 1) := by decide +kernel
theorem dX5_set_2 : decode cX5_set 2 = .ok (.iconst 0, 1) := by decide +kernel
theorem dX5_set_3 : decode cX5_set 3 = .ok (.iconst 3, 1) := by decide +kernel
theorem dX5_set_4 : decode cX5_set 4 = .ok (.invokestatic 27, 3) := by decide +kernel
theorem dX5_set_7 : decode cX5_set 7 = .ok (.ifCond .ne 7, 3) := by decide +kernel
theorem dX5_set_10 : decode cX5_set 10 = .ok (.iconst 1, 1) := by decide +kernel
theorem dX5_set_11 : decode cX5_set 11 = .ok (.goto 28, 3) := by decide +kernel
theorem dX5_set_14 : decode cX5_set 14 = .ok (.iload_n 2, 1) := by decide +kernel
theorem dX5_set_15 : decode cX5_set 15 = .ok (.iload_n 1, 1) := by decide +kernel
theorem dX5_set_16 : decode cX5_set 16 = .ok (.ifCond .ne 7, 3) := by decide +kernel
theorem dX5_set_19 : decode cX5_set 19 = .ok (.iconst 1, 1) := by decide +kernel
theorem dX5_set_20 : decode cX5_set 20 = .ok (.goto 4, 3) := by decide +kernel
theorem dX5_set_23 : decode cX5_set 23 = .ok (.iconst 0, 1) := by decide +kernel
theorem dX5_set_24 : decode cX5_set 24 = .ok (.iload_n 1, 1) := by decide +kernel
theorem dX5_set_25 : decode cX5_set 25 = .ok (.invokestatic 70, 3) := by decide +kernel
theorem dX5_set_28 : decode cX5_set 28 = .ok (.invokestatic 27, 3) := by decide +kernel
theorem dX5_set_31 : decode cX5_set 31 = .ok (.ifCond .ne 7, 3) := by decide +kernel
theorem dX5_set_34 : decode cX5_set 34 = .ok (.iconst 2, 1) := by decide +kernel
theorem dX5_set_35 : decode cX5_set 35 = .ok (.goto 4, 3) := by decide +kernel
theorem dX5_set_38 : decode cX5_set 38 = .ok (.iconst 0, 1) := by decide +kernel
theorem dX5_set_39 : decode cX5_set 39 = .ok (.invokevirtual 56, 3) := by decide +kernel
theorem dX5_set_42 : decode cX5_set 42 = .ok (.ifCond .ne 5, 3) := by decide +kernel
theorem dX5_set_45 : decode cX5_set 45 = .ok (.iconst 0, 1) := by decide +kernel
theorem dX5_set_46 : decode cX5_set 46 = .ok (.ireturn, 1) := by decide +kernel
theorem dX5_set_47 : decode cX5_set 47 = .ok (.aload_n 0, 1) := by decide +kernel
theorem dX5_set_48 : decode cX5_set 48 = .ok (.invokevirtual 60, 3) := by decide +kernel
theorem dX5_set_51 : decode cX5_set 51 = .ok (.aload_n 0, 1) := by decide +kernel
theorem dX5_set_52 : decode cX5_set 52 = .ok (.getfield 7, 3) := by decide +kernel
theorem dX5_set_55 : decode cX5_set 55 = .ok (.iconst 4, 1) := by decide +kernel
theorem dX5_set_56 : decode cX5_set 56 = .ok (.iload_n 1, 1) := by decide +kernel
theorem dX5_set_57 : decode cX5_set 57 = .ok (.iadd, 1) := by decide +kernel
theorem dX5_set_58 : decode cX5_set 58 = .ok (.iaload, 1) := by decide +kernel
theorem dX5_set_59 : decode cX5_set 59 = .ok (.istore_n 3, 1) := by decide +kernel
theorem dX5_set_60 : decode cX5_set 60 = .ok (.aload_n 0, 1) := by decide +kernel
theorem dX5_set_61 : decode cX5_set 61 = .ok (.getfield 7, 3) := by decide +kernel
theorem dX5_set_64 : decode cX5_set 64 = .ok (.iconst 4, 1) := by decide +kernel
theorem dX5_set_65 : decode cX5_set 65 = .ok (.iload_n 1, 1) := by decide +kernel
theorem dX5_set_66 : decode cX5_set 66 = .ok (.iadd, 1) := by decide +kernel
theorem dX5_set_67 : decode cX5_set 67 = .ok (.iload_n 2, 1) := by decide +kernel
theorem dX5_set_68 : decode cX5_set 68 = .ok (.iastore, 1) := by decide +kernel
theorem dX5_set_69 : decode cX5_set 69 = .ok (.iload_n 3, 1) := by decide +kernel
theorem dX5_set_70 : decode cX5_set 70 = .ok (.ireturn, 1) := by decide +kernel
set_option maxRecDepth 100000 in
set_option maxHeartbeats 4000000 in
theorem mt_X5_set (r0 : Option Nat) (i1 : Int32) (i2 : Int32) (S0 : PH) (y : Int32 × PH) (h : m_X5_set r0 i1 i2 S0 = some y) : MT yX5_set (.code yX5_set cX5_set 4 (Option.some FieldType.int)) 2 44 0 0 [va_rf r0, .int i1, .int i2] S0 (oQ e_I (qN y)) := by
  refine mt_of (own := RX5) (l0 := [(0, va_rf r0), (1, .int i1), (2, .int i2)]) rfl rfl (by cases r0 <;> exact Nat.le_of_ble_eq_true rfl) (by cases r0 <;> rfl) ?_
  intro Z hC hQ hE hN
  have J_39 : ∀ (v17 : Option Nat) (v18 : Int32) (S19 : PH), j_X5_set_39 r0 i1 i2 v17 v18 S19 = some y → PX Z 4 S19 0 0 39 [(0, va_rf r0), (1, .int i1), (2, .int i2)] [.int v18, va_rf v17] := by
    intro v17 v18 S19 h
    unfold j_X5_set_39 at h
    replace h := dr_el h
    obtain ⟨a20, ea21, ha22, h⟩ := h
    replace h := bd_el h
    obtain ⟨v23, S24, hb25, h⟩ := h
    refine x_callV hC (st := []) (mt_X5_holds _ _ _ _ hb25) ea21 ha22 kf_5 q_915 q_917 qs_43 q_7 q_918 ⟨rfl, hy_X5_holds⟩ ⟨Nat.le_of_ble_eq_true rfl, Nat.le_of_ble_eq_true rfl⟩ ⟨Nat.le_of_ble_eq_true rfl, Nat.le_of_ble_eq_true rfl⟩ rfl (Nat.le_of_ble_eq_true rfl) dX5_set_39 (r_N ?_) r_NX
    show PX Z 4 S24 0 0 42 [(0, va_rf r0), (1, .int i1), (2, .int i2)] [.int v23]
    refine x_if_ne (t := 47) hC dX5_set_42 (by decide) (fun c26 => ?_) (fun c26 => ?_)
    · replace h := it_f c26 h
      refine x_aload_n (i := 0) hC dX5_set_47 rfl 0 rfl ?_
      replace h := dr_el h
      obtain ⟨a27, ea28, ha29, h⟩ := h
      replace h := bd_el h
      obtain ⟨v30, S31, hb32, h⟩ := h
      refine x_callV hC (st := []) (mt_X5_save _ _ _ hb32) ea28 ha29 kf_5 q_919 q_921 qs_44 q_7 q_922 ⟨rfl, hy_X5_save⟩ ⟨Nat.le_of_ble_eq_true rfl, Nat.le_of_ble_eq_true rfl⟩ ⟨Nat.le_of_ble_eq_true rfl, Nat.le_of_ble_eq_true rfl⟩ rfl (Nat.le_of_ble_eq_true rfl) dX5_set_48 (r_N ?_) r_NX
      show PX Z 4 S31 0 0 51 [(0, va_rf r0), (1, .int i1), (2, .int i2)] []
      refine x_aload_n (i := 0) hC dX5_set_51 rfl 0 rfl ?_
      replace h := dr_el h
      obtain ⟨a33, ea34, ha35, h⟩ := h
      refine x_getR hC ea34 ha35 kf_5 1 (by decide) rfl q_864 dX5_set_52 ?_
      refine x_iconst (v := (4 : Int32)) hC dX5_set_55 (by decide) ?_
      refine x_iload_n (i := 1) hC dX5_set_56 rfl 1 rfl ?_
      refine x_iadd hC dX5_set_57 ?_
      replace h := dr_el h
      obtain ⟨a36, ea37, ha38, h⟩ := h
      replace h := ck_el h
      obtain ⟨hc39, h⟩ := h
      refine x_iaload hC ea37 ha38 hc39 dX5_set_58 ?_
      replace h := le_el h
      obtain ⟨x40, hx41, h⟩ := h
      refine x_tI hx41 ?_
      refine x_istore_n (i := 3) (l' := [(3, .int x40), (0, va_rf r0), (1, .int i1), (2, .int i2)]) hC dX5_set_59 rfl (⟨fun _ => c_rf r0, ⟨fun _ => rfl, ⟨fun _ => rfl, trivial⟩⟩⟩) (by decide) rfl ?_
      refine x_aload_n (i := 0) hC dX5_set_60 rfl 1 rfl ?_
      refine x_getR hC ea34 ha35 kf_5 1 (by decide) rfl q_864 dX5_set_61 ?_
      refine x_iconst (v := (4 : Int32)) hC dX5_set_64 (by decide) ?_
      refine x_iload_n (i := 1) hC dX5_set_65 rfl 2 rfl ?_
      refine x_iadd hC dX5_set_66 ?_
      refine x_iload_n (i := 2) hC dX5_set_67 rfl 3 rfl ?_
      replace h := ck_el h
      obtain ⟨hc42, h⟩ := h
      replace h := le_el h
      obtain ⟨S43, hx44, h⟩ := h
      refine x_iastore hC ea37 ha38 hc42 dX5_set_68 ?_
      refine x_tS hx44 ?_
      refine x_iload_n (i := 3) hC dX5_set_69 rfl 0 rfl ?_
      exact x_iret hC hQ (z_N (Option.some.inj h)) (Nat.le_of_ble_eq_true rfl) (Nat.le_of_ble_eq_true rfl) dX5_set_70
    · replace h := it_t c26 h
      refine x_iconst (v := (0 : Int32)) hC dX5_set_45 (by decide) ?_
      exact x_iret hC hQ (z_N (Option.some.inj h)) (Nat.le_of_ble_eq_true rfl) (Nat.le_of_ble_eq_true rfl) dX5_set_46
  have J_24 : ∀ (v6 : Option Nat) (v7 : Int32) (v8 : Int32) (S9 : PH), j_X5_set_24 r0 i1 i2 v6 v7 v8 S9 = some y → PX Z 4 S9 0 0 24 [(0, va_rf r0), (1, .int i1), (2, .int i2)] [.int v8, .int v7, va_rf v6] := by
    intro v6 v7 v8 S9 h
    unfold j_X5_set_24 at h
    refine x_iload_n (i := 1) hC dX5_set_24 rfl 1 rfl ?_
    replace h := bd_el h
    obtain ⟨v10, S11, hb12, h⟩ := h
    refine x_callS hC (st := [.int v8, .int v7, va_rf v6]) (mt_X5_mostOf _ _ _ hb12) q_946 q_947 q_7 q_948 hy_X5_mostOf ⟨Nat.le_of_ble_eq_true rfl, Nat.le_of_ble_eq_true rfl⟩ ⟨Nat.le_of_ble_eq_true rfl, Nat.le_of_ble_eq_true rfl⟩ rfl (Nat.le_of_ble_eq_true rfl) dX5_set_25 (r_N ?_) r_NX
    show PX Z 4 S11 0 0 28 [(0, va_rf r0), (1, .int i1), (2, .int i2)] [.int v10, .int v8, .int v7, va_rf v6]
    replace h := bd_el h
    obtain ⟨v13, S14, hb15, h⟩ := h
    refine x_callS hC (st := [va_rf v6]) (mt_X5_in _ _ _ _ _ hb15) q_912 q_913 q_7 q_914 hy_X5_in ⟨Nat.le_of_ble_eq_true rfl, Nat.le_of_ble_eq_true rfl⟩ ⟨Nat.le_of_ble_eq_true rfl, Nat.le_of_ble_eq_true rfl⟩ rfl (Nat.le_of_ble_eq_true rfl) dX5_set_28 (r_N ?_) r_NX
    show PX Z 4 S14 0 0 31 [(0, va_rf r0), (1, .int i1), (2, .int i2)] [.int v13, va_rf v6]
    refine x_if_ne (t := 38) hC dX5_set_31 (by decide) (fun c16 => ?_) (fun c16 => ?_)
    · replace h := it_f c16 h
      refine x_iconst (v := (0 : Int32)) hC dX5_set_38 (by decide) ?_
      exact J_39 _ _ _ h
    · replace h := it_t c16 h
      refine x_iconst (v := (2 : Int32)) hC dX5_set_34 (by decide) ?_
      refine x_goto (t := 39) hC dX5_set_35 (by decide) ?_
      exact J_39 _ _ _ h
  unfold m_X5_set at h
  refine x_aload_n (i := 0) hC dX5_set_0 rfl 0 rfl ?_
  refine x_iload_n (i := 1) hC dX5_set_1 rfl 1 rfl ?_
  refine x_iconst (v := (0 : Int32)) hC dX5_set_2 (by decide) ?_
  refine x_iconst (v := (3 : Int32)) hC dX5_set_3 (by decide) ?_
  replace h := bd_el h
  obtain ⟨v1, S2, hb3, h⟩ := h
  refine x_callS hC (st := [va_rf r0]) (mt_X5_in _ _ _ _ _ hb3) q_912 q_913 q_7 q_914 hy_X5_in ⟨Nat.le_of_ble_eq_true rfl, Nat.le_of_ble_eq_true rfl⟩ ⟨Nat.le_of_ble_eq_true rfl, Nat.le_of_ble_eq_true rfl⟩ rfl (Nat.le_of_ble_eq_true rfl) dX5_set_4 (r_N ?_) r_NX
  show PX Z 4 S2 0 0 7 [(0, va_rf r0), (1, .int i1), (2, .int i2)] [.int v1, va_rf r0]
  refine x_if_ne (t := 14) hC dX5_set_7 (by decide) (fun c4 => ?_) (fun c4 => ?_)
  · replace h := it_f c4 h
    refine x_iload_n (i := 2) hC dX5_set_14 rfl 2 rfl ?_
    refine x_iload_n (i := 1) hC dX5_set_15 rfl 1 rfl ?_
    refine x_if_ne (t := 23) hC dX5_set_16 (by decide) (fun c5 => ?_) (fun c5 => ?_)
    · replace h := it_f c5 h
      refine x_iconst (v := (0 : Int32)) hC dX5_set_23 (by decide) ?_
      exact J_24 _ _ _ _ h
    · replace h := it_t c5 h
      refine x_iconst (v := (1 : Int32)) hC dX5_set_19 (by decide) ?_
      refine x_goto (t := 24) hC dX5_set_20 (by decide) ?_
      exact J_24 _ _ _ _ h
  · replace h := it_t c4 h
    refine x_iconst (v := (1 : Int32)) hC dX5_set_10 (by decide) ?_
    refine x_goto (t := 39) hC dX5_set_11 (by decide) ?_
    exact J_39 _ _ _ h
theorem dX5_bring_0 : decode cX5_bring 0 = .ok (.aload_n 0, 1) := by decide +kernel
theorem dX5_bring_1 : decode cX5_bring 1 = .ok (.iload_n 1, 1) := by decide +kernel
theorem dX5_bring_2 : decode cX5_bring 2 = .ok (.iconst 1, 1) := by decide +kernel
theorem dX5_bring_3 : decode cX5_bring 3 = .ok (.sipush 999, 3) := by decide +kernel
theorem dX5_bring_6 : decode cX5_bring 6 = .ok (.invokestatic 27, 3) := by decide +kernel
theorem dX5_bring_9 : decode cX5_bring 9 = .ok (.ifCond .ne 7, 3) := by decide +kernel
theorem dX5_bring_12 : decode cX5_bring 12 = .ok (.iconst 1, 1) := by decide +kernel
theorem dX5_bring_13 : decode cX5_bring 13 = .ok (.goto 22, 3) := by decide +kernel
theorem dX5_bring_16 : decode cX5_bring 16 = .ok (.aload_n 0, 1) := by decide +kernel
theorem dX5_bring_17 : decode cX5_bring 17 = .ok (.getfield 7, 3) := by decide +kernel
theorem dX5_bring_20 : decode cX5_bring 20 = .ok (.iconst 2, 1) := by decide +kernel
theorem dX5_bring_21 : decode cX5_bring 21 = .ok (.iaload, 1) := by decide +kernel
theorem dX5_bring_22 : decode cX5_bring 22 = .ok (.iload_n 1, 1) := by decide +kernel
theorem dX5_bring_23 : decode cX5_bring 23 = .ok (.iadd, 1) := by decide +kernel
theorem dX5_bring_24 : decode cX5_bring 24 = .ok (.sipush 9999, 3) := by decide +kernel
theorem dX5_bring_27 : decode cX5_bring 27 = .ok (.if_icmp .le 7, 3) := by decide +kernel
theorem dX5_bring_30 : decode cX5_bring 30 = .ok (.iconst 2, 1) := by decide +kernel
theorem dX5_bring_31 : decode cX5_bring 31 = .ok (.goto 4, 3) := by decide +kernel
theorem dX5_bring_34 : decode cX5_bring 34 = .ok (.iconst 0, 1) := by decide +kernel
theorem dX5_bring_35 : decode cX5_bring 35 = .ok (.invokevirtual 56, 3) := by decide +kernel
theorem dX5_bring_38 : decode cX5_bring 38 = .ok (.ifCond .ne 5, 3) := by decide +kernel
theorem dX5_bring_41 : decode cX5_bring 41 = .ok (.iconst 0, 1) := by decide +kernel
theorem dX5_bring_42 : decode cX5_bring 42 = .ok (.ireturn, 1) := by decide +kernel
theorem dX5_bring_43 : decode cX5_bring 43 = .ok (.aload_n 0, 1) := by decide +kernel
theorem dX5_bring_44 : decode cX5_bring 44 = .ok (.invokevirtual 60, 3) := by decide +kernel
theorem dX5_bring_47 : decode cX5_bring 47 = .ok (.aload_n 0, 1) := by decide +kernel
theorem dX5_bring_48 : decode cX5_bring 48 = .ok (.getfield 7, 3) := by decide +kernel
theorem dX5_bring_51 : decode cX5_bring 51 = .ok (.iconst 2, 1) := by decide +kernel
theorem dX5_bring_52 : decode cX5_bring 52 = .ok (.dup2, 1) := by decide +kernel
theorem dX5_bring_53 : decode cX5_bring 53 = .ok (.iaload, 1) := by decide +kernel
theorem dX5_bring_54 : decode cX5_bring 54 = .ok (.iload_n 1, 1) := by decide +kernel
theorem dX5_bring_55 : decode cX5_bring 55 = .ok (.iadd, 1) := by decide +kernel
theorem dX5_bring_56 : decode cX5_bring 56 = .ok (.iastore, 1) := by decide +kernel
theorem dX5_bring_57 : decode cX5_bring 57 = .ok (.aload_n 0, 1) := by decide +kernel
theorem dX5_bring_58 : decode cX5_bring 58 = .ok (.getfield 7, 3) := by decide +kernel
theorem dX5_bring_61 : decode cX5_bring 61 = .ok (.iconst 0, 1) := by decide +kernel
theorem dX5_bring_62 : decode cX5_bring 62 = .ok (.dup2, 1) := by decide +kernel
theorem dX5_bring_63 : decode cX5_bring 63 = .ok (.iaload, 1) := by decide +kernel
theorem dX5_bring_64 : decode cX5_bring 64 = .ok (.iload_n 1, 1) := by decide +kernel
theorem dX5_bring_65 : decode cX5_bring 65 = .ok (.iadd, 1) := by decide +kernel
theorem dX5_bring_66 : decode cX5_bring 66 = .ok (.iastore, 1) := by decide +kernel
theorem dX5_bring_67 : decode cX5_bring 67 = .ok (.aload_n 0, 1) := by decide +kernel
theorem dX5_bring_68 : decode cX5_bring 68 = .ok (.getfield 7, 3) := by decide +kernel
theorem dX5_bring_71 : decode cX5_bring 71 = .ok (.iconst 0, 1) := by decide +kernel
theorem dX5_bring_72 : decode cX5_bring 72 = .ok (.iaload, 1) := by decide +kernel
theorem dX5_bring_73 : decode cX5_bring 73 = .ok (.ireturn, 1) := by decide +kernel
set_option maxRecDepth 100000 in
set_option maxHeartbeats 4000000 in
theorem mt_X5_bring (r0 : Option Nat) (i1 : Int32) (S0 : PH) (y : Int32 × PH) (h : m_X5_bring r0 i1 S0 = some y) : MT yX5_bring (.code yX5_bring cX5_bring 2 (Option.some FieldType.int)) 2 44 0 0 [va_rf r0, .int i1] S0 (oQ e_I (qN y)) := by
  refine mt_of (own := RX5) (l0 := [(0, va_rf r0), (1, .int i1)]) rfl rfl (by cases r0 <;> exact Nat.le_of_ble_eq_true rfl) (by cases r0 <;> rfl) ?_
  intro Z hC hQ hE hN
  have J_35 : ∀ (v13 : Option Nat) (v14 : Int32) (S15 : PH), j_X5_bring_35 r0 i1 v13 v14 S15 = some y → PX Z 2 S15 0 0 35 [(0, va_rf r0), (1, .int i1)] [.int v14, va_rf v13] := by
    intro v13 v14 S15 h
    unfold j_X5_bring_35 at h
    replace h := dr_el h
    obtain ⟨a16, ea17, ha18, h⟩ := h
    replace h := bd_el h
    obtain ⟨v19, S20, hb21, h⟩ := h
    refine x_callV hC (st := []) (mt_X5_holds _ _ _ _ hb21) ea17 ha18 kf_5 q_915 q_917 qs_43 q_7 q_918 ⟨rfl, hy_X5_holds⟩ ⟨Nat.le_of_ble_eq_true rfl, Nat.le_of_ble_eq_true rfl⟩ ⟨Nat.le_of_ble_eq_true rfl, Nat.le_of_ble_eq_true rfl⟩ rfl (Nat.le_of_ble_eq_true rfl) dX5_bring_35 (r_N ?_) r_NX
    show PX Z 2 S20 0 0 38 [(0, va_rf r0), (1, .int i1)] [.int v19]
    refine x_if_ne (t := 43) hC dX5_bring_38 (by decide) (fun c22 => ?_) (fun c22 => ?_)
    · replace h := it_f c22 h
      refine x_aload_n (i := 0) hC dX5_bring_43 rfl 0 rfl ?_
      replace h := dr_el h
      obtain ⟨a23, ea24, ha25, h⟩ := h
      replace h := bd_el h
      obtain ⟨v26, S27, hb28, h⟩ := h
      refine x_callV hC (st := []) (mt_X5_save _ _ _ hb28) ea24 ha25 kf_5 q_919 q_921 qs_44 q_7 q_922 ⟨rfl, hy_X5_save⟩ ⟨Nat.le_of_ble_eq_true rfl, Nat.le_of_ble_eq_true rfl⟩ ⟨Nat.le_of_ble_eq_true rfl, Nat.le_of_ble_eq_true rfl⟩ rfl (Nat.le_of_ble_eq_true rfl) dX5_bring_44 (r_N ?_) r_NX
      show PX Z 2 S27 0 0 47 [(0, va_rf r0), (1, .int i1)] []
      refine x_aload_n (i := 0) hC dX5_bring_47 rfl 0 rfl ?_
      replace h := dr_el h
      obtain ⟨a29, ea30, ha31, h⟩ := h
      refine x_getR hC ea30 ha31 kf_5 1 (by decide) rfl q_864 dX5_bring_48 ?_
      refine x_iconst (v := (2 : Int32)) hC dX5_bring_51 (by decide) ?_
      refine x_dup2 hC dX5_bring_52 rfl (c_rf (p_R S27 a29 1)) ?_
      replace h := dr_el h
      obtain ⟨a32, ea33, ha34, h⟩ := h
      replace h := ck_el h
      obtain ⟨hc35, h⟩ := h
      refine x_iaload hC ea33 ha34 hc35 dX5_bring_53 ?_
      refine x_tI (b := (p_I S27 a32 2)) rfl ?_
      refine x_iload_n (i := 1) hC dX5_bring_54 rfl 1 rfl ?_
      refine x_iadd hC dX5_bring_55 ?_
      replace h := ck_el h
      obtain ⟨hc36, h⟩ := h
      replace h := le_el h
      obtain ⟨S37, hx38, h⟩ := h
      refine x_iastore hC ea33 ha34 hc36 dX5_bring_56 ?_
      refine x_tS hx38 ?_
      refine x_aload_n (i := 0) hC dX5_bring_57 rfl 0 rfl ?_
      replace h := dr_el h
      obtain ⟨a39, ea40, ha41, h⟩ := h
      refine x_getR hC ea40 ha41 kf_5 1 (by decide) rfl q_864 dX5_bring_58 ?_
      refine x_iconst (v := (0 : Int32)) hC dX5_bring_61 (by decide) ?_
      refine x_dup2 hC dX5_bring_62 rfl (c_rf (p_R S37 a39 1)) ?_
      replace h := dr_el h
      obtain ⟨a42, ea43, ha44, h⟩ := h
      replace h := ck_el h
      obtain ⟨hc45, h⟩ := h
      refine x_iaload hC ea43 ha44 hc45 dX5_bring_63 ?_
      refine x_tI (b := (p_I S37 a42 0)) rfl ?_
      refine x_iload_n (i := 1) hC dX5_bring_64 rfl 1 rfl ?_
      refine x_iadd hC dX5_bring_65 ?_
      replace h := ck_el h
      obtain ⟨hc46, h⟩ := h
      replace h := le_el h
      obtain ⟨S47, hx48, h⟩ := h
      refine x_iastore hC ea43 ha44 hc46 dX5_bring_66 ?_
      refine x_tS hx48 ?_
      refine x_aload_n (i := 0) hC dX5_bring_67 rfl 0 rfl ?_
      replace h := dr_el h
      obtain ⟨a49, ea50, ha51, h⟩ := h
      refine x_getR hC ea50 ha51 kf_5 1 (by decide) rfl q_864 dX5_bring_68 ?_
      refine x_iconst (v := (0 : Int32)) hC dX5_bring_71 (by decide) ?_
      replace h := dr_el h
      obtain ⟨a52, ea53, ha54, h⟩ := h
      replace h := ck_el h
      obtain ⟨hc55, h⟩ := h
      refine x_iaload hC ea53 ha54 hc55 dX5_bring_72 ?_
      refine x_tI (b := (p_I S47 a52 0)) rfl ?_
      exact x_iret hC hQ (z_N (Option.some.inj h)) (Nat.le_of_ble_eq_true rfl) (Nat.le_of_ble_eq_true rfl) dX5_bring_73
    · replace h := it_t c22 h
      refine x_iconst (v := (0 : Int32)) hC dX5_bring_41 (by decide) ?_
      exact x_iret hC hQ (z_N (Option.some.inj h)) (Nat.le_of_ble_eq_true rfl) (Nat.le_of_ble_eq_true rfl) dX5_bring_42
  unfold m_X5_bring at h
  refine x_aload_n (i := 0) hC dX5_bring_0 rfl 0 rfl ?_
  refine x_iload_n (i := 1) hC dX5_bring_1 rfl 1 rfl ?_
  refine x_iconst (v := (1 : Int32)) hC dX5_bring_2 (by decide) ?_
  refine x_sipush (v := (999 : Int32)) hC dX5_bring_3 (by decide) ?_
  replace h := bd_el h
  obtain ⟨v1, S2, hb3, h⟩ := h
  refine x_callS hC (st := [va_rf r0]) (mt_X5_in _ _ _ _ _ hb3) q_912 q_913 q_7 q_914 hy_X5_in ⟨Nat.le_of_ble_eq_true rfl, Nat.le_of_ble_eq_true rfl⟩ ⟨Nat.le_of_ble_eq_true rfl, Nat.le_of_ble_eq_true rfl⟩ rfl (Nat.le_of_ble_eq_true rfl) dX5_bring_6 (r_N ?_) r_NX
  show PX Z 2 S2 0 0 9 [(0, va_rf r0), (1, .int i1)] [.int v1, va_rf r0]
  refine x_if_ne (t := 16) hC dX5_bring_9 (by decide) (fun c4 => ?_) (fun c4 => ?_)
  · replace h := it_f c4 h
    refine x_aload_n (i := 0) hC dX5_bring_16 rfl 0 rfl ?_
    replace h := dr_el h
    obtain ⟨a5, ea6, ha7, h⟩ := h
    refine x_getR hC ea6 ha7 kf_5 1 (by decide) rfl q_864 dX5_bring_17 ?_
    refine x_iconst (v := (2 : Int32)) hC dX5_bring_20 (by decide) ?_
    replace h := dr_el h
    obtain ⟨a8, ea9, ha10, h⟩ := h
    replace h := ck_el h
    obtain ⟨hc11, h⟩ := h
    refine x_iaload hC ea9 ha10 hc11 dX5_bring_21 ?_
    refine x_tI (b := (p_I S2 a8 2)) rfl ?_
    refine x_iload_n (i := 1) hC dX5_bring_22 rfl 1 rfl ?_
    refine x_iadd hC dX5_bring_23 ?_
    refine x_sipush (v := (9999 : Int32)) hC dX5_bring_24 (by decide) ?_
    refine x_icmp_le (t := 34) hC dX5_bring_27 (by decide) (fun c12 => ?_) (fun c12 => ?_)
    · replace h := it_t c12 h
      refine x_iconst (v := (0 : Int32)) hC dX5_bring_34 (by decide) ?_
      exact J_35 _ _ _ h
    · replace h := it_f c12 h
      refine x_iconst (v := (2 : Int32)) hC dX5_bring_30 (by decide) ?_
      refine x_goto (t := 35) hC dX5_bring_31 (by decide) ?_
      exact J_35 _ _ _ h
  · replace h := it_t c4 h
    refine x_iconst (v := (1 : Int32)) hC dX5_bring_12 (by decide) ?_
    refine x_goto (t := 35) hC dX5_bring_13 (by decide) ?_
    exact J_35 _ _ _ h
theorem dX5_weekGoes_0 : decode cX5_weekGoes 0 = .ok (.iconst 0, 1) := by decide +kernel
theorem dX5_weekGoes_1 : decode cX5_weekGoes 1 = .ok (.istore_n 1, 1) := by decide +kernel
theorem dX5_weekGoes_2 : decode cX5_weekGoes 2 = .ok (.iconst 0, 1) := by decide +kernel
theorem dX5_weekGoes_3 : decode cX5_weekGoes 3 = .ok (.istore_n 2, 1) := by decide +kernel
theorem dX5_weekGoes_4 : decode cX5_weekGoes 4 = .ok (.iload_n 2, 1) := by decide +kernel
theorem dX5_weekGoes_5 : decode cX5_weekGoes 5 = .ok (.bipush 8, 2) := by decide +kernel
theorem dX5_weekGoes_7 : decode cX5_weekGoes 7 = .ok (.if_icmp .ge 47, 3) := by decide +kernel
theorem dX5_weekGoes_10 : decode cX5_weekGoes 10 = .ok (.aload_n 0, 1) := by decide +kernel
theorem dX5_weekGoes_11 : decode cX5_weekGoes 11 = .ok (.getfield 7, 3) := by decide +kernel
theorem dX5_weekGoes_14 : decode cX5_weekGoes 14 = .ok (.iconst 0, 1) := by decide +kernel
theorem dX5_weekGoes_15 : decode cX5_weekGoes 15 = .ok (.iaload, 1) := by decide +kernel
theorem dX5_weekGoes_16 : decode cX5_weekGoes 16 = .ok (.aload_n 0, 1) := by decide +kernel
theorem dX5_weekGoes_17 : decode cX5_weekGoes 17 = .ok (.getfield 7, 3) := by decide +kernel
theorem dX5_weekGoes_20 : decode cX5_weekGoes 20 = .ok (.bipush 6, 2) := by decide +kernel
theorem dX5_weekGoes_22 : decode cX5_weekGoes 22 = .ok (.iaload, 1) := by decide +kernel
theorem dX5_weekGoes_23 : decode cX5_weekGoes 23 = .ok (.if_icmp .lt 25, 3) := by decide +kernel
theorem dX5_weekGoes_26 : decode cX5_weekGoes 26 = .ok (.aload_n 0, 1) := by decide +kernel
theorem dX5_weekGoes_27 : decode cX5_weekGoes 27 = .ok (.iload_n 2, 1) := by decide +kernel
theorem dX5_weekGoes_28 : decode cX5_weekGoes 28 = .ok (.aload_n 0, 1) := by decide +kernel
theorem dX5_weekGoes_29 : decode cX5_weekGoes 29 = .ok (.getfield 7, 3) := by decide +kernel
theorem dX5_weekGoes_32 : decode cX5_weekGoes 32 = .ok (.bipush 6, 2) := by decide +kernel
theorem dX5_weekGoes_34 : decode cX5_weekGoes 34 = .ok (.iaload, 1) := by decide +kernel
theorem dX5_weekGoes_35 : decode cX5_weekGoes 35 = .ok (.invokevirtual 73, 3) := by decide +kernel
theorem dX5_weekGoes_38 : decode cX5_weekGoes 38 = .ok (.iload_n 1, 1) := by decide +kernel
theorem dX5_weekGoes_39 : decode cX5_weekGoes 39 = .ok (.aload_n 0, 1) := by decide +kernel
theorem dX5_weekGoes_40 : decode cX5_weekGoes 40 = .ok (.getfield 7, 3) := by decide +kernel
theorem dX5_weekGoes_43 : decode cX5_weekGoes 43 = .ok (.bipush 6, 2) := by decide +kernel
theorem dX5_weekGoes_45 : decode cX5_weekGoes 45 = .ok (.iaload, 1) := by decide +kernel
theorem dX5_weekGoes_46 : decode cX5_weekGoes 46 = .ok (.iadd, 1) := by decide +kernel
theorem dX5_weekGoes_47 : decode cX5_weekGoes 47 = .ok (.istore_n 1, 1) := by decide +kernel
theorem dX5_weekGoes_48 : decode cX5_weekGoes 48 = .ok (.iinc 2 1, 3) := by decide +kernel
theorem dX5_weekGoes_51 : decode cX5_weekGoes 51 = .ok (.goto (-47), 3) := by decide +kernel
theorem dX5_weekGoes_54 : decode cX5_weekGoes 54 = .ok (.aload_n 0, 1) := by decide +kernel
theorem dX5_weekGoes_55 : decode cX5_weekGoes 55 = .ok (.getfield 7, 3) := by decide +kernel
theorem dX5_weekGoes_58 : decode cX5_weekGoes 58 = .ok (.iconst 1, 1) := by decide +kernel
theorem dX5_weekGoes_59 : decode cX5_weekGoes 59 = .ok (.dup2, 1) := by decide +kernel
theorem dX5_weekGoes_60 : decode cX5_weekGoes 60 = .ok (.iaload, 1) := by decide +kernel
theorem dX5_weekGoes_61 : decode cX5_weekGoes 61 = .ok (.iconst 1, 1) := by decide +kernel
theorem dX5_weekGoes_62 : decode cX5_weekGoes 62 = .ok (.iadd, 1) := by decide +kernel
theorem dX5_weekGoes_63 : decode cX5_weekGoes 63 = .ok (.iastore, 1) := by decide +kernel
theorem dX5_weekGoes_64 : decode cX5_weekGoes 64 = .ok (.iload_n 1, 1) := by decide +kernel
theorem dX5_weekGoes_65 : decode cX5_weekGoes 65 = .ok (.ireturn, 1) := by decide +kernel
set_option maxRecDepth 100000 in
set_option maxHeartbeats 4000000 in
theorem mt_X5_weekGoes (r0 : Option Nat) (S0 : PH) (y : Int32 × PH) (h : m_X5_weekGoes r0 S0 = some y) : MT yX5_weekGoes (.code yX5_weekGoes cX5_weekGoes 3 (Option.some FieldType.int)) 1 22 0 0 [va_rf r0] S0 (oQ e_I (qN y)) := by
  refine mt_of (own := RX5) (l0 := [(0, va_rf r0)]) rfl rfl (by cases r0 <;> exact Nat.le_of_ble_eq_true rfl) (by cases r0 <;> rfl) ?_
  intro Z hC hQ hE hN
  unfold m_X5_weekGoes at h
  refine x_iconst (v := (0 : Int32)) hC dX5_weekGoes_0 (by decide) ?_
  refine x_istore_n (i := 1) (l' := [(1, .int (0 : Int32)), (0, va_rf r0)]) hC dX5_weekGoes_1 rfl (⟨fun _ => c_rf r0, trivial⟩) (by decide) rfl ?_
  refine x_iconst (v := (0 : Int32)) hC dX5_weekGoes_2 (by decide) ?_
  refine x_istore_n (i := 2) (l' := [(2, .int (0 : Int32)), (1, .int (0 : Int32)), (0, va_rf r0)]) hC dX5_weekGoes_3 rfl (⟨fun _ => rfl, ⟨fun _ => c_rf r0, trivial⟩⟩) (by decide) rfl ?_
  refine x_sub (l' := [(0, va_rf r0), (1, .int (0 : Int32)), (2, .int (0 : Int32))]) [2, 1, 0] rfl ?_
  refine lp_sim (P := fun (t : (Int32 × Int32 × PH)) => PX Z 3 t.2.2 0 0 4 [(0, va_rf r0), (1, .int t.1), (2, .int t.2.1)] []) (G := fun r => r = y) ?_ h rfl
  clear h
  intro t x_4 h hg_4
  obtain ⟨v1, v2, S3⟩ := t
  show PX Z 3 S3 0 0 4 [(0, va_rf r0), (1, .int v1), (2, .int v2)] []
  unfold st_X5_weekGoes_4 at h
  refine x_iload_n (i := 2) hC dX5_weekGoes_4 rfl 2 rfl ?_
  refine x_bipush (v := (8 : Int32)) hC dX5_weekGoes_5 (by decide) ?_
  refine x_icmp_ge (t := 54) hC dX5_weekGoes_7 (by decide) (fun c4 => ?_) (fun c4 => ?_)
  · replace h := it_t c4 h
    replace h := ir_x h hg_4
    refine x_aload_n (i := 0) hC dX5_weekGoes_54 rfl 0 rfl ?_
    replace h := dr_el h
    obtain ⟨a5, ea6, ha7, h⟩ := h
    refine x_getR hC ea6 ha7 kf_5 1 (by decide) rfl q_864 dX5_weekGoes_55 ?_
    refine x_iconst (v := (1 : Int32)) hC dX5_weekGoes_58 (by decide) ?_
    refine x_dup2 hC dX5_weekGoes_59 rfl (c_rf (p_R S3 a5 1)) ?_
    replace h := dr_el h
    obtain ⟨a8, ea9, ha10, h⟩ := h
    replace h := ck_el h
    obtain ⟨hc11, h⟩ := h
    refine x_iaload hC ea9 ha10 hc11 dX5_weekGoes_60 ?_
    refine x_tI (b := (p_I S3 a8 1)) rfl ?_
    refine x_iconst (v := (1 : Int32)) hC dX5_weekGoes_61 (by decide) ?_
    refine x_iadd hC dX5_weekGoes_62 ?_
    replace h := ck_el h
    obtain ⟨hc12, h⟩ := h
    replace h := le_el h
    obtain ⟨S13, hx14, h⟩ := h
    refine x_iastore hC ea9 ha10 hc12 dX5_weekGoes_63 ?_
    refine x_tS hx14 ?_
    refine x_iload_n (i := 1) hC dX5_weekGoes_64 rfl 1 rfl ?_
    exact x_iret hC hQ (z_N (Option.some.inj h)) (Nat.le_of_ble_eq_true rfl) (Nat.le_of_ble_eq_true rfl) dX5_weekGoes_65
  · replace h := it_f c4 h
    refine x_aload_n (i := 0) hC dX5_weekGoes_10 rfl 0 rfl ?_
    replace h := dr_el h
    obtain ⟨a15, ea16, ha17, h⟩ := h
    refine x_getR hC ea16 ha17 kf_5 1 (by decide) rfl q_864 dX5_weekGoes_11 ?_
    refine x_iconst (v := (0 : Int32)) hC dX5_weekGoes_14 (by decide) ?_
    replace h := dr_el h
    obtain ⟨a18, ea19, ha20, h⟩ := h
    replace h := ck_el h
    obtain ⟨hc21, h⟩ := h
    refine x_iaload hC ea19 ha20 hc21 dX5_weekGoes_15 ?_
    refine x_tI (b := (p_I S3 a18 0)) rfl ?_
    refine x_aload_n (i := 0) hC dX5_weekGoes_16 rfl 0 rfl ?_
    refine x_getR hC ea16 ha17 kf_5 1 (by decide) rfl q_864 dX5_weekGoes_17 ?_
    refine x_bipush (v := (6 : Int32)) hC dX5_weekGoes_20 (by decide) ?_
    replace h := ck_el h
    obtain ⟨hc22, h⟩ := h
    refine x_iaload hC ea19 ha20 hc22 dX5_weekGoes_22 ?_
    refine x_tI (b := (p_I S3 a18 6)) rfl ?_
    refine x_icmp_lt (t := 48) hC dX5_weekGoes_23 (by decide) (fun c23 => ?_) (fun c23 => ?_)
    · replace h := it_t c23 h
      refine x_iinc (i := 2) (v := (v2 + (1 : Int32))) (l' := [(2, .int (v2 + (1 : Int32))), (0, va_rf r0), (1, .int v1)]) hC dX5_weekGoes_48 2 rfl rfl (⟨fun _ => c_rf r0, ⟨fun _ => rfl, ⟨fun _ => rfl, trivial⟩⟩⟩) (by decide) rfl ?_
      refine x_goto (t := 4) hC dX5_weekGoes_51 (by decide) ?_
      refine x_sub (l' := [(0, va_rf r0), (1, .int v1), (2, .int (v2 + (1 : Int32)))]) [1, 2, 0] rfl ?_
      have hb := bk_x h hg_4
      exact hb
    · replace h := it_f c23 h
      refine x_aload_n (i := 0) hC dX5_weekGoes_26 rfl 0 rfl ?_
      refine x_iload_n (i := 2) hC dX5_weekGoes_27 rfl 2 rfl ?_
      refine x_aload_n (i := 0) hC dX5_weekGoes_28 rfl 0 rfl ?_
      refine x_getR hC ea16 ha17 kf_5 1 (by decide) rfl q_864 dX5_weekGoes_29 ?_
      refine x_bipush (v := (6 : Int32)) hC dX5_weekGoes_32 (by decide) ?_
      replace h := ck_el h
      obtain ⟨hc24, h⟩ := h
      refine x_iaload hC ea19 ha20 hc24 dX5_weekGoes_34 ?_
      refine x_tI (b := (p_I S3 a18 6)) rfl ?_
      replace h := bd_el h
      obtain ⟨v25, S26, hb27, h⟩ := h
      refine x_callV hC (st := []) (mt_X5_gets _ _ _ _ _ hb27) ea16 ha17 kf_5 q_961 q_963 qs_48 q_7 q_964 ⟨rfl, hy_X5_gets⟩ ⟨Nat.le_of_ble_eq_true rfl, Nat.le_of_ble_eq_true rfl⟩ ⟨Nat.le_of_ble_eq_true rfl, Nat.le_of_ble_eq_true rfl⟩ rfl (Nat.le_of_ble_eq_true rfl) dX5_weekGoes_35 (r_N ?_) r_NX
      show PX Z 3 S26 0 0 38 [(0, va_rf r0), (1, .int v1), (2, .int v2)] []
      refine x_iload_n (i := 1) hC dX5_weekGoes_38 rfl 1 rfl ?_
      refine x_aload_n (i := 0) hC dX5_weekGoes_39 rfl 0 rfl ?_
      replace h := dr_el h
      obtain ⟨a28, ea29, ha30, h⟩ := h
      refine x_getR hC ea29 ha30 kf_5 1 (by decide) rfl q_864 dX5_weekGoes_40 ?_
      refine x_bipush (v := (6 : Int32)) hC dX5_weekGoes_43 (by decide) ?_
      replace h := dr_el h
      obtain ⟨a31, ea32, ha33, h⟩ := h
      replace h := ck_el h
      obtain ⟨hc34, h⟩ := h
      refine x_iaload hC ea32 ha33 hc34 dX5_weekGoes_45 ?_
      refine x_tI (b := (p_I S26 a31 6)) rfl ?_
      refine x_iadd hC dX5_weekGoes_46 ?_
      replace h := le_el h
      obtain ⟨x35, hx36, h⟩ := h
      refine x_tI hx36 ?_
      refine x_istore_n (i := 1) (l' := [(1, .int x35), (0, va_rf r0), (2, .int v2)]) hC dX5_weekGoes_47 rfl (⟨fun _ => c_rf r0, ⟨fun _ => rfl, ⟨fun _ => rfl, trivial⟩⟩⟩) (by decide) rfl ?_
      refine x_iinc (i := 2) (v := (v2 + (1 : Int32))) (l' := [(2, .int (v2 + (1 : Int32))), (1, .int x35), (0, va_rf r0)]) hC dX5_weekGoes_48 2 rfl rfl (⟨fun _ => rfl, ⟨fun _ => c_rf r0, ⟨fun _ => rfl, trivial⟩⟩⟩) (by decide) rfl ?_
      refine x_goto (t := 4) hC dX5_weekGoes_51 (by decide) ?_
      refine x_sub (l' := [(0, va_rf r0), (1, .int x35), (2, .int (v2 + (1 : Int32)))]) [2, 1, 0] rfl ?_
      have hb := bk_x h hg_4
      exact hb
theorem dX5_week_0 : decode cX5_week 0 = .ok (.aload_n 0, 1) := by decide +kernel
theorem dX5_week_1 : decode cX5_week 1 = .ok (.aload_n 0, 1) := by decide +kernel
theorem dX5_week_2 : decode cX5_week 2 = .ok (.getfield 7, 3) := by decide +kernel
theorem dX5_week_5 : decode cX5_week 5 = .ok (.iconst 1, 1) := by decide +kernel
theorem dX5_week_6 : decode cX5_week 6 = .ok (.iaload, 1) := by decide +kernel
theorem dX5_week_7 : decode cX5_week 7 = .ok (.sipush 999, 3) := by decide +kernel
theorem dX5_week_10 : decode cX5_week 10 = .ok (.if_icmp .ge 7, 3) := by decide +kernel
theorem dX5_week_13 : decode cX5_week 13 = .ok (.iconst 0, 1) := by decide +kernel
theorem dX5_week_14 : decode cX5_week 14 = .ok (.goto 4, 3) := by decide +kernel
theorem dX5_week_17 : decode cX5_week 17 = .ok (.iconst 1, 1) := by decide +kernel
theorem dX5_week_18 : decode cX5_week 18 = .ok (.invokevirtual 56, 3) := by decide +kernel
theorem dX5_week_21 : decode cX5_week 21 = .ok (.ifCond .ne 5, 3) := by decide +kernel
theorem dX5_week_24 : decode cX5_week 24 = .ok (.iconst 0, 1) := by decide +kernel
theorem dX5_week_25 : decode cX5_week 25 = .ok (.ireturn, 1) := by decide +kernel
theorem dX5_week_26 : decode cX5_week 26 = .ok (.aload_n 0, 1) := by decide +kernel
theorem dX5_week_27 : decode cX5_week 27 = .ok (.invokevirtual 60, 3) := by decide +kernel
theorem dX5_week_30 : decode cX5_week 30 = .ok (.aload_n 0, 1) := by decide +kernel
theorem dX5_week_31 : decode cX5_week 31 = .ok (.invokevirtual 76, 3) := by decide +kernel
theorem dX5_week_34 : decode cX5_week 34 = .ok (.ireturn, 1) := by decide +kernel
set_option maxRecDepth 100000 in
set_option maxHeartbeats 4000000 in
theorem mt_X5_week (r0 : Option Nat) (S0 : PH) (y : Int32 × PH) (h : m_X5_week r0 S0 = some y) : MT yX5_week (.code yX5_week cX5_week 1 (Option.some FieldType.int)) 2 44 0 0 [va_rf r0] S0 (oQ e_I (qN y)) := by
  refine mt_of (own := RX5) (l0 := [(0, va_rf r0)]) rfl rfl (by cases r0 <;> exact Nat.le_of_ble_eq_true rfl) (by cases r0 <;> rfl) ?_
  intro Z hC hQ hE hN
  have J_18 : ∀ (v9 : Option Nat) (v10 : Int32) (S11 : PH), j_X5_week_18 r0 v9 v10 S11 = some y → PX Z 1 S11 0 0 18 [(0, va_rf r0)] [.int v10, va_rf v9] := by
    intro v9 v10 S11 h
    unfold j_X5_week_18 at h
    replace h := dr_el h
    obtain ⟨a12, ea13, ha14, h⟩ := h
    replace h := bd_el h
    obtain ⟨v15, S16, hb17, h⟩ := h
    refine x_callV hC (st := []) (mt_X5_holds _ _ _ _ hb17) ea13 ha14 kf_5 q_915 q_917 qs_43 q_7 q_918 ⟨rfl, hy_X5_holds⟩ ⟨Nat.le_of_ble_eq_true rfl, Nat.le_of_ble_eq_true rfl⟩ ⟨Nat.le_of_ble_eq_true rfl, Nat.le_of_ble_eq_true rfl⟩ rfl (Nat.le_of_ble_eq_true rfl) dX5_week_18 (r_N ?_) r_NX
    show PX Z 1 S16 0 0 21 [(0, va_rf r0)] [.int v15]
    refine x_if_ne (t := 26) hC dX5_week_21 (by decide) (fun c18 => ?_) (fun c18 => ?_)
    · replace h := it_f c18 h
      refine x_aload_n (i := 0) hC dX5_week_26 rfl 0 rfl ?_
      replace h := dr_el h
      obtain ⟨a19, ea20, ha21, h⟩ := h
      replace h := bd_el h
      obtain ⟨v22, S23, hb24, h⟩ := h
      refine x_callV hC (st := []) (mt_X5_save _ _ _ hb24) ea20 ha21 kf_5 q_919 q_921 qs_44 q_7 q_922 ⟨rfl, hy_X5_save⟩ ⟨Nat.le_of_ble_eq_true rfl, Nat.le_of_ble_eq_true rfl⟩ ⟨Nat.le_of_ble_eq_true rfl, Nat.le_of_ble_eq_true rfl⟩ rfl (Nat.le_of_ble_eq_true rfl) dX5_week_27 (r_N ?_) r_NX
      show PX Z 1 S23 0 0 30 [(0, va_rf r0)] []
      refine x_aload_n (i := 0) hC dX5_week_30 rfl 0 rfl ?_
      replace h := dr_el h
      obtain ⟨a25, ea26, ha27, h⟩ := h
      replace h := bd_el h
      obtain ⟨v28, S29, hb30, h⟩ := h
      refine x_callV hC (st := []) (mt_X5_weekGoes _ _ _ hb30) ea26 ha27 kf_5 q_957 q_959 qs_47 q_7 q_960 ⟨rfl, hy_X5_weekGoes⟩ ⟨Nat.le_of_ble_eq_true rfl, Nat.le_of_ble_eq_true rfl⟩ ⟨Nat.le_of_ble_eq_true rfl, Nat.le_of_ble_eq_true rfl⟩ rfl (Nat.le_of_ble_eq_true rfl) dX5_week_31 (r_N ?_) r_NX
      show PX Z 1 S29 0 0 34 [(0, va_rf r0)] [.int v28]
      exact x_iret hC hQ (z_N (Option.some.inj h)) (Nat.le_of_ble_eq_true rfl) (Nat.le_of_ble_eq_true rfl) dX5_week_34
    · replace h := it_t c18 h
      refine x_iconst (v := (0 : Int32)) hC dX5_week_24 (by decide) ?_
      exact x_iret hC hQ (z_N (Option.some.inj h)) (Nat.le_of_ble_eq_true rfl) (Nat.le_of_ble_eq_true rfl) dX5_week_25
  unfold m_X5_week at h
  refine x_aload_n (i := 0) hC dX5_week_0 rfl 0 rfl ?_
  refine x_aload_n (i := 0) hC dX5_week_1 rfl 0 rfl ?_
  replace h := dr_el h
  obtain ⟨a1, ea2, ha3, h⟩ := h
  refine x_getR hC ea2 ha3 kf_5 1 (by decide) rfl q_864 dX5_week_2 ?_
  refine x_iconst (v := (1 : Int32)) hC dX5_week_5 (by decide) ?_
  replace h := dr_el h
  obtain ⟨a4, ea5, ha6, h⟩ := h
  replace h := ck_el h
  obtain ⟨hc7, h⟩ := h
  refine x_iaload hC ea5 ha6 hc7 dX5_week_6 ?_
  refine x_tI (b := (p_I S0 a4 1)) rfl ?_
  refine x_sipush (v := (999 : Int32)) hC dX5_week_7 (by decide) ?_
  refine x_icmp_ge (t := 17) hC dX5_week_10 (by decide) (fun c8 => ?_) (fun c8 => ?_)
  · replace h := it_t c8 h
    refine x_iconst (v := (1 : Int32)) hC dX5_week_17 (by decide) ?_
    exact J_18 _ _ _ h
  · replace h := it_f c8 h
    refine x_iconst (v := (0 : Int32)) hC dX5_week_13 (by decide) ?_
    refine x_goto (t := 18) hC dX5_week_14 (by decide) ?_
    exact J_18 _ _ _ h
theorem dX5_reasonFor_0 : decode cX5_reasonFor 0 = .ok (.aload_n 0, 1) := by decide +kernel
theorem dX5_reasonFor_1 : decode cX5_reasonFor 1 = .ok (.iload_n 2, 1) := by decide +kernel
theorem dX5_reasonFor_2 : decode cX5_reasonFor 2 = .ok (.iconst 4, 1) := by decide +kernel
theorem dX5_reasonFor_3 : decode cX5_reasonFor 3 = .ok (.invokevirtual 31, 3) := by decide +kernel
theorem dX5_reasonFor_6 : decode cX5_reasonFor 6 = .ok (.ifCond .le 5, 3) := by decide +kernel
theorem dX5_reasonFor_9 : decode cX5_reasonFor 9 = .ok (.iconst 1, 1) := by decide +kernel
theorem dX5_reasonFor_10 : decode cX5_reasonFor 10 = .ok (.ireturn, 1) := by decide +kernel
theorem dX5_reasonFor_11 : decode cX5_reasonFor 11 = .ok (.aload_n 0, 1) := by decide +kernel
theorem dX5_reasonFor_12 : decode cX5_reasonFor 12 = .ok (.iload_n 1, 1) := by decide +kernel
theorem dX5_reasonFor_13 : decode cX5_reasonFor 13 = .ok (.iload_n 2, 1) := by decide +kernel
theorem dX5_reasonFor_14 : decode cX5_reasonFor 14 = .ok (.invokevirtual 35, 3) := by decide +kernel
theorem dX5_reasonFor_17 : decode cX5_reasonFor 17 = .ok (.iconst (-1), 1) := by decide +kernel
theorem dX5_reasonFor_18 : decode cX5_reasonFor 18 = .ok (.if_icmp .eq 5, 3) := by decide +kernel
theorem dX5_reasonFor_21 : decode cX5_reasonFor 21 = .ok (.iconst 2, 1) := by decide +kernel
theorem dX5_reasonFor_22 : decode cX5_reasonFor 22 = .ok (.ireturn, 1) := by decide +kernel
theorem dX5_reasonFor_23 : decode cX5_reasonFor 23 = .ok (.aload_n 0, 1) := by decide +kernel
theorem dX5_reasonFor_24 : decode cX5_reasonFor 24 = .ok (.iload_n 2, 1) := by decide +kernel
theorem dX5_reasonFor_25 : decode cX5_reasonFor 25 = .ok (.iconst 0, 1) := by decide +kernel
theorem dX5_reasonFor_26 : decode cX5_reasonFor 26 = .ok (.invokevirtual 80, 3) := by decide +kernel
theorem dX5_reasonFor_29 : decode cX5_reasonFor 29 = .ok (.invokestatic 84, 3) := by decide +kernel
theorem dX5_reasonFor_32 : decode cX5_reasonFor 32 = .ok (.aload_n 0, 1) := by decide +kernel
theorem dX5_reasonFor_33 : decode cX5_reasonFor 33 = .ok (.getfield 7, 3) := by decide +kernel
theorem dX5_reasonFor_36 : decode cX5_reasonFor 36 = .ok (.iconst 4, 1) := by decide +kernel
theorem dX5_reasonFor_37 : decode cX5_reasonFor 37 = .ok (.iaload, 1) := by decide +kernel
theorem dX5_reasonFor_38 : decode cX5_reasonFor 38 = .ok (.if_icmp .lt 5, 3) := by decide +kernel
theorem dX5_reasonFor_41 : decode cX5_reasonFor 41 = .ok (.iconst 3, 1) := by decide +kernel
theorem dX5_reasonFor_42 : decode cX5_reasonFor 42 = .ok (.ireturn, 1) := by decide +kernel
theorem dX5_reasonFor_43 : decode cX5_reasonFor 43 = .ok (.aload_n 0, 1) := by decide +kernel
theorem dX5_reasonFor_44 : decode cX5_reasonFor 44 = .ok (.iload_n 1, 1) := by decide +kernel
theorem dX5_reasonFor_45 : decode cX5_reasonFor 45 = .ok (.iload_n 2, 1) := by decide +kernel
theorem dX5_reasonFor_46 : decode cX5_reasonFor 46 = .ok (.invokevirtual 87, 3) := by decide +kernel
theorem dX5_reasonFor_49 : decode cX5_reasonFor 49 = .ok (.ifCond .eq 5, 3) := by decide +kernel
theorem dX5_reasonFor_52 : decode cX5_reasonFor 52 = .ok (.iconst 4, 1) := by decide +kernel
theorem dX5_reasonFor_53 : decode cX5_reasonFor 53 = .ok (.ireturn, 1) := by decide +kernel
theorem dX5_reasonFor_54 : decode cX5_reasonFor 54 = .ok (.aload_n 0, 1) := by decide +kernel
theorem dX5_reasonFor_55 : decode cX5_reasonFor 55 = .ok (.getfield 7, 3) := by decide +kernel
theorem dX5_reasonFor_58 : decode cX5_reasonFor 58 = .ok (.bipush 17, 2) := by decide +kernel
theorem dX5_reasonFor_60 : decode cX5_reasonFor 60 = .ok (.iload_n 1, 1) := by decide +kernel
theorem dX5_reasonFor_61 : decode cX5_reasonFor 61 = .ok (.iadd, 1) := by decide +kernel
theorem dX5_reasonFor_62 : decode cX5_reasonFor 62 = .ok (.iaload, 1) := by decide +kernel
theorem dX5_reasonFor_63 : decode cX5_reasonFor 63 = .ok (.aload_n 0, 1) := by decide +kernel
theorem dX5_reasonFor_64 : decode cX5_reasonFor 64 = .ok (.iload_n 2, 1) := by decide +kernel
theorem dX5_reasonFor_65 : decode cX5_reasonFor 65 = .ok (.iconst 0, 1) := by decide +kernel
theorem dX5_reasonFor_66 : decode cX5_reasonFor 66 = .ok (.invokevirtual 31, 3) := by decide +kernel
theorem dX5_reasonFor_69 : decode cX5_reasonFor 69 = .ok (.invokestatic 42, 3) := by decide +kernel
theorem dX5_reasonFor_72 : decode cX5_reasonFor 72 = .ok (.ifCond .ne 7, 3) := by decide +kernel
theorem dX5_reasonFor_75 : decode cX5_reasonFor 75 = .ok (.iconst 5, 1) := by decide +kernel
theorem dX5_reasonFor_76 : decode cX5_reasonFor 76 = .ok (.goto 22, 3) := by decide +kernel
theorem dX5_reasonFor_79 : decode cX5_reasonFor 79 = .ok (.aload_n 0, 1) := by decide +kernel
theorem dX5_reasonFor_80 : decode cX5_reasonFor 80 = .ok (.getfield 7, 3) := by decide +kernel
theorem dX5_reasonFor_83 : decode cX5_reasonFor 83 = .ok (.bipush 9, 2) := by decide +kernel
theorem dX5_reasonFor_85 : decode cX5_reasonFor 85 = .ok (.iload_n 1, 1) := by decide +kernel
theorem dX5_reasonFor_86 : decode cX5_reasonFor 86 = .ok (.iadd, 1) := by decide +kernel
theorem dX5_reasonFor_87 : decode cX5_reasonFor 87 = .ok (.iaload, 1) := by decide +kernel
theorem dX5_reasonFor_88 : decode cX5_reasonFor 88 = .ok (.iconst 2, 1) := by decide +kernel
theorem dX5_reasonFor_89 : decode cX5_reasonFor 89 = .ok (.if_icmp .ge 8, 3) := by decide +kernel
theorem dX5_reasonFor_92 : decode cX5_reasonFor 92 = .ok (.bipush 6, 2) := by decide +kernel
theorem dX5_reasonFor_94 : decode cX5_reasonFor 94 = .ok (.goto 4, 3) := by decide +kernel
theorem dX5_reasonFor_97 : decode cX5_reasonFor 97 = .ok (.iconst 0, 1) := by decide +kernel
theorem dX5_reasonFor_98 : decode cX5_reasonFor 98 = .ok (.ireturn, 1) := by decide +kernel
set_option maxRecDepth 100000 in
set_option maxHeartbeats 4000000 in
theorem mt_X5_reasonFor (r0 : Option Nat) (i1 : Int32) (i2 : Int32) (S0 : PH) (y : Int32 × PH) (h : m_X5_reasonFor r0 i1 i2 S0 = some y) : MT yX5_reasonFor (.code yX5_reasonFor cX5_reasonFor 3 (Option.some FieldType.int)) 4 91 0 0 [va_rf r0, .int i1, .int i2] S0 (oQ e_I (qN y)) := by
  refine mt_of (own := RX5) (l0 := [(0, va_rf r0), (1, .int i1), (2, .int i2)]) rfl rfl (by cases r0 <;> exact Nat.le_of_ble_eq_true rfl) (by cases r0 <;> rfl) ?_
  intro Z hC hQ hE hN
  unfold m_X5_reasonFor at h
  refine x_aload_n (i := 0) hC dX5_reasonFor_0 rfl 0 rfl ?_
  refine x_iload_n (i := 2) hC dX5_reasonFor_1 rfl 2 rfl ?_
  refine x_iconst (v := (4 : Int32)) hC dX5_reasonFor_2 (by decide) ?_
  replace h := dr_el h
  obtain ⟨a1, ea2, ha3, h⟩ := h
  replace h := bd_el h
  obtain ⟨v4, S5, hb6, h⟩ := h
  refine x_callV hC (st := []) (mt_X5_of _ _ _ _ _ hb6) ea2 ha3 kf_5 q_981 q_983 qs_52 q_7 q_984 ⟨rfl, hy_X5_of⟩ ⟨Nat.le_of_ble_eq_true rfl, Nat.le_of_ble_eq_true rfl⟩ ⟨Nat.le_of_ble_eq_true rfl, Nat.le_of_ble_eq_true rfl⟩ rfl (Nat.le_of_ble_eq_true rfl) dX5_reasonFor_3 (r_N ?_) r_NX
  show PX Z 3 S5 0 0 6 [(0, va_rf r0), (1, .int i1), (2, .int i2)] [.int v4]
  refine x_if_le (t := 11) hC dX5_reasonFor_6 (by decide) (fun c7 => ?_) (fun c7 => ?_)
  · replace h := it_t c7 h
    refine x_aload_n (i := 0) hC dX5_reasonFor_11 rfl 0 rfl ?_
    refine x_iload_n (i := 1) hC dX5_reasonFor_12 rfl 1 rfl ?_
    refine x_iload_n (i := 2) hC dX5_reasonFor_13 rfl 2 rfl ?_
    replace h := dr_el h
    obtain ⟨a8, ea9, ha10, h⟩ := h
    replace h := bd_el h
    obtain ⟨v11, S12, hb13, h⟩ := h
    refine x_callV hC (st := []) (mt_X5_scoreOf _ _ _ _ _ hb13) ea9 ha10 kf_5 q_985 q_987 qs_53 q_7 q_988 ⟨rfl, hy_X5_scoreOf⟩ ⟨Nat.le_of_ble_eq_true rfl, Nat.le_of_ble_eq_true rfl⟩ ⟨Nat.le_of_ble_eq_true rfl, Nat.le_of_ble_eq_true rfl⟩ rfl (Nat.le_of_ble_eq_true rfl) dX5_reasonFor_14 (r_N ?_) r_NX
    show PX Z 3 S12 0 0 17 [(0, va_rf r0), (1, .int i1), (2, .int i2)] [.int v11]
    refine x_iconst (v := (-1 : Int32)) hC dX5_reasonFor_17 (by decide) ?_
    refine x_icmp_eq (t := 23) hC dX5_reasonFor_18 (by decide) (fun c14 => ?_) (fun c14 => ?_)
    · replace h := it_t c14 h
      refine x_aload_n (i := 0) hC dX5_reasonFor_23 rfl 0 rfl ?_
      refine x_iload_n (i := 2) hC dX5_reasonFor_24 rfl 2 rfl ?_
      refine x_iconst (v := (0 : Int32)) hC dX5_reasonFor_25 (by decide) ?_
      replace h := dr_el h
      obtain ⟨a15, ea16, ha17, h⟩ := h
      replace h := bd_el h
      obtain ⟨v18, S19, hb20, h⟩ := h
      refine x_callV hC (st := []) (mt_X5_reviewers _ _ _ _ _ hb20) ea16 ha17 kf_5 q_989 q_991 qs_54 q_7 q_992 ⟨rfl, hy_X5_reviewers⟩ ⟨Nat.le_of_ble_eq_true rfl, Nat.le_of_ble_eq_true rfl⟩ ⟨Nat.le_of_ble_eq_true rfl, Nat.le_of_ble_eq_true rfl⟩ rfl (Nat.le_of_ble_eq_true rfl) dX5_reasonFor_26 (r_N ?_) r_NX
      show PX Z 3 S19 0 0 29 [(0, va_rf r0), (1, .int i1), (2, .int i2)] [.int v18]
      replace h := bd_el h
      obtain ⟨v21, S22, hb23, h⟩ := h
      refine x_callS hC (st := []) (mt_X5_ones _ _ _ hb23) q_997 q_998 q_7 q_999 hy_X5_ones ⟨Nat.le_of_ble_eq_true rfl, Nat.le_of_ble_eq_true rfl⟩ ⟨Nat.le_of_ble_eq_true rfl, Nat.le_of_ble_eq_true rfl⟩ rfl (Nat.le_of_ble_eq_true rfl) dX5_reasonFor_29 (r_N ?_) r_NX
      show PX Z 3 S22 0 0 32 [(0, va_rf r0), (1, .int i1), (2, .int i2)] [.int v21]
      refine x_aload_n (i := 0) hC dX5_reasonFor_32 rfl 0 rfl ?_
      replace h := dr_el h
      obtain ⟨a24, ea25, ha26, h⟩ := h
      refine x_getR hC ea25 ha26 kf_5 1 (by decide) rfl q_864 dX5_reasonFor_33 ?_
      refine x_iconst (v := (4 : Int32)) hC dX5_reasonFor_36 (by decide) ?_
      replace h := dr_el h
      obtain ⟨a27, ea28, ha29, h⟩ := h
      replace h := ck_el h
      obtain ⟨hc30, h⟩ := h
      refine x_iaload hC ea28 ha29 hc30 dX5_reasonFor_37 ?_
      refine x_tI (b := (p_I S22 a27 4)) rfl ?_
      refine x_icmp_lt (t := 43) hC dX5_reasonFor_38 (by decide) (fun c31 => ?_) (fun c31 => ?_)
      · replace h := it_t c31 h
        refine x_aload_n (i := 0) hC dX5_reasonFor_43 rfl 0 rfl ?_
        refine x_iload_n (i := 1) hC dX5_reasonFor_44 rfl 1 rfl ?_
        refine x_iload_n (i := 2) hC dX5_reasonFor_45 rfl 2 rfl ?_
        replace h := bd_el h
        obtain ⟨v32, S33, hb34, h⟩ := h
        refine x_callV hC (st := []) (mt_X5_isInConflict _ _ _ _ _ hb34) ea25 ha26 kf_5 q_1000 q_1002 qs_56 q_7 q_1003 ⟨rfl, hy_X5_isInConflict⟩ ⟨Nat.le_of_ble_eq_true rfl, Nat.le_of_ble_eq_true rfl⟩ ⟨Nat.le_of_ble_eq_true rfl, Nat.le_of_ble_eq_true rfl⟩ rfl (Nat.le_of_ble_eq_true rfl) dX5_reasonFor_46 (r_N ?_) r_NX
        show PX Z 3 S33 0 0 49 [(0, va_rf r0), (1, .int i1), (2, .int i2)] [.int v32]
        refine x_if_eq (t := 54) hC dX5_reasonFor_49 (by decide) (fun c35 => ?_) (fun c35 => ?_)
        · replace h := it_t c35 h
          refine x_aload_n (i := 0) hC dX5_reasonFor_54 rfl 0 rfl ?_
          replace h := dr_el h
          obtain ⟨a36, ea37, ha38, h⟩ := h
          refine x_getR hC ea37 ha38 kf_5 1 (by decide) rfl q_864 dX5_reasonFor_55 ?_
          refine x_bipush (v := (17 : Int32)) hC dX5_reasonFor_58 (by decide) ?_
          refine x_iload_n (i := 1) hC dX5_reasonFor_60 rfl 1 rfl ?_
          refine x_iadd hC dX5_reasonFor_61 ?_
          replace h := dr_el h
          obtain ⟨a39, ea40, ha41, h⟩ := h
          replace h := ck_el h
          obtain ⟨hc42, h⟩ := h
          refine x_iaload hC ea40 ha41 hc42 dX5_reasonFor_62 ?_
          refine x_aload_n (i := 0) hC dX5_reasonFor_63 rfl 0 rfl ?_
          refine x_iload_n (i := 2) hC dX5_reasonFor_64 rfl 2 rfl ?_
          refine x_iconst (v := (0 : Int32)) hC dX5_reasonFor_65 (by decide) ?_
          replace h := bd_el h
          obtain ⟨v43, S44, hb45, h⟩ := h
          refine x_callV hC (st := [.int (p_I S33 a39 (Int32.toNatClampNeg ((17 : Int32) + i1)))]) (mt_X5_of _ _ _ _ _ hb45) ea37 ha38 kf_5 q_981 q_983 qs_52 q_7 q_984 ⟨rfl, hy_X5_of⟩ ⟨Nat.le_of_ble_eq_true rfl, Nat.le_of_ble_eq_true rfl⟩ ⟨Nat.le_of_ble_eq_true rfl, Nat.le_of_ble_eq_true rfl⟩ rfl (Nat.le_of_ble_eq_true rfl) dX5_reasonFor_66 (r_N ?_) r_NX
          show PX Z 3 S44 0 0 69 [(0, va_rf r0), (1, .int i1), (2, .int i2)] [.int v43, .int (p_I S33 a39 (Int32.toNatClampNeg ((17 : Int32) + i1)))]
          replace h := bd_el h
          obtain ⟨v46, S47, hb48, h⟩ := h
          refine x_callS hC (st := []) (mt_X5_has _ _ _ _ hb48) q_1008 q_1009 q_7 q_1010 hy_X5_has ⟨Nat.le_of_ble_eq_true rfl, Nat.le_of_ble_eq_true rfl⟩ ⟨Nat.le_of_ble_eq_true rfl, Nat.le_of_ble_eq_true rfl⟩ rfl (Nat.le_of_ble_eq_true rfl) dX5_reasonFor_69 (r_N ?_) r_NX
          show PX Z 3 S47 0 0 72 [(0, va_rf r0), (1, .int i1), (2, .int i2)] [.int v46]
          refine x_if_ne (t := 79) hC dX5_reasonFor_72 (by decide) (fun c49 => ?_) (fun c49 => ?_)
          · replace h := it_f c49 h
            refine x_aload_n (i := 0) hC dX5_reasonFor_79 rfl 0 rfl ?_
            replace h := dr_el h
            obtain ⟨a50, ea51, ha52, h⟩ := h
            refine x_getR hC ea51 ha52 kf_5 1 (by decide) rfl q_864 dX5_reasonFor_80 ?_
            refine x_bipush (v := (9 : Int32)) hC dX5_reasonFor_83 (by decide) ?_
            refine x_iload_n (i := 1) hC dX5_reasonFor_85 rfl 1 rfl ?_
            refine x_iadd hC dX5_reasonFor_86 ?_
            replace h := dr_el h
            obtain ⟨a53, ea54, ha55, h⟩ := h
            replace h := ck_el h
            obtain ⟨hc56, h⟩ := h
            refine x_iaload hC ea54 ha55 hc56 dX5_reasonFor_87 ?_
            refine x_iconst (v := (2 : Int32)) hC dX5_reasonFor_88 (by decide) ?_
            refine x_icmp_ge (t := 97) hC dX5_reasonFor_89 (by decide) (fun c57 => ?_) (fun c57 => ?_)
            · replace h := it_t c57 h
              refine x_iconst (v := (0 : Int32)) hC dX5_reasonFor_97 (by decide) ?_
              exact x_iret hC hQ (z_N (Option.some.inj h)) (Nat.le_of_ble_eq_true rfl) (Nat.le_of_ble_eq_true rfl) dX5_reasonFor_98
            · replace h := it_f c57 h
              refine x_bipush (v := (6 : Int32)) hC dX5_reasonFor_92 (by decide) ?_
              refine x_goto (t := 98) hC dX5_reasonFor_94 (by decide) ?_
              exact x_iret hC hQ (z_N (Option.some.inj h)) (Nat.le_of_ble_eq_true rfl) (Nat.le_of_ble_eq_true rfl) dX5_reasonFor_98
          · replace h := it_t c49 h
            refine x_iconst (v := (5 : Int32)) hC dX5_reasonFor_75 (by decide) ?_
            refine x_goto (t := 98) hC dX5_reasonFor_76 (by decide) ?_
            exact x_iret hC hQ (z_N (Option.some.inj h)) (Nat.le_of_ble_eq_true rfl) (Nat.le_of_ble_eq_true rfl) dX5_reasonFor_98
        · replace h := it_f c35 h
          refine x_iconst (v := (4 : Int32)) hC dX5_reasonFor_52 (by decide) ?_
          exact x_iret hC hQ (z_N (Option.some.inj h)) (Nat.le_of_ble_eq_true rfl) (Nat.le_of_ble_eq_true rfl) dX5_reasonFor_53
      · replace h := it_f c31 h
        refine x_iconst (v := (3 : Int32)) hC dX5_reasonFor_41 (by decide) ?_
        exact x_iret hC hQ (z_N (Option.some.inj h)) (Nat.le_of_ble_eq_true rfl) (Nat.le_of_ble_eq_true rfl) dX5_reasonFor_42
    · replace h := it_f c14 h
      refine x_iconst (v := (2 : Int32)) hC dX5_reasonFor_21 (by decide) ?_
      exact x_iret hC hQ (z_N (Option.some.inj h)) (Nat.le_of_ble_eq_true rfl) (Nat.le_of_ble_eq_true rfl) dX5_reasonFor_22
  · replace h := it_f c7 h
    refine x_iconst (v := (1 : Int32)) hC dX5_reasonFor_9 (by decide) ?_
    exact x_iret hC hQ (z_N (Option.some.inj h)) (Nat.le_of_ble_eq_true rfl) (Nat.le_of_ble_eq_true rfl) dX5_reasonFor_10
theorem dX5_takes_0 : decode cX5_takes 0 = .ok (.aload_n 0, 1) := by decide +kernel
theorem dX5_takes_1 : decode cX5_takes 1 = .ok (.iload_n 1, 1) := by decide +kernel
theorem dX5_takes_2 : decode cX5_takes 2 = .ok (.iload_n 2, 1) := by decide +kernel
theorem dX5_takes_3 : decode cX5_takes 3 = .ok (.invokevirtual 90, 3) := by decide +kernel
theorem dX5_takes_6 : decode cX5_takes 6 = .ok (.istore_n 3, 1) := by decide +kernel
theorem dX5_takes_7 : decode cX5_takes 7 = .ok (.iload_n 3, 1) := by decide +kernel
theorem dX5_takes_8 : decode cX5_takes 8 = .ok (.ifCond .le 15, 3) := by decide +kernel
theorem dX5_takes_11 : decode cX5_takes 11 = .ok (.aload_n 0, 1) := by decide +kernel
theorem dX5_takes_12 : decode cX5_takes 12 = .ok (.getfield 7, 3) := by decide +kernel
theorem dX5_takes_15 : decode cX5_takes 15 = .ok (.iconst 3, 1) := by decide +kernel
theorem dX5_takes_16 : decode cX5_takes 16 = .ok (.dup2, 1) := by decide +kernel
theorem dX5_takes_17 : decode cX5_takes 17 = .ok (.iaload, 1) := by decide +kernel
theorem dX5_takes_18 : decode cX5_takes 18 = .ok (.iconst 1, 1) := by decide +kernel
theorem dX5_takes_19 : decode cX5_takes 19 = .ok (.iadd, 1) := by decide +kernel
theorem dX5_takes_20 : decode cX5_takes 20 = .ok (.iastore, 1) := by decide +kernel
theorem dX5_takes_21 : decode cX5_takes 21 = .ok (.iload_n 3, 1) := by decide +kernel
theorem dX5_takes_22 : decode cX5_takes 22 = .ok (.ireturn, 1) := by decide +kernel
theorem dX5_takes_23 : decode cX5_takes 23 = .ok (.aload_n 0, 1) := by decide +kernel
theorem dX5_takes_24 : decode cX5_takes 24 = .ok (.iload_n 1, 1) := by decide +kernel
theorem dX5_takes_25 : decode cX5_takes 25 = .ok (.iconst 2, 1) := by decide +kernel
theorem dX5_takes_26 : decode cX5_takes 26 = .ok (.invokevirtual 93, 3) := by decide +kernel
theorem dX5_takes_29 : decode cX5_takes 29 = .ok (.aload_n 0, 1) := by decide +kernel
theorem dX5_takes_30 : decode cX5_takes 30 = .ok (.iload_n 2, 1) := by decide +kernel
theorem dX5_takes_31 : decode cX5_takes 31 = .ok (.iconst 5, 1) := by decide +kernel
theorem dX5_takes_32 : decode cX5_takes 32 = .ok (.iload_n 1, 1) := by decide +kernel
theorem dX5_takes_33 : decode cX5_takes 33 = .ok (.iadd, 1) := by decide +kernel
theorem dX5_takes_34 : decode cX5_takes 34 = .ok (.bipush 10, 2) := by decide +kernel
theorem dX5_takes_36 : decode cX5_takes 36 = .ok (.invokevirtual 63, 3) := by decide +kernel
theorem dX5_takes_39 : decode cX5_takes 39 = .ok (.iconst 0, 1) := by decide +kernel
theorem dX5_takes_40 : decode cX5_takes 40 = .ok (.ireturn, 1) := by decide +kernel
set_option maxRecDepth 100000 in
set_option maxHeartbeats 4000000 in
theorem mt_X5_takes (r0 : Option Nat) (i1 : Int32) (i2 : Int32) (S0 : PH) (y : Int32 × PH) (h : m_X5_takes r0 i1 i2 S0 = some y) : MT yX5_takes (.code yX5_takes cX5_takes 4 (Option.some FieldType.int)) 5 113 0 0 [va_rf r0, .int i1, .int i2] S0 (oQ e_I (qN y)) := by
  refine mt_of (own := RX5) (l0 := [(0, va_rf r0), (1, .int i1), (2, .int i2)]) rfl rfl (by cases r0 <;> exact Nat.le_of_ble_eq_true rfl) (by cases r0 <;> rfl) ?_
  intro Z hC hQ hE hN
  unfold m_X5_takes at h
  refine x_aload_n (i := 0) hC dX5_takes_0 rfl 0 rfl ?_
  refine x_iload_n (i := 1) hC dX5_takes_1 rfl 1 rfl ?_
  refine x_iload_n (i := 2) hC dX5_takes_2 rfl 2 rfl ?_
  replace h := dr_el h
  obtain ⟨a1, ea2, ha3, h⟩ := h
  replace h := bd_el h
  obtain ⟨v4, S5, hb6, h⟩ := h
  refine x_callV hC (st := []) (mt_X5_reasonFor _ _ _ _ _ hb6) ea2 ha3 kf_5 q_977 q_979 qs_51 q_7 q_980 ⟨rfl, hy_X5_reasonFor⟩ ⟨Nat.le_of_ble_eq_true rfl, Nat.le_of_ble_eq_true rfl⟩ ⟨Nat.le_of_ble_eq_true rfl, Nat.le_of_ble_eq_true rfl⟩ rfl (Nat.le_of_ble_eq_true rfl) dX5_takes_3 (r_N ?_) r_NX
  show PX Z 4 S5 0 0 6 [(0, va_rf r0), (1, .int i1), (2, .int i2)] [.int v4]
  refine x_istore_n (i := 3) (l' := [(3, .int v4), (0, va_rf r0), (1, .int i1), (2, .int i2)]) hC dX5_takes_6 rfl (⟨fun _ => c_rf r0, ⟨fun _ => rfl, ⟨fun _ => rfl, trivial⟩⟩⟩) (by decide) rfl ?_
  refine x_iload_n (i := 3) hC dX5_takes_7 rfl 0 rfl ?_
  refine x_if_le (t := 23) hC dX5_takes_8 (by decide) (fun c7 => ?_) (fun c7 => ?_)
  · replace h := it_t c7 h
    refine x_aload_n (i := 0) hC dX5_takes_23 rfl 1 rfl ?_
    refine x_iload_n (i := 1) hC dX5_takes_24 rfl 2 rfl ?_
    refine x_iconst (v := (2 : Int32)) hC dX5_takes_25 (by decide) ?_
    replace h := dr_el h
    obtain ⟨a8, ea9, ha10, h⟩ := h
    replace h := bd_el h
    obtain ⟨v11, S12, hb13, h⟩ := h
    refine x_callV hC (st := []) (mt_X5_pays _ _ _ _ _ hb13) ea9 ha10 kf_5 q_1011 q_1013 qs_58 q_7 q_1014 ⟨rfl, hy_X5_pays⟩ ⟨Nat.le_of_ble_eq_true rfl, Nat.le_of_ble_eq_true rfl⟩ ⟨Nat.le_of_ble_eq_true rfl, Nat.le_of_ble_eq_true rfl⟩ rfl (Nat.le_of_ble_eq_true rfl) dX5_takes_26 (r_N ?_) r_NX
    show PX Z 4 S12 0 0 29 [(3, .int v4), (0, va_rf r0), (1, .int i1), (2, .int i2)] []
    refine x_aload_n (i := 0) hC dX5_takes_29 rfl 1 rfl ?_
    refine x_iload_n (i := 2) hC dX5_takes_30 rfl 3 rfl ?_
    refine x_iconst (v := (5 : Int32)) hC dX5_takes_31 (by decide) ?_
    refine x_iload_n (i := 1) hC dX5_takes_32 rfl 2 rfl ?_
    refine x_iadd hC dX5_takes_33 ?_
    refine x_bipush (v := (10 : Int32)) hC dX5_takes_34 (by decide) ?_
    replace h := dr_el h
    obtain ⟨a14, ea15, ha16, h⟩ := h
    replace h := bd_el h
    obtain ⟨v17, S18, hb19, h⟩ := h
    refine x_callV hC (st := []) (mt_X5_lay _ _ _ _ _ _ hb19) ea15 ha16 kf_5 q_927 q_929 qs_46 q_7 q_930 ⟨rfl, hy_X5_lay⟩ ⟨Nat.le_of_ble_eq_true rfl, Nat.le_of_ble_eq_true rfl⟩ ⟨Nat.le_of_ble_eq_true rfl, Nat.le_of_ble_eq_true rfl⟩ rfl (Nat.le_of_ble_eq_true rfl) dX5_takes_36 (r_N ?_) r_NX
    show PX Z 4 S18 0 0 39 [(3, .int v4), (0, va_rf r0), (1, .int i1), (2, .int i2)] []
    refine x_iconst (v := (0 : Int32)) hC dX5_takes_39 (by decide) ?_
    exact x_iret hC hQ (z_N (Option.some.inj h)) (Nat.le_of_ble_eq_true rfl) (Nat.le_of_ble_eq_true rfl) dX5_takes_40
  · replace h := it_f c7 h
    refine x_aload_n (i := 0) hC dX5_takes_11 rfl 1 rfl ?_
    replace h := dr_el h
    obtain ⟨a20, ea21, ha22, h⟩ := h
    refine x_getR hC ea21 ha22 kf_5 1 (by decide) rfl q_864 dX5_takes_12 ?_
    refine x_iconst (v := (3 : Int32)) hC dX5_takes_15 (by decide) ?_
    refine x_dup2 hC dX5_takes_16 rfl (c_rf (p_R S5 a20 1)) ?_
    replace h := dr_el h
    obtain ⟨a23, ea24, ha25, h⟩ := h
    replace h := ck_el h
    obtain ⟨hc26, h⟩ := h
    refine x_iaload hC ea24 ha25 hc26 dX5_takes_17 ?_
    refine x_tI (b := (p_I S5 a23 3)) rfl ?_
    refine x_iconst (v := (1 : Int32)) hC dX5_takes_18 (by decide) ?_
    refine x_iadd hC dX5_takes_19 ?_
    replace h := ck_el h
    obtain ⟨hc27, h⟩ := h
    replace h := le_el h
    obtain ⟨S28, hx29, h⟩ := h
    refine x_iastore hC ea24 ha25 hc27 dX5_takes_20 ?_
    refine x_tS hx29 ?_
    refine x_iload_n (i := 3) hC dX5_takes_21 rfl 0 rfl ?_
    exact x_iret hC hQ (z_N (Option.some.inj h)) (Nat.le_of_ble_eq_true rfl) (Nat.le_of_ble_eq_true rfl) dX5_takes_22
theorem dX5_take_0 : decode cX5_take 0 = .ok (.aload_n 0, 1) := by decide +kernel
theorem dX5_take_1 : decode cX5_take 1 = .ok (.iload_n 1, 1) := by decide +kernel
theorem dX5_take_2 : decode cX5_take 2 = .ok (.invokestatic 67, 3) := by decide +kernel
theorem dX5_take_5 : decode cX5_take 5 = .ok (.ifCond .eq 15, 3) := by decide +kernel
theorem dX5_take_8 : decode cX5_take 8 = .ok (.aload_n 0, 1) := by decide +kernel
theorem dX5_take_9 : decode cX5_take 9 = .ok (.iload_n 2, 1) := by decide +kernel
theorem dX5_take_10 : decode cX5_take 10 = .ok (.invokevirtual 96, 3) := by decide +kernel
theorem dX5_take_13 : decode cX5_take 13 = .ok (.ifCond .eq 7, 3) := by decide +kernel
theorem dX5_take_16 : decode cX5_take 16 = .ok (.iconst 0, 1) := by decide +kernel
theorem dX5_take_17 : decode cX5_take 17 = .ok (.goto 4, 3) := by decide +kernel
theorem dX5_take_20 : decode cX5_take 20 = .ok (.iconst 1, 1) := by decide +kernel
theorem dX5_take_21 : decode cX5_take 21 = .ok (.invokevirtual 56, 3) := by decide +kernel
theorem dX5_take_24 : decode cX5_take 24 = .ok (.ifCond .ne 5, 3) := by decide +kernel
theorem dX5_take_27 : decode cX5_take 27 = .ok (.iconst 0, 1) := by decide +kernel
theorem dX5_take_28 : decode cX5_take 28 = .ok (.ireturn, 1) := by decide +kernel
theorem dX5_take_29 : decode cX5_take 29 = .ok (.aload_n 0, 1) := by decide +kernel
theorem dX5_take_30 : decode cX5_take 30 = .ok (.invokevirtual 60, 3) := by decide +kernel
theorem dX5_take_33 : decode cX5_take 33 = .ok (.aload_n 0, 1) := by decide +kernel
theorem dX5_take_34 : decode cX5_take 34 = .ok (.iload_n 1, 1) := by decide +kernel
theorem dX5_take_35 : decode cX5_take 35 = .ok (.iload_n 2, 1) := by decide +kernel
theorem dX5_take_36 : decode cX5_take 36 = .ok (.invokevirtual 99, 3) := by decide +kernel
theorem dX5_take_39 : decode cX5_take 39 = .ok (.ireturn, 1) := by decide +kernel
set_option maxRecDepth 100000 in
set_option maxHeartbeats 4000000 in
theorem mt_X5_take (r0 : Option Nat) (i1 : Int32) (i2 : Int32) (S0 : PH) (y : Int32 × PH) (h : m_X5_take r0 i1 i2 S0 = some y) : MT yX5_take (.code yX5_take cX5_take 3 (Option.some FieldType.int)) 6 136 0 0 [va_rf r0, .int i1, .int i2] S0 (oQ e_I (qN y)) := by
  refine mt_of (own := RX5) (l0 := [(0, va_rf r0), (1, .int i1), (2, .int i2)]) rfl rfl (by cases r0 <;> exact Nat.le_of_ble_eq_true rfl) (by cases r0 <;> rfl) ?_
  intro Z hC hQ hE hN
  have J_21 : ∀ (v5 : Option Nat) (v6 : Int32) (S7 : PH), j_X5_take_21 r0 i1 i2 v5 v6 S7 = some y → PX Z 3 S7 0 0 21 [(0, va_rf r0), (1, .int i1), (2, .int i2)] [.int v6, va_rf v5] := by
    intro v5 v6 S7 h
    unfold j_X5_take_21 at h
    replace h := dr_el h
    obtain ⟨a8, ea9, ha10, h⟩ := h
    replace h := bd_el h
    obtain ⟨v11, S12, hb13, h⟩ := h
    refine x_callV hC (st := []) (mt_X5_holds _ _ _ _ hb13) ea9 ha10 kf_5 q_915 q_917 qs_43 q_7 q_918 ⟨rfl, hy_X5_holds⟩ ⟨Nat.le_of_ble_eq_true rfl, Nat.le_of_ble_eq_true rfl⟩ ⟨Nat.le_of_ble_eq_true rfl, Nat.le_of_ble_eq_true rfl⟩ rfl (Nat.le_of_ble_eq_true rfl) dX5_take_21 (r_N ?_) r_NX
    show PX Z 3 S12 0 0 24 [(0, va_rf r0), (1, .int i1), (2, .int i2)] [.int v11]
    refine x_if_ne (t := 29) hC dX5_take_24 (by decide) (fun c14 => ?_) (fun c14 => ?_)
    · replace h := it_f c14 h
      refine x_aload_n (i := 0) hC dX5_take_29 rfl 0 rfl ?_
      replace h := dr_el h
      obtain ⟨a15, ea16, ha17, h⟩ := h
      replace h := bd_el h
      obtain ⟨v18, S19, hb20, h⟩ := h
      refine x_callV hC (st := []) (mt_X5_save _ _ _ hb20) ea16 ha17 kf_5 q_919 q_921 qs_44 q_7 q_922 ⟨rfl, hy_X5_save⟩ ⟨Nat.le_of_ble_eq_true rfl, Nat.le_of_ble_eq_true rfl⟩ ⟨Nat.le_of_ble_eq_true rfl, Nat.le_of_ble_eq_true rfl⟩ rfl (Nat.le_of_ble_eq_true rfl) dX5_take_30 (r_N ?_) r_NX
      show PX Z 3 S19 0 0 33 [(0, va_rf r0), (1, .int i1), (2, .int i2)] []
      refine x_aload_n (i := 0) hC dX5_take_33 rfl 0 rfl ?_
      refine x_iload_n (i := 1) hC dX5_take_34 rfl 1 rfl ?_
      refine x_iload_n (i := 2) hC dX5_take_35 rfl 2 rfl ?_
      replace h := dr_el h
      obtain ⟨a21, ea22, ha23, h⟩ := h
      replace h := bd_el h
      obtain ⟨v24, S25, hb26, h⟩ := h
      refine x_callV hC (st := []) (mt_X5_takes _ _ _ _ _ hb26) ea22 ha23 kf_5 q_973 q_975 qs_50 q_7 q_976 ⟨rfl, hy_X5_takes⟩ ⟨Nat.le_of_ble_eq_true rfl, Nat.le_of_ble_eq_true rfl⟩ ⟨Nat.le_of_ble_eq_true rfl, Nat.le_of_ble_eq_true rfl⟩ rfl (Nat.le_of_ble_eq_true rfl) dX5_take_36 (r_N ?_) r_NX
      show PX Z 3 S25 0 0 39 [(0, va_rf r0), (1, .int i1), (2, .int i2)] [.int v24]
      exact x_iret hC hQ (z_N (Option.some.inj h)) (Nat.le_of_ble_eq_true rfl) (Nat.le_of_ble_eq_true rfl) dX5_take_39
    · replace h := it_t c14 h
      refine x_iconst (v := (0 : Int32)) hC dX5_take_27 (by decide) ?_
      exact x_iret hC hQ (z_N (Option.some.inj h)) (Nat.le_of_ble_eq_true rfl) (Nat.le_of_ble_eq_true rfl) dX5_take_28
  unfold m_X5_take at h
  refine x_aload_n (i := 0) hC dX5_take_0 rfl 0 rfl ?_
  refine x_iload_n (i := 1) hC dX5_take_1 rfl 1 rfl ?_
  replace h := bd_el h
  obtain ⟨v1, S2, hb3, h⟩ := h
  refine x_callS hC (st := [va_rf r0]) (mt_X5_isPerson _ _ _ hb3) q_935 q_936 q_7 q_937 hy_X5_isPerson ⟨Nat.le_of_ble_eq_true rfl, Nat.le_of_ble_eq_true rfl⟩ ⟨Nat.le_of_ble_eq_true rfl, Nat.le_of_ble_eq_true rfl⟩ rfl (Nat.le_of_ble_eq_true rfl) dX5_take_2 (r_N ?_) r_NX
  show PX Z 3 S2 0 0 5 [(0, va_rf r0), (1, .int i1), (2, .int i2)] [.int v1, va_rf r0]
  refine x_if_eq (t := 20) hC dX5_take_5 (by decide) (fun c4 => ?_) (fun c4 => ?_)
  · replace h := it_t c4 h
    refine x_iconst (v := (1 : Int32)) hC dX5_take_20 (by decide) ?_
    exact J_21 _ _ _ h
  · replace h := it_f c4 h
    refine x_aload_n (i := 0) hC dX5_take_8 rfl 0 rfl ?_
    refine x_iload_n (i := 2) hC dX5_take_9 rfl 2 rfl ?_
    replace h := dr_el h
    obtain ⟨a27, ea28, ha29, h⟩ := h
    replace h := bd_el h
    obtain ⟨v30, S31, hb32, h⟩ := h
    refine x_callV hC (st := [va_rf r0]) (mt_X5_isPaper _ _ _ _ hb32) ea28 ha29 kf_5 q_969 q_971 qs_49 q_7 q_972 ⟨rfl, hy_X5_isPaper⟩ ⟨Nat.le_of_ble_eq_true rfl, Nat.le_of_ble_eq_true rfl⟩ ⟨Nat.le_of_ble_eq_true rfl, Nat.le_of_ble_eq_true rfl⟩ rfl (Nat.le_of_ble_eq_true rfl) dX5_take_10 (r_N ?_) r_NX
    show PX Z 3 S31 0 0 13 [(0, va_rf r0), (1, .int i1), (2, .int i2)] [.int v30, va_rf r0]
    refine x_if_eq (t := 20) hC dX5_take_13 (by decide) (fun c33 => ?_) (fun c33 => ?_)
    · replace h := it_t c33 h
      refine x_iconst (v := (1 : Int32)) hC dX5_take_20 (by decide) ?_
      exact J_21 _ _ _ h
    · replace h := it_f c33 h
      refine x_iconst (v := (0 : Int32)) hC dX5_take_16 (by decide) ?_
      refine x_goto (t := 21) hC dX5_take_17 (by decide) ?_
      exact J_21 _ _ _ h
theorem dX5_canWrite_0 : decode cX5_canWrite 0 = .ok (.aload_n 0, 1) := by decide +kernel
theorem dX5_canWrite_1 : decode cX5_canWrite 1 = .ok (.iload_n 1, 1) := by decide +kernel
theorem dX5_canWrite_2 : decode cX5_canWrite 2 = .ok (.iload_n 2, 1) := by decide +kernel
theorem dX5_canWrite_3 : decode cX5_canWrite 3 = .ok (.invokevirtual 35, 3) := by decide +kernel
theorem dX5_canWrite_6 : decode cX5_canWrite 6 = .ok (.iconst (-1), 1) := by decide +kernel
theorem dX5_canWrite_7 : decode cX5_canWrite 7 = .ok (.if_icmp .eq 16, 3) := by decide +kernel
theorem dX5_canWrite_10 : decode cX5_canWrite 10 = .ok (.aload_n 0, 1) := by decide +kernel
theorem dX5_canWrite_11 : decode cX5_canWrite 11 = .ok (.iload_n 2, 1) := by decide +kernel
theorem dX5_canWrite_12 : decode cX5_canWrite 12 = .ok (.iconst 4, 1) := by decide +kernel
theorem dX5_canWrite_13 : decode cX5_canWrite 13 = .ok (.invokevirtual 31, 3) := by decide +kernel
theorem dX5_canWrite_16 : decode cX5_canWrite 16 = .ok (.ifCond .ne 7, 3) := by decide +kernel
theorem dX5_canWrite_19 : decode cX5_canWrite 19 = .ok (.iconst 1, 1) := by decide +kernel
theorem dX5_canWrite_20 : decode cX5_canWrite 20 = .ok (.goto 4, 3) := by decide +kernel
theorem dX5_canWrite_23 : decode cX5_canWrite 23 = .ok (.iconst 0, 1) := by decide +kernel
theorem dX5_canWrite_24 : decode cX5_canWrite 24 = .ok (.ireturn, 1) := by decide +kernel
set_option maxRecDepth 100000 in
set_option maxHeartbeats 4000000 in
theorem mt_X5_canWrite (r0 : Option Nat) (i1 : Int32) (i2 : Int32) (S0 : PH) (y : Int32 × PH) (h : m_X5_canWrite r0 i1 i2 S0 = some y) : MT yX5_canWrite (.code yX5_canWrite cX5_canWrite 3 (Option.some FieldType.boolean)) 2 44 0 0 [va_rf r0, .int i1, .int i2] S0 (oQ e_I (qN y)) := by
  refine mt_of (own := RX5) (l0 := [(0, va_rf r0), (1, .int i1), (2, .int i2)]) rfl rfl (by cases r0 <;> exact Nat.le_of_ble_eq_true rfl) (by cases r0 <;> rfl) ?_
  intro Z hC hQ hE hN
  unfold m_X5_canWrite at h
  refine x_aload_n (i := 0) hC dX5_canWrite_0 rfl 0 rfl ?_
  refine x_iload_n (i := 1) hC dX5_canWrite_1 rfl 1 rfl ?_
  refine x_iload_n (i := 2) hC dX5_canWrite_2 rfl 2 rfl ?_
  replace h := dr_el h
  obtain ⟨a1, ea2, ha3, h⟩ := h
  replace h := bd_el h
  obtain ⟨v4, S5, hb6, h⟩ := h
  refine x_callV hC (st := []) (mt_X5_scoreOf _ _ _ _ _ hb6) ea2 ha3 kf_5 q_985 q_987 qs_53 q_7 q_988 ⟨rfl, hy_X5_scoreOf⟩ ⟨Nat.le_of_ble_eq_true rfl, Nat.le_of_ble_eq_true rfl⟩ ⟨Nat.le_of_ble_eq_true rfl, Nat.le_of_ble_eq_true rfl⟩ rfl (Nat.le_of_ble_eq_true rfl) dX5_canWrite_3 (r_N ?_) r_NX
  show PX Z 3 S5 0 0 6 [(0, va_rf r0), (1, .int i1), (2, .int i2)] [.int v4]
  refine x_iconst (v := (-1 : Int32)) hC dX5_canWrite_6 (by decide) ?_
  refine x_icmp_eq (t := 23) hC dX5_canWrite_7 (by decide) (fun c7 => ?_) (fun c7 => ?_)
  · replace h := it_t c7 h
    refine x_iconst (v := (0 : Int32)) hC dX5_canWrite_23 (by decide) ?_
    exact x_zret hC hQ (by decide) (z_N (Option.some.inj h)) (Nat.le_of_ble_eq_true rfl) (Nat.le_of_ble_eq_true rfl) dX5_canWrite_24
  · replace h := it_f c7 h
    refine x_aload_n (i := 0) hC dX5_canWrite_10 rfl 0 rfl ?_
    refine x_iload_n (i := 2) hC dX5_canWrite_11 rfl 2 rfl ?_
    refine x_iconst (v := (4 : Int32)) hC dX5_canWrite_12 (by decide) ?_
    replace h := dr_el h
    obtain ⟨a8, ea9, ha10, h⟩ := h
    replace h := bd_el h
    obtain ⟨v11, S12, hb13, h⟩ := h
    refine x_callV hC (st := []) (mt_X5_of _ _ _ _ _ hb13) ea9 ha10 kf_5 q_981 q_983 qs_52 q_7 q_984 ⟨rfl, hy_X5_of⟩ ⟨Nat.le_of_ble_eq_true rfl, Nat.le_of_ble_eq_true rfl⟩ ⟨Nat.le_of_ble_eq_true rfl, Nat.le_of_ble_eq_true rfl⟩ rfl (Nat.le_of_ble_eq_true rfl) dX5_canWrite_13 (r_N ?_) r_NX
    show PX Z 3 S12 0 0 16 [(0, va_rf r0), (1, .int i1), (2, .int i2)] [.int v11]
    refine x_if_ne (t := 23) hC dX5_canWrite_16 (by decide) (fun c14 => ?_) (fun c14 => ?_)
    · replace h := it_f c14 h
      refine x_iconst (v := (0 : Int32)) hC dX5_canWrite_23 (by decide) ?_
      exact x_zret hC hQ (by decide) (z_N (Option.some.inj h)) (Nat.le_of_ble_eq_true rfl) (Nat.le_of_ble_eq_true rfl) dX5_canWrite_24
    · replace h := it_t c14 h
      refine x_iconst (v := (1 : Int32)) hC dX5_canWrite_19 (by decide) ?_
      refine x_goto (t := 24) hC dX5_canWrite_20 (by decide) ?_
      exact x_zret hC hQ (by decide) (z_N (Option.some.inj h)) (Nat.le_of_ble_eq_true rfl) (Nat.le_of_ble_eq_true rfl) dX5_canWrite_24
theorem dX5_write_0 : decode cX5_write 0 = .ok (.iload_n 1, 1) := by decide +kernel
theorem dX5_write_1 : decode cX5_write 1 = .ok (.invokestatic 67, 3) := by decide +kernel
theorem dX5_write_4 : decode cX5_write 4 = .ok (.ifCond .eq 15, 3) := by decide +kernel
theorem dX5_write_7 : decode cX5_write 7 = .ok (.aload_n 0, 1) := by decide +kernel
theorem dX5_write_8 : decode cX5_write 8 = .ok (.iload_n 2, 1) := by decide +kernel
theorem dX5_write_9 : decode cX5_write 9 = .ok (.invokevirtual 96, 3) := by decide +kernel
theorem dX5_write_12 : decode cX5_write 12 = .ok (.ifCond .eq 7, 3) := by decide +kernel
theorem dX5_write_15 : decode cX5_write 15 = .ok (.iconst 1, 1) := by decide +kernel
theorem dX5_write_16 : decode cX5_write 16 = .ok (.goto 4, 3) := by decide +kernel
theorem dX5_write_19 : decode cX5_write 19 = .ok (.iconst 0, 1) := by decide +kernel
theorem dX5_write_20 : decode cX5_write 20 = .ok (.istore 4, 2) := by decide +kernel
theorem dX5_write_22 : decode cX5_write 22 = .ok (.aload_n 0, 1) := by decide +kernel
theorem dX5_write_23 : decode cX5_write 23 = .ok (.iload 4, 2) := by decide +kernel
theorem dX5_write_25 : decode cX5_write 25 = .ok (.ifCond .ne 7, 3) := by decide +kernel
theorem dX5_write_28 : decode cX5_write 28 = .ok (.iconst 1, 1) := by decide +kernel
theorem dX5_write_29 : decode cX5_write 29 = .ok (.goto 31, 3) := by decide +kernel
theorem dX5_write_32 : decode cX5_write 32 = .ok (.iload_n 3, 1) := by decide +kernel
theorem dX5_write_33 : decode cX5_write 33 = .ok (.iconst 0, 1) := by decide +kernel
theorem dX5_write_34 : decode cX5_write 34 = .ok (.bipush 9, 2) := by decide +kernel
theorem dX5_write_36 : decode cX5_write 36 = .ok (.invokestatic 27, 3) := by decide +kernel
theorem dX5_write_39 : decode cX5_write 39 = .ok (.ifCond .ne 7, 3) := by decide +kernel
theorem dX5_write_42 : decode cX5_write 42 = .ok (.iconst 2, 1) := by decide +kernel
theorem dX5_write_43 : decode cX5_write 43 = .ok (.goto 17, 3) := by decide +kernel
theorem dX5_write_46 : decode cX5_write 46 = .ok (.aload_n 0, 1) := by decide +kernel
theorem dX5_write_47 : decode cX5_write 47 = .ok (.iload_n 1, 1) := by decide +kernel
theorem dX5_write_48 : decode cX5_write 48 = .ok (.iload_n 2, 1) := by decide +kernel
theorem dX5_write_49 : decode cX5_write 49 = .ok (.invokevirtual 102, 3) := by decide +kernel
theorem dX5_write_52 : decode cX5_write 52 = .ok (.ifCond .ne 7, 3) := by decide +kernel
theorem dX5_write_55 : decode cX5_write 55 = .ok (.iconst 3, 1) := by decide +kernel
theorem dX5_write_56 : decode cX5_write 56 = .ok (.goto 4, 3) := by decide +kernel
theorem dX5_write_59 : decode cX5_write 59 = .ok (.iconst 0, 1) := by decide +kernel
theorem dX5_write_60 : decode cX5_write 60 = .ok (.invokevirtual 56, 3) := by decide +kernel
theorem dX5_write_63 : decode cX5_write 63 = .ok (.ifCond .ne 5, 3) := by decide +kernel
theorem dX5_write_66 : decode cX5_write 66 = .ok (.iconst 0, 1) := by decide +kernel
theorem dX5_write_67 : decode cX5_write 67 = .ok (.ireturn, 1) := by decide +kernel
theorem dX5_write_68 : decode cX5_write 68 = .ok (.aload_n 0, 1) := by decide +kernel
theorem dX5_write_69 : decode cX5_write 69 = .ok (.invokevirtual 60, 3) := by decide +kernel
theorem dX5_write_72 : decode cX5_write 72 = .ok (.aload_n 0, 1) := by decide +kernel
theorem dX5_write_73 : decode cX5_write 73 = .ok (.iload_n 2, 1) := by decide +kernel
theorem dX5_write_74 : decode cX5_write 74 = .ok (.iconst 5, 1) := by decide +kernel
theorem dX5_write_75 : decode cX5_write 75 = .ok (.iload_n 1, 1) := by decide +kernel
theorem dX5_write_76 : decode cX5_write 76 = .ok (.iadd, 1) := by decide +kernel
theorem dX5_write_77 : decode cX5_write 77 = .ok (.iload_n 3, 1) := by decide +kernel
theorem dX5_write_78 : decode cX5_write 78 = .ok (.invokevirtual 63, 3) := by decide +kernel
theorem dX5_write_81 : decode cX5_write 81 = .ok (.aload_n 0, 1) := by decide +kernel
theorem dX5_write_82 : decode cX5_write 82 = .ok (.iload_n 2, 1) := by decide +kernel
theorem dX5_write_83 : decode cX5_write 83 = .ok (.iconst 1, 1) := by decide +kernel
theorem dX5_write_84 : decode cX5_write 84 = .ok (.invokevirtual 80, 3) := by decide +kernel
theorem dX5_write_87 : decode cX5_write 87 = .ok (.invokestatic 84, 3) := by decide +kernel
theorem dX5_write_90 : decode cX5_write 90 = .ok (.ireturn, 1) := by decide +kernel
set_option maxRecDepth 100000 in
set_option maxHeartbeats 4000000 in
theorem mt_X5_write (r0 : Option Nat) (i1 : Int32) (i2 : Int32) (i3 : Int32) (S0 : PH) (y : Int32 × PH) (h : m_X5_write r0 i1 i2 i3 S0 = some y) : MT yX5_write (.code yX5_write cX5_write 5 (Option.some FieldType.int)) 4 91 0 0 [va_rf r0, .int i1, .int i2, .int i3] S0 (oQ e_I (qN y)) := by
  refine mt_of (own := RX5) (l0 := [(0, va_rf r0), (1, .int i1), (2, .int i2), (3, .int i3)]) rfl rfl (by cases r0 <;> exact Nat.le_of_ble_eq_true rfl) (by cases r0 <;> rfl) ?_
  intro Z hC hQ hE hN
  have J_60 : ∀ (v19 : Option Nat) (v20 : Int32) (S21 : PH), j_X5_write_60 r0 i1 i2 i3 v19 v20 S21 = some y → PX Z 5 S21 0 0 60 [(0, va_rf r0), (1, .int i1), (2, .int i2), (3, .int i3)] [.int v20, va_rf v19] := by
    intro v19 v20 S21 h
    unfold j_X5_write_60 at h
    replace h := dr_el h
    obtain ⟨a22, ea23, ha24, h⟩ := h
    replace h := bd_el h
    obtain ⟨v25, S26, hb27, h⟩ := h
    refine x_callV hC (st := []) (mt_X5_holds _ _ _ _ hb27) ea23 ha24 kf_5 q_915 q_917 qs_43 q_7 q_918 ⟨rfl, hy_X5_holds⟩ ⟨Nat.le_of_ble_eq_true rfl, Nat.le_of_ble_eq_true rfl⟩ ⟨Nat.le_of_ble_eq_true rfl, Nat.le_of_ble_eq_true rfl⟩ rfl (Nat.le_of_ble_eq_true rfl) dX5_write_60 (r_N ?_) r_NX
    show PX Z 5 S26 0 0 63 [(0, va_rf r0), (1, .int i1), (2, .int i2), (3, .int i3)] [.int v25]
    refine x_if_ne (t := 68) hC dX5_write_63 (by decide) (fun c28 => ?_) (fun c28 => ?_)
    · replace h := it_f c28 h
      refine x_aload_n (i := 0) hC dX5_write_68 rfl 0 rfl ?_
      replace h := dr_el h
      obtain ⟨a29, ea30, ha31, h⟩ := h
      replace h := bd_el h
      obtain ⟨v32, S33, hb34, h⟩ := h
      refine x_callV hC (st := []) (mt_X5_save _ _ _ hb34) ea30 ha31 kf_5 q_919 q_921 qs_44 q_7 q_922 ⟨rfl, hy_X5_save⟩ ⟨Nat.le_of_ble_eq_true rfl, Nat.le_of_ble_eq_true rfl⟩ ⟨Nat.le_of_ble_eq_true rfl, Nat.le_of_ble_eq_true rfl⟩ rfl (Nat.le_of_ble_eq_true rfl) dX5_write_69 (r_N ?_) r_NX
      show PX Z 5 S33 0 0 72 [(0, va_rf r0), (1, .int i1), (2, .int i2), (3, .int i3)] []
      refine x_aload_n (i := 0) hC dX5_write_72 rfl 0 rfl ?_
      refine x_iload_n (i := 2) hC dX5_write_73 rfl 2 rfl ?_
      refine x_iconst (v := (5 : Int32)) hC dX5_write_74 (by decide) ?_
      refine x_iload_n (i := 1) hC dX5_write_75 rfl 1 rfl ?_
      refine x_iadd hC dX5_write_76 ?_
      refine x_iload_n (i := 3) hC dX5_write_77 rfl 3 rfl ?_
      replace h := dr_el h
      obtain ⟨a35, ea36, ha37, h⟩ := h
      replace h := bd_el h
      obtain ⟨v38, S39, hb40, h⟩ := h
      refine x_callV hC (st := []) (mt_X5_lay _ _ _ _ _ _ hb40) ea36 ha37 kf_5 q_927 q_929 qs_46 q_7 q_930 ⟨rfl, hy_X5_lay⟩ ⟨Nat.le_of_ble_eq_true rfl, Nat.le_of_ble_eq_true rfl⟩ ⟨Nat.le_of_ble_eq_true rfl, Nat.le_of_ble_eq_true rfl⟩ rfl (Nat.le_of_ble_eq_true rfl) dX5_write_78 (r_N ?_) r_NX
      show PX Z 5 S39 0 0 81 [(0, va_rf r0), (1, .int i1), (2, .int i2), (3, .int i3)] []
      refine x_aload_n (i := 0) hC dX5_write_81 rfl 0 rfl ?_
      refine x_iload_n (i := 2) hC dX5_write_82 rfl 2 rfl ?_
      refine x_iconst (v := (1 : Int32)) hC dX5_write_83 (by decide) ?_
      replace h := dr_el h
      obtain ⟨a41, ea42, ha43, h⟩ := h
      replace h := bd_el h
      obtain ⟨v44, S45, hb46, h⟩ := h
      refine x_callV hC (st := []) (mt_X5_reviewers _ _ _ _ _ hb46) ea42 ha43 kf_5 q_989 q_991 qs_54 q_7 q_992 ⟨rfl, hy_X5_reviewers⟩ ⟨Nat.le_of_ble_eq_true rfl, Nat.le_of_ble_eq_true rfl⟩ ⟨Nat.le_of_ble_eq_true rfl, Nat.le_of_ble_eq_true rfl⟩ rfl (Nat.le_of_ble_eq_true rfl) dX5_write_84 (r_N ?_) r_NX
      show PX Z 5 S45 0 0 87 [(0, va_rf r0), (1, .int i1), (2, .int i2), (3, .int i3)] [.int v44]
      replace h := bd_el h
      obtain ⟨v47, S48, hb49, h⟩ := h
      refine x_callS hC (st := []) (mt_X5_ones _ _ _ hb49) q_997 q_998 q_7 q_999 hy_X5_ones ⟨Nat.le_of_ble_eq_true rfl, Nat.le_of_ble_eq_true rfl⟩ ⟨Nat.le_of_ble_eq_true rfl, Nat.le_of_ble_eq_true rfl⟩ rfl (Nat.le_of_ble_eq_true rfl) dX5_write_87 (r_N ?_) r_NX
      show PX Z 5 S48 0 0 90 [(0, va_rf r0), (1, .int i1), (2, .int i2), (3, .int i3)] [.int v47]
      exact x_iret hC hQ (z_N (Option.some.inj h)) (Nat.le_of_ble_eq_true rfl) (Nat.le_of_ble_eq_true rfl) dX5_write_90
    · replace h := it_t c28 h
      refine x_iconst (v := (0 : Int32)) hC dX5_write_66 (by decide) ?_
      exact x_iret hC hQ (z_N (Option.some.inj h)) (Nat.le_of_ble_eq_true rfl) (Nat.le_of_ble_eq_true rfl) dX5_write_67
  have J_20 : ∀ (v5 : Int32) (S6 : PH), j_X5_write_20 r0 i1 i2 i3 v5 S6 = some y → PX Z 5 S6 0 0 20 [(0, va_rf r0), (1, .int i1), (2, .int i2), (3, .int i3)] [.int v5] := by
    intro v5 S6 h
    unfold j_X5_write_20 at h
    refine x_istore (i := 4) (l' := [(4, .int v5), (0, va_rf r0), (1, .int i1), (2, .int i2), (3, .int i3)]) hC dX5_write_20 (⟨fun _ => c_rf r0, ⟨fun _ => rfl, ⟨fun _ => rfl, ⟨fun _ => rfl, trivial⟩⟩⟩⟩) (by decide) rfl ?_
    refine x_aload_n (i := 0) hC dX5_write_22 rfl 1 rfl ?_
    refine x_iload (i := 4) hC dX5_write_23 0 rfl ?_
    refine x_if_ne (t := 32) hC dX5_write_25 (by decide) (fun c7 => ?_) (fun c7 => ?_)
    · replace h := it_f c7 h
      refine x_iload_n (i := 3) hC dX5_write_32 rfl 4 rfl ?_
      refine x_iconst (v := (0 : Int32)) hC dX5_write_33 (by decide) ?_
      refine x_bipush (v := (9 : Int32)) hC dX5_write_34 (by decide) ?_
      replace h := bd_el h
      obtain ⟨v8, S9, hb10, h⟩ := h
      refine x_callS hC (st := [va_rf r0]) (mt_X5_in _ _ _ _ _ hb10) q_912 q_913 q_7 q_914 hy_X5_in ⟨Nat.le_of_ble_eq_true rfl, Nat.le_of_ble_eq_true rfl⟩ ⟨Nat.le_of_ble_eq_true rfl, Nat.le_of_ble_eq_true rfl⟩ rfl (Nat.le_of_ble_eq_true rfl) dX5_write_36 (r_N ?_) r_NX
      show PX Z 5 S9 0 0 39 [(4, .int v5), (0, va_rf r0), (1, .int i1), (2, .int i2), (3, .int i3)] [.int v8, va_rf r0]
      refine x_if_ne (t := 46) hC dX5_write_39 (by decide) (fun c11 => ?_) (fun c11 => ?_)
      · replace h := it_f c11 h
        refine x_aload_n (i := 0) hC dX5_write_46 rfl 1 rfl ?_
        refine x_iload_n (i := 1) hC dX5_write_47 rfl 2 rfl ?_
        refine x_iload_n (i := 2) hC dX5_write_48 rfl 3 rfl ?_
        replace h := dr_el h
        obtain ⟨a12, ea13, ha14, h⟩ := h
        replace h := bd_el h
        obtain ⟨v15, S16, hb17, h⟩ := h
        refine x_callV hC (st := [va_rf r0]) (mt_X5_canWrite _ _ _ _ _ hb17) ea13 ha14 kf_5 q_1019 q_1021 qs_59 q_7 q_1022 ⟨rfl, hy_X5_canWrite⟩ ⟨Nat.le_of_ble_eq_true rfl, Nat.le_of_ble_eq_true rfl⟩ ⟨Nat.le_of_ble_eq_true rfl, Nat.le_of_ble_eq_true rfl⟩ rfl (Nat.le_of_ble_eq_true rfl) dX5_write_49 (r_N ?_) r_NX
        show PX Z 5 S16 0 0 52 [(4, .int v5), (0, va_rf r0), (1, .int i1), (2, .int i2), (3, .int i3)] [.int v15, va_rf r0]
        refine x_if_ne (t := 59) hC dX5_write_52 (by decide) (fun c18 => ?_) (fun c18 => ?_)
        · replace h := it_f c18 h
          refine x_iconst (v := (0 : Int32)) hC dX5_write_59 (by decide) ?_
          refine x_sub (l' := [(0, va_rf r0), (1, .int i1), (2, .int i2), (3, .int i3)]) [1, 2, 3, 4] rfl ?_
          exact J_60 _ _ _ h
        · replace h := it_t c18 h
          refine x_iconst (v := (3 : Int32)) hC dX5_write_55 (by decide) ?_
          refine x_goto (t := 60) hC dX5_write_56 (by decide) ?_
          refine x_sub (l' := [(0, va_rf r0), (1, .int i1), (2, .int i2), (3, .int i3)]) [1, 2, 3, 4] rfl ?_
          exact J_60 _ _ _ h
      · replace h := it_t c11 h
        refine x_iconst (v := (2 : Int32)) hC dX5_write_42 (by decide) ?_
        refine x_goto (t := 60) hC dX5_write_43 (by decide) ?_
        refine x_sub (l' := [(0, va_rf r0), (1, .int i1), (2, .int i2), (3, .int i3)]) [1, 2, 3, 4] rfl ?_
        exact J_60 _ _ _ h
    · replace h := it_t c7 h
      refine x_iconst (v := (1 : Int32)) hC dX5_write_28 (by decide) ?_
      refine x_goto (t := 60) hC dX5_write_29 (by decide) ?_
      refine x_sub (l' := [(0, va_rf r0), (1, .int i1), (2, .int i2), (3, .int i3)]) [1, 2, 3, 4] rfl ?_
      exact J_60 _ _ _ h
  unfold m_X5_write at h
  refine x_iload_n (i := 1) hC dX5_write_0 rfl 1 rfl ?_
  replace h := bd_el h
  obtain ⟨v1, S2, hb3, h⟩ := h
  refine x_callS hC (st := []) (mt_X5_isPerson _ _ _ hb3) q_935 q_936 q_7 q_937 hy_X5_isPerson ⟨Nat.le_of_ble_eq_true rfl, Nat.le_of_ble_eq_true rfl⟩ ⟨Nat.le_of_ble_eq_true rfl, Nat.le_of_ble_eq_true rfl⟩ rfl (Nat.le_of_ble_eq_true rfl) dX5_write_1 (r_N ?_) r_NX
  show PX Z 5 S2 0 0 4 [(0, va_rf r0), (1, .int i1), (2, .int i2), (3, .int i3)] [.int v1]
  refine x_if_eq (t := 19) hC dX5_write_4 (by decide) (fun c4 => ?_) (fun c4 => ?_)
  · replace h := it_t c4 h
    refine x_iconst (v := (0 : Int32)) hC dX5_write_19 (by decide) ?_
    exact J_20 _ _ h
  · replace h := it_f c4 h
    refine x_aload_n (i := 0) hC dX5_write_7 rfl 0 rfl ?_
    refine x_iload_n (i := 2) hC dX5_write_8 rfl 2 rfl ?_
    replace h := dr_el h
    obtain ⟨a50, ea51, ha52, h⟩ := h
    replace h := bd_el h
    obtain ⟨v53, S54, hb55, h⟩ := h
    refine x_callV hC (st := []) (mt_X5_isPaper _ _ _ _ hb55) ea51 ha52 kf_5 q_969 q_971 qs_49 q_7 q_972 ⟨rfl, hy_X5_isPaper⟩ ⟨Nat.le_of_ble_eq_true rfl, Nat.le_of_ble_eq_true rfl⟩ ⟨Nat.le_of_ble_eq_true rfl, Nat.le_of_ble_eq_true rfl⟩ rfl (Nat.le_of_ble_eq_true rfl) dX5_write_9 (r_N ?_) r_NX
    show PX Z 5 S54 0 0 12 [(0, va_rf r0), (1, .int i1), (2, .int i2), (3, .int i3)] [.int v53]
    refine x_if_eq (t := 19) hC dX5_write_12 (by decide) (fun c56 => ?_) (fun c56 => ?_)
    · replace h := it_t c56 h
      refine x_iconst (v := (0 : Int32)) hC dX5_write_19 (by decide) ?_
      exact J_20 _ _ h
    · replace h := it_f c56 h
      refine x_iconst (v := (1 : Int32)) hC dX5_write_15 (by decide) ?_
      refine x_goto (t := 20) hC dX5_write_16 (by decide) ?_
      exact J_20 _ _ h
theorem dX5_drops_0 : decode cX5_drops 0 = .ok (.aload_n 0, 1) := by decide +kernel
theorem dX5_drops_1 : decode cX5_drops 1 = .ok (.iload_n 2, 1) := by decide +kernel
theorem dX5_drops_2 : decode cX5_drops 2 = .ok (.iconst 5, 1) := by decide +kernel
theorem dX5_drops_3 : decode cX5_drops 3 = .ok (.iload_n 1, 1) := by decide +kernel
theorem dX5_drops_4 : decode cX5_drops 4 = .ok (.iadd, 1) := by decide +kernel
theorem dX5_drops_5 : decode cX5_drops 5 = .ok (.iconst (-1), 1) := by decide +kernel
theorem dX5_drops_6 : decode cX5_drops 6 = .ok (.invokevirtual 63, 3) := by decide +kernel
theorem dX5_drops_9 : decode cX5_drops 9 = .ok (.aload_n 0, 1) := by decide +kernel
theorem dX5_drops_10 : decode cX5_drops 10 = .ok (.iload_n 1, 1) := by decide +kernel
theorem dX5_drops_11 : decode cX5_drops 11 = .ok (.iconst (-1), 1) := by decide +kernel
theorem dX5_drops_12 : decode cX5_drops 12 = .ok (.invokevirtual 93, 3) := by decide +kernel
theorem dX5_drops_15 : decode cX5_drops 15 = .ok (.aload_n 0, 1) := by decide +kernel
theorem dX5_drops_16 : decode cX5_drops 16 = .ok (.getfield 7, 3) := by decide +kernel
theorem dX5_drops_19 : decode cX5_drops 19 = .ok (.bipush 49, 2) := by decide +kernel
theorem dX5_drops_21 : decode cX5_drops 21 = .ok (.iload_n 1, 1) := by decide +kernel
theorem dX5_drops_22 : decode cX5_drops 22 = .ok (.iadd, 1) := by decide +kernel
theorem dX5_drops_23 : decode cX5_drops 23 = .ok (.dup2, 1) := by decide +kernel
theorem dX5_drops_24 : decode cX5_drops 24 = .ok (.iaload, 1) := by decide +kernel
theorem dX5_drops_25 : decode cX5_drops 25 = .ok (.iconst 1, 1) := by decide +kernel
theorem dX5_drops_26 : decode cX5_drops 26 = .ok (.iadd, 1) := by decide +kernel
theorem dX5_drops_27 : decode cX5_drops 27 = .ok (.iastore, 1) := by decide +kernel
theorem dX5_drops_28 : decode cX5_drops 28 = .ok (.return_, 1) := by decide +kernel
set_option maxRecDepth 100000 in
set_option maxHeartbeats 4000000 in
theorem mt_X5_drops (r0 : Option Nat) (i1 : Int32) (i2 : Int32) (S0 : PH) (y : Unit × PH) (h : m_X5_drops r0 i1 i2 S0 = some y) : MT yX5_drops (.code yX5_drops cX5_drops 3 (Option.none : Option FieldType)) 1 23 0 0 [va_rf r0, .int i1, .int i2] S0 (oQ e_V (qN y)) := by
  refine mt_of (own := RX5) (l0 := [(0, va_rf r0), (1, .int i1), (2, .int i2)]) rfl rfl (by cases r0 <;> exact Nat.le_of_ble_eq_true rfl) (by cases r0 <;> rfl) ?_
  intro Z hC hQ hE hN
  unfold m_X5_drops at h
  refine x_aload_n (i := 0) hC dX5_drops_0 rfl 0 rfl ?_
  refine x_iload_n (i := 2) hC dX5_drops_1 rfl 2 rfl ?_
  refine x_iconst (v := (5 : Int32)) hC dX5_drops_2 (by decide) ?_
  refine x_iload_n (i := 1) hC dX5_drops_3 rfl 1 rfl ?_
  refine x_iadd hC dX5_drops_4 ?_
  refine x_iconst (v := (-1 : Int32)) hC dX5_drops_5 (by decide) ?_
  replace h := dr_el h
  obtain ⟨a1, ea2, ha3, h⟩ := h
  replace h := bd_el h
  obtain ⟨v4, S5, hb6, h⟩ := h
  refine x_callV hC (st := []) (mt_X5_lay _ _ _ _ _ _ hb6) ea2 ha3 kf_5 q_927 q_929 qs_46 q_7 q_930 ⟨rfl, hy_X5_lay⟩ ⟨Nat.le_of_ble_eq_true rfl, Nat.le_of_ble_eq_true rfl⟩ ⟨Nat.le_of_ble_eq_true rfl, Nat.le_of_ble_eq_true rfl⟩ rfl (Nat.le_of_ble_eq_true rfl) dX5_drops_6 (r_N ?_) r_NX
  show PX Z 3 S5 0 0 9 [(0, va_rf r0), (1, .int i1), (2, .int i2)] []
  refine x_aload_n (i := 0) hC dX5_drops_9 rfl 0 rfl ?_
  refine x_iload_n (i := 1) hC dX5_drops_10 rfl 1 rfl ?_
  refine x_iconst (v := (-1 : Int32)) hC dX5_drops_11 (by decide) ?_
  replace h := dr_el h
  obtain ⟨a7, ea8, ha9, h⟩ := h
  replace h := bd_el h
  obtain ⟨v10, S11, hb12, h⟩ := h
  refine x_callV hC (st := []) (mt_X5_pays _ _ _ _ _ hb12) ea8 ha9 kf_5 q_1011 q_1013 qs_58 q_7 q_1014 ⟨rfl, hy_X5_pays⟩ ⟨Nat.le_of_ble_eq_true rfl, Nat.le_of_ble_eq_true rfl⟩ ⟨Nat.le_of_ble_eq_true rfl, Nat.le_of_ble_eq_true rfl⟩ rfl (Nat.le_of_ble_eq_true rfl) dX5_drops_12 (r_N ?_) r_NX
  show PX Z 3 S11 0 0 15 [(0, va_rf r0), (1, .int i1), (2, .int i2)] []
  refine x_aload_n (i := 0) hC dX5_drops_15 rfl 0 rfl ?_
  replace h := dr_el h
  obtain ⟨a13, ea14, ha15, h⟩ := h
  refine x_getR hC ea14 ha15 kf_5 1 (by decide) rfl q_864 dX5_drops_16 ?_
  refine x_bipush (v := (49 : Int32)) hC dX5_drops_19 (by decide) ?_
  refine x_iload_n (i := 1) hC dX5_drops_21 rfl 1 rfl ?_
  refine x_iadd hC dX5_drops_22 ?_
  refine x_dup2 hC dX5_drops_23 rfl (c_rf (p_R S11 a13 1)) ?_
  replace h := dr_el h
  obtain ⟨a16, ea17, ha18, h⟩ := h
  replace h := ck_el h
  obtain ⟨hc19, h⟩ := h
  refine x_iaload hC ea17 ha18 hc19 dX5_drops_24 ?_
  refine x_iconst (v := (1 : Int32)) hC dX5_drops_25 (by decide) ?_
  refine x_iadd hC dX5_drops_26 ?_
  replace h := ck_el h
  obtain ⟨hc20, h⟩ := h
  replace h := le_el h
  obtain ⟨S21, hx22, h⟩ := h
  refine x_iastore hC ea17 ha18 hc20 dX5_drops_27 ?_
  refine x_tS hx22 ?_
  exact x_vret hC hQ (z_N (v := ()) (Option.some.inj h)) (Nat.le_of_ble_eq_true rfl) (Nat.le_of_ble_eq_true rfl) dX5_drops_28
theorem dX5_drop_0 : decode cX5_drop 0 = .ok (.iload_n 1, 1) := by decide +kernel
theorem dX5_drop_1 : decode cX5_drop 1 = .ok (.invokestatic 67, 3) := by decide +kernel
theorem dX5_drop_4 : decode cX5_drop 4 = .ok (.ifCond .eq 15, 3) := by decide +kernel
theorem dX5_drop_7 : decode cX5_drop 7 = .ok (.aload_n 0, 1) := by decide +kernel
theorem dX5_drop_8 : decode cX5_drop 8 = .ok (.iload_n 2, 1) := by decide +kernel
theorem dX5_drop_9 : decode cX5_drop 9 = .ok (.invokevirtual 96, 3) := by decide +kernel
theorem dX5_drop_12 : decode cX5_drop 12 = .ok (.ifCond .eq 7, 3) := by decide +kernel
theorem dX5_drop_15 : decode cX5_drop 15 = .ok (.iconst 1, 1) := by decide +kernel
theorem dX5_drop_16 : decode cX5_drop 16 = .ok (.goto 4, 3) := by decide +kernel
theorem dX5_drop_19 : decode cX5_drop 19 = .ok (.iconst 0, 1) := by decide +kernel
theorem dX5_drop_20 : decode cX5_drop 20 = .ok (.istore_n 3, 1) := by decide +kernel
theorem dX5_drop_21 : decode cX5_drop 21 = .ok (.aload_n 0, 1) := by decide +kernel
theorem dX5_drop_22 : decode cX5_drop 22 = .ok (.iload_n 3, 1) := by decide +kernel
theorem dX5_drop_23 : decode cX5_drop 23 = .ok (.ifCond .ne 7, 3) := by decide +kernel
theorem dX5_drop_26 : decode cX5_drop 26 = .ok (.iconst 1, 1) := by decide +kernel
theorem dX5_drop_27 : decode cX5_drop 27 = .ok (.goto 19, 3) := by decide +kernel
theorem dX5_drop_30 : decode cX5_drop 30 = .ok (.aload_n 0, 1) := by decide +kernel
theorem dX5_drop_31 : decode cX5_drop 31 = .ok (.iload_n 1, 1) := by decide +kernel
theorem dX5_drop_32 : decode cX5_drop 32 = .ok (.iload_n 2, 1) := by decide +kernel
theorem dX5_drop_33 : decode cX5_drop 33 = .ok (.invokevirtual 35, 3) := by decide +kernel
theorem dX5_drop_36 : decode cX5_drop 36 = .ok (.bipush 10, 2) := by decide +kernel
theorem dX5_drop_38 : decode cX5_drop 38 = .ok (.if_icmp .eq 7, 3) := by decide +kernel
theorem dX5_drop_41 : decode cX5_drop 41 = .ok (.iconst 2, 1) := by decide +kernel
theorem dX5_drop_42 : decode cX5_drop 42 = .ok (.goto 4, 3) := by decide +kernel
theorem dX5_drop_45 : decode cX5_drop 45 = .ok (.iconst 0, 1) := by decide +kernel
theorem dX5_drop_46 : decode cX5_drop 46 = .ok (.invokevirtual 56, 3) := by decide +kernel
theorem dX5_drop_49 : decode cX5_drop 49 = .ok (.ifCond .ne 5, 3) := by decide +kernel
theorem dX5_drop_52 : decode cX5_drop 52 = .ok (.iconst 0, 1) := by decide +kernel
theorem dX5_drop_53 : decode cX5_drop 53 = .ok (.ireturn, 1) := by decide +kernel
theorem dX5_drop_54 : decode cX5_drop 54 = .ok (.aload_n 0, 1) := by decide +kernel
theorem dX5_drop_55 : decode cX5_drop 55 = .ok (.invokevirtual 60, 3) := by decide +kernel
theorem dX5_drop_58 : decode cX5_drop 58 = .ok (.aload_n 0, 1) := by decide +kernel
theorem dX5_drop_59 : decode cX5_drop 59 = .ok (.iload_n 1, 1) := by decide +kernel
theorem dX5_drop_60 : decode cX5_drop 60 = .ok (.iload_n 2, 1) := by decide +kernel
theorem dX5_drop_61 : decode cX5_drop 61 = .ok (.invokevirtual 105, 3) := by decide +kernel
theorem dX5_drop_64 : decode cX5_drop 64 = .ok (.aload_n 0, 1) := by decide +kernel
theorem dX5_drop_65 : decode cX5_drop 65 = .ok (.getfield 7, 3) := by decide +kernel
theorem dX5_drop_68 : decode cX5_drop 68 = .ok (.bipush 9, 2) := by decide +kernel
theorem dX5_drop_70 : decode cX5_drop 70 = .ok (.iload_n 1, 1) := by decide +kernel
theorem dX5_drop_71 : decode cX5_drop 71 = .ok (.iadd, 1) := by decide +kernel
theorem dX5_drop_72 : decode cX5_drop 72 = .ok (.iaload, 1) := by decide +kernel
theorem dX5_drop_73 : decode cX5_drop 73 = .ok (.ireturn, 1) := by decide +kernel
set_option maxRecDepth 100000 in
set_option maxHeartbeats 4000000 in
theorem mt_X5_drop (r0 : Option Nat) (i1 : Int32) (i2 : Int32) (S0 : PH) (y : Int32 × PH) (h : m_X5_drop r0 i1 i2 S0 = some y) : MT yX5_drop (.code yX5_drop cX5_drop 4 (Option.some FieldType.int)) 2 45 0 0 [va_rf r0, .int i1, .int i2] S0 (oQ e_I (qN y)) := by
  refine mt_of (own := RX5) (l0 := [(0, va_rf r0), (1, .int i1), (2, .int i2)]) rfl rfl (by cases r0 <;> exact Nat.le_of_ble_eq_true rfl) (by cases r0 <;> rfl) ?_
  intro Z hC hQ hE hN
  have J_46 : ∀ (v15 : Option Nat) (v16 : Int32) (S17 : PH), j_X5_drop_46 r0 i1 i2 v15 v16 S17 = some y → PX Z 4 S17 0 0 46 [(0, va_rf r0), (1, .int i1), (2, .int i2)] [.int v16, va_rf v15] := by
    intro v15 v16 S17 h
    unfold j_X5_drop_46 at h
    replace h := dr_el h
    obtain ⟨a18, ea19, ha20, h⟩ := h
    replace h := bd_el h
    obtain ⟨v21, S22, hb23, h⟩ := h
    refine x_callV hC (st := []) (mt_X5_holds _ _ _ _ hb23) ea19 ha20 kf_5 q_915 q_917 qs_43 q_7 q_918 ⟨rfl, hy_X5_holds⟩ ⟨Nat.le_of_ble_eq_true rfl, Nat.le_of_ble_eq_true rfl⟩ ⟨Nat.le_of_ble_eq_true rfl, Nat.le_of_ble_eq_true rfl⟩ rfl (Nat.le_of_ble_eq_true rfl) dX5_drop_46 (r_N ?_) r_NX
    show PX Z 4 S22 0 0 49 [(0, va_rf r0), (1, .int i1), (2, .int i2)] [.int v21]
    refine x_if_ne (t := 54) hC dX5_drop_49 (by decide) (fun c24 => ?_) (fun c24 => ?_)
    · replace h := it_f c24 h
      refine x_aload_n (i := 0) hC dX5_drop_54 rfl 0 rfl ?_
      replace h := dr_el h
      obtain ⟨a25, ea26, ha27, h⟩ := h
      replace h := bd_el h
      obtain ⟨v28, S29, hb30, h⟩ := h
      refine x_callV hC (st := []) (mt_X5_save _ _ _ hb30) ea26 ha27 kf_5 q_919 q_921 qs_44 q_7 q_922 ⟨rfl, hy_X5_save⟩ ⟨Nat.le_of_ble_eq_true rfl, Nat.le_of_ble_eq_true rfl⟩ ⟨Nat.le_of_ble_eq_true rfl, Nat.le_of_ble_eq_true rfl⟩ rfl (Nat.le_of_ble_eq_true rfl) dX5_drop_55 (r_N ?_) r_NX
      show PX Z 4 S29 0 0 58 [(0, va_rf r0), (1, .int i1), (2, .int i2)] []
      refine x_aload_n (i := 0) hC dX5_drop_58 rfl 0 rfl ?_
      refine x_iload_n (i := 1) hC dX5_drop_59 rfl 1 rfl ?_
      refine x_iload_n (i := 2) hC dX5_drop_60 rfl 2 rfl ?_
      replace h := dr_el h
      obtain ⟨a31, ea32, ha33, h⟩ := h
      replace h := bd_el h
      obtain ⟨v34, S35, hb36, h⟩ := h
      refine x_callV hC (st := []) (mt_X5_drops _ _ _ _ _ hb36) ea32 ha33 kf_5 q_1027 q_1029 qs_60 q_7 q_1030 ⟨rfl, hy_X5_drops⟩ ⟨Nat.le_of_ble_eq_true rfl, Nat.le_of_ble_eq_true rfl⟩ ⟨Nat.le_of_ble_eq_true rfl, Nat.le_of_ble_eq_true rfl⟩ rfl (Nat.le_of_ble_eq_true rfl) dX5_drop_61 (r_N ?_) r_NX
      show PX Z 4 S35 0 0 64 [(0, va_rf r0), (1, .int i1), (2, .int i2)] []
      refine x_aload_n (i := 0) hC dX5_drop_64 rfl 0 rfl ?_
      replace h := dr_el h
      obtain ⟨a37, ea38, ha39, h⟩ := h
      refine x_getR hC ea38 ha39 kf_5 1 (by decide) rfl q_864 dX5_drop_65 ?_
      refine x_bipush (v := (9 : Int32)) hC dX5_drop_68 (by decide) ?_
      refine x_iload_n (i := 1) hC dX5_drop_70 rfl 1 rfl ?_
      refine x_iadd hC dX5_drop_71 ?_
      replace h := dr_el h
      obtain ⟨a40, ea41, ha42, h⟩ := h
      replace h := ck_el h
      obtain ⟨hc43, h⟩ := h
      refine x_iaload hC ea41 ha42 hc43 dX5_drop_72 ?_
      exact x_iret hC hQ (z_N (Option.some.inj h)) (Nat.le_of_ble_eq_true rfl) (Nat.le_of_ble_eq_true rfl) dX5_drop_73
    · replace h := it_t c24 h
      refine x_iconst (v := (0 : Int32)) hC dX5_drop_52 (by decide) ?_
      exact x_iret hC hQ (z_N (Option.some.inj h)) (Nat.le_of_ble_eq_true rfl) (Nat.le_of_ble_eq_true rfl) dX5_drop_53
  have J_20 : ∀ (v5 : Int32) (S6 : PH), j_X5_drop_20 r0 i1 i2 v5 S6 = some y → PX Z 4 S6 0 0 20 [(0, va_rf r0), (1, .int i1), (2, .int i2)] [.int v5] := by
    intro v5 S6 h
    unfold j_X5_drop_20 at h
    refine x_istore_n (i := 3) (l' := [(3, .int v5), (0, va_rf r0), (1, .int i1), (2, .int i2)]) hC dX5_drop_20 rfl (⟨fun _ => c_rf r0, ⟨fun _ => rfl, ⟨fun _ => rfl, trivial⟩⟩⟩) (by decide) rfl ?_
    refine x_aload_n (i := 0) hC dX5_drop_21 rfl 1 rfl ?_
    refine x_iload_n (i := 3) hC dX5_drop_22 rfl 0 rfl ?_
    refine x_if_ne (t := 30) hC dX5_drop_23 (by decide) (fun c7 => ?_) (fun c7 => ?_)
    · replace h := it_f c7 h
      refine x_aload_n (i := 0) hC dX5_drop_30 rfl 1 rfl ?_
      refine x_iload_n (i := 1) hC dX5_drop_31 rfl 2 rfl ?_
      refine x_iload_n (i := 2) hC dX5_drop_32 rfl 3 rfl ?_
      replace h := dr_el h
      obtain ⟨a8, ea9, ha10, h⟩ := h
      replace h := bd_el h
      obtain ⟨v11, S12, hb13, h⟩ := h
      refine x_callV hC (st := [va_rf r0]) (mt_X5_scoreOf _ _ _ _ _ hb13) ea9 ha10 kf_5 q_985 q_987 qs_53 q_7 q_988 ⟨rfl, hy_X5_scoreOf⟩ ⟨Nat.le_of_ble_eq_true rfl, Nat.le_of_ble_eq_true rfl⟩ ⟨Nat.le_of_ble_eq_true rfl, Nat.le_of_ble_eq_true rfl⟩ rfl (Nat.le_of_ble_eq_true rfl) dX5_drop_33 (r_N ?_) r_NX
      show PX Z 4 S12 0 0 36 [(3, .int v5), (0, va_rf r0), (1, .int i1), (2, .int i2)] [.int v11, va_rf r0]
      refine x_bipush (v := (10 : Int32)) hC dX5_drop_36 (by decide) ?_
      refine x_icmp_eq (t := 45) hC dX5_drop_38 (by decide) (fun c14 => ?_) (fun c14 => ?_)
      · replace h := it_t c14 h
        refine x_iconst (v := (0 : Int32)) hC dX5_drop_45 (by decide) ?_
        refine x_sub (l' := [(0, va_rf r0), (1, .int i1), (2, .int i2)]) [1, 2, 3] rfl ?_
        exact J_46 _ _ _ h
      · replace h := it_f c14 h
        refine x_iconst (v := (2 : Int32)) hC dX5_drop_41 (by decide) ?_
        refine x_goto (t := 46) hC dX5_drop_42 (by decide) ?_
        refine x_sub (l' := [(0, va_rf r0), (1, .int i1), (2, .int i2)]) [1, 2, 3] rfl ?_
        exact J_46 _ _ _ h
    · replace h := it_t c7 h
      refine x_iconst (v := (1 : Int32)) hC dX5_drop_26 (by decide) ?_
      refine x_goto (t := 46) hC dX5_drop_27 (by decide) ?_
      refine x_sub (l' := [(0, va_rf r0), (1, .int i1), (2, .int i2)]) [1, 2, 3] rfl ?_
      exact J_46 _ _ _ h
  unfold m_X5_drop at h
  refine x_iload_n (i := 1) hC dX5_drop_0 rfl 1 rfl ?_
  replace h := bd_el h
  obtain ⟨v1, S2, hb3, h⟩ := h
  refine x_callS hC (st := []) (mt_X5_isPerson _ _ _ hb3) q_935 q_936 q_7 q_937 hy_X5_isPerson ⟨Nat.le_of_ble_eq_true rfl, Nat.le_of_ble_eq_true rfl⟩ ⟨Nat.le_of_ble_eq_true rfl, Nat.le_of_ble_eq_true rfl⟩ rfl (Nat.le_of_ble_eq_true rfl) dX5_drop_1 (r_N ?_) r_NX
  show PX Z 4 S2 0 0 4 [(0, va_rf r0), (1, .int i1), (2, .int i2)] [.int v1]
  refine x_if_eq (t := 19) hC dX5_drop_4 (by decide) (fun c4 => ?_) (fun c4 => ?_)
  · replace h := it_t c4 h
    refine x_iconst (v := (0 : Int32)) hC dX5_drop_19 (by decide) ?_
    exact J_20 _ _ h
  · replace h := it_f c4 h
    refine x_aload_n (i := 0) hC dX5_drop_7 rfl 0 rfl ?_
    refine x_iload_n (i := 2) hC dX5_drop_8 rfl 2 rfl ?_
    replace h := dr_el h
    obtain ⟨a44, ea45, ha46, h⟩ := h
    replace h := bd_el h
    obtain ⟨v47, S48, hb49, h⟩ := h
    refine x_callV hC (st := []) (mt_X5_isPaper _ _ _ _ hb49) ea45 ha46 kf_5 q_969 q_971 qs_49 q_7 q_972 ⟨rfl, hy_X5_isPaper⟩ ⟨Nat.le_of_ble_eq_true rfl, Nat.le_of_ble_eq_true rfl⟩ ⟨Nat.le_of_ble_eq_true rfl, Nat.le_of_ble_eq_true rfl⟩ rfl (Nat.le_of_ble_eq_true rfl) dX5_drop_9 (r_N ?_) r_NX
    show PX Z 4 S48 0 0 12 [(0, va_rf r0), (1, .int i1), (2, .int i2)] [.int v47]
    refine x_if_eq (t := 19) hC dX5_drop_12 (by decide) (fun c50 => ?_) (fun c50 => ?_)
    · replace h := it_t c50 h
      refine x_iconst (v := (0 : Int32)) hC dX5_drop_19 (by decide) ?_
      exact J_20 _ _ h
    · replace h := it_f c50 h
      refine x_iconst (v := (1 : Int32)) hC dX5_drop_15 (by decide) ?_
      refine x_goto (t := 20) hC dX5_drop_16 (by decide) ?_
      exact J_20 _ _ h
theorem dX5_reasonAgainstTalk_0 : decode cX5_reasonAgainstTalk 0 = .ok (.aload_n 0, 1) := by decide +kernel
theorem dX5_reasonAgainstTalk_1 : decode cX5_reasonAgainstTalk 1 = .ok (.iload_n 1, 1) := by decide +kernel
theorem dX5_reasonAgainstTalk_2 : decode cX5_reasonAgainstTalk 2 = .ok (.iconst 4, 1) := by decide +kernel
theorem dX5_reasonAgainstTalk_3 : decode cX5_reasonAgainstTalk 3 = .ok (.invokevirtual 31, 3) := by decide +kernel
theorem dX5_reasonAgainstTalk_6 : decode cX5_reasonAgainstTalk 6 = .ok (.ifCond .le 5, 3) := by decide +kernel
theorem dX5_reasonAgainstTalk_9 : decode cX5_reasonAgainstTalk 9 = .ok (.iconst 1, 1) := by decide +kernel
theorem dX5_reasonAgainstTalk_10 : decode cX5_reasonAgainstTalk 10 = .ok (.ireturn, 1) := by decide +kernel
theorem dX5_reasonAgainstTalk_11 : decode cX5_reasonAgainstTalk 11 = .ok (.aload_n 0, 1) := by decide +kernel
theorem dX5_reasonAgainstTalk_12 : decode cX5_reasonAgainstTalk 12 = .ok (.iload_n 1, 1) := by decide +kernel
theorem dX5_reasonAgainstTalk_13 : decode cX5_reasonAgainstTalk 13 = .ok (.iconst 1, 1) := by decide +kernel
theorem dX5_reasonAgainstTalk_14 : decode cX5_reasonAgainstTalk 14 = .ok (.invokevirtual 80, 3) := by decide +kernel
theorem dX5_reasonAgainstTalk_17 : decode cX5_reasonAgainstTalk 17 = .ok (.invokestatic 84, 3) := by decide +kernel
theorem dX5_reasonAgainstTalk_20 : decode cX5_reasonAgainstTalk 20 = .ok (.iconst 2, 1) := by decide +kernel
theorem dX5_reasonAgainstTalk_21 : decode cX5_reasonAgainstTalk 21 = .ok (.if_icmp .ge 5, 3) := by decide +kernel
theorem dX5_reasonAgainstTalk_24 : decode cX5_reasonAgainstTalk 24 = .ok (.iconst 2, 1) := by decide +kernel
theorem dX5_reasonAgainstTalk_25 : decode cX5_reasonAgainstTalk 25 = .ok (.ireturn, 1) := by decide +kernel
theorem dX5_reasonAgainstTalk_26 : decode cX5_reasonAgainstTalk 26 = .ok (.iconst 0, 1) := by decide +kernel
theorem dX5_reasonAgainstTalk_27 : decode cX5_reasonAgainstTalk 27 = .ok (.istore_n 2, 1) := by decide +kernel
theorem dX5_reasonAgainstTalk_28 : decode cX5_reasonAgainstTalk 28 = .ok (.iload_n 2, 1) := by decide +kernel
theorem dX5_reasonAgainstTalk_29 : decode cX5_reasonAgainstTalk 29 = .ok (.bipush 8, 2) := by decide +kernel
theorem dX5_reasonAgainstTalk_31 : decode cX5_reasonAgainstTalk 31 = .ok (.if_icmp .ge 32, 3) := by decide +kernel
theorem dX5_reasonAgainstTalk_34 : decode cX5_reasonAgainstTalk 34 = .ok (.aload_n 0, 1) := by decide +kernel
theorem dX5_reasonAgainstTalk_35 : decode cX5_reasonAgainstTalk 35 = .ok (.iload_n 2, 1) := by decide +kernel
theorem dX5_reasonAgainstTalk_36 : decode cX5_reasonAgainstTalk 36 = .ok (.iload_n 1, 1) := by decide +kernel
theorem dX5_reasonAgainstTalk_37 : decode cX5_reasonAgainstTalk 37 = .ok (.invokevirtual 38, 3) := by decide +kernel
theorem dX5_reasonAgainstTalk_40 : decode cX5_reasonAgainstTalk 40 = .ok (.ifCond .eq 17, 3) := by decide +kernel
theorem dX5_reasonAgainstTalk_43 : decode cX5_reasonAgainstTalk 43 = .ok (.aload_n 0, 1) := by decide +kernel
theorem dX5_reasonAgainstTalk_44 : decode cX5_reasonAgainstTalk 44 = .ok (.getfield 7, 3) := by decide +kernel
theorem dX5_reasonAgainstTalk_47 : decode cX5_reasonAgainstTalk 47 = .ok (.bipush 9, 2) := by decide +kernel
theorem dX5_reasonAgainstTalk_49 : decode cX5_reasonAgainstTalk 49 = .ok (.iload_n 2, 1) := by decide +kernel
theorem dX5_reasonAgainstTalk_50 : decode cX5_reasonAgainstTalk 50 = .ok (.iadd, 1) := by decide +kernel
theorem dX5_reasonAgainstTalk_51 : decode cX5_reasonAgainstTalk 51 = .ok (.iaload, 1) := by decide +kernel
theorem dX5_reasonAgainstTalk_52 : decode cX5_reasonAgainstTalk 52 = .ok (.ifCond .ne 5, 3) := by decide +kernel
theorem dX5_reasonAgainstTalk_55 : decode cX5_reasonAgainstTalk 55 = .ok (.iconst 3, 1) := by decide +kernel
theorem dX5_reasonAgainstTalk_56 : decode cX5_reasonAgainstTalk 56 = .ok (.ireturn, 1) := by decide +kernel
theorem dX5_reasonAgainstTalk_57 : decode cX5_reasonAgainstTalk 57 = .ok (.iinc 2 1, 3) := by decide +kernel
theorem dX5_reasonAgainstTalk_60 : decode cX5_reasonAgainstTalk 60 = .ok (.goto (-32), 3) := by decide +kernel
theorem dX5_reasonAgainstTalk_63 : decode cX5_reasonAgainstTalk 63 = .ok (.iconst 0, 1) := by decide +kernel
theorem dX5_reasonAgainstTalk_64 : decode cX5_reasonAgainstTalk 64 = .ok (.ireturn, 1) := by decide +kernel
set_option maxRecDepth 100000 in
set_option maxHeartbeats 4000000 in
theorem mt_X5_reasonAgainstTalk (r0 : Option Nat) (i1 : Int32) (S0 : PH) (y : Int32 × PH) (h : m_X5_reasonAgainstTalk r0 i1 S0 = some y) : MT yX5_reasonAgainstTalk (.code yX5_reasonAgainstTalk cX5_reasonAgainstTalk 3 (Option.some FieldType.int)) 4 91 0 0 [va_rf r0, .int i1] S0 (oQ e_I (qN y)) := by
  refine mt_of (own := RX5) (l0 := [(0, va_rf r0), (1, .int i1)]) rfl rfl (by cases r0 <;> exact Nat.le_of_ble_eq_true rfl) (by cases r0 <;> rfl) ?_
  intro Z hC hQ hE hN
  unfold m_X5_reasonAgainstTalk at h
  refine x_aload_n (i := 0) hC dX5_reasonAgainstTalk_0 rfl 0 rfl ?_
  refine x_iload_n (i := 1) hC dX5_reasonAgainstTalk_1 rfl 1 rfl ?_
  refine x_iconst (v := (4 : Int32)) hC dX5_reasonAgainstTalk_2 (by decide) ?_
  replace h := dr_el h
  obtain ⟨a1, ea2, ha3, h⟩ := h
  replace h := bd_el h
  obtain ⟨v4, S5, hb6, h⟩ := h
  refine x_callV hC (st := []) (mt_X5_of _ _ _ _ _ hb6) ea2 ha3 kf_5 q_981 q_983 qs_52 q_7 q_984 ⟨rfl, hy_X5_of⟩ ⟨Nat.le_of_ble_eq_true rfl, Nat.le_of_ble_eq_true rfl⟩ ⟨Nat.le_of_ble_eq_true rfl, Nat.le_of_ble_eq_true rfl⟩ rfl (Nat.le_of_ble_eq_true rfl) dX5_reasonAgainstTalk_3 (r_N ?_) r_NX
  show PX Z 3 S5 0 0 6 [(0, va_rf r0), (1, .int i1)] [.int v4]
  refine x_if_le (t := 11) hC dX5_reasonAgainstTalk_6 (by decide) (fun c7 => ?_) (fun c7 => ?_)
  · replace h := it_t c7 h
    refine x_aload_n (i := 0) hC dX5_reasonAgainstTalk_11 rfl 0 rfl ?_
    refine x_iload_n (i := 1) hC dX5_reasonAgainstTalk_12 rfl 1 rfl ?_
    refine x_iconst (v := (1 : Int32)) hC dX5_reasonAgainstTalk_13 (by decide) ?_
    replace h := dr_el h
    obtain ⟨a8, ea9, ha10, h⟩ := h
    replace h := bd_el h
    obtain ⟨v11, S12, hb13, h⟩ := h
    refine x_callV hC (st := []) (mt_X5_reviewers _ _ _ _ _ hb13) ea9 ha10 kf_5 q_989 q_991 qs_54 q_7 q_992 ⟨rfl, hy_X5_reviewers⟩ ⟨Nat.le_of_ble_eq_true rfl, Nat.le_of_ble_eq_true rfl⟩ ⟨Nat.le_of_ble_eq_true rfl, Nat.le_of_ble_eq_true rfl⟩ rfl (Nat.le_of_ble_eq_true rfl) dX5_reasonAgainstTalk_14 (r_N ?_) r_NX
    show PX Z 3 S12 0 0 17 [(0, va_rf r0), (1, .int i1)] [.int v11]
    replace h := bd_el h
    obtain ⟨v14, S15, hb16, h⟩ := h
    refine x_callS hC (st := []) (mt_X5_ones _ _ _ hb16) q_997 q_998 q_7 q_999 hy_X5_ones ⟨Nat.le_of_ble_eq_true rfl, Nat.le_of_ble_eq_true rfl⟩ ⟨Nat.le_of_ble_eq_true rfl, Nat.le_of_ble_eq_true rfl⟩ rfl (Nat.le_of_ble_eq_true rfl) dX5_reasonAgainstTalk_17 (r_N ?_) r_NX
    show PX Z 3 S15 0 0 20 [(0, va_rf r0), (1, .int i1)] [.int v14]
    refine x_iconst (v := (2 : Int32)) hC dX5_reasonAgainstTalk_20 (by decide) ?_
    refine x_icmp_ge (t := 26) hC dX5_reasonAgainstTalk_21 (by decide) (fun c17 => ?_) (fun c17 => ?_)
    · replace h := it_t c17 h
      refine x_iconst (v := (0 : Int32)) hC dX5_reasonAgainstTalk_26 (by decide) ?_
      refine x_istore_n (i := 2) (l' := [(2, .int (0 : Int32)), (0, va_rf r0), (1, .int i1)]) hC dX5_reasonAgainstTalk_27 rfl (⟨fun _ => c_rf r0, ⟨fun _ => rfl, trivial⟩⟩) (by decide) rfl ?_
      refine x_sub (l' := [(0, va_rf r0), (1, .int i1), (2, .int (0 : Int32))]) [1, 2, 0] rfl ?_
      refine lp_sim (P := fun (t : (Int32 × PH)) => PX Z 3 t.2 0 0 28 [(0, va_rf r0), (1, .int i1), (2, .int t.1)] []) (G := fun r => r = y) ?_ h rfl
      clear h
      intro t x_28 h hg_28
      obtain ⟨v18, S19⟩ := t
      show PX Z 3 S19 0 0 28 [(0, va_rf r0), (1, .int i1), (2, .int v18)] []
      unfold st_X5_reasonAgainstTalk_28 at h
      refine x_iload_n (i := 2) hC dX5_reasonAgainstTalk_28 rfl 2 rfl ?_
      refine x_bipush (v := (8 : Int32)) hC dX5_reasonAgainstTalk_29 (by decide) ?_
      refine x_icmp_ge (t := 63) hC dX5_reasonAgainstTalk_31 (by decide) (fun c20 => ?_) (fun c20 => ?_)
      · replace h := it_t c20 h
        replace h := ir_x h hg_28
        refine x_iconst (v := (0 : Int32)) hC dX5_reasonAgainstTalk_63 (by decide) ?_
        exact x_iret hC hQ (z_N (Option.some.inj h)) (Nat.le_of_ble_eq_true rfl) (Nat.le_of_ble_eq_true rfl) dX5_reasonAgainstTalk_64
      · replace h := it_f c20 h
        refine x_aload_n (i := 0) hC dX5_reasonAgainstTalk_34 rfl 0 rfl ?_
        refine x_iload_n (i := 2) hC dX5_reasonAgainstTalk_35 rfl 2 rfl ?_
        refine x_iload_n (i := 1) hC dX5_reasonAgainstTalk_36 rfl 1 rfl ?_
        replace h := dr_el h
        obtain ⟨a21, ea22, ha23, h⟩ := h
        replace h := bd_el h
        obtain ⟨v24, S25, hb26, h⟩ := h
        refine x_callV hC (st := []) (mt_X5_isWritten _ _ _ _ _ hb26) ea22 ha23 kf_5 q_993 q_995 qs_55 q_7 q_996 ⟨rfl, hy_X5_isWritten⟩ ⟨Nat.le_of_ble_eq_true rfl, Nat.le_of_ble_eq_true rfl⟩ ⟨Nat.le_of_ble_eq_true rfl, Nat.le_of_ble_eq_true rfl⟩ rfl (Nat.le_of_ble_eq_true rfl) dX5_reasonAgainstTalk_37 (r_N ?_) r_NX
        show PX Z 3 S25 0 0 40 [(0, va_rf r0), (1, .int i1), (2, .int v18)] [.int v24]
        refine x_if_eq (t := 57) hC dX5_reasonAgainstTalk_40 (by decide) (fun c27 => ?_) (fun c27 => ?_)
        · replace h := it_t c27 h
          refine x_iinc (i := 2) (v := (v18 + (1 : Int32))) (l' := [(2, .int (v18 + (1 : Int32))), (0, va_rf r0), (1, .int i1)]) hC dX5_reasonAgainstTalk_57 2 rfl rfl (⟨fun _ => c_rf r0, ⟨fun _ => rfl, ⟨fun _ => rfl, trivial⟩⟩⟩) (by decide) rfl ?_
          refine x_goto (t := 28) hC dX5_reasonAgainstTalk_60 (by decide) ?_
          refine x_sub (l' := [(0, va_rf r0), (1, .int i1), (2, .int (v18 + (1 : Int32)))]) [1, 2, 0] rfl ?_
          have hb := bk_x h hg_28
          exact hb
        · replace h := it_f c27 h
          refine x_aload_n (i := 0) hC dX5_reasonAgainstTalk_43 rfl 0 rfl ?_
          replace h := dr_el h
          obtain ⟨a28, ea29, ha30, h⟩ := h
          refine x_getR hC ea29 ha30 kf_5 1 (by decide) rfl q_864 dX5_reasonAgainstTalk_44 ?_
          refine x_bipush (v := (9 : Int32)) hC dX5_reasonAgainstTalk_47 (by decide) ?_
          refine x_iload_n (i := 2) hC dX5_reasonAgainstTalk_49 rfl 2 rfl ?_
          refine x_iadd hC dX5_reasonAgainstTalk_50 ?_
          replace h := dr_el h
          obtain ⟨a31, ea32, ha33, h⟩ := h
          replace h := ck_el h
          obtain ⟨hc34, h⟩ := h
          refine x_iaload hC ea32 ha33 hc34 dX5_reasonAgainstTalk_51 ?_
          refine x_if_ne (t := 57) hC dX5_reasonAgainstTalk_52 (by decide) (fun c35 => ?_) (fun c35 => ?_)
          · replace h := it_f c35 h
            refine x_iinc (i := 2) (v := (v18 + (1 : Int32))) (l' := [(2, .int (v18 + (1 : Int32))), (0, va_rf r0), (1, .int i1)]) hC dX5_reasonAgainstTalk_57 2 rfl rfl (⟨fun _ => c_rf r0, ⟨fun _ => rfl, ⟨fun _ => rfl, trivial⟩⟩⟩) (by decide) rfl ?_
            refine x_goto (t := 28) hC dX5_reasonAgainstTalk_60 (by decide) ?_
            refine x_sub (l' := [(0, va_rf r0), (1, .int i1), (2, .int (v18 + (1 : Int32)))]) [1, 2, 0] rfl ?_
            have hb := bk_x h hg_28
            exact hb
          · replace h := it_t c35 h
            replace h := ir_x h hg_28
            refine x_iconst (v := (3 : Int32)) hC dX5_reasonAgainstTalk_55 (by decide) ?_
            exact x_iret hC hQ (z_N (Option.some.inj h)) (Nat.le_of_ble_eq_true rfl) (Nat.le_of_ble_eq_true rfl) dX5_reasonAgainstTalk_56
    · replace h := it_f c17 h
      refine x_iconst (v := (2 : Int32)) hC dX5_reasonAgainstTalk_24 (by decide) ?_
      exact x_iret hC hQ (z_N (Option.some.inj h)) (Nat.le_of_ble_eq_true rfl) (Nat.le_of_ble_eq_true rfl) dX5_reasonAgainstTalk_25
  · replace h := it_f c7 h
    refine x_iconst (v := (1 : Int32)) hC dX5_reasonAgainstTalk_9 (by decide) ?_
    exact x_iret hC hQ (z_N (Option.some.inj h)) (Nat.le_of_ble_eq_true rfl) (Nat.le_of_ble_eq_true rfl) dX5_reasonAgainstTalk_10
theorem dX5_discusses_0 : decode cX5_discusses 0 = .ok (.aload_n 0, 1) := by decide +kernel
theorem dX5_discusses_1 : decode cX5_discusses 1 = .ok (.iload_n 1, 1) := by decide +kernel
theorem dX5_discusses_2 : decode cX5_discusses 2 = .ok (.invokevirtual 108, 3) := by decide +kernel
theorem dX5_discusses_5 : decode cX5_discusses 5 = .ok (.istore_n 2, 1) := by decide +kernel
theorem dX5_discusses_6 : decode cX5_discusses 6 = .ok (.iload_n 2, 1) := by decide +kernel
theorem dX5_discusses_7 : decode cX5_discusses 7 = .ok (.ifCond .le 15, 3) := by decide +kernel
theorem dX5_discusses_10 : decode cX5_discusses 10 = .ok (.aload_n 0, 1) := by decide +kernel
theorem dX5_discusses_11 : decode cX5_discusses 11 = .ok (.getfield 7, 3) := by decide +kernel
theorem dX5_discusses_14 : decode cX5_discusses 14 = .ok (.iconst 3, 1) := by decide +kernel
theorem dX5_discusses_15 : decode cX5_discusses 15 = .ok (.dup2, 1) := by decide +kernel
theorem dX5_discusses_16 : decode cX5_discusses 16 = .ok (.iaload, 1) := by decide +kernel
theorem dX5_discusses_17 : decode cX5_discusses 17 = .ok (.iconst 1, 1) := by decide +kernel
theorem dX5_discusses_18 : decode cX5_discusses 18 = .ok (.iadd, 1) := by decide +kernel
theorem dX5_discusses_19 : decode cX5_discusses 19 = .ok (.iastore, 1) := by decide +kernel
theorem dX5_discusses_20 : decode cX5_discusses 20 = .ok (.iload_n 2, 1) := by decide +kernel
theorem dX5_discusses_21 : decode cX5_discusses 21 = .ok (.ireturn, 1) := by decide +kernel
theorem dX5_discusses_22 : decode cX5_discusses 22 = .ok (.aload_n 0, 1) := by decide +kernel
theorem dX5_discusses_23 : decode cX5_discusses 23 = .ok (.iload_n 1, 1) := by decide +kernel
theorem dX5_discusses_24 : decode cX5_discusses 24 = .ok (.invokevirtual 111, 3) := by decide +kernel
theorem dX5_discusses_27 : decode cX5_discusses 27 = .ok (.aload_n 0, 1) := by decide +kernel
theorem dX5_discusses_28 : decode cX5_discusses 28 = .ok (.iload_n 1, 1) := by decide +kernel
theorem dX5_discusses_29 : decode cX5_discusses 29 = .ok (.iconst 1, 1) := by decide +kernel
theorem dX5_discusses_30 : decode cX5_discusses 30 = .ok (.invokevirtual 80, 3) := by decide +kernel
theorem dX5_discusses_33 : decode cX5_discusses 33 = .ok (.invokestatic 84, 3) := by decide +kernel
theorem dX5_discusses_36 : decode cX5_discusses 36 = .ok (.idiv, 1) := by decide +kernel
theorem dX5_discusses_37 : decode cX5_discusses 37 = .ok (.istore_n 3, 1) := by decide +kernel
theorem dX5_discusses_38 : decode cX5_discusses 38 = .ok (.iconst 0, 1) := by decide +kernel
theorem dX5_discusses_39 : decode cX5_discusses 39 = .ok (.istore 4, 2) := by decide +kernel
theorem dX5_discusses_41 : decode cX5_discusses 41 = .ok (.iconst 0, 1) := by decide +kernel
theorem dX5_discusses_42 : decode cX5_discusses 42 = .ok (.istore 5, 2) := by decide +kernel
theorem dX5_discusses_44 : decode cX5_discusses 44 = .ok (.iload 5, 2) := by decide +kernel
theorem dX5_discusses_46 : decode cX5_discusses 46 = .ok (.bipush 8, 2) := by decide +kernel
theorem dX5_discusses_48 : decode cX5_discusses 48 = .ok (.if_icmp .ge 93, 3) := by decide +kernel
theorem dX5_discusses_51 : decode cX5_discusses 51 = .ok (.aload_n 0, 1) := by decide +kernel
theorem dX5_discusses_52 : decode cX5_discusses 52 = .ok (.iload 5, 2) := by decide +kernel
theorem dX5_discusses_54 : decode cX5_discusses 54 = .ok (.iload_n 1, 1) := by decide +kernel
theorem dX5_discusses_55 : decode cX5_discusses 55 = .ok (.invokevirtual 38, 3) := by decide +kernel
theorem dX5_discusses_58 : decode cX5_discusses 58 = .ok (.ifCond .eq 77, 3) := by decide +kernel
theorem dX5_discusses_61 : decode cX5_discusses 61 = .ok (.aload_n 0, 1) := by decide +kernel
theorem dX5_discusses_62 : decode cX5_discusses 62 = .ok (.iload 5, 2) := by decide +kernel
theorem dX5_discusses_64 : decode cX5_discusses 64 = .ok (.iload_n 1, 1) := by decide +kernel
theorem dX5_discusses_65 : decode cX5_discusses 65 = .ok (.invokevirtual 35, 3) := by decide +kernel
theorem dX5_discusses_68 : decode cX5_discusses 68 = .ok (.istore 6, 2) := by decide +kernel
theorem dX5_discusses_70 : decode cX5_discusses 70 = .ok (.iload 6, 2) := by decide +kernel
theorem dX5_discusses_72 : decode cX5_discusses 72 = .ok (.iload_n 3, 1) := by decide +kernel
theorem dX5_discusses_73 : decode cX5_discusses 73 = .ok (.if_icmp .ge 10, 3) := by decide +kernel
theorem dX5_discusses_76 : decode cX5_discusses 76 = .ok (.iload 6, 2) := by decide +kernel
theorem dX5_discusses_78 : decode cX5_discusses 78 = .ok (.iconst 1, 1) := by decide +kernel
theorem dX5_discusses_79 : decode cX5_discusses 79 = .ok (.iadd, 1) := by decide +kernel
theorem dX5_discusses_80 : decode cX5_discusses 80 = .ok (.goto 18, 3) := by decide +kernel
theorem dX5_discusses_83 : decode cX5_discusses 83 = .ok (.iload 6, 2) := by decide +kernel
theorem dX5_discusses_85 : decode cX5_discusses 85 = .ok (.iload_n 3, 1) := by decide +kernel
theorem dX5_discusses_86 : decode cX5_discusses 86 = .ok (.if_icmp .le 10, 3) := by decide +kernel
theorem dX5_discusses_89 : decode cX5_discusses 89 = .ok (.iload 6, 2) := by decide +kernel
theorem dX5_discusses_91 : decode cX5_discusses 91 = .ok (.iconst 1, 1) := by decide +kernel
theorem dX5_discusses_92 : decode cX5_discusses 92 = .ok (.isub, 1) := by decide +kernel
theorem dX5_discusses_93 : decode cX5_discusses 93 = .ok (.goto 5, 3) := by decide +kernel
theorem dX5_discusses_96 : decode cX5_discusses 96 = .ok (.iload 6, 2) := by decide +kernel
theorem dX5_discusses_98 : decode cX5_discusses 98 = .ok (.istore 7, 2) := by decide +kernel
theorem dX5_discusses_100 : decode cX5_discusses 100 = .ok (.aload_n 0, 1) := by decide +kernel
theorem dX5_discusses_101 : decode cX5_discusses 101 = .ok (.iload 5, 2) := by decide +kernel
theorem dX5_discusses_103 : decode cX5_discusses 103 = .ok (.iconst 1, 1) := by decide +kernel
theorem dX5_discusses_104 : decode cX5_discusses 104 = .ok (.invokevirtual 93, 3) := by decide +kernel
theorem dX5_discusses_107 : decode cX5_discusses 107 = .ok (.aload_n 0, 1) := by decide +kernel
theorem dX5_discusses_108 : decode cX5_discusses 108 = .ok (.iload_n 1, 1) := by decide +kernel
theorem dX5_discusses_109 : decode cX5_discusses 109 = .ok (.iconst 5, 1) := by decide +kernel
theorem dX5_discusses_110 : decode cX5_discusses 110 = .ok (.iload 5, 2) := by decide +kernel
theorem dX5_discusses_112 : decode cX5_discusses 112 = .ok (.iadd, 1) := by decide +kernel
theorem dX5_discusses_113 : decode cX5_discusses 113 = .ok (.iload 7, 2) := by decide +kernel
theorem dX5_discusses_115 : decode cX5_discusses 115 = .ok (.invokevirtual 63, 3) := by decide +kernel
theorem dX5_discusses_118 : decode cX5_discusses 118 = .ok (.iload 4, 2) := by decide +kernel
theorem dX5_discusses_120 : decode cX5_discusses 120 = .ok (.iload 7, 2) := by decide +kernel
theorem dX5_discusses_122 : decode cX5_discusses 122 = .ok (.iload 6, 2) := by decide +kernel
theorem dX5_discusses_124 : decode cX5_discusses 124 = .ok (.if_icmp .eq 7, 3) := by decide +kernel
theorem dX5_discusses_127 : decode cX5_discusses 127 = .ok (.iconst 1, 1) := by decide +kernel
theorem dX5_discusses_128 : decode cX5_discusses 128 = .ok (.goto 4, 3) := by decide +kernel
theorem dX5_discusses_131 : decode cX5_discusses 131 = .ok (.iconst 0, 1) := by decide +kernel
theorem dX5_discusses_132 : decode cX5_discusses 132 = .ok (.iadd, 1) := by decide +kernel
theorem dX5_discusses_133 : decode cX5_discusses 133 = .ok (.istore 4, 2) := by decide +kernel
theorem dX5_discusses_135 : decode cX5_discusses 135 = .ok (.iinc 5 1, 3) := by decide +kernel
theorem dX5_discusses_138 : decode cX5_discusses 138 = .ok (.goto (-94), 3) := by decide +kernel
theorem dX5_discusses_141 : decode cX5_discusses 141 = .ok (.aload_n 0, 1) := by decide +kernel
theorem dX5_discusses_142 : decode cX5_discusses 142 = .ok (.iload_n 1, 1) := by decide +kernel
theorem dX5_discusses_143 : decode cX5_discusses 143 = .ok (.iconst 2, 1) := by decide +kernel
theorem dX5_discusses_144 : decode cX5_discusses 144 = .ok (.aload_n 0, 1) := by decide +kernel
theorem dX5_discusses_145 : decode cX5_discusses 145 = .ok (.iload_n 1, 1) := by decide +kernel
theorem dX5_discusses_146 : decode cX5_discusses 146 = .ok (.iconst 2, 1) := by decide +kernel
theorem dX5_discusses_147 : decode cX5_discusses 147 = .ok (.invokevirtual 31, 3) := by decide +kernel
theorem dX5_discusses_150 : decode cX5_discusses 150 = .ok (.iconst 1, 1) := by decide +kernel
theorem dX5_discusses_151 : decode cX5_discusses 151 = .ok (.iadd, 1) := by decide +kernel
theorem dX5_discusses_152 : decode cX5_discusses 152 = .ok (.invokevirtual 63, 3) := by decide +kernel
theorem dX5_discusses_155 : decode cX5_discusses 155 = .ok (.bipush 10, 2) := by decide +kernel
theorem dX5_discusses_157 : decode cX5_discusses 157 = .ok (.iload 4, 2) := by decide +kernel
theorem dX5_discusses_159 : decode cX5_discusses 159 = .ok (.iadd, 1) := by decide +kernel
theorem dX5_discusses_160 : decode cX5_discusses 160 = .ok (.ireturn, 1) := by decide +kernel
set_option maxRecDepth 100000 in
set_option maxHeartbeats 4000000 in
theorem mt_X5_discusses (r0 : Option Nat) (i1 : Int32) (S0 : PH) (y : Int32 × PH) (h : m_X5_discusses r0 i1 S0 = some y) : MT yX5_discusses (.code yX5_discusses cX5_discusses 8 (Option.some FieldType.int)) 5 113 0 0 [va_rf r0, .int i1] S0 (oQ e_I (qN y)) := by
  refine mt_of (own := RX5) (l0 := [(0, va_rf r0), (1, .int i1)]) rfl rfl (by cases r0 <;> exact Nat.le_of_ble_eq_true rfl) (by cases r0 <;> rfl) ?_
  intro Z hC hQ hE hN
  unfold m_X5_discusses at h
  refine x_aload_n (i := 0) hC dX5_discusses_0 rfl 0 rfl ?_
  refine x_iload_n (i := 1) hC dX5_discusses_1 rfl 1 rfl ?_
  replace h := dr_el h
  obtain ⟨a1, ea2, ha3, h⟩ := h
  replace h := bd_el h
  obtain ⟨v4, S5, hb6, h⟩ := h
  refine x_callV hC (st := []) (mt_X5_reasonAgainstTalk _ _ _ _ hb6) ea2 ha3 kf_5 q_1039 q_1041 qs_62 q_7 q_1042 ⟨rfl, hy_X5_reasonAgainstTalk⟩ ⟨Nat.le_of_ble_eq_true rfl, Nat.le_of_ble_eq_true rfl⟩ ⟨Nat.le_of_ble_eq_true rfl, Nat.le_of_ble_eq_true rfl⟩ rfl (Nat.le_of_ble_eq_true rfl) dX5_discusses_2 (r_N ?_) r_NX
  show PX Z 8 S5 0 0 5 [(0, va_rf r0), (1, .int i1)] [.int v4]
  refine x_istore_n (i := 2) (l' := [(2, .int v4), (0, va_rf r0), (1, .int i1)]) hC dX5_discusses_5 rfl (⟨fun _ => c_rf r0, ⟨fun _ => rfl, trivial⟩⟩) (by decide) rfl ?_
  refine x_iload_n (i := 2) hC dX5_discusses_6 rfl 0 rfl ?_
  refine x_if_le (t := 22) hC dX5_discusses_7 (by decide) (fun c7 => ?_) (fun c7 => ?_)
  · replace h := it_t c7 h
    refine x_aload_n (i := 0) hC dX5_discusses_22 rfl 1 rfl ?_
    refine x_iload_n (i := 1) hC dX5_discusses_23 rfl 2 rfl ?_
    replace h := dr_el h
    obtain ⟨a8, ea9, ha10, h⟩ := h
    replace h := bd_el h
    obtain ⟨v11, S12, hb13, h⟩ := h
    refine x_callV hC (st := []) (mt_X5_sumOf _ _ _ _ hb13) ea9 ha10 kf_5 q_1043 q_1045 qs_63 q_7 q_1046 ⟨rfl, hy_X5_sumOf⟩ ⟨Nat.le_of_ble_eq_true rfl, Nat.le_of_ble_eq_true rfl⟩ ⟨Nat.le_of_ble_eq_true rfl, Nat.le_of_ble_eq_true rfl⟩ rfl (Nat.le_of_ble_eq_true rfl) dX5_discusses_24 (r_N ?_) r_NX
    show PX Z 8 S12 0 0 27 [(2, .int v4), (0, va_rf r0), (1, .int i1)] [.int v11]
    refine x_aload_n (i := 0) hC dX5_discusses_27 rfl 1 rfl ?_
    refine x_iload_n (i := 1) hC dX5_discusses_28 rfl 2 rfl ?_
    refine x_iconst (v := (1 : Int32)) hC dX5_discusses_29 (by decide) ?_
    replace h := dr_el h
    obtain ⟨a14, ea15, ha16, h⟩ := h
    replace h := bd_el h
    obtain ⟨v17, S18, hb19, h⟩ := h
    refine x_callV hC (st := [.int v11]) (mt_X5_reviewers _ _ _ _ _ hb19) ea15 ha16 kf_5 q_989 q_991 qs_54 q_7 q_992 ⟨rfl, hy_X5_reviewers⟩ ⟨Nat.le_of_ble_eq_true rfl, Nat.le_of_ble_eq_true rfl⟩ ⟨Nat.le_of_ble_eq_true rfl, Nat.le_of_ble_eq_true rfl⟩ rfl (Nat.le_of_ble_eq_true rfl) dX5_discusses_30 (r_N ?_) r_NX
    show PX Z 8 S18 0 0 33 [(2, .int v4), (0, va_rf r0), (1, .int i1)] [.int v17, .int v11]
    replace h := bd_el h
    obtain ⟨v20, S21, hb22, h⟩ := h
    refine x_callS hC (st := [.int v11]) (mt_X5_ones _ _ _ hb22) q_997 q_998 q_7 q_999 hy_X5_ones ⟨Nat.le_of_ble_eq_true rfl, Nat.le_of_ble_eq_true rfl⟩ ⟨Nat.le_of_ble_eq_true rfl, Nat.le_of_ble_eq_true rfl⟩ rfl (Nat.le_of_ble_eq_true rfl) dX5_discusses_33 (r_N ?_) r_NX
    show PX Z 8 S21 0 0 36 [(2, .int v4), (0, va_rf r0), (1, .int i1)] [.int v20, .int v11]
    replace h := ck_el h
    obtain ⟨hc23, h⟩ := h
    refine x_idiv hC dX5_discusses_36 (of_decide_eq_true hc23) ?_
    replace h := le_el h
    obtain ⟨x24, hx25, h⟩ := h
    refine x_tI hx25 ?_
    refine x_istore_n (i := 3) (l' := [(3, .int x24), (2, .int v4), (0, va_rf r0), (1, .int i1)]) hC dX5_discusses_37 rfl (⟨fun _ => rfl, ⟨fun _ => c_rf r0, ⟨fun _ => rfl, trivial⟩⟩⟩) (by decide) rfl ?_
    refine x_iconst (v := (0 : Int32)) hC dX5_discusses_38 (by decide) ?_
    refine x_istore (i := 4) (l' := [(4, .int (0 : Int32)), (3, .int x24), (2, .int v4), (0, va_rf r0), (1, .int i1)]) hC dX5_discusses_39 (⟨fun _ => rfl, ⟨fun _ => rfl, ⟨fun _ => c_rf r0, ⟨fun _ => rfl, trivial⟩⟩⟩⟩) (by decide) rfl ?_
    refine x_iconst (v := (0 : Int32)) hC dX5_discusses_41 (by decide) ?_
    refine x_istore (i := 5) (l' := [(5, .int (0 : Int32)), (4, .int (0 : Int32)), (3, .int x24), (2, .int v4), (0, va_rf r0), (1, .int i1)]) hC dX5_discusses_42 (⟨fun _ => rfl, ⟨fun _ => rfl, ⟨fun _ => rfl, ⟨fun _ => c_rf r0, ⟨fun _ => rfl, trivial⟩⟩⟩⟩⟩) (by decide) rfl ?_
    refine x_sub (l' := [(0, va_rf r0), (1, .int i1), (3, .int x24), (4, .int (0 : Int32)), (5, .int (0 : Int32))]) [4, 5, 2, 1, 0] rfl ?_
    refine lp_sim (P := fun (t : (Int32 × Int32 × Int32 × PH)) => PX Z 8 t.2.2.2 0 0 44 [(0, va_rf r0), (1, .int i1), (3, .int t.1), (4, .int t.2.1), (5, .int t.2.2.1)] []) (G := fun r => r = y) ?_ h rfl
    clear h
    intro t x_44 h hg_44
    obtain ⟨v26, v27, v28, S29⟩ := t
    show PX Z 8 S29 0 0 44 [(0, va_rf r0), (1, .int i1), (3, .int v26), (4, .int v27), (5, .int v28)] []
    have J_98 : ∀ (v58 : Int32) (v59 : Int32) (v60 : Int32) (v61 : Int32) (v62 : Int32) (S63 : PH), j_X5_discusses_98 r0 i1 v58 v59 v60 v61 v62 S63 = some x_44 → PX Z 8 S63 0 0 98 [(0, va_rf r0), (1, .int i1), (3, .int v58), (4, .int v59), (5, .int v60), (6, .int v61)] [.int v62] := by
      intro v58 v59 v60 v61 v62 S63 h
      unfold j_X5_discusses_98 at h
      refine x_istore (i := 7) (l' := [(7, .int v62), (0, va_rf r0), (1, .int i1), (3, .int v58), (4, .int v59), (5, .int v60), (6, .int v61)]) hC dX5_discusses_98 (⟨fun _ => c_rf r0, ⟨fun _ => rfl, ⟨fun _ => rfl, ⟨fun _ => rfl, ⟨fun _ => rfl, ⟨fun _ => rfl, trivial⟩⟩⟩⟩⟩⟩) (by decide) rfl ?_
      refine x_aload_n (i := 0) hC dX5_discusses_100 rfl 1 rfl ?_
      refine x_iload (i := 5) hC dX5_discusses_101 5 rfl ?_
      refine x_iconst (v := (1 : Int32)) hC dX5_discusses_103 (by decide) ?_
      replace h := dr_el h
      obtain ⟨a64, ea65, ha66, h⟩ := h
      replace h := bd_el h
      obtain ⟨v67, S68, hb69, h⟩ := h
      refine x_callV hC (st := []) (mt_X5_pays _ _ _ _ _ hb69) ea65 ha66 kf_5 q_1011 q_1013 qs_58 q_7 q_1014 ⟨rfl, hy_X5_pays⟩ ⟨Nat.le_of_ble_eq_true rfl, Nat.le_of_ble_eq_true rfl⟩ ⟨Nat.le_of_ble_eq_true rfl, Nat.le_of_ble_eq_true rfl⟩ rfl (Nat.le_of_ble_eq_true rfl) dX5_discusses_104 (r_N ?_) r_NX
      show PX Z 8 S68 0 0 107 [(7, .int v62), (0, va_rf r0), (1, .int i1), (3, .int v58), (4, .int v59), (5, .int v60), (6, .int v61)] []
      refine x_aload_n (i := 0) hC dX5_discusses_107 rfl 1 rfl ?_
      refine x_iload_n (i := 1) hC dX5_discusses_108 rfl 2 rfl ?_
      refine x_iconst (v := (5 : Int32)) hC dX5_discusses_109 (by decide) ?_
      refine x_iload (i := 5) hC dX5_discusses_110 5 rfl ?_
      refine x_iadd hC dX5_discusses_112 ?_
      refine x_iload (i := 7) hC dX5_discusses_113 0 rfl ?_
      replace h := dr_el h
      obtain ⟨a70, ea71, ha72, h⟩ := h
      replace h := bd_el h
      obtain ⟨v73, S74, hb75, h⟩ := h
      refine x_callV hC (st := []) (mt_X5_lay _ _ _ _ _ _ hb75) ea71 ha72 kf_5 q_927 q_929 qs_46 q_7 q_930 ⟨rfl, hy_X5_lay⟩ ⟨Nat.le_of_ble_eq_true rfl, Nat.le_of_ble_eq_true rfl⟩ ⟨Nat.le_of_ble_eq_true rfl, Nat.le_of_ble_eq_true rfl⟩ rfl (Nat.le_of_ble_eq_true rfl) dX5_discusses_115 (r_N ?_) r_NX
      show PX Z 8 S74 0 0 118 [(7, .int v62), (0, va_rf r0), (1, .int i1), (3, .int v58), (4, .int v59), (5, .int v60), (6, .int v61)] []
      refine x_iload (i := 4) hC dX5_discusses_118 4 rfl ?_
      refine x_iload (i := 7) hC dX5_discusses_120 0 rfl ?_
      refine x_iload (i := 6) hC dX5_discusses_122 6 rfl ?_
      refine x_icmp_eq (t := 131) hC dX5_discusses_124 (by decide) (fun c76 => ?_) (fun c76 => ?_)
      · replace h := it_t c76 h
        refine x_iconst (v := (0 : Int32)) hC dX5_discusses_131 (by decide) ?_
        refine x_iadd hC dX5_discusses_132 ?_
        replace h := le_el h
        obtain ⟨x77, hx78, h⟩ := h
        refine x_tI hx78 ?_
        refine x_istore (i := 4) (l' := [(4, .int x77), (7, .int v62), (0, va_rf r0), (1, .int i1), (3, .int v58), (5, .int v60), (6, .int v61)]) hC dX5_discusses_133 (⟨fun _ => rfl, ⟨fun _ => c_rf r0, ⟨fun _ => rfl, ⟨fun _ => rfl, ⟨fun _ => rfl, ⟨fun _ => rfl, ⟨fun _ => rfl, trivial⟩⟩⟩⟩⟩⟩⟩) (by decide) rfl ?_
        refine x_iinc (i := 5) (v := (v60 + (1 : Int32))) (l' := [(5, .int (v60 + (1 : Int32))), (4, .int x77), (7, .int v62), (0, va_rf r0), (1, .int i1), (3, .int v58), (6, .int v61)]) hC dX5_discusses_135 5 rfl rfl (⟨fun _ => rfl, ⟨fun _ => rfl, ⟨fun _ => c_rf r0, ⟨fun _ => rfl, ⟨fun _ => rfl, ⟨fun _ => rfl, ⟨fun _ => rfl, trivial⟩⟩⟩⟩⟩⟩⟩) (by decide) rfl ?_
        refine x_goto (t := 44) hC dX5_discusses_138 (by decide) ?_
        refine x_sub (l' := [(0, va_rf r0), (1, .int i1), (3, .int v58), (4, .int x77), (5, .int (v60 + (1 : Int32)))]) [3, 4, 5, 1, 0] rfl ?_
        have hb := bk_x h hg_44
        exact hb
      · replace h := it_f c76 h
        refine x_iconst (v := (1 : Int32)) hC dX5_discusses_127 (by decide) ?_
        refine x_goto (t := 132) hC dX5_discusses_128 (by decide) ?_
        refine x_iadd hC dX5_discusses_132 ?_
        replace h := le_el h
        obtain ⟨x79, hx80, h⟩ := h
        refine x_tI hx80 ?_
        refine x_istore (i := 4) (l' := [(4, .int x79), (7, .int v62), (0, va_rf r0), (1, .int i1), (3, .int v58), (5, .int v60), (6, .int v61)]) hC dX5_discusses_133 (⟨fun _ => rfl, ⟨fun _ => c_rf r0, ⟨fun _ => rfl, ⟨fun _ => rfl, ⟨fun _ => rfl, ⟨fun _ => rfl, ⟨fun _ => rfl, trivial⟩⟩⟩⟩⟩⟩⟩) (by decide) rfl ?_
        refine x_iinc (i := 5) (v := (v60 + (1 : Int32))) (l' := [(5, .int (v60 + (1 : Int32))), (4, .int x79), (7, .int v62), (0, va_rf r0), (1, .int i1), (3, .int v58), (6, .int v61)]) hC dX5_discusses_135 5 rfl rfl (⟨fun _ => rfl, ⟨fun _ => rfl, ⟨fun _ => c_rf r0, ⟨fun _ => rfl, ⟨fun _ => rfl, ⟨fun _ => rfl, ⟨fun _ => rfl, trivial⟩⟩⟩⟩⟩⟩⟩) (by decide) rfl ?_
        refine x_goto (t := 44) hC dX5_discusses_138 (by decide) ?_
        refine x_sub (l' := [(0, va_rf r0), (1, .int i1), (3, .int v58), (4, .int x79), (5, .int (v60 + (1 : Int32)))]) [3, 4, 5, 1, 0] rfl ?_
        have hb := bk_x h hg_44
        exact hb
    unfold st_X5_discusses_44 at h
    refine x_iload (i := 5) hC dX5_discusses_44 4 rfl ?_
    refine x_bipush (v := (8 : Int32)) hC dX5_discusses_46 (by decide) ?_
    refine x_icmp_ge (t := 141) hC dX5_discusses_48 (by decide) (fun c30 => ?_) (fun c30 => ?_)
    · replace h := it_t c30 h
      replace h := ir_x h hg_44
      refine x_aload_n (i := 0) hC dX5_discusses_141 rfl 0 rfl ?_
      refine x_iload_n (i := 1) hC dX5_discusses_142 rfl 1 rfl ?_
      refine x_iconst (v := (2 : Int32)) hC dX5_discusses_143 (by decide) ?_
      refine x_aload_n (i := 0) hC dX5_discusses_144 rfl 0 rfl ?_
      refine x_iload_n (i := 1) hC dX5_discusses_145 rfl 1 rfl ?_
      refine x_iconst (v := (2 : Int32)) hC dX5_discusses_146 (by decide) ?_
      replace h := dr_el h
      obtain ⟨a31, ea32, ha33, h⟩ := h
      replace h := bd_el h
      obtain ⟨v34, S35, hb36, h⟩ := h
      refine x_callV hC (st := [.int (2 : Int32), .int i1, va_rf r0]) (mt_X5_of _ _ _ _ _ hb36) ea32 ha33 kf_5 q_981 q_983 qs_52 q_7 q_984 ⟨rfl, hy_X5_of⟩ ⟨Nat.le_of_ble_eq_true rfl, Nat.le_of_ble_eq_true rfl⟩ ⟨Nat.le_of_ble_eq_true rfl, Nat.le_of_ble_eq_true rfl⟩ rfl (Nat.le_of_ble_eq_true rfl) dX5_discusses_147 (r_N ?_) r_NX
      show PX Z 8 S35 0 0 150 [(0, va_rf r0), (1, .int i1), (3, .int v26), (4, .int v27), (5, .int v28)] [.int v34, .int (2 : Int32), .int i1, va_rf r0]
      refine x_iconst (v := (1 : Int32)) hC dX5_discusses_150 (by decide) ?_
      refine x_iadd hC dX5_discusses_151 ?_
      replace h := dr_el h
      obtain ⟨a37, ea38, ha39, h⟩ := h
      replace h := bd_el h
      obtain ⟨v40, S41, hb42, h⟩ := h
      refine x_callV hC (st := []) (mt_X5_lay _ _ _ _ _ _ hb42) ea38 ha39 kf_5 q_927 q_929 qs_46 q_7 q_930 ⟨rfl, hy_X5_lay⟩ ⟨Nat.le_of_ble_eq_true rfl, Nat.le_of_ble_eq_true rfl⟩ ⟨Nat.le_of_ble_eq_true rfl, Nat.le_of_ble_eq_true rfl⟩ rfl (Nat.le_of_ble_eq_true rfl) dX5_discusses_152 (r_N ?_) r_NX
      show PX Z 8 S41 0 0 155 [(0, va_rf r0), (1, .int i1), (3, .int v26), (4, .int v27), (5, .int v28)] []
      refine x_bipush (v := (10 : Int32)) hC dX5_discusses_155 (by decide) ?_
      refine x_iload (i := 4) hC dX5_discusses_157 3 rfl ?_
      refine x_iadd hC dX5_discusses_159 ?_
      exact x_iret hC hQ (z_N (Option.some.inj h)) (Nat.le_of_ble_eq_true rfl) (Nat.le_of_ble_eq_true rfl) dX5_discusses_160
    · replace h := it_f c30 h
      refine x_aload_n (i := 0) hC dX5_discusses_51 rfl 0 rfl ?_
      refine x_iload (i := 5) hC dX5_discusses_52 4 rfl ?_
      refine x_iload_n (i := 1) hC dX5_discusses_54 rfl 1 rfl ?_
      replace h := dr_el h
      obtain ⟨a43, ea44, ha45, h⟩ := h
      replace h := bd_el h
      obtain ⟨v46, S47, hb48, h⟩ := h
      refine x_callV hC (st := []) (mt_X5_isWritten _ _ _ _ _ hb48) ea44 ha45 kf_5 q_993 q_995 qs_55 q_7 q_996 ⟨rfl, hy_X5_isWritten⟩ ⟨Nat.le_of_ble_eq_true rfl, Nat.le_of_ble_eq_true rfl⟩ ⟨Nat.le_of_ble_eq_true rfl, Nat.le_of_ble_eq_true rfl⟩ rfl (Nat.le_of_ble_eq_true rfl) dX5_discusses_55 (r_N ?_) r_NX
      show PX Z 8 S47 0 0 58 [(0, va_rf r0), (1, .int i1), (3, .int v26), (4, .int v27), (5, .int v28)] [.int v46]
      refine x_if_eq (t := 135) hC dX5_discusses_58 (by decide) (fun c49 => ?_) (fun c49 => ?_)
      · replace h := it_t c49 h
        refine x_iinc (i := 5) (v := (v28 + (1 : Int32))) (l' := [(5, .int (v28 + (1 : Int32))), (0, va_rf r0), (1, .int i1), (3, .int v26), (4, .int v27)]) hC dX5_discusses_135 4 rfl rfl (⟨fun _ => c_rf r0, ⟨fun _ => rfl, ⟨fun _ => rfl, ⟨fun _ => rfl, ⟨fun _ => rfl, trivial⟩⟩⟩⟩⟩) (by decide) rfl ?_
        refine x_goto (t := 44) hC dX5_discusses_138 (by decide) ?_
        refine x_sub (l' := [(0, va_rf r0), (1, .int i1), (3, .int v26), (4, .int v27), (5, .int (v28 + (1 : Int32)))]) [1, 2, 3, 4, 0] rfl ?_
        have hb := bk_x h hg_44
        exact hb
      · replace h := it_f c49 h
        refine x_aload_n (i := 0) hC dX5_discusses_61 rfl 0 rfl ?_
        refine x_iload (i := 5) hC dX5_discusses_62 4 rfl ?_
        refine x_iload_n (i := 1) hC dX5_discusses_64 rfl 1 rfl ?_
        replace h := dr_el h
        obtain ⟨a50, ea51, ha52, h⟩ := h
        replace h := bd_el h
        obtain ⟨v53, S54, hb55, h⟩ := h
        refine x_callV hC (st := []) (mt_X5_scoreOf _ _ _ _ _ hb55) ea51 ha52 kf_5 q_985 q_987 qs_53 q_7 q_988 ⟨rfl, hy_X5_scoreOf⟩ ⟨Nat.le_of_ble_eq_true rfl, Nat.le_of_ble_eq_true rfl⟩ ⟨Nat.le_of_ble_eq_true rfl, Nat.le_of_ble_eq_true rfl⟩ rfl (Nat.le_of_ble_eq_true rfl) dX5_discusses_65 (r_N ?_) r_NX
        show PX Z 8 S54 0 0 68 [(0, va_rf r0), (1, .int i1), (3, .int v26), (4, .int v27), (5, .int v28)] [.int v53]
        refine x_istore (i := 6) (l' := [(6, .int v53), (0, va_rf r0), (1, .int i1), (3, .int v26), (4, .int v27), (5, .int v28)]) hC dX5_discusses_68 (⟨fun _ => c_rf r0, ⟨fun _ => rfl, ⟨fun _ => rfl, ⟨fun _ => rfl, ⟨fun _ => rfl, trivial⟩⟩⟩⟩⟩) (by decide) rfl ?_
        refine x_iload (i := 6) hC dX5_discusses_70 0 rfl ?_
        refine x_iload_n (i := 3) hC dX5_discusses_72 rfl 3 rfl ?_
        refine x_icmp_ge (t := 83) hC dX5_discusses_73 (by decide) (fun c56 => ?_) (fun c56 => ?_)
        · replace h := it_t c56 h
          refine x_iload (i := 6) hC dX5_discusses_83 0 rfl ?_
          refine x_iload_n (i := 3) hC dX5_discusses_85 rfl 3 rfl ?_
          refine x_icmp_le (t := 96) hC dX5_discusses_86 (by decide) (fun c57 => ?_) (fun c57 => ?_)
          · replace h := it_t c57 h
            refine x_iload (i := 6) hC dX5_discusses_96 0 rfl ?_
            refine x_sub (l' := [(0, va_rf r0), (1, .int i1), (3, .int v26), (4, .int v27), (5, .int v28), (6, .int v53)]) [1, 2, 3, 4, 5, 0] rfl ?_
            exact J_98 _ _ _ _ _ _ h
          · replace h := it_f c57 h
            refine x_iload (i := 6) hC dX5_discusses_89 0 rfl ?_
            refine x_iconst (v := (1 : Int32)) hC dX5_discusses_91 (by decide) ?_
            refine x_isub hC dX5_discusses_92 ?_
            refine x_goto (t := 98) hC dX5_discusses_93 (by decide) ?_
            refine x_sub (l' := [(0, va_rf r0), (1, .int i1), (3, .int v26), (4, .int v27), (5, .int v28), (6, .int v53)]) [1, 2, 3, 4, 5, 0] rfl ?_
            exact J_98 _ _ _ _ _ _ h
        · replace h := it_f c56 h
          refine x_iload (i := 6) hC dX5_discusses_76 0 rfl ?_
          refine x_iconst (v := (1 : Int32)) hC dX5_discusses_78 (by decide) ?_
          refine x_iadd hC dX5_discusses_79 ?_
          refine x_goto (t := 98) hC dX5_discusses_80 (by decide) ?_
          refine x_sub (l' := [(0, va_rf r0), (1, .int i1), (3, .int v26), (4, .int v27), (5, .int v28), (6, .int v53)]) [1, 2, 3, 4, 5, 0] rfl ?_
          exact J_98 _ _ _ _ _ _ h
  · replace h := it_f c7 h
    refine x_aload_n (i := 0) hC dX5_discusses_10 rfl 1 rfl ?_
    replace h := dr_el h
    obtain ⟨a81, ea82, ha83, h⟩ := h
    refine x_getR hC ea82 ha83 kf_5 1 (by decide) rfl q_864 dX5_discusses_11 ?_
    refine x_iconst (v := (3 : Int32)) hC dX5_discusses_14 (by decide) ?_
    refine x_dup2 hC dX5_discusses_15 rfl (c_rf (p_R S5 a81 1)) ?_
    replace h := dr_el h
    obtain ⟨a84, ea85, ha86, h⟩ := h
    replace h := ck_el h
    obtain ⟨hc87, h⟩ := h
    refine x_iaload hC ea85 ha86 hc87 dX5_discusses_16 ?_
    refine x_tI (b := (p_I S5 a84 3)) rfl ?_
    refine x_iconst (v := (1 : Int32)) hC dX5_discusses_17 (by decide) ?_
    refine x_iadd hC dX5_discusses_18 ?_
    replace h := ck_el h
    obtain ⟨hc88, h⟩ := h
    replace h := le_el h
    obtain ⟨S89, hx90, h⟩ := h
    refine x_iastore hC ea85 ha86 hc88 dX5_discusses_19 ?_
    refine x_tS hx90 ?_
    refine x_iload_n (i := 2) hC dX5_discusses_20 rfl 0 rfl ?_
    exact x_iret hC hQ (z_N (Option.some.inj h)) (Nat.le_of_ble_eq_true rfl) (Nat.le_of_ble_eq_true rfl) dX5_discusses_21
theorem dX5_discuss_0 : decode cX5_discuss 0 = .ok (.aload_n 0, 1) := by decide +kernel
theorem dX5_discuss_1 : decode cX5_discuss 1 = .ok (.aload_n 0, 1) := by decide +kernel
theorem dX5_discuss_2 : decode cX5_discuss 2 = .ok (.iload_n 1, 1) := by decide +kernel
theorem dX5_discuss_3 : decode cX5_discuss 3 = .ok (.invokevirtual 96, 3) := by decide +kernel
theorem dX5_discuss_6 : decode cX5_discuss 6 = .ok (.ifCond .eq 7, 3) := by decide +kernel
theorem dX5_discuss_9 : decode cX5_discuss 9 = .ok (.iconst 0, 1) := by decide +kernel
theorem dX5_discuss_10 : decode cX5_discuss 10 = .ok (.goto 4, 3) := by decide +kernel
theorem dX5_discuss_13 : decode cX5_discuss 13 = .ok (.iconst 1, 1) := by decide +kernel
theorem dX5_discuss_14 : decode cX5_discuss 14 = .ok (.invokevirtual 56, 3) := by decide +kernel
theorem dX5_discuss_17 : decode cX5_discuss 17 = .ok (.ifCond .ne 5, 3) := by decide +kernel
theorem dX5_discuss_20 : decode cX5_discuss 20 = .ok (.iconst 0, 1) := by decide +kernel
theorem dX5_discuss_21 : decode cX5_discuss 21 = .ok (.ireturn, 1) := by decide +kernel
theorem dX5_discuss_22 : decode cX5_discuss 22 = .ok (.aload_n 0, 1) := by decide +kernel
theorem dX5_discuss_23 : decode cX5_discuss 23 = .ok (.invokevirtual 60, 3) := by decide +kernel
theorem dX5_discuss_26 : decode cX5_discuss 26 = .ok (.aload_n 0, 1) := by decide +kernel
theorem dX5_discuss_27 : decode cX5_discuss 27 = .ok (.iload_n 1, 1) := by decide +kernel
theorem dX5_discuss_28 : decode cX5_discuss 28 = .ok (.invokevirtual 114, 3) := by decide +kernel
theorem dX5_discuss_31 : decode cX5_discuss 31 = .ok (.ireturn, 1) := by decide +kernel
set_option maxRecDepth 100000 in
set_option maxHeartbeats 4000000 in
theorem mt_X5_discuss (r0 : Option Nat) (i1 : Int32) (S0 : PH) (y : Int32 × PH) (h : m_X5_discuss r0 i1 S0 = some y) : MT yX5_discuss (.code yX5_discuss cX5_discuss 2 (Option.some FieldType.int)) 6 140 0 0 [va_rf r0, .int i1] S0 (oQ e_I (qN y)) := by
  refine mt_of (own := RX5) (l0 := [(0, va_rf r0), (1, .int i1)]) rfl rfl (by cases r0 <;> exact Nat.le_of_ble_eq_true rfl) (by cases r0 <;> rfl) ?_
  intro Z hC hQ hE hN
  have J_14 : ∀ (v8 : Option Nat) (v9 : Int32) (S10 : PH), j_X5_discuss_14 r0 i1 v8 v9 S10 = some y → PX Z 2 S10 0 0 14 [(0, va_rf r0), (1, .int i1)] [.int v9, va_rf v8] := by
    intro v8 v9 S10 h
    unfold j_X5_discuss_14 at h
    replace h := dr_el h
    obtain ⟨a11, ea12, ha13, h⟩ := h
    replace h := bd_el h
    obtain ⟨v14, S15, hb16, h⟩ := h
    refine x_callV hC (st := []) (mt_X5_holds _ _ _ _ hb16) ea12 ha13 kf_5 q_915 q_917 qs_43 q_7 q_918 ⟨rfl, hy_X5_holds⟩ ⟨Nat.le_of_ble_eq_true rfl, Nat.le_of_ble_eq_true rfl⟩ ⟨Nat.le_of_ble_eq_true rfl, Nat.le_of_ble_eq_true rfl⟩ rfl (Nat.le_of_ble_eq_true rfl) dX5_discuss_14 (r_N ?_) r_NX
    show PX Z 2 S15 0 0 17 [(0, va_rf r0), (1, .int i1)] [.int v14]
    refine x_if_ne (t := 22) hC dX5_discuss_17 (by decide) (fun c17 => ?_) (fun c17 => ?_)
    · replace h := it_f c17 h
      refine x_aload_n (i := 0) hC dX5_discuss_22 rfl 0 rfl ?_
      replace h := dr_el h
      obtain ⟨a18, ea19, ha20, h⟩ := h
      replace h := bd_el h
      obtain ⟨v21, S22, hb23, h⟩ := h
      refine x_callV hC (st := []) (mt_X5_save _ _ _ hb23) ea19 ha20 kf_5 q_919 q_921 qs_44 q_7 q_922 ⟨rfl, hy_X5_save⟩ ⟨Nat.le_of_ble_eq_true rfl, Nat.le_of_ble_eq_true rfl⟩ ⟨Nat.le_of_ble_eq_true rfl, Nat.le_of_ble_eq_true rfl⟩ rfl (Nat.le_of_ble_eq_true rfl) dX5_discuss_23 (r_N ?_) r_NX
      show PX Z 2 S22 0 0 26 [(0, va_rf r0), (1, .int i1)] []
      refine x_aload_n (i := 0) hC dX5_discuss_26 rfl 0 rfl ?_
      refine x_iload_n (i := 1) hC dX5_discuss_27 rfl 1 rfl ?_
      replace h := dr_el h
      obtain ⟨a24, ea25, ha26, h⟩ := h
      replace h := bd_el h
      obtain ⟨v27, S28, hb29, h⟩ := h
      refine x_callV hC (st := []) (mt_X5_discusses _ _ _ _ hb29) ea25 ha26 kf_5 q_1035 q_1037 qs_61 q_7 q_1038 ⟨rfl, hy_X5_discusses⟩ ⟨Nat.le_of_ble_eq_true rfl, Nat.le_of_ble_eq_true rfl⟩ ⟨Nat.le_of_ble_eq_true rfl, Nat.le_of_ble_eq_true rfl⟩ rfl (Nat.le_of_ble_eq_true rfl) dX5_discuss_28 (r_N ?_) r_NX
      show PX Z 2 S28 0 0 31 [(0, va_rf r0), (1, .int i1)] [.int v27]
      exact x_iret hC hQ (z_N (Option.some.inj h)) (Nat.le_of_ble_eq_true rfl) (Nat.le_of_ble_eq_true rfl) dX5_discuss_31
    · replace h := it_t c17 h
      refine x_iconst (v := (0 : Int32)) hC dX5_discuss_20 (by decide) ?_
      exact x_iret hC hQ (z_N (Option.some.inj h)) (Nat.le_of_ble_eq_true rfl) (Nat.le_of_ble_eq_true rfl) dX5_discuss_21
  unfold m_X5_discuss at h
  refine x_aload_n (i := 0) hC dX5_discuss_0 rfl 0 rfl ?_
  refine x_aload_n (i := 0) hC dX5_discuss_1 rfl 0 rfl ?_
  refine x_iload_n (i := 1) hC dX5_discuss_2 rfl 1 rfl ?_
  replace h := dr_el h
  obtain ⟨a1, ea2, ha3, h⟩ := h
  replace h := bd_el h
  obtain ⟨v4, S5, hb6, h⟩ := h
  refine x_callV hC (st := [va_rf r0]) (mt_X5_isPaper _ _ _ _ hb6) ea2 ha3 kf_5 q_969 q_971 qs_49 q_7 q_972 ⟨rfl, hy_X5_isPaper⟩ ⟨Nat.le_of_ble_eq_true rfl, Nat.le_of_ble_eq_true rfl⟩ ⟨Nat.le_of_ble_eq_true rfl, Nat.le_of_ble_eq_true rfl⟩ rfl (Nat.le_of_ble_eq_true rfl) dX5_discuss_3 (r_N ?_) r_NX
  show PX Z 2 S5 0 0 6 [(0, va_rf r0), (1, .int i1)] [.int v4, va_rf r0]
  refine x_if_eq (t := 13) hC dX5_discuss_6 (by decide) (fun c7 => ?_) (fun c7 => ?_)
  · replace h := it_t c7 h
    refine x_iconst (v := (1 : Int32)) hC dX5_discuss_13 (by decide) ?_
    exact J_14 _ _ _ h
  · replace h := it_f c7 h
    refine x_iconst (v := (0 : Int32)) hC dX5_discuss_9 (by decide) ?_
    refine x_goto (t := 14) hC dX5_discuss_10 (by decide) ?_
    exact J_14 _ _ _ h
theorem dX5_lowestScorer_0 : decode cX5_lowestScorer 0 = .ok (.iconst (-1), 1) := by decide +kernel
theorem dX5_lowestScorer_1 : decode cX5_lowestScorer 1 = .ok (.istore_n 2, 1) := by decide +kernel
theorem dX5_lowestScorer_2 : decode cX5_lowestScorer 2 = .ok (.bipush 7, 2) := by decide +kernel
theorem dX5_lowestScorer_4 : decode cX5_lowestScorer 4 = .ok (.istore_n 3, 1) := by decide +kernel
theorem dX5_lowestScorer_5 : decode cX5_lowestScorer 5 = .ok (.iload_n 3, 1) := by decide +kernel
theorem dX5_lowestScorer_6 : decode cX5_lowestScorer 6 = .ok (.ifCond .lt 56, 3) := by decide +kernel
theorem dX5_lowestScorer_9 : decode cX5_lowestScorer 9 = .ok (.aload_n 0, 1) := by decide +kernel
theorem dX5_lowestScorer_10 : decode cX5_lowestScorer 10 = .ok (.iload_n 3, 1) := by decide +kernel
theorem dX5_lowestScorer_11 : decode cX5_lowestScorer 11 = .ok (.iload_n 1, 1) := by decide +kernel
theorem dX5_lowestScorer_12 : decode cX5_lowestScorer 12 = .ok (.invokevirtual 38, 3) := by decide +kernel
theorem dX5_lowestScorer_15 : decode cX5_lowestScorer 15 = .ok (.ifCond .eq 27, 3) := by decide +kernel
theorem dX5_lowestScorer_18 : decode cX5_lowestScorer 18 = .ok (.iload_n 2, 1) := by decide +kernel
theorem dX5_lowestScorer_19 : decode cX5_lowestScorer 19 = .ok (.iconst (-1), 1) := by decide +kernel
theorem dX5_lowestScorer_20 : decode cX5_lowestScorer 20 = .ok (.if_icmp .eq 18, 3) := by decide +kernel
theorem dX5_lowestScorer_23 : decode cX5_lowestScorer 23 = .ok (.aload_n 0, 1) := by decide +kernel
theorem dX5_lowestScorer_24 : decode cX5_lowestScorer 24 = .ok (.iload_n 3, 1) := by decide +kernel
theorem dX5_lowestScorer_25 : decode cX5_lowestScorer 25 = .ok (.iload_n 1, 1) := by decide +kernel
theorem dX5_lowestScorer_26 : decode cX5_lowestScorer 26 = .ok (.invokevirtual 35, 3) := by decide +kernel
theorem dX5_lowestScorer_29 : decode cX5_lowestScorer 29 = .ok (.aload_n 0, 1) := by decide +kernel
theorem dX5_lowestScorer_30 : decode cX5_lowestScorer 30 = .ok (.iload_n 2, 1) := by decide +kernel
theorem dX5_lowestScorer_31 : decode cX5_lowestScorer 31 = .ok (.iload_n 1, 1) := by decide +kernel
theorem dX5_lowestScorer_32 : decode cX5_lowestScorer 32 = .ok (.invokevirtual 35, 3) := by decide +kernel
theorem dX5_lowestScorer_35 : decode cX5_lowestScorer 35 = .ok (.if_icmp .gt 7, 3) := by decide +kernel
theorem dX5_lowestScorer_38 : decode cX5_lowestScorer 38 = .ok (.iconst 1, 1) := by decide +kernel
theorem dX5_lowestScorer_39 : decode cX5_lowestScorer 39 = .ok (.goto 4, 3) := by decide +kernel
theorem dX5_lowestScorer_42 : decode cX5_lowestScorer 42 = .ok (.iconst 0, 1) := by decide +kernel
theorem dX5_lowestScorer_43 : decode cX5_lowestScorer 43 = .ok (.istore 4, 2) := by decide +kernel
theorem dX5_lowestScorer_45 : decode cX5_lowestScorer 45 = .ok (.iload 4, 2) := by decide +kernel
theorem dX5_lowestScorer_47 : decode cX5_lowestScorer 47 = .ok (.ifCond .eq 7, 3) := by decide +kernel
theorem dX5_lowestScorer_50 : decode cX5_lowestScorer 50 = .ok (.iload_n 3, 1) := by decide +kernel
theorem dX5_lowestScorer_51 : decode cX5_lowestScorer 51 = .ok (.goto 4, 3) := by decide +kernel
theorem dX5_lowestScorer_54 : decode cX5_lowestScorer 54 = .ok (.iload_n 2, 1) := by decide +kernel
theorem dX5_lowestScorer_55 : decode cX5_lowestScorer 55 = .ok (.istore_n 2, 1) := by decide +kernel
theorem dX5_lowestScorer_56 : decode cX5_lowestScorer 56 = .ok (.iinc 3 (-1), 3) := by decide +kernel
theorem dX5_lowestScorer_59 : decode cX5_lowestScorer 59 = .ok (.goto (-54), 3) := by decide +kernel
theorem dX5_lowestScorer_62 : decode cX5_lowestScorer 62 = .ok (.iload_n 2, 1) := by decide +kernel
theorem dX5_lowestScorer_63 : decode cX5_lowestScorer 63 = .ok (.ireturn, 1) := by decide +kernel
set_option maxRecDepth 100000 in
set_option maxHeartbeats 4000000 in
theorem mt_X5_lowestScorer (r0 : Option Nat) (i1 : Int32) (S0 : PH) (y : Int32 × PH) (h : m_X5_lowestScorer r0 i1 S0 = some y) : MT yX5_lowestScorer (.code yX5_lowestScorer cX5_lowestScorer 5 (Option.some FieldType.int)) 3 66 0 0 [va_rf r0, .int i1] S0 (oQ e_I (qN y)) := by
  refine mt_of (own := RX5) (l0 := [(0, va_rf r0), (1, .int i1)]) rfl rfl (by cases r0 <;> exact Nat.le_of_ble_eq_true rfl) (by cases r0 <;> rfl) ?_
  intro Z hC hQ hE hN
  unfold m_X5_lowestScorer at h
  refine x_iconst (v := (-1 : Int32)) hC dX5_lowestScorer_0 (by decide) ?_
  refine x_istore_n (i := 2) (l' := [(2, .int (-1 : Int32)), (0, va_rf r0), (1, .int i1)]) hC dX5_lowestScorer_1 rfl (⟨fun _ => c_rf r0, ⟨fun _ => rfl, trivial⟩⟩) (by decide) rfl ?_
  refine x_bipush (v := (7 : Int32)) hC dX5_lowestScorer_2 (by decide) ?_
  refine x_istore_n (i := 3) (l' := [(3, .int (7 : Int32)), (2, .int (-1 : Int32)), (0, va_rf r0), (1, .int i1)]) hC dX5_lowestScorer_4 rfl (⟨fun _ => rfl, ⟨fun _ => c_rf r0, ⟨fun _ => rfl, trivial⟩⟩⟩) (by decide) rfl ?_
  refine x_sub (l' := [(0, va_rf r0), (1, .int i1), (2, .int (-1 : Int32)), (3, .int (7 : Int32))]) [2, 3, 1, 0] rfl ?_
  refine lp_sim (P := fun (t : (Int32 × Int32 × PH)) => PX Z 5 t.2.2 0 0 5 [(0, va_rf r0), (1, .int i1), (2, .int t.1), (3, .int t.2.1)] []) (G := fun r => r = y) ?_ h rfl
  clear h
  intro t x_5 h hg_5
  obtain ⟨v1, v2, S3⟩ := t
  show PX Z 5 S3 0 0 5 [(0, va_rf r0), (1, .int i1), (2, .int v1), (3, .int v2)] []
  have J_43 : ∀ (v12 : Int32) (v13 : Int32) (v14 : Int32) (S15 : PH), j_X5_lowestScorer_43 r0 i1 v12 v13 v14 S15 = some x_5 → PX Z 5 S15 0 0 43 [(0, va_rf r0), (1, .int i1), (2, .int v12), (3, .int v13)] [.int v14] := by
    intro v12 v13 v14 S15 h
    unfold j_X5_lowestScorer_43 at h
    refine x_istore (i := 4) (l' := [(4, .int v14), (0, va_rf r0), (1, .int i1), (2, .int v12), (3, .int v13)]) hC dX5_lowestScorer_43 (⟨fun _ => c_rf r0, ⟨fun _ => rfl, ⟨fun _ => rfl, ⟨fun _ => rfl, trivial⟩⟩⟩⟩) (by decide) rfl ?_
    refine x_iload (i := 4) hC dX5_lowestScorer_45 0 rfl ?_
    refine x_if_eq (t := 54) hC dX5_lowestScorer_47 (by decide) (fun c16 => ?_) (fun c16 => ?_)
    · replace h := it_t c16 h
      refine x_iload_n (i := 2) hC dX5_lowestScorer_54 rfl 3 rfl ?_
      refine x_istore_n (i := 2) (l' := [(2, .int v12), (4, .int v14), (0, va_rf r0), (1, .int i1), (3, .int v13)]) hC dX5_lowestScorer_55 rfl (⟨fun _ => rfl, ⟨fun _ => c_rf r0, ⟨fun _ => rfl, ⟨fun _ => rfl, ⟨fun _ => rfl, trivial⟩⟩⟩⟩⟩) (by decide) rfl ?_
      refine x_iinc (i := 3) (v := (v13 + (-1 : Int32))) (l' := [(3, .int (v13 + (-1 : Int32))), (2, .int v12), (4, .int v14), (0, va_rf r0), (1, .int i1)]) hC dX5_lowestScorer_56 4 rfl rfl (⟨fun _ => rfl, ⟨fun _ => rfl, ⟨fun _ => c_rf r0, ⟨fun _ => rfl, ⟨fun _ => rfl, trivial⟩⟩⟩⟩⟩) (by decide) rfl ?_
      refine x_goto (t := 5) hC dX5_lowestScorer_59 (by decide) ?_
      refine x_sub (l' := [(0, va_rf r0), (1, .int i1), (2, .int v12), (3, .int (v13 + (-1 : Int32)))]) [3, 4, 1, 0] rfl ?_
      have hb := bk_x h hg_5
      exact hb
    · replace h := it_f c16 h
      refine x_iload_n (i := 3) hC dX5_lowestScorer_50 rfl 4 rfl ?_
      refine x_goto (t := 55) hC dX5_lowestScorer_51 (by decide) ?_
      refine x_istore_n (i := 2) (l' := [(2, .int v13), (4, .int v14), (0, va_rf r0), (1, .int i1), (3, .int v13)]) hC dX5_lowestScorer_55 rfl (⟨fun _ => rfl, ⟨fun _ => c_rf r0, ⟨fun _ => rfl, ⟨fun _ => rfl, ⟨fun _ => rfl, trivial⟩⟩⟩⟩⟩) (by decide) rfl ?_
      refine x_iinc (i := 3) (v := (v13 + (-1 : Int32))) (l' := [(3, .int (v13 + (-1 : Int32))), (2, .int v13), (4, .int v14), (0, va_rf r0), (1, .int i1)]) hC dX5_lowestScorer_56 4 rfl rfl (⟨fun _ => rfl, ⟨fun _ => rfl, ⟨fun _ => c_rf r0, ⟨fun _ => rfl, ⟨fun _ => rfl, trivial⟩⟩⟩⟩⟩) (by decide) rfl ?_
      refine x_goto (t := 5) hC dX5_lowestScorer_59 (by decide) ?_
      refine x_sub (l' := [(0, va_rf r0), (1, .int i1), (2, .int v13), (3, .int (v13 + (-1 : Int32)))]) [3, 4, 1, 0] rfl ?_
      have hb := bk_x h hg_5
      exact hb
  unfold st_X5_lowestScorer_5 at h
  refine x_iload_n (i := 3) hC dX5_lowestScorer_5 rfl 3 rfl ?_
  refine x_if_lt (t := 62) hC dX5_lowestScorer_6 (by decide) (fun c4 => ?_) (fun c4 => ?_)
  · replace h := it_t c4 h
    replace h := ir_x h hg_5
    refine x_iload_n (i := 2) hC dX5_lowestScorer_62 rfl 2 rfl ?_
    exact x_iret hC hQ (z_N (Option.some.inj h)) (Nat.le_of_ble_eq_true rfl) (Nat.le_of_ble_eq_true rfl) dX5_lowestScorer_63
  · replace h := it_f c4 h
    refine x_aload_n (i := 0) hC dX5_lowestScorer_9 rfl 0 rfl ?_
    refine x_iload_n (i := 3) hC dX5_lowestScorer_10 rfl 3 rfl ?_
    refine x_iload_n (i := 1) hC dX5_lowestScorer_11 rfl 1 rfl ?_
    replace h := dr_el h
    obtain ⟨a5, ea6, ha7, h⟩ := h
    replace h := bd_el h
    obtain ⟨v8, S9, hb10, h⟩ := h
    refine x_callV hC (st := []) (mt_X5_isWritten _ _ _ _ _ hb10) ea6 ha7 kf_5 q_993 q_995 qs_55 q_7 q_996 ⟨rfl, hy_X5_isWritten⟩ ⟨Nat.le_of_ble_eq_true rfl, Nat.le_of_ble_eq_true rfl⟩ ⟨Nat.le_of_ble_eq_true rfl, Nat.le_of_ble_eq_true rfl⟩ rfl (Nat.le_of_ble_eq_true rfl) dX5_lowestScorer_12 (r_N ?_) r_NX
    show PX Z 5 S9 0 0 15 [(0, va_rf r0), (1, .int i1), (2, .int v1), (3, .int v2)] [.int v8]
    refine x_if_eq (t := 42) hC dX5_lowestScorer_15 (by decide) (fun c11 => ?_) (fun c11 => ?_)
    · replace h := it_t c11 h
      refine x_iconst (v := (0 : Int32)) hC dX5_lowestScorer_42 (by decide) ?_
      exact J_43 _ _ _ _ h
    · replace h := it_f c11 h
      refine x_iload_n (i := 2) hC dX5_lowestScorer_18 rfl 2 rfl ?_
      refine x_iconst (v := (-1 : Int32)) hC dX5_lowestScorer_19 (by decide) ?_
      refine x_icmp_eq (t := 38) hC dX5_lowestScorer_20 (by decide) (fun c17 => ?_) (fun c17 => ?_)
      · replace h := it_t c17 h
        refine x_iconst (v := (1 : Int32)) hC dX5_lowestScorer_38 (by decide) ?_
        refine x_goto (t := 43) hC dX5_lowestScorer_39 (by decide) ?_
        exact J_43 _ _ _ _ h
      · replace h := it_f c17 h
        refine x_aload_n (i := 0) hC dX5_lowestScorer_23 rfl 0 rfl ?_
        refine x_iload_n (i := 3) hC dX5_lowestScorer_24 rfl 3 rfl ?_
        refine x_iload_n (i := 1) hC dX5_lowestScorer_25 rfl 1 rfl ?_
        replace h := dr_el h
        obtain ⟨a18, ea19, ha20, h⟩ := h
        replace h := bd_el h
        obtain ⟨v21, S22, hb23, h⟩ := h
        refine x_callV hC (st := []) (mt_X5_scoreOf _ _ _ _ _ hb23) ea19 ha20 kf_5 q_985 q_987 qs_53 q_7 q_988 ⟨rfl, hy_X5_scoreOf⟩ ⟨Nat.le_of_ble_eq_true rfl, Nat.le_of_ble_eq_true rfl⟩ ⟨Nat.le_of_ble_eq_true rfl, Nat.le_of_ble_eq_true rfl⟩ rfl (Nat.le_of_ble_eq_true rfl) dX5_lowestScorer_26 (r_N ?_) r_NX
        show PX Z 5 S22 0 0 29 [(0, va_rf r0), (1, .int i1), (2, .int v1), (3, .int v2)] [.int v21]
        refine x_aload_n (i := 0) hC dX5_lowestScorer_29 rfl 0 rfl ?_
        refine x_iload_n (i := 2) hC dX5_lowestScorer_30 rfl 2 rfl ?_
        refine x_iload_n (i := 1) hC dX5_lowestScorer_31 rfl 1 rfl ?_
        replace h := dr_el h
        obtain ⟨a24, ea25, ha26, h⟩ := h
        replace h := bd_el h
        obtain ⟨v27, S28, hb29, h⟩ := h
        refine x_callV hC (st := [.int v21]) (mt_X5_scoreOf _ _ _ _ _ hb29) ea25 ha26 kf_5 q_985 q_987 qs_53 q_7 q_988 ⟨rfl, hy_X5_scoreOf⟩ ⟨Nat.le_of_ble_eq_true rfl, Nat.le_of_ble_eq_true rfl⟩ ⟨Nat.le_of_ble_eq_true rfl, Nat.le_of_ble_eq_true rfl⟩ rfl (Nat.le_of_ble_eq_true rfl) dX5_lowestScorer_32 (r_N ?_) r_NX
        show PX Z 5 S28 0 0 35 [(0, va_rf r0), (1, .int i1), (2, .int v1), (3, .int v2)] [.int v27, .int v21]
        refine x_icmp_gt (t := 42) hC dX5_lowestScorer_35 (by decide) (fun c30 => ?_) (fun c30 => ?_)
        · replace h := it_t c30 h
          refine x_iconst (v := (0 : Int32)) hC dX5_lowestScorer_42 (by decide) ?_
          exact J_43 _ _ _ _ h
        · replace h := it_f c30 h
          refine x_iconst (v := (1 : Int32)) hC dX5_lowestScorer_38 (by decide) ?_
          refine x_goto (t := 43) hC dX5_lowestScorer_39 (by decide) ?_
          exact J_43 _ _ _ _ h
theorem dX5_rebuts_0 : decode cX5_rebuts 0 = .ok (.aload_n 0, 1) := by decide +kernel
theorem dX5_rebuts_1 : decode cX5_rebuts 1 = .ok (.iload_n 1, 1) := by decide +kernel
theorem dX5_rebuts_2 : decode cX5_rebuts 2 = .ok (.invokevirtual 117, 3) := by decide +kernel
theorem dX5_rebuts_5 : decode cX5_rebuts 5 = .ok (.istore_n 2, 1) := by decide +kernel
theorem dX5_rebuts_6 : decode cX5_rebuts 6 = .ok (.aload_n 0, 1) := by decide +kernel
theorem dX5_rebuts_7 : decode cX5_rebuts 7 = .ok (.iload_n 1, 1) := by decide +kernel
theorem dX5_rebuts_8 : decode cX5_rebuts 8 = .ok (.iconst 4, 1) := by decide +kernel
theorem dX5_rebuts_9 : decode cX5_rebuts 9 = .ok (.invokevirtual 31, 3) := by decide +kernel
theorem dX5_rebuts_12 : decode cX5_rebuts 12 = .ok (.ifCond .le 7, 3) := by decide +kernel
theorem dX5_rebuts_15 : decode cX5_rebuts 15 = .ok (.iconst 1, 1) := by decide +kernel
theorem dX5_rebuts_16 : decode cX5_rebuts 16 = .ok (.goto 27, 3) := by decide +kernel
theorem dX5_rebuts_19 : decode cX5_rebuts 19 = .ok (.iload_n 2, 1) := by decide +kernel
theorem dX5_rebuts_20 : decode cX5_rebuts 20 = .ok (.iconst (-1), 1) := by decide +kernel
theorem dX5_rebuts_21 : decode cX5_rebuts 21 = .ok (.if_icmp .ne 7, 3) := by decide +kernel
theorem dX5_rebuts_24 : decode cX5_rebuts 24 = .ok (.iconst 2, 1) := by decide +kernel
theorem dX5_rebuts_25 : decode cX5_rebuts 25 = .ok (.goto 18, 3) := by decide +kernel
theorem dX5_rebuts_28 : decode cX5_rebuts 28 = .ok (.aload_n 0, 1) := by decide +kernel
theorem dX5_rebuts_29 : decode cX5_rebuts 29 = .ok (.iload_n 1, 1) := by decide +kernel
theorem dX5_rebuts_30 : decode cX5_rebuts 30 = .ok (.iconst 3, 1) := by decide +kernel
theorem dX5_rebuts_31 : decode cX5_rebuts 31 = .ok (.invokevirtual 31, 3) := by decide +kernel
theorem dX5_rebuts_34 : decode cX5_rebuts 34 = .ok (.iconst 1, 1) := by decide +kernel
theorem dX5_rebuts_35 : decode cX5_rebuts 35 = .ok (.if_icmp .ne 7, 3) := by decide +kernel
theorem dX5_rebuts_38 : decode cX5_rebuts 38 = .ok (.iconst 3, 1) := by decide +kernel
theorem dX5_rebuts_39 : decode cX5_rebuts 39 = .ok (.goto 4, 3) := by decide +kernel
theorem dX5_rebuts_42 : decode cX5_rebuts 42 = .ok (.iconst 0, 1) := by decide +kernel
theorem dX5_rebuts_43 : decode cX5_rebuts 43 = .ok (.istore_n 3, 1) := by decide +kernel
theorem dX5_rebuts_44 : decode cX5_rebuts 44 = .ok (.iload_n 3, 1) := by decide +kernel
theorem dX5_rebuts_45 : decode cX5_rebuts 45 = .ok (.ifCond .le 15, 3) := by decide +kernel
theorem dX5_rebuts_48 : decode cX5_rebuts 48 = .ok (.aload_n 0, 1) := by decide +kernel
theorem dX5_rebuts_49 : decode cX5_rebuts 49 = .ok (.getfield 7, 3) := by decide +kernel
theorem dX5_rebuts_52 : decode cX5_rebuts 52 = .ok (.iconst 3, 1) := by decide +kernel
theorem dX5_rebuts_53 : decode cX5_rebuts 53 = .ok (.dup2, 1) := by decide +kernel
theorem dX5_rebuts_54 : decode cX5_rebuts 54 = .ok (.iaload, 1) := by decide +kernel
theorem dX5_rebuts_55 : decode cX5_rebuts 55 = .ok (.iconst 1, 1) := by decide +kernel
theorem dX5_rebuts_56 : decode cX5_rebuts 56 = .ok (.iadd, 1) := by decide +kernel
theorem dX5_rebuts_57 : decode cX5_rebuts 57 = .ok (.iastore, 1) := by decide +kernel
theorem dX5_rebuts_58 : decode cX5_rebuts 58 = .ok (.iload_n 3, 1) := by decide +kernel
theorem dX5_rebuts_59 : decode cX5_rebuts 59 = .ok (.ireturn, 1) := by decide +kernel
theorem dX5_rebuts_60 : decode cX5_rebuts 60 = .ok (.aload_n 0, 1) := by decide +kernel
theorem dX5_rebuts_61 : decode cX5_rebuts 61 = .ok (.iload_n 2, 1) := by decide +kernel
theorem dX5_rebuts_62 : decode cX5_rebuts 62 = .ok (.iload_n 1, 1) := by decide +kernel
theorem dX5_rebuts_63 : decode cX5_rebuts 63 = .ok (.invokevirtual 35, 3) := by decide +kernel
theorem dX5_rebuts_66 : decode cX5_rebuts 66 = .ok (.aload_n 0, 1) := by decide +kernel
theorem dX5_rebuts_67 : decode cX5_rebuts 67 = .ok (.getfield 7, 3) := by decide +kernel
theorem dX5_rebuts_70 : decode cX5_rebuts 70 = .ok (.bipush 7, 2) := by decide +kernel
theorem dX5_rebuts_72 : decode cX5_rebuts 72 = .ok (.iaload, 1) := by decide +kernel
theorem dX5_rebuts_73 : decode cX5_rebuts 73 = .ok (.iadd, 1) := by decide +kernel
theorem dX5_rebuts_74 : decode cX5_rebuts 74 = .ok (.istore 4, 2) := by decide +kernel
theorem dX5_rebuts_76 : decode cX5_rebuts 76 = .ok (.aload_n 0, 1) := by decide +kernel
theorem dX5_rebuts_77 : decode cX5_rebuts 77 = .ok (.iload_n 1, 1) := by decide +kernel
theorem dX5_rebuts_78 : decode cX5_rebuts 78 = .ok (.iconst 5, 1) := by decide +kernel
theorem dX5_rebuts_79 : decode cX5_rebuts 79 = .ok (.iload_n 2, 1) := by decide +kernel
theorem dX5_rebuts_80 : decode cX5_rebuts 80 = .ok (.iadd, 1) := by decide +kernel
theorem dX5_rebuts_81 : decode cX5_rebuts 81 = .ok (.iload 4, 2) := by decide +kernel
theorem dX5_rebuts_83 : decode cX5_rebuts 83 = .ok (.bipush 9, 2) := by decide +kernel
theorem dX5_rebuts_85 : decode cX5_rebuts 85 = .ok (.if_icmp .le 8, 3) := by decide +kernel
theorem dX5_rebuts_88 : decode cX5_rebuts 88 = .ok (.bipush 9, 2) := by decide +kernel
theorem dX5_rebuts_90 : decode cX5_rebuts 90 = .ok (.goto 5, 3) := by decide +kernel
theorem dX5_rebuts_93 : decode cX5_rebuts 93 = .ok (.iload 4, 2) := by decide +kernel
theorem dX5_rebuts_95 : decode cX5_rebuts 95 = .ok (.invokevirtual 63, 3) := by decide +kernel
theorem dX5_rebuts_98 : decode cX5_rebuts 98 = .ok (.aload_n 0, 1) := by decide +kernel
theorem dX5_rebuts_99 : decode cX5_rebuts 99 = .ok (.iload_n 1, 1) := by decide +kernel
theorem dX5_rebuts_100 : decode cX5_rebuts 100 = .ok (.iconst 3, 1) := by decide +kernel
theorem dX5_rebuts_101 : decode cX5_rebuts 101 = .ok (.iconst 1, 1) := by decide +kernel
theorem dX5_rebuts_102 : decode cX5_rebuts 102 = .ok (.invokevirtual 63, 3) := by decide +kernel
theorem dX5_rebuts_105 : decode cX5_rebuts 105 = .ok (.iconst 0, 1) := by decide +kernel
theorem dX5_rebuts_106 : decode cX5_rebuts 106 = .ok (.istore 5, 2) := by decide +kernel
theorem dX5_rebuts_108 : decode cX5_rebuts 108 = .ok (.iconst 0, 1) := by decide +kernel
theorem dX5_rebuts_109 : decode cX5_rebuts 109 = .ok (.istore 6, 2) := by decide +kernel
theorem dX5_rebuts_111 : decode cX5_rebuts 111 = .ok (.iload 6, 2) := by decide +kernel
theorem dX5_rebuts_113 : decode cX5_rebuts 113 = .ok (.bipush 8, 2) := by decide +kernel
theorem dX5_rebuts_115 : decode cX5_rebuts 115 = .ok (.if_icmp .ge 38, 3) := by decide +kernel
theorem dX5_rebuts_118 : decode cX5_rebuts 118 = .ok (.aload_n 0, 1) := by decide +kernel
theorem dX5_rebuts_119 : decode cX5_rebuts 119 = .ok (.iload 6, 2) := by decide +kernel
theorem dX5_rebuts_121 : decode cX5_rebuts 121 = .ok (.iload_n 1, 1) := by decide +kernel
theorem dX5_rebuts_122 : decode cX5_rebuts 122 = .ok (.invokevirtual 38, 3) := by decide +kernel
theorem dX5_rebuts_125 : decode cX5_rebuts 125 = .ok (.ifCond .eq 22, 3) := by decide +kernel
theorem dX5_rebuts_128 : decode cX5_rebuts 128 = .ok (.aload_n 0, 1) := by decide +kernel
theorem dX5_rebuts_129 : decode cX5_rebuts 129 = .ok (.getfield 7, 3) := by decide +kernel
theorem dX5_rebuts_132 : decode cX5_rebuts 132 = .ok (.iconst 0, 1) := by decide +kernel
theorem dX5_rebuts_133 : decode cX5_rebuts 133 = .ok (.iaload, 1) := by decide +kernel
theorem dX5_rebuts_134 : decode cX5_rebuts 134 = .ok (.ifCond .le 13, 3) := by decide +kernel
theorem dX5_rebuts_137 : decode cX5_rebuts 137 = .ok (.aload_n 0, 1) := by decide +kernel
theorem dX5_rebuts_138 : decode cX5_rebuts 138 = .ok (.iload 6, 2) := by decide +kernel
theorem dX5_rebuts_140 : decode cX5_rebuts 140 = .ok (.iconst 1, 1) := by decide +kernel
theorem dX5_rebuts_141 : decode cX5_rebuts 141 = .ok (.invokevirtual 73, 3) := by decide +kernel
theorem dX5_rebuts_144 : decode cX5_rebuts 144 = .ok (.iinc 5 1, 3) := by decide +kernel
theorem dX5_rebuts_147 : decode cX5_rebuts 147 = .ok (.iinc 6 1, 3) := by decide +kernel
theorem dX5_rebuts_150 : decode cX5_rebuts 150 = .ok (.goto (-39), 3) := by decide +kernel
theorem dX5_rebuts_153 : decode cX5_rebuts 153 = .ok (.bipush 10, 2) := by decide +kernel
theorem dX5_rebuts_155 : decode cX5_rebuts 155 = .ok (.iload 5, 2) := by decide +kernel
theorem dX5_rebuts_157 : decode cX5_rebuts 157 = .ok (.iadd, 1) := by decide +kernel
theorem dX5_rebuts_158 : decode cX5_rebuts 158 = .ok (.ireturn, 1) := by decide +kernel
set_option maxRecDepth 100000 in
set_option maxHeartbeats 4000000 in
theorem mt_X5_rebuts (r0 : Option Nat) (i1 : Int32) (S0 : PH) (y : Int32 × PH) (h : m_X5_rebuts r0 i1 S0 = some y) : MT yX5_rebuts (.code yX5_rebuts cX5_rebuts 7 (Option.some FieldType.int)) 4 90 0 0 [va_rf r0, .int i1] S0 (oQ e_I (qN y)) := by
  refine mt_of (own := RX5) (l0 := [(0, va_rf r0), (1, .int i1)]) rfl rfl (by cases r0 <;> exact Nat.le_of_ble_eq_true rfl) (by cases r0 <;> rfl) ?_
  intro Z hC hQ hE hN
  have J_95 : ∀ (v42 : Option Nat) (v43 : Int32) (v44 : Int32) (v45 : Int32) (S46 : PH), j_X5_rebuts_95 r0 i1 v42 v43 v44 v45 S46 = some y → PX Z 7 S46 0 0 95 [(0, va_rf r0), (1, .int i1)] [.int v45, .int v44, .int v43, va_rf v42] := by
    intro v42 v43 v44 v45 S46 h
    unfold j_X5_rebuts_95 at h
    replace h := dr_el h
    obtain ⟨a47, ea48, ha49, h⟩ := h
    replace h := bd_el h
    obtain ⟨v50, S51, hb52, h⟩ := h
    refine x_callV hC (st := []) (mt_X5_lay _ _ _ _ _ _ hb52) ea48 ha49 kf_5 q_927 q_929 qs_46 q_7 q_930 ⟨rfl, hy_X5_lay⟩ ⟨Nat.le_of_ble_eq_true rfl, Nat.le_of_ble_eq_true rfl⟩ ⟨Nat.le_of_ble_eq_true rfl, Nat.le_of_ble_eq_true rfl⟩ rfl (Nat.le_of_ble_eq_true rfl) dX5_rebuts_95 (r_N ?_) r_NX
    show PX Z 7 S51 0 0 98 [(0, va_rf r0), (1, .int i1)] []
    refine x_aload_n (i := 0) hC dX5_rebuts_98 rfl 0 rfl ?_
    refine x_iload_n (i := 1) hC dX5_rebuts_99 rfl 1 rfl ?_
    refine x_iconst (v := (3 : Int32)) hC dX5_rebuts_100 (by decide) ?_
    refine x_iconst (v := (1 : Int32)) hC dX5_rebuts_101 (by decide) ?_
    replace h := dr_el h
    obtain ⟨a53, ea54, ha55, h⟩ := h
    replace h := bd_el h
    obtain ⟨v56, S57, hb58, h⟩ := h
    refine x_callV hC (st := []) (mt_X5_lay _ _ _ _ _ _ hb58) ea54 ha55 kf_5 q_927 q_929 qs_46 q_7 q_930 ⟨rfl, hy_X5_lay⟩ ⟨Nat.le_of_ble_eq_true rfl, Nat.le_of_ble_eq_true rfl⟩ ⟨Nat.le_of_ble_eq_true rfl, Nat.le_of_ble_eq_true rfl⟩ rfl (Nat.le_of_ble_eq_true rfl) dX5_rebuts_102 (r_N ?_) r_NX
    show PX Z 7 S57 0 0 105 [(0, va_rf r0), (1, .int i1)] []
    refine x_iconst (v := (0 : Int32)) hC dX5_rebuts_105 (by decide) ?_
    refine x_istore (i := 5) (l' := [(5, .int (0 : Int32)), (0, va_rf r0), (1, .int i1)]) hC dX5_rebuts_106 (⟨fun _ => c_rf r0, ⟨fun _ => rfl, trivial⟩⟩) (by decide) rfl ?_
    refine x_iconst (v := (0 : Int32)) hC dX5_rebuts_108 (by decide) ?_
    refine x_istore (i := 6) (l' := [(6, .int (0 : Int32)), (5, .int (0 : Int32)), (0, va_rf r0), (1, .int i1)]) hC dX5_rebuts_109 (⟨fun _ => rfl, ⟨fun _ => c_rf r0, ⟨fun _ => rfl, trivial⟩⟩⟩) (by decide) rfl ?_
    refine x_sub (l' := [(0, va_rf r0), (1, .int i1), (5, .int (0 : Int32)), (6, .int (0 : Int32))]) [2, 3, 1, 0] rfl ?_
    refine lp_sim (P := fun (t : (Int32 × Int32 × PH)) => PX Z 7 t.2.2 0 0 111 [(0, va_rf r0), (1, .int i1), (5, .int t.1), (6, .int t.2.1)] []) (G := fun r => r = y) ?_ h rfl
    clear h
    intro t x_111 h hg_111
    obtain ⟨v59, v60, S61⟩ := t
    show PX Z 7 S61 0 0 111 [(0, va_rf r0), (1, .int i1), (5, .int v59), (6, .int v60)] []
    unfold st_X5_rebuts_111 at h
    refine x_iload (i := 6) hC dX5_rebuts_111 3 rfl ?_
    refine x_bipush (v := (8 : Int32)) hC dX5_rebuts_113 (by decide) ?_
    refine x_icmp_ge (t := 153) hC dX5_rebuts_115 (by decide) (fun c62 => ?_) (fun c62 => ?_)
    · replace h := it_t c62 h
      replace h := ir_x h hg_111
      refine x_bipush (v := (10 : Int32)) hC dX5_rebuts_153 (by decide) ?_
      refine x_iload (i := 5) hC dX5_rebuts_155 2 rfl ?_
      refine x_iadd hC dX5_rebuts_157 ?_
      exact x_iret hC hQ (z_N (Option.some.inj h)) (Nat.le_of_ble_eq_true rfl) (Nat.le_of_ble_eq_true rfl) dX5_rebuts_158
    · replace h := it_f c62 h
      refine x_aload_n (i := 0) hC dX5_rebuts_118 rfl 0 rfl ?_
      refine x_iload (i := 6) hC dX5_rebuts_119 3 rfl ?_
      refine x_iload_n (i := 1) hC dX5_rebuts_121 rfl 1 rfl ?_
      replace h := dr_el h
      obtain ⟨a63, ea64, ha65, h⟩ := h
      replace h := bd_el h
      obtain ⟨v66, S67, hb68, h⟩ := h
      refine x_callV hC (st := []) (mt_X5_isWritten _ _ _ _ _ hb68) ea64 ha65 kf_5 q_993 q_995 qs_55 q_7 q_996 ⟨rfl, hy_X5_isWritten⟩ ⟨Nat.le_of_ble_eq_true rfl, Nat.le_of_ble_eq_true rfl⟩ ⟨Nat.le_of_ble_eq_true rfl, Nat.le_of_ble_eq_true rfl⟩ rfl (Nat.le_of_ble_eq_true rfl) dX5_rebuts_122 (r_N ?_) r_NX
      show PX Z 7 S67 0 0 125 [(0, va_rf r0), (1, .int i1), (5, .int v59), (6, .int v60)] [.int v66]
      refine x_if_eq (t := 147) hC dX5_rebuts_125 (by decide) (fun c69 => ?_) (fun c69 => ?_)
      · replace h := it_t c69 h
        refine x_iinc (i := 6) (v := (v60 + (1 : Int32))) (l' := [(6, .int (v60 + (1 : Int32))), (0, va_rf r0), (1, .int i1), (5, .int v59)]) hC dX5_rebuts_147 3 rfl rfl (⟨fun _ => c_rf r0, ⟨fun _ => rfl, ⟨fun _ => rfl, ⟨fun _ => rfl, trivial⟩⟩⟩⟩) (by decide) rfl ?_
        refine x_goto (t := 111) hC dX5_rebuts_150 (by decide) ?_
        refine x_sub (l' := [(0, va_rf r0), (1, .int i1), (5, .int v59), (6, .int (v60 + (1 : Int32)))]) [1, 2, 3, 0] rfl ?_
        have hb := bk_x h hg_111
        exact hb
      · replace h := it_f c69 h
        refine x_aload_n (i := 0) hC dX5_rebuts_128 rfl 0 rfl ?_
        replace h := dr_el h
        obtain ⟨a70, ea71, ha72, h⟩ := h
        refine x_getR hC ea71 ha72 kf_5 1 (by decide) rfl q_864 dX5_rebuts_129 ?_
        refine x_iconst (v := (0 : Int32)) hC dX5_rebuts_132 (by decide) ?_
        replace h := dr_el h
        obtain ⟨a73, ea74, ha75, h⟩ := h
        replace h := ck_el h
        obtain ⟨hc76, h⟩ := h
        refine x_iaload hC ea74 ha75 hc76 dX5_rebuts_133 ?_
        refine x_tI (b := (p_I S67 a73 0)) rfl ?_
        refine x_if_le (t := 147) hC dX5_rebuts_134 (by decide) (fun c77 => ?_) (fun c77 => ?_)
        · replace h := it_t c77 h
          refine x_iinc (i := 6) (v := (v60 + (1 : Int32))) (l' := [(6, .int (v60 + (1 : Int32))), (0, va_rf r0), (1, .int i1), (5, .int v59)]) hC dX5_rebuts_147 3 rfl rfl (⟨fun _ => c_rf r0, ⟨fun _ => rfl, ⟨fun _ => rfl, ⟨fun _ => rfl, trivial⟩⟩⟩⟩) (by decide) rfl ?_
          refine x_goto (t := 111) hC dX5_rebuts_150 (by decide) ?_
          refine x_sub (l' := [(0, va_rf r0), (1, .int i1), (5, .int v59), (6, .int (v60 + (1 : Int32)))]) [1, 2, 3, 0] rfl ?_
          have hb := bk_x h hg_111
          exact hb
        · replace h := it_f c77 h
          refine x_aload_n (i := 0) hC dX5_rebuts_137 rfl 0 rfl ?_
          refine x_iload (i := 6) hC dX5_rebuts_138 3 rfl ?_
          refine x_iconst (v := (1 : Int32)) hC dX5_rebuts_140 (by decide) ?_
          replace h := bd_el h
          obtain ⟨v78, S79, hb80, h⟩ := h
          refine x_callV hC (st := []) (mt_X5_gets _ _ _ _ _ hb80) ea71 ha72 kf_5 q_961 q_963 qs_48 q_7 q_964 ⟨rfl, hy_X5_gets⟩ ⟨Nat.le_of_ble_eq_true rfl, Nat.le_of_ble_eq_true rfl⟩ ⟨Nat.le_of_ble_eq_true rfl, Nat.le_of_ble_eq_true rfl⟩ rfl (Nat.le_of_ble_eq_true rfl) dX5_rebuts_141 (r_N ?_) r_NX
          show PX Z 7 S79 0 0 144 [(0, va_rf r0), (1, .int i1), (5, .int v59), (6, .int v60)] []
          refine x_iinc (i := 5) (v := (v59 + (1 : Int32))) (l' := [(5, .int (v59 + (1 : Int32))), (0, va_rf r0), (1, .int i1), (6, .int v60)]) hC dX5_rebuts_144 2 rfl rfl (⟨fun _ => c_rf r0, ⟨fun _ => rfl, ⟨fun _ => rfl, ⟨fun _ => rfl, trivial⟩⟩⟩⟩) (by decide) rfl ?_
          refine x_iinc (i := 6) (v := (v60 + (1 : Int32))) (l' := [(6, .int (v60 + (1 : Int32))), (5, .int (v59 + (1 : Int32))), (0, va_rf r0), (1, .int i1)]) hC dX5_rebuts_147 3 rfl rfl (⟨fun _ => rfl, ⟨fun _ => c_rf r0, ⟨fun _ => rfl, ⟨fun _ => rfl, trivial⟩⟩⟩⟩) (by decide) rfl ?_
          refine x_goto (t := 111) hC dX5_rebuts_150 (by decide) ?_
          refine x_sub (l' := [(0, va_rf r0), (1, .int i1), (5, .int (v59 + (1 : Int32))), (6, .int (v60 + (1 : Int32)))]) [2, 3, 1, 0] rfl ?_
          have hb := bk_x h hg_111
          exact hb
  have J_43 : ∀ (v22 : Int32) (v23 : Int32) (S24 : PH), j_X5_rebuts_43 r0 i1 v22 v23 S24 = some y → PX Z 7 S24 0 0 43 [(0, va_rf r0), (1, .int i1), (2, .int v22)] [.int v23] := by
    intro v22 v23 S24 h
    unfold j_X5_rebuts_43 at h
    refine x_istore_n (i := 3) (l' := [(3, .int v23), (0, va_rf r0), (1, .int i1), (2, .int v22)]) hC dX5_rebuts_43 rfl (⟨fun _ => c_rf r0, ⟨fun _ => rfl, ⟨fun _ => rfl, trivial⟩⟩⟩) (by decide) rfl ?_
    refine x_iload_n (i := 3) hC dX5_rebuts_44 rfl 0 rfl ?_
    refine x_if_le (t := 60) hC dX5_rebuts_45 (by decide) (fun c25 => ?_) (fun c25 => ?_)
    · replace h := it_t c25 h
      refine x_aload_n (i := 0) hC dX5_rebuts_60 rfl 1 rfl ?_
      refine x_iload_n (i := 2) hC dX5_rebuts_61 rfl 3 rfl ?_
      refine x_iload_n (i := 1) hC dX5_rebuts_62 rfl 2 rfl ?_
      replace h := dr_el h
      obtain ⟨a26, ea27, ha28, h⟩ := h
      replace h := bd_el h
      obtain ⟨v29, S30, hb31, h⟩ := h
      refine x_callV hC (st := []) (mt_X5_scoreOf _ _ _ _ _ hb31) ea27 ha28 kf_5 q_985 q_987 qs_53 q_7 q_988 ⟨rfl, hy_X5_scoreOf⟩ ⟨Nat.le_of_ble_eq_true rfl, Nat.le_of_ble_eq_true rfl⟩ ⟨Nat.le_of_ble_eq_true rfl, Nat.le_of_ble_eq_true rfl⟩ rfl (Nat.le_of_ble_eq_true rfl) dX5_rebuts_63 (r_N ?_) r_NX
      show PX Z 7 S30 0 0 66 [(3, .int v23), (0, va_rf r0), (1, .int i1), (2, .int v22)] [.int v29]
      refine x_aload_n (i := 0) hC dX5_rebuts_66 rfl 1 rfl ?_
      replace h := dr_el h
      obtain ⟨a32, ea33, ha34, h⟩ := h
      refine x_getR hC ea33 ha34 kf_5 1 (by decide) rfl q_864 dX5_rebuts_67 ?_
      refine x_bipush (v := (7 : Int32)) hC dX5_rebuts_70 (by decide) ?_
      replace h := dr_el h
      obtain ⟨a35, ea36, ha37, h⟩ := h
      replace h := ck_el h
      obtain ⟨hc38, h⟩ := h
      refine x_iaload hC ea36 ha37 hc38 dX5_rebuts_72 ?_
      refine x_tI (b := (p_I S30 a35 7)) rfl ?_
      refine x_iadd hC dX5_rebuts_73 ?_
      replace h := le_el h
      obtain ⟨x39, hx40, h⟩ := h
      refine x_tI hx40 ?_
      refine x_istore (i := 4) (l' := [(4, .int x39), (3, .int v23), (0, va_rf r0), (1, .int i1), (2, .int v22)]) hC dX5_rebuts_74 (⟨fun _ => rfl, ⟨fun _ => c_rf r0, ⟨fun _ => rfl, ⟨fun _ => rfl, trivial⟩⟩⟩⟩) (by decide) rfl ?_
      refine x_aload_n (i := 0) hC dX5_rebuts_76 rfl 2 rfl ?_
      refine x_iload_n (i := 1) hC dX5_rebuts_77 rfl 3 rfl ?_
      refine x_iconst (v := (5 : Int32)) hC dX5_rebuts_78 (by decide) ?_
      refine x_iload_n (i := 2) hC dX5_rebuts_79 rfl 4 rfl ?_
      refine x_iadd hC dX5_rebuts_80 ?_
      refine x_iload (i := 4) hC dX5_rebuts_81 0 rfl ?_
      refine x_bipush (v := (9 : Int32)) hC dX5_rebuts_83 (by decide) ?_
      refine x_icmp_le (t := 93) hC dX5_rebuts_85 (by decide) (fun c41 => ?_) (fun c41 => ?_)
      · replace h := it_t c41 h
        refine x_iload (i := 4) hC dX5_rebuts_93 0 rfl ?_
        refine x_sub (l' := [(0, va_rf r0), (1, .int i1)]) [2, 3] rfl ?_
        exact J_95 _ _ _ _ _ h
      · replace h := it_f c41 h
        refine x_bipush (v := (9 : Int32)) hC dX5_rebuts_88 (by decide) ?_
        refine x_goto (t := 95) hC dX5_rebuts_90 (by decide) ?_
        refine x_sub (l' := [(0, va_rf r0), (1, .int i1)]) [2, 3] rfl ?_
        exact J_95 _ _ _ _ _ h
    · replace h := it_f c25 h
      refine x_aload_n (i := 0) hC dX5_rebuts_48 rfl 1 rfl ?_
      replace h := dr_el h
      obtain ⟨a81, ea82, ha83, h⟩ := h
      refine x_getR hC ea82 ha83 kf_5 1 (by decide) rfl q_864 dX5_rebuts_49 ?_
      refine x_iconst (v := (3 : Int32)) hC dX5_rebuts_52 (by decide) ?_
      refine x_dup2 hC dX5_rebuts_53 rfl (c_rf (p_R S24 a81 1)) ?_
      replace h := dr_el h
      obtain ⟨a84, ea85, ha86, h⟩ := h
      replace h := ck_el h
      obtain ⟨hc87, h⟩ := h
      refine x_iaload hC ea85 ha86 hc87 dX5_rebuts_54 ?_
      refine x_tI (b := (p_I S24 a84 3)) rfl ?_
      refine x_iconst (v := (1 : Int32)) hC dX5_rebuts_55 (by decide) ?_
      refine x_iadd hC dX5_rebuts_56 ?_
      replace h := ck_el h
      obtain ⟨hc88, h⟩ := h
      replace h := le_el h
      obtain ⟨S89, hx90, h⟩ := h
      refine x_iastore hC ea85 ha86 hc88 dX5_rebuts_57 ?_
      refine x_tS hx90 ?_
      refine x_iload_n (i := 3) hC dX5_rebuts_58 rfl 0 rfl ?_
      exact x_iret hC hQ (z_N (Option.some.inj h)) (Nat.le_of_ble_eq_true rfl) (Nat.le_of_ble_eq_true rfl) dX5_rebuts_59
  unfold m_X5_rebuts at h
  refine x_aload_n (i := 0) hC dX5_rebuts_0 rfl 0 rfl ?_
  refine x_iload_n (i := 1) hC dX5_rebuts_1 rfl 1 rfl ?_
  replace h := dr_el h
  obtain ⟨a1, ea2, ha3, h⟩ := h
  replace h := bd_el h
  obtain ⟨v4, S5, hb6, h⟩ := h
  refine x_callV hC (st := []) (mt_X5_lowestScorer _ _ _ _ hb6) ea2 ha3 kf_5 q_1055 q_1057 qs_65 q_7 q_1058 ⟨rfl, hy_X5_lowestScorer⟩ ⟨Nat.le_of_ble_eq_true rfl, Nat.le_of_ble_eq_true rfl⟩ ⟨Nat.le_of_ble_eq_true rfl, Nat.le_of_ble_eq_true rfl⟩ rfl (Nat.le_of_ble_eq_true rfl) dX5_rebuts_2 (r_N ?_) r_NX
  show PX Z 7 S5 0 0 5 [(0, va_rf r0), (1, .int i1)] [.int v4]
  refine x_istore_n (i := 2) (l' := [(2, .int v4), (0, va_rf r0), (1, .int i1)]) hC dX5_rebuts_5 rfl (⟨fun _ => c_rf r0, ⟨fun _ => rfl, trivial⟩⟩) (by decide) rfl ?_
  refine x_aload_n (i := 0) hC dX5_rebuts_6 rfl 1 rfl ?_
  refine x_iload_n (i := 1) hC dX5_rebuts_7 rfl 2 rfl ?_
  refine x_iconst (v := (4 : Int32)) hC dX5_rebuts_8 (by decide) ?_
  replace h := dr_el h
  obtain ⟨a7, ea8, ha9, h⟩ := h
  replace h := bd_el h
  obtain ⟨v10, S11, hb12, h⟩ := h
  refine x_callV hC (st := []) (mt_X5_of _ _ _ _ _ hb12) ea8 ha9 kf_5 q_981 q_983 qs_52 q_7 q_984 ⟨rfl, hy_X5_of⟩ ⟨Nat.le_of_ble_eq_true rfl, Nat.le_of_ble_eq_true rfl⟩ ⟨Nat.le_of_ble_eq_true rfl, Nat.le_of_ble_eq_true rfl⟩ rfl (Nat.le_of_ble_eq_true rfl) dX5_rebuts_9 (r_N ?_) r_NX
  show PX Z 7 S11 0 0 12 [(2, .int v4), (0, va_rf r0), (1, .int i1)] [.int v10]
  refine x_if_le (t := 19) hC dX5_rebuts_12 (by decide) (fun c13 => ?_) (fun c13 => ?_)
  · replace h := it_t c13 h
    refine x_iload_n (i := 2) hC dX5_rebuts_19 rfl 0 rfl ?_
    refine x_iconst (v := (-1 : Int32)) hC dX5_rebuts_20 (by decide) ?_
    refine x_icmp_ne (t := 28) hC dX5_rebuts_21 (by decide) (fun c14 => ?_) (fun c14 => ?_)
    · replace h := it_f c14 h
      refine x_aload_n (i := 0) hC dX5_rebuts_28 rfl 1 rfl ?_
      refine x_iload_n (i := 1) hC dX5_rebuts_29 rfl 2 rfl ?_
      refine x_iconst (v := (3 : Int32)) hC dX5_rebuts_30 (by decide) ?_
      replace h := dr_el h
      obtain ⟨a15, ea16, ha17, h⟩ := h
      replace h := bd_el h
      obtain ⟨v18, S19, hb20, h⟩ := h
      refine x_callV hC (st := []) (mt_X5_of _ _ _ _ _ hb20) ea16 ha17 kf_5 q_981 q_983 qs_52 q_7 q_984 ⟨rfl, hy_X5_of⟩ ⟨Nat.le_of_ble_eq_true rfl, Nat.le_of_ble_eq_true rfl⟩ ⟨Nat.le_of_ble_eq_true rfl, Nat.le_of_ble_eq_true rfl⟩ rfl (Nat.le_of_ble_eq_true rfl) dX5_rebuts_31 (r_N ?_) r_NX
      show PX Z 7 S19 0 0 34 [(2, .int v4), (0, va_rf r0), (1, .int i1)] [.int v18]
      refine x_iconst (v := (1 : Int32)) hC dX5_rebuts_34 (by decide) ?_
      refine x_icmp_ne (t := 42) hC dX5_rebuts_35 (by decide) (fun c21 => ?_) (fun c21 => ?_)
      · replace h := it_f c21 h
        refine x_iconst (v := (0 : Int32)) hC dX5_rebuts_42 (by decide) ?_
        refine x_sub (l' := [(0, va_rf r0), (1, .int i1), (2, .int v4)]) [1, 2, 0] rfl ?_
        exact J_43 _ _ _ h
      · replace h := it_t c21 h
        refine x_iconst (v := (3 : Int32)) hC dX5_rebuts_38 (by decide) ?_
        refine x_goto (t := 43) hC dX5_rebuts_39 (by decide) ?_
        refine x_sub (l' := [(0, va_rf r0), (1, .int i1), (2, .int v4)]) [1, 2, 0] rfl ?_
        exact J_43 _ _ _ h
    · replace h := it_t c14 h
      refine x_iconst (v := (2 : Int32)) hC dX5_rebuts_24 (by decide) ?_
      refine x_goto (t := 43) hC dX5_rebuts_25 (by decide) ?_
      refine x_sub (l' := [(0, va_rf r0), (1, .int i1), (2, .int v4)]) [1, 2, 0] rfl ?_
      exact J_43 _ _ _ h
  · replace h := it_f c13 h
    refine x_iconst (v := (1 : Int32)) hC dX5_rebuts_15 (by decide) ?_
    refine x_goto (t := 43) hC dX5_rebuts_16 (by decide) ?_
    refine x_sub (l' := [(0, va_rf r0), (1, .int i1), (2, .int v4)]) [1, 2, 0] rfl ?_
    exact J_43 _ _ _ h
