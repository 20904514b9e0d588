/-! THE WALKS: each method does what it means -/
theorem dX4_writtenBy_0 : decode cX4_writtenBy 0 = .ok (.iconst 0, 1) := by decide +kernel
theorem dX4_writtenBy_1 : decode cX4_writtenBy 1 = .ok (.istore_n 2, 1) := by decide +kernel
theorem dX4_writtenBy_2 : decode cX4_writtenBy 2 = .ok (.iconst 0, 1) := by decide +kernel
theorem dX4_writtenBy_3 : decode cX4_writtenBy 3 = .ok (.istore_n 3, 1) := by decide +kernel
theorem dX4_writtenBy_4 : decode cX4_writtenBy 4 = .ok (.iload_n 3, 1) := by decide +kernel
theorem dX4_writtenBy_5 : decode cX4_writtenBy 5 = .ok (.bipush 8, 2) := by decide +kernel
theorem dX4_writtenBy_7 : decode cX4_writtenBy 7 = .ok (.if_icmp .ge 29, 3) := by decide +kernel
theorem dX4_writtenBy_10 : decode cX4_writtenBy 10 = .ok (.aload_n 0, 1) := by decide +kernel
theorem dX4_writtenBy_11 : decode cX4_writtenBy 11 = .ok (.getfield 10, 3) := by decide +kernel
theorem dX4_writtenBy_14 : decode cX4_writtenBy 14 = .ok (.getfield 167, 3) := by decide +kernel
theorem dX4_writtenBy_17 : decode cX4_writtenBy 17 = .ok (.iload_n 3, 1) := by decide +kernel
theorem dX4_writtenBy_18 : decode cX4_writtenBy 18 = .ok (.aaload, 1) := by decide +kernel
theorem dX4_writtenBy_19 : decode cX4_writtenBy 19 = .ok (.iload_n 1, 1) := by decide +kernel
theorem dX4_writtenBy_20 : decode cX4_writtenBy 20 = .ok (.iaload, 1) := by decide +kernel
theorem dX4_writtenBy_21 : decode cX4_writtenBy 21 = .ok (.invokestatic 132, 3) := by decide +kernel
theorem dX4_writtenBy_24 : decode cX4_writtenBy 24 = .ok (.ifCond .eq 6, 3) := by decide +kernel
theorem dX4_writtenBy_27 : decode cX4_writtenBy 27 = .ok (.iinc 2 1, 3) := by decide +kernel
theorem dX4_writtenBy_30 : decode cX4_writtenBy 30 = .ok (.iinc 3 1, 3) := by decide +kernel
theorem dX4_writtenBy_33 : decode cX4_writtenBy 33 = .ok (.goto (-29), 3) := by decide +kernel
theorem dX4_writtenBy_36 : decode cX4_writtenBy 36 = .ok (.iload_n 2, 1) := by decide +kernel
theorem dX4_writtenBy_37 : decode cX4_writtenBy 37 = .ok (.ireturn, 1) := by decide +kernel
set_option maxRecDepth 100000 in
set_option maxHeartbeats 4000000 in
theorem mt_X4_writtenBy (r0 : Option Nat) (i1 : Int32) (S0 : PH) (y : Int32 × PH) (h : m_X4_writtenBy r0 i1 S0 = some y) : MT yX4_writtenBy (.code yX4_writtenBy cX4_writtenBy 4 (Option.some FieldType.int)) 1 20 0 0 [va_rf r0, .int i1] S0 (oQ e_I (qN y)) := by
  refine mt_of (own := RX4) (l0 := [(0, va_rf r0), (1, .int i1)]) rfl rfl (by cases r0 <;> exact Nat.le_of_ble_eq_true rfl) (by cases r0 <;> rfl) ?_
  intro Z hC hQ hE hN
  unfold m_X4_writtenBy at h
  refine x_iconst (v := (0 : Int32)) hC dX4_writtenBy_0 (by decide) ?_
  refine x_istore_n (i := 2) (l' := [(2, .int (0 : Int32)), (0, va_rf r0), (1, .int i1)]) hC dX4_writtenBy_1 rfl (⟨fun _ => c_rf r0, ⟨fun _ => rfl, trivial⟩⟩) (by decide) rfl ?_
  refine x_iconst (v := (0 : Int32)) hC dX4_writtenBy_2 (by decide) ?_
  refine x_istore_n (i := 3) (l' := [(3, .int (0 : Int32)), (2, .int (0 : Int32)), (0, va_rf r0), (1, .int i1)]) hC dX4_writtenBy_3 rfl (⟨fun _ => rfl, ⟨fun _ => c_rf r0, ⟨fun _ => rfl, trivial⟩⟩⟩) (by decide) rfl ?_
  refine x_sub (l' := [(0, va_rf r0), (1, .int i1), (2, .int (0 : Int32)), (3, .int (0 : Int32))]) [2, 3, 1, 0] rfl ?_
  refine lp_sim (P := fun (t : (Int32 × Int32 × PH)) => PX Z 4 t.2.2 0 0 4 [(0, va_rf r0), (1, .int i1), (2, .int t.1), (3, .int t.2.1)] []) (G := fun r => r = y) ?_ h rfl
  clear h
  intro t x_4 h hg_4
  obtain ⟨v1, v2, S3⟩ := t
  show PX Z 4 S3 0 0 4 [(0, va_rf r0), (1, .int i1), (2, .int v1), (3, .int v2)] []
  unfold st_X4_writtenBy_4 at h
  refine x_iload_n (i := 3) hC dX4_writtenBy_4 rfl 3 rfl ?_
  refine x_bipush (v := (8 : Int32)) hC dX4_writtenBy_5 (by decide) ?_
  refine x_icmp_ge (t := 36) hC dX4_writtenBy_7 (by decide) (fun c4 => ?_) (fun c4 => ?_)
  · replace h := it_t c4 h
    replace h := ir_x h hg_4
    refine x_iload_n (i := 2) hC dX4_writtenBy_36 rfl 2 rfl ?_
    exact x_iret hC hQ (z_N (Option.some.inj h)) (Nat.le_of_ble_eq_true rfl) (Nat.le_of_ble_eq_true rfl) dX4_writtenBy_37
  · replace h := it_f c4 h
    refine x_aload_n (i := 0) hC dX4_writtenBy_10 rfl 0 rfl ?_
    replace h := dr_el h
    obtain ⟨a5, ea6, ha7, h⟩ := h
    refine x_getR hC ea6 ha7 kf_4 0 (by decide) rfl q_175 dX4_writtenBy_11 ?_
    replace h := dr_el h
    obtain ⟨a8, ea9, ha10, h⟩ := h
    refine x_getR hC ea9 ha10 kf_2 10 (by decide) rfl q_58 dX4_writtenBy_14 ?_
    refine x_iload_n (i := 3) hC dX4_writtenBy_17 rfl 3 rfl ?_
    replace h := dr_el h
    obtain ⟨a11, ea12, ha13, h⟩ := h
    replace h := ck_el h
    obtain ⟨hc14, h⟩ := h
    refine x_aaload9 hC ea12 ha13 hc14 dX4_writtenBy_18 ?_
    refine x_iload_n (i := 1) hC dX4_writtenBy_19 rfl 1 rfl ?_
    replace h := dr_el h
    obtain ⟨a15, ea16, ha17, h⟩ := h
    replace h := ck_el h
    obtain ⟨hc18, h⟩ := h
    refine x_iaload hC ea16 ha17 hc18 dX4_writtenBy_20 ?_
    replace h := bd_el h
    obtain ⟨v19, S20, hb21, h⟩ := h
    refine x_callS hC (st := []) (mt_X4_isScore _ _ _ hb21) q_317 q_318 q_1 q_319 hy_X4_isScore ⟨Nat.le_of_ble_eq_true rfl, Nat.le_of_ble_eq_true rfl⟩ ⟨Nat.le_of_ble_eq_true rfl, Nat.le_of_ble_eq_true rfl⟩ rfl (Nat.le_of_ble_eq_true rfl) dX4_writtenBy_21 (r_N ?_) r_NX
    show PX Z 4 S20 0 0 24 [(0, va_rf r0), (1, .int i1), (2, .int v1), (3, .int v2)] [.int v19]
    refine x_if_eq (t := 30) hC dX4_writtenBy_24 (by decide) (fun c22 => ?_) (fun c22 => ?_)
    · replace h := it_t c22 h
      refine x_iinc (i := 3) (v := (v2 + (1 : Int32))) (l' := [(3, .int (v2 + (1 : Int32))), (0, va_rf r0), (1, .int i1), (2, .int v1)]) hC dX4_writtenBy_30 3 rfl rfl (⟨fun _ => c_rf r0, ⟨fun _ => rfl, ⟨fun _ => rfl, ⟨fun _ => rfl, trivial⟩⟩⟩⟩) (by decide) rfl ?_
      refine x_goto (t := 4) hC dX4_writtenBy_33 (by decide) ?_
      refine x_sub (l' := [(0, va_rf r0), (1, .int i1), (2, .int v1), (3, .int (v2 + (1 : Int32)))]) [1, 2, 3, 0] rfl ?_
      have hb := bk_x h hg_4
      exact hb
    · replace h := it_f c22 h
      refine x_iinc (i := 2) (v := (v1 + (1 : Int32))) (l' := [(2, .int (v1 + (1 : Int32))), (0, va_rf r0), (1, .int i1), (3, .int v2)]) hC dX4_writtenBy_27 2 rfl rfl (⟨fun _ => c_rf r0, ⟨fun _ => rfl, ⟨fun _ => rfl, ⟨fun _ => rfl, trivial⟩⟩⟩⟩) (by decide) rfl ?_
      refine x_iinc (i := 3) (v := (v2 + (1 : Int32))) (l' := [(3, .int (v2 + (1 : Int32))), (2, .int (v1 + (1 : Int32))), (0, va_rf r0), (1, .int i1)]) hC dX4_writtenBy_30 3 rfl rfl (⟨fun _ => rfl, ⟨fun _ => c_rf r0, ⟨fun _ => rfl, ⟨fun _ => rfl, trivial⟩⟩⟩⟩) (by decide) rfl ?_
      refine x_goto (t := 4) hC dX4_writtenBy_33 (by decide) ?_
      refine x_sub (l' := [(0, va_rf r0), (1, .int i1), (2, .int (v1 + (1 : Int32))), (3, .int (v2 + (1 : Int32)))]) [2, 3, 1, 0] rfl ?_
      have hb := bk_x h hg_4
      exact hb
theorem dX4_papersInConflict_0 : decode cX4_papersInConflict 0 = .ok (.iconst 0, 1) := by decide +kernel
theorem dX4_papersInConflict_1 : decode cX4_papersInConflict 1 = .ok (.istore_n 2, 1) := by decide +kernel
theorem dX4_papersInConflict_2 : decode cX4_papersInConflict 2 = .ok (.iconst 0, 1) := by decide +kernel
theorem dX4_papersInConflict_3 : decode cX4_papersInConflict 3 = .ok (.istore_n 3, 1) := by decide +kernel
theorem dX4_papersInConflict_4 : decode cX4_papersInConflict 4 = .ok (.iload_n 3, 1) := by decide +kernel
theorem dX4_papersInConflict_5 : decode cX4_papersInConflict 5 = .ok (.bipush 8, 2) := by decide +kernel
theorem dX4_papersInConflict_7 : decode cX4_papersInConflict 7 = .ok (.if_icmp .ge 38, 3) := by decide +kernel
theorem dX4_papersInConflict_10 : decode cX4_papersInConflict 10 = .ok (.iload_n 3, 1) := by decide +kernel
theorem dX4_papersInConflict_11 : decode cX4_papersInConflict 11 = .ok (.aload_n 0, 1) := by decide +kernel
theorem dX4_papersInConflict_12 : decode cX4_papersInConflict 12 = .ok (.getfield 10, 3) := by decide +kernel
theorem dX4_papersInConflict_15 : decode cX4_papersInConflict 15 = .ok (.getfield 54, 3) := by decide +kernel
theorem dX4_papersInConflict_18 : decode cX4_papersInConflict 18 = .ok (.if_icmp .ge 27, 3) := by decide +kernel
theorem dX4_papersInConflict_21 : decode cX4_papersInConflict 21 = .ok (.aload_n 0, 1) := by decide +kernel
theorem dX4_papersInConflict_22 : decode cX4_papersInConflict 22 = .ok (.iload_n 3, 1) := by decide +kernel
theorem dX4_papersInConflict_23 : decode cX4_papersInConflict 23 = .ok (.invokevirtual 325, 3) := by decide +kernel
theorem dX4_papersInConflict_26 : decode cX4_papersInConflict 26 = .ok (.iload_n 1, 1) := by decide +kernel
theorem dX4_papersInConflict_27 : decode cX4_papersInConflict 27 = .ok (.invokestatic 87, 3) := by decide +kernel
theorem dX4_papersInConflict_30 : decode cX4_papersInConflict 30 = .ok (.ifCond .eq 9, 3) := by decide +kernel
theorem dX4_papersInConflict_33 : decode cX4_papersInConflict 33 = .ok (.iload_n 2, 1) := by decide +kernel
theorem dX4_papersInConflict_34 : decode cX4_papersInConflict 34 = .ok (.iconst 1, 1) := by decide +kernel
theorem dX4_papersInConflict_35 : decode cX4_papersInConflict 35 = .ok (.iload_n 3, 1) := by decide +kernel
theorem dX4_papersInConflict_36 : decode cX4_papersInConflict 36 = .ok (.ishl, 1) := by decide +kernel
theorem dX4_papersInConflict_37 : decode cX4_papersInConflict 37 = .ok (.ior, 1) := by decide +kernel
theorem dX4_papersInConflict_38 : decode cX4_papersInConflict 38 = .ok (.istore_n 2, 1) := by decide +kernel
theorem dX4_papersInConflict_39 : decode cX4_papersInConflict 39 = .ok (.iinc 3 1, 3) := by decide +kernel
theorem dX4_papersInConflict_42 : decode cX4_papersInConflict 42 = .ok (.goto (-38), 3) := by decide +kernel
theorem dX4_papersInConflict_45 : decode cX4_papersInConflict 45 = .ok (.iload_n 2, 1) := by decide +kernel
theorem dX4_papersInConflict_46 : decode cX4_papersInConflict 46 = .ok (.ireturn, 1) := by decide +kernel
set_option maxRecDepth 100000 in
set_option maxHeartbeats 4000000 in
theorem mt_X4_papersInConflict (r0 : Option Nat) (i1 : Int32) (S0 : PH) (y : Int32 × PH) (h : m_X4_papersInConflict r0 i1 S0 = some y) : MT yX4_papersInConflict (.code yX4_papersInConflict cX4_papersInConflict 4 (Option.some FieldType.int)) 3 67 0 0 [va_rf r0, .int i1] S0 (oQ e_I (qN y)) := by
  refine mt_of (own := RX4) (l0 := [(0, va_rf r0), (1, .int i1)]) rfl rfl (by cases r0 <;> exact Nat.le_of_ble_eq_true rfl) (by cases r0 <;> rfl) ?_
  intro Z hC hQ hE hN
  unfold m_X4_papersInConflict at h
  refine x_iconst (v := (0 : Int32)) hC dX4_papersInConflict_0 (by decide) ?_
  refine x_istore_n (i := 2) (l' := [(2, .int (0 : Int32)), (0, va_rf r0), (1, .int i1)]) hC dX4_papersInConflict_1 rfl (⟨fun _ => c_rf r0, ⟨fun _ => rfl, trivial⟩⟩) (by decide) rfl ?_
  refine x_iconst (v := (0 : Int32)) hC dX4_papersInConflict_2 (by decide) ?_
  refine x_istore_n (i := 3) (l' := [(3, .int (0 : Int32)), (2, .int (0 : Int32)), (0, va_rf r0), (1, .int i1)]) hC dX4_papersInConflict_3 rfl (⟨fun _ => rfl, ⟨fun _ => c_rf r0, ⟨fun _ => rfl, trivial⟩⟩⟩) (by decide) rfl ?_
  refine x_sub (l' := [(0, va_rf r0), (1, .int i1), (2, .int (0 : Int32)), (3, .int (0 : Int32))]) [2, 3, 1, 0] rfl ?_
  refine lp_sim (P := fun (t : (Int32 × Int32 × PH)) => PX Z 4 t.2.2 0 0 4 [(0, va_rf r0), (1, .int i1), (2, .int t.1), (3, .int t.2.1)] []) (G := fun r => r = y) ?_ h rfl
  clear h
  intro t x_4 h hg_4
  obtain ⟨v1, v2, S3⟩ := t
  show PX Z 4 S3 0 0 4 [(0, va_rf r0), (1, .int i1), (2, .int v1), (3, .int v2)] []
  unfold st_X4_papersInConflict_4 at h
  refine x_iload_n (i := 3) hC dX4_papersInConflict_4 rfl 3 rfl ?_
  refine x_bipush (v := (8 : Int32)) hC dX4_papersInConflict_5 (by decide) ?_
  refine x_icmp_ge (t := 45) hC dX4_papersInConflict_7 (by decide) (fun c4 => ?_) (fun c4 => ?_)
  · replace h := it_t c4 h
    replace h := ir_x h hg_4
    refine x_iload_n (i := 2) hC dX4_papersInConflict_45 rfl 2 rfl ?_
    exact x_iret hC hQ (z_N (Option.some.inj h)) (Nat.le_of_ble_eq_true rfl) (Nat.le_of_ble_eq_true rfl) dX4_papersInConflict_46
  · replace h := it_f c4 h
    refine x_iload_n (i := 3) hC dX4_papersInConflict_10 rfl 3 rfl ?_
    refine x_aload_n (i := 0) hC dX4_papersInConflict_11 rfl 0 rfl ?_
    replace h := dr_el h
    obtain ⟨a5, ea6, ha7, h⟩ := h
    refine x_getR hC ea6 ha7 kf_4 0 (by decide) rfl q_175 dX4_papersInConflict_12 ?_
    replace h := dr_el h
    obtain ⟨a8, ea9, ha10, h⟩ := h
    refine x_getI hC ea9 ha10 kf_2 12 (by decide) rfl q_62 dX4_papersInConflict_15 ?_
    refine x_icmp_ge (t := 45) hC dX4_papersInConflict_18 (by decide) (fun c11 => ?_) (fun c11 => ?_)
    · replace h := it_t c11 h
      replace h := ir_x h hg_4
      refine x_iload_n (i := 2) hC dX4_papersInConflict_45 rfl 2 rfl ?_
      exact x_iret hC hQ (z_N (Option.some.inj h)) (Nat.le_of_ble_eq_true rfl) (Nat.le_of_ble_eq_true rfl) dX4_papersInConflict_46
    · replace h := it_f c11 h
      refine x_aload_n (i := 0) hC dX4_papersInConflict_21 rfl 0 rfl ?_
      refine x_iload_n (i := 3) hC dX4_papersInConflict_22 rfl 3 rfl ?_
      replace h := bd_el h
      obtain ⟨v12, S13, hb14, h⟩ := h
      refine x_callV hC (st := []) (mt_X4_personsInConflict _ _ _ _ hb14) ea6 ha7 kf_4 q_244 q_246 qs_3 q_1 q_247 ⟨rfl, hy_X4_personsInConflict⟩ ⟨Nat.le_of_ble_eq_true rfl, Nat.le_of_ble_eq_true rfl⟩ ⟨Nat.le_of_ble_eq_true rfl, Nat.le_of_ble_eq_true rfl⟩ rfl (Nat.le_of_ble_eq_true rfl) dX4_papersInConflict_23 (r_N ?_) r_NX
      show PX Z 4 S13 0 0 26 [(0, va_rf r0), (1, .int i1), (2, .int v1), (3, .int v2)] [.int v12]
      refine x_iload_n (i := 1) hC dX4_papersInConflict_26 rfl 1 rfl ?_
      replace h := bd_el h
      obtain ⟨v15, S16, hb17, h⟩ := h
      refine x_callS hC (st := []) (mt_X4_has _ _ _ _ hb17) q_252 q_253 q_1 q_254 hy_X4_has ⟨Nat.le_of_ble_eq_true rfl, Nat.le_of_ble_eq_true rfl⟩ ⟨Nat.le_of_ble_eq_true rfl, Nat.le_of_ble_eq_true rfl⟩ rfl (Nat.le_of_ble_eq_true rfl) dX4_papersInConflict_27 (r_N ?_) r_NX
      show PX Z 4 S16 0 0 30 [(0, va_rf r0), (1, .int i1), (2, .int v1), (3, .int v2)] [.int v15]
      refine x_if_eq (t := 39) hC dX4_papersInConflict_30 (by decide) (fun c18 => ?_) (fun c18 => ?_)
      · replace h := it_t c18 h
        refine x_iinc (i := 3) (v := (v2 + (1 : Int32))) (l' := [(3, .int (v2 + (1 : Int32))), (0, va_rf r0), (1, .int i1), (2, .int v1)]) hC dX4_papersInConflict_39 3 rfl rfl (⟨fun _ => c_rf r0, ⟨fun _ => rfl, ⟨fun _ => rfl, ⟨fun _ => rfl, trivial⟩⟩⟩⟩) (by decide) rfl ?_
        refine x_goto (t := 4) hC dX4_papersInConflict_42 (by decide) ?_
        refine x_sub (l' := [(0, va_rf r0), (1, .int i1), (2, .int v1), (3, .int (v2 + (1 : Int32)))]) [1, 2, 3, 0] rfl ?_
        have hb := bk_x h hg_4
        exact hb
      · replace h := it_f c18 h
        refine x_iload_n (i := 2) hC dX4_papersInConflict_33 rfl 2 rfl ?_
        refine x_iconst (v := (1 : Int32)) hC dX4_papersInConflict_34 (by decide) ?_
        refine x_iload_n (i := 3) hC dX4_papersInConflict_35 rfl 3 rfl ?_
        refine x_ishl hC dX4_papersInConflict_36 ?_
        refine x_ior hC dX4_papersInConflict_37 ?_
        replace h := le_el h
        obtain ⟨x19, hx20, h⟩ := h
        refine x_tI hx20 ?_
        refine x_istore_n (i := 2) (l' := [(2, .int x19), (0, va_rf r0), (1, .int i1), (3, .int v2)]) hC dX4_papersInConflict_38 rfl (⟨fun _ => c_rf r0, ⟨fun _ => rfl, ⟨fun _ => rfl, ⟨fun _ => rfl, trivial⟩⟩⟩⟩) (by decide) rfl ?_
        refine x_iinc (i := 3) (v := (v2 + (1 : Int32))) (l' := [(3, .int (v2 + (1 : Int32))), (2, .int x19), (0, va_rf r0), (1, .int i1)]) hC dX4_papersInConflict_39 3 rfl rfl (⟨fun _ => rfl, ⟨fun _ => c_rf r0, ⟨fun _ => rfl, ⟨fun _ => rfl, trivial⟩⟩⟩⟩) (by decide) rfl ?_
        refine x_goto (t := 4) hC dX4_papersInConflict_42 (by decide) ?_
        refine x_sub (l' := [(0, va_rf r0), (1, .int i1), (2, .int x19), (3, .int (v2 + (1 : Int32)))]) [2, 3, 1, 0] rfl ?_
        have hb := bk_x h hg_4
        exact hb
theorem dX4_personProperty_0 : decode cX4_personProperty 0 = .ok (.iload_n 2, 1) := by decide +kernel
theorem dX4_personProperty_1 : decode cX4_personProperty 1 = .ok (.tableswitch 115 0 7 #[47, 53, 63, 73, 79, 85, 95, 105], 47) := by decide +kernel
theorem dX4_personProperty_48 : decode cX4_personProperty 48 = .ok (.aload_n 0, 1) := by decide +kernel
theorem dX4_personProperty_49 : decode cX4_personProperty 49 = .ok (.iload_n 1, 1) := by decide +kernel
theorem dX4_personProperty_50 : decode cX4_personProperty 50 = .ok (.invokevirtual 316, 3) := by decide +kernel
theorem dX4_personProperty_53 : decode cX4_personProperty 53 = .ok (.ireturn, 1) := by decide +kernel
theorem dX4_personProperty_54 : decode cX4_personProperty 54 = .ok (.aload_n 0, 1) := by decide +kernel
theorem dX4_personProperty_55 : decode cX4_personProperty 55 = .ok (.getfield 10, 3) := by decide +kernel
theorem dX4_personProperty_58 : decode cX4_personProperty 58 = .ok (.getfield 79, 3) := by decide +kernel
theorem dX4_personProperty_61 : decode cX4_personProperty 61 = .ok (.iload_n 1, 1) := by decide +kernel
theorem dX4_personProperty_62 : decode cX4_personProperty 62 = .ok (.iaload, 1) := by decide +kernel
theorem dX4_personProperty_63 : decode cX4_personProperty 63 = .ok (.ireturn, 1) := by decide +kernel
theorem dX4_personProperty_64 : decode cX4_personProperty 64 = .ok (.aload_n 0, 1) := by decide +kernel
theorem dX4_personProperty_65 : decode cX4_personProperty 65 = .ok (.getfield 10, 3) := by decide +kernel
theorem dX4_personProperty_68 : decode cX4_personProperty 68 = .ok (.getfield 84, 3) := by decide +kernel
theorem dX4_personProperty_71 : decode cX4_personProperty 71 = .ok (.iload_n 1, 1) := by decide +kernel
theorem dX4_personProperty_72 : decode cX4_personProperty 72 = .ok (.iaload, 1) := by decide +kernel
theorem dX4_personProperty_73 : decode cX4_personProperty 73 = .ok (.ireturn, 1) := by decide +kernel
theorem dX4_personProperty_74 : decode cX4_personProperty 74 = .ok (.aload_n 0, 1) := by decide +kernel
theorem dX4_personProperty_75 : decode cX4_personProperty 75 = .ok (.iload_n 1, 1) := by decide +kernel
theorem dX4_personProperty_76 : decode cX4_personProperty 76 = .ok (.invokevirtual 384, 3) := by decide +kernel
theorem dX4_personProperty_79 : decode cX4_personProperty 79 = .ok (.ireturn, 1) := by decide +kernel
theorem dX4_personProperty_80 : decode cX4_personProperty 80 = .ok (.aload_n 0, 1) := by decide +kernel
theorem dX4_personProperty_81 : decode cX4_personProperty 81 = .ok (.iload_n 1, 1) := by decide +kernel
theorem dX4_personProperty_82 : decode cX4_personProperty 82 = .ok (.invokevirtual 387, 3) := by decide +kernel
theorem dX4_personProperty_85 : decode cX4_personProperty 85 = .ok (.ireturn, 1) := by decide +kernel
theorem dX4_personProperty_86 : decode cX4_personProperty 86 = .ok (.aload_n 0, 1) := by decide +kernel
theorem dX4_personProperty_87 : decode cX4_personProperty 87 = .ok (.getfield 10, 3) := by decide +kernel
theorem dX4_personProperty_90 : decode cX4_personProperty 90 = .ok (.getfield 310, 3) := by decide +kernel
theorem dX4_personProperty_93 : decode cX4_personProperty 93 = .ok (.iload_n 1, 1) := by decide +kernel
theorem dX4_personProperty_94 : decode cX4_personProperty 94 = .ok (.iaload, 1) := by decide +kernel
theorem dX4_personProperty_95 : decode cX4_personProperty 95 = .ok (.ireturn, 1) := by decide +kernel
theorem dX4_personProperty_96 : decode cX4_personProperty 96 = .ok (.aload_n 0, 1) := by decide +kernel
theorem dX4_personProperty_97 : decode cX4_personProperty 97 = .ok (.getfield 10, 3) := by decide +kernel
theorem dX4_personProperty_100 : decode cX4_personProperty 100 = .ok (.getfield 313, 3) := by decide +kernel
theorem dX4_personProperty_103 : decode cX4_personProperty 103 = .ok (.iload_n 1, 1) := by decide +kernel
theorem dX4_personProperty_104 : decode cX4_personProperty 104 = .ok (.iaload, 1) := by decide +kernel
theorem dX4_personProperty_105 : decode cX4_personProperty 105 = .ok (.ireturn, 1) := by decide +kernel
theorem dX4_personProperty_106 : decode cX4_personProperty 106 = .ok (.aload_n 0, 1) := by decide +kernel
theorem dX4_personProperty_107 : decode cX4_personProperty 107 = .ok (.getfield 10, 3) := by decide +kernel
theorem dX4_personProperty_110 : decode cX4_personProperty 110 = .ok (.getfield 337, 3) := by decide +kernel
theorem dX4_personProperty_113 : decode cX4_personProperty 113 = .ok (.iload_n 1, 1) := by decide +kernel
theorem dX4_personProperty_114 : decode cX4_personProperty 114 = .ok (.iaload, 1) := by decide +kernel
theorem dX4_personProperty_115 : decode cX4_personProperty 115 = .ok (.ireturn, 1) := by decide +kernel
theorem dX4_personProperty_116 : decode cX4_personProperty 116 = .ok (.aload_n 0, 1) := by decide +kernel
theorem dX4_personProperty_117 : decode cX4_personProperty 117 = .ok (.iload_n 1, 1) := by decide +kernel
theorem dX4_personProperty_118 : decode cX4_personProperty 118 = .ok (.invokevirtual 390, 3) := by decide +kernel
theorem dX4_personProperty_121 : decode cX4_personProperty 121 = .ok (.ireturn, 1) := by decide +kernel
set_option maxRecDepth 100000 in
set_option maxHeartbeats 4000000 in
theorem mt_X4_personProperty (r0 : Option Nat) (i1 : Int32) (i2 : Int32) (S0 : PH) (y : Int32 × PH) (h : m_X4_personProperty r0 i1 i2 S0 = some y) : MT yX4_personProperty (.code yX4_personProperty cX4_personProperty 3 (Option.some FieldType.int)) 4 90 0 0 [va_rf r0, .int i1, .int i2] S0 (oQ e_I (qN y)) := by
  refine mt_of (own := RX4) (l0 := [(0, va_rf r0), (1, .int i1), (2, .int i2)]) rfl rfl (by cases r0 <;> exact Nat.le_of_ble_eq_true rfl) (by cases r0 <;> rfl) ?_
  intro Z hC hQ hE hN
  unfold m_X4_personProperty at h
  refine x_iload_n (i := 2) hC dX4_personProperty_0 rfl 2 rfl ?_
  rcases Decidable.em (i2 = (0 : Int32)) with c1 | c1
  · replace h := it_t c1 h
    refine x_tabIn (off := 47) (t := 48) hC dX4_personProperty_1 (by rw [c1]; decide) (by rw [c1]; decide) (by rw [c1]; decide) (by decide) ?_
    refine x_aload_n (i := 0) hC dX4_personProperty_48 rfl 0 rfl ?_
    refine x_iload_n (i := 1) hC dX4_personProperty_49 rfl 1 rfl ?_
    replace h := dr_el h
    obtain ⟨a2, ea3, ha4, h⟩ := h
    replace h := bd_el h
    obtain ⟨v5, S6, hb7, h⟩ := h
    refine x_callV hC (st := []) (mt_X4_tokensOf _ _ _ _ hb7) ea3 ha4 kf_4 q_227 q_229 qs_1 q_1 q_230 ⟨rfl, hy_X4_tokensOf⟩ ⟨Nat.le_of_ble_eq_true rfl, Nat.le_of_ble_eq_true rfl⟩ ⟨Nat.le_of_ble_eq_true rfl, Nat.le_of_ble_eq_true rfl⟩ rfl (Nat.le_of_ble_eq_true rfl) dX4_personProperty_50 (r_N ?_) r_NX
    show PX Z 3 S6 0 0 53 [(0, va_rf r0), (1, .int i1), (2, .int i2)] [.int v5]
    exact x_iret hC hQ (z_N (Option.some.inj h)) (Nat.le_of_ble_eq_true rfl) (Nat.le_of_ble_eq_true rfl) dX4_personProperty_53
  replace h := it_f c1 h
  rcases Decidable.em (i2 = (1 : Int32)) with c8 | c8
  · replace h := it_t c8 h
    refine x_tabIn (off := 53) (t := 54) hC dX4_personProperty_1 (by rw [c8]; decide) (by rw [c8]; decide) (by rw [c8]; decide) (by decide) ?_
    refine x_aload_n (i := 0) hC dX4_personProperty_54 rfl 0 rfl ?_
    replace h := dr_el h
    obtain ⟨a9, ea10, ha11, h⟩ := h
    refine x_getR hC ea10 ha11 kf_4 0 (by decide) rfl q_175 dX4_personProperty_55 ?_
    replace h := dr_el h
    obtain ⟨a12, ea13, ha14, h⟩ := h
    refine x_getR hC ea13 ha14 kf_2 0 (by decide) rfl q_38 dX4_personProperty_58 ?_
    refine x_iload_n (i := 1) hC dX4_personProperty_61 rfl 1 rfl ?_
    replace h := dr_el h
    obtain ⟨a15, ea16, ha17, h⟩ := h
    replace h := ck_el h
    obtain ⟨hc18, h⟩ := h
    refine x_iaload hC ea16 ha17 hc18 dX4_personProperty_62 ?_
    exact x_iret hC hQ (z_N (Option.some.inj h)) (Nat.le_of_ble_eq_true rfl) (Nat.le_of_ble_eq_true rfl) dX4_personProperty_63
  replace h := it_f c8 h
  rcases Decidable.em (i2 = (2 : Int32)) with c19 | c19
  · replace h := it_t c19 h
    refine x_tabIn (off := 63) (t := 64) hC dX4_personProperty_1 (by rw [c19]; decide) (by rw [c19]; decide) (by rw [c19]; decide) (by decide) ?_
    refine x_aload_n (i := 0) hC dX4_personProperty_64 rfl 0 rfl ?_
    replace h := dr_el h
    obtain ⟨a20, ea21, ha22, h⟩ := h
    refine x_getR hC ea21 ha22 kf_4 0 (by decide) rfl q_175 dX4_personProperty_65 ?_
    replace h := dr_el h
    obtain ⟨a23, ea24, ha25, h⟩ := h
    refine x_getR hC ea24 ha25 kf_2 1 (by decide) rfl q_40 dX4_personProperty_68 ?_
    refine x_iload_n (i := 1) hC dX4_personProperty_71 rfl 1 rfl ?_
    replace h := dr_el h
    obtain ⟨a26, ea27, ha28, h⟩ := h
    replace h := ck_el h
    obtain ⟨hc29, h⟩ := h
    refine x_iaload hC ea27 ha28 hc29 dX4_personProperty_72 ?_
    exact x_iret hC hQ (z_N (Option.some.inj h)) (Nat.le_of_ble_eq_true rfl) (Nat.le_of_ble_eq_true rfl) dX4_personProperty_73
  replace h := it_f c19 h
  rcases Decidable.em (i2 = (3 : Int32)) with c30 | c30
  · replace h := it_t c30 h
    refine x_tabIn (off := 73) (t := 74) hC dX4_personProperty_1 (by rw [c30]; decide) (by rw [c30]; decide) (by rw [c30]; decide) (by decide) ?_
    refine x_aload_n (i := 0) hC dX4_personProperty_74 rfl 0 rfl ?_
    refine x_iload_n (i := 1) hC dX4_personProperty_75 rfl 1 rfl ?_
    replace h := dr_el h
    obtain ⟨a31, ea32, ha33, h⟩ := h
    replace h := bd_el h
    obtain ⟨v34, S35, hb36, h⟩ := h
    refine x_callV hC (st := []) (mt_X4_loadOf _ _ _ _ hb36) ea32 ha33 kf_4 q_332 q_334 qs_16 q_1 q_335 ⟨rfl, hy_X4_loadOf⟩ ⟨Nat.le_of_ble_eq_true rfl, Nat.le_of_ble_eq_true rfl⟩ ⟨Nat.le_of_ble_eq_true rfl, Nat.le_of_ble_eq_true rfl⟩ rfl (Nat.le_of_ble_eq_true rfl) dX4_personProperty_76 (r_N ?_) r_NX
    show PX Z 3 S35 0 0 79 [(0, va_rf r0), (1, .int i1), (2, .int i2)] [.int v34]
    exact x_iret hC hQ (z_N (Option.some.inj h)) (Nat.le_of_ble_eq_true rfl) (Nat.le_of_ble_eq_true rfl) dX4_personProperty_79
  replace h := it_f c30 h
  rcases Decidable.em (i2 = (4 : Int32)) with c37 | c37
  · replace h := it_t c37 h
    refine x_tabIn (off := 79) (t := 80) hC dX4_personProperty_1 (by rw [c37]; decide) (by rw [c37]; decide) (by rw [c37]; decide) (by decide) ?_
    refine x_aload_n (i := 0) hC dX4_personProperty_80 rfl 0 rfl ?_
    refine x_iload_n (i := 1) hC dX4_personProperty_81 rfl 1 rfl ?_
    replace h := dr_el h
    obtain ⟨a38, ea39, ha40, h⟩ := h
    replace h := bd_el h
    obtain ⟨v41, S42, hb43, h⟩ := h
    refine x_callV hC (st := []) (mt_X4_writtenBy _ _ _ _ hb43) ea39 ha40 kf_4 q_336 q_338 qs_17 q_1 q_339 ⟨rfl, hy_X4_writtenBy⟩ ⟨Nat.le_of_ble_eq_true rfl, Nat.le_of_ble_eq_true rfl⟩ ⟨Nat.le_of_ble_eq_true rfl, Nat.le_of_ble_eq_true rfl⟩ rfl (Nat.le_of_ble_eq_true rfl) dX4_personProperty_82 (r_N ?_) r_NX
    show PX Z 3 S42 0 0 85 [(0, va_rf r0), (1, .int i1), (2, .int i2)] [.int v41]
    exact x_iret hC hQ (z_N (Option.some.inj h)) (Nat.le_of_ble_eq_true rfl) (Nat.le_of_ble_eq_true rfl) dX4_personProperty_85
  replace h := it_f c37 h
  rcases Decidable.em (i2 = (5 : Int32)) with c44 | c44
  · replace h := it_t c44 h
    refine x_tabIn (off := 85) (t := 86) hC dX4_personProperty_1 (by rw [c44]; decide) (by rw [c44]; decide) (by rw [c44]; decide) (by decide) ?_
    refine x_aload_n (i := 0) hC dX4_personProperty_86 rfl 0 rfl ?_
    replace h := dr_el h
    obtain ⟨a45, ea46, ha47, h⟩ := h
    refine x_getR hC ea46 ha47 kf_4 0 (by decide) rfl q_175 dX4_personProperty_87 ?_
    replace h := dr_el h
    obtain ⟨a48, ea49, ha50, h⟩ := h
    refine x_getR hC ea49 ha50 kf_2 2 (by decide) rfl q_42 dX4_personProperty_90 ?_
    refine x_iload_n (i := 1) hC dX4_personProperty_93 rfl 1 rfl ?_
    replace h := dr_el h
    obtain ⟨a51, ea52, ha53, h⟩ := h
    replace h := ck_el h
    obtain ⟨hc54, h⟩ := h
    refine x_iaload hC ea52 ha53 hc54 dX4_personProperty_94 ?_
    exact x_iret hC hQ (z_N (Option.some.inj h)) (Nat.le_of_ble_eq_true rfl) (Nat.le_of_ble_eq_true rfl) dX4_personProperty_95
  replace h := it_f c44 h
  rcases Decidable.em (i2 = (6 : Int32)) with c55 | c55
  · replace h := it_t c55 h
    refine x_tabIn (off := 95) (t := 96) hC dX4_personProperty_1 (by rw [c55]; decide) (by rw [c55]; decide) (by rw [c55]; decide) (by decide) ?_
    refine x_aload_n (i := 0) hC dX4_personProperty_96 rfl 0 rfl ?_
    replace h := dr_el h
    obtain ⟨a56, ea57, ha58, h⟩ := h
    refine x_getR hC ea57 ha58 kf_4 0 (by decide) rfl q_175 dX4_personProperty_97 ?_
    replace h := dr_el h
    obtain ⟨a59, ea60, ha61, h⟩ := h
    refine x_getR hC ea60 ha61 kf_2 3 (by decide) rfl q_44 dX4_personProperty_100 ?_
    refine x_iload_n (i := 1) hC dX4_personProperty_103 rfl 1 rfl ?_
    replace h := dr_el h
    obtain ⟨a62, ea63, ha64, h⟩ := h
    replace h := ck_el h
    obtain ⟨hc65, h⟩ := h
    refine x_iaload hC ea63 ha64 hc65 dX4_personProperty_104 ?_
    exact x_iret hC hQ (z_N (Option.some.inj h)) (Nat.le_of_ble_eq_true rfl) (Nat.le_of_ble_eq_true rfl) dX4_personProperty_105
  replace h := it_f c55 h
  rcases Decidable.em (i2 = (7 : Int32)) with c66 | c66
  · replace h := it_t c66 h
    refine x_tabIn (off := 105) (t := 106) hC dX4_personProperty_1 (by rw [c66]; decide) (by rw [c66]; decide) (by rw [c66]; decide) (by decide) ?_
    refine x_aload_n (i := 0) hC dX4_personProperty_106 rfl 0 rfl ?_
    replace h := dr_el h
    obtain ⟨a67, ea68, ha69, h⟩ := h
    refine x_getR hC ea68 ha69 kf_4 0 (by decide) rfl q_175 dX4_personProperty_107 ?_
    replace h := dr_el h
    obtain ⟨a70, ea71, ha72, h⟩ := h
    refine x_getR hC ea71 ha72 kf_2 4 (by decide) rfl q_46 dX4_personProperty_110 ?_
    refine x_iload_n (i := 1) hC dX4_personProperty_113 rfl 1 rfl ?_
    replace h := dr_el h
    obtain ⟨a73, ea74, ha75, h⟩ := h
    replace h := ck_el h
    obtain ⟨hc76, h⟩ := h
    refine x_iaload hC ea74 ha75 hc76 dX4_personProperty_114 ?_
    exact x_iret hC hQ (z_N (Option.some.inj h)) (Nat.le_of_ble_eq_true rfl) (Nat.le_of_ble_eq_true rfl) dX4_personProperty_115
  replace h := it_f c66 h
  refine x_tabOut (t := 116) hC dX4_personProperty_1 (tab_o 0 [(0 : Int32), (1 : Int32), (2 : Int32), (3 : Int32), (4 : Int32), (5 : Int32), (6 : Int32), (7 : Int32)] (by decide) (by decide) (List.forall_mem_cons.mpr ⟨c1, List.forall_mem_cons.mpr ⟨c8, List.forall_mem_cons.mpr ⟨c19, List.forall_mem_cons.mpr ⟨c30, List.forall_mem_cons.mpr ⟨c37, List.forall_mem_cons.mpr ⟨c44, List.forall_mem_cons.mpr ⟨c55, List.forall_mem_cons.mpr ⟨c66, fun _ q => nomatch q⟩⟩⟩⟩⟩⟩⟩⟩)) (by decide) ?_
  refine x_aload_n (i := 0) hC dX4_personProperty_116 rfl 0 rfl ?_
  refine x_iload_n (i := 1) hC dX4_personProperty_117 rfl 1 rfl ?_
  replace h := dr_el h
  obtain ⟨a77, ea78, ha79, h⟩ := h
  replace h := bd_el h
  obtain ⟨v80, S81, hb82, h⟩ := h
  refine x_callV hC (st := []) (mt_X4_papersInConflict _ _ _ _ hb82) ea78 ha79 kf_4 q_340 q_342 qs_18 q_1 q_343 ⟨rfl, hy_X4_papersInConflict⟩ ⟨Nat.le_of_ble_eq_true rfl, Nat.le_of_ble_eq_true rfl⟩ ⟨Nat.le_of_ble_eq_true rfl, Nat.le_of_ble_eq_true rfl⟩ rfl (Nat.le_of_ble_eq_true rfl) dX4_personProperty_118 (r_N ?_) r_NX
  show PX Z 3 S81 0 0 121 [(0, va_rf r0), (1, .int i1), (2, .int i2)] [.int v80]
  exact x_iret hC hQ (z_N (Option.some.inj h)) (Nat.le_of_ble_eq_true rfl) (Nat.le_of_ble_eq_true rfl) dX4_personProperty_121
theorem dX4_personOf_0 : decode cX4_personOf 0 = .ok (.iload_n 1, 1) := by decide +kernel
theorem dX4_personOf_1 : decode cX4_personOf 1 = .ok (.invokestatic 73, 3) := by decide +kernel
theorem dX4_personOf_4 : decode cX4_personOf 4 = .ok (.iload_n 2, 1) := by decide +kernel
theorem dX4_personOf_5 : decode cX4_personOf 5 = .ok (.ifCond .lt 9, 3) := by decide +kernel
theorem dX4_personOf_8 : decode cX4_personOf 8 = .ok (.iload_n 2, 1) := by decide +kernel
theorem dX4_personOf_9 : decode cX4_personOf 9 = .ok (.bipush 9, 2) := by decide +kernel
theorem dX4_personOf_11 : decode cX4_personOf 11 = .ok (.if_icmp .lt 13, 3) := by decide +kernel
theorem dX4_personOf_14 : decode cX4_personOf 14 = .ok (.new 45, 3) := by decide +kernel
theorem dX4_personOf_17 : decode cX4_personOf 17 = .ok (.dup, 1) := by decide +kernel
theorem dX4_personOf_18 : decode cX4_personOf 18 = .ok (.ldc 227, 2) := by decide +kernel
theorem dX4_personOf_20 : decode cX4_personOf 20 = .ok (.invokespecial 49, 3) := by decide +kernel
theorem dX4_personOf_23 : decode cX4_personOf 23 = .ok (.athrow, 1) := by decide +kernel
theorem dX4_personOf_24 : decode cX4_personOf 24 = .ok (.aload_n 0, 1) := by decide +kernel
theorem dX4_personOf_25 : decode cX4_personOf 25 = .ok (.iload_n 1, 1) := by decide +kernel
theorem dX4_personOf_26 : decode cX4_personOf 26 = .ok (.iload_n 2, 1) := by decide +kernel
theorem dX4_personOf_27 : decode cX4_personOf 27 = .ok (.invokevirtual 229, 3) := by decide +kernel
theorem dX4_personOf_30 : decode cX4_personOf 30 = .ok (.ireturn, 1) := by decide +kernel
set_option maxRecDepth 100000 in
set_option maxHeartbeats 4000000 in
theorem mt_X4_personOf (r0 : Option Nat) (i1 : Int32) (i2 : Int32) (S0 : PH) (y : (Nat ⊕ Int32) × PH) (h : m_X4_personOf r0 i1 i2 S0 = some y) : MT yX4_personOf (.code yX4_personOf cX4_personOf 3 (Option.some FieldType.int)) 7 112 2 12 [va_rf r0, .int i1, .int i2] S0 (oQ e_I (qT y)) := by
  refine mt_of (own := RX4) (l0 := [(0, va_rf r0), (1, .int i1), (2, .int i2)]) rfl rfl (by cases r0 <;> exact Nat.le_of_ble_eq_true rfl) (by cases r0 <;> rfl) ?_
  intro Z hC hQ hE hN
  have J_14 : ∀ (S6 : PH), j_X4_personOf_14 r0 i1 i2 S6 = some y → PX Z 3 S6 1 6 14 [(0, va_rf r0), (1, .int i1), (2, .int i2)] [] := by
    intro S6 h
    unfold j_X4_personOf_14 at h
    exact x_throw hC hQ hE (j := 0) (z_X (Option.some.inj h)) tx_45_49_0 (List.mem_of_getElem? (i := 22) rfl) (Nat.le_of_ble_eq_true rfl) ⟨Nat.le_of_ble_eq_true rfl, Nat.le_of_ble_eq_true rfl⟩ ⟨Nat.le_of_ble_eq_true rfl, Nat.le_of_ble_eq_true rfl⟩ (Nat.le_of_ble_eq_true rfl) (Nat.le_of_ble_eq_true rfl) dX4_personOf_14 dX4_personOf_17 dX4_personOf_18 dX4_personOf_20 dX4_personOf_23
  unfold m_X4_personOf at h
  refine x_iload_n (i := 1) hC dX4_personOf_0 rfl 1 rfl ?_
  replace h := bt_el h
  obtain ⟨v1, S2, hb14, h⟩ | ⟨j3, S4, hb14, h⟩ := h
  · refine x_callS hC (st := []) (mt_X4_requirePerson _ _ _ hb14) q_533 q_534 q_1 q_535 hy_X4_requirePerson ⟨Nat.le_of_ble_eq_true rfl, Nat.le_of_ble_eq_true rfl⟩ ⟨Nat.le_of_ble_eq_true rfl, Nat.le_of_ble_eq_true rfl⟩ rfl (Nat.le_of_ble_eq_true rfl) dX4_personOf_1 (r_T ?_) r_TX
    show PX Z 3 S2 1 6 4 [(0, va_rf r0), (1, .int i1), (2, .int i2)] []
    refine x_iload_n (i := 2) hC dX4_personOf_4 rfl 2 rfl ?_
    refine x_if_lt (t := 14) hC dX4_personOf_5 (by decide) (fun c5 => ?_) (fun c5 => ?_)
    · replace h := it_t c5 h
      exact J_14 _ h
    · replace h := it_f c5 h
      refine x_iload_n (i := 2) hC dX4_personOf_8 rfl 2 rfl ?_
      refine x_bipush (v := (9 : Int32)) hC dX4_personOf_9 (by decide) ?_
      refine x_icmp_lt (t := 24) hC dX4_personOf_11 (by decide) (fun c7 => ?_) (fun c7 => ?_)
      · replace h := it_t c7 h
        refine x_aload_n (i := 0) hC dX4_personOf_24 rfl 0 rfl ?_
        refine x_iload_n (i := 1) hC dX4_personOf_25 rfl 1 rfl ?_
        refine x_iload_n (i := 2) hC dX4_personOf_26 rfl 2 rfl ?_
        replace h := dr_el h
        obtain ⟨a8, ea9, ha10, h⟩ := h
        replace h := bd_el h
        obtain ⟨v11, S12, hb13, h⟩ := h
        refine x_callV hC (st := []) (mt_X4_personProperty _ _ _ _ _ hb13) ea9 ha10 kf_4 q_328 q_330 qs_15 q_1 q_331 ⟨rfl, hy_X4_personProperty⟩ ⟨Nat.le_of_ble_eq_true rfl, Nat.le_of_ble_eq_true rfl⟩ ⟨Nat.le_of_ble_eq_true rfl, Nat.le_of_ble_eq_true rfl⟩ rfl (Nat.le_of_ble_eq_true rfl) dX4_personOf_27 (r_N ?_) r_NX
        show PX Z 3 S12 1 6 30 [(0, va_rf r0), (1, .int i1), (2, .int i2)] [.int v11]
        exact x_iret hC hQ (z_T (Option.some.inj h)) (Nat.le_of_ble_eq_true rfl) (Nat.le_of_ble_eq_true rfl) dX4_personOf_30
      · replace h := it_f c7 h
        exact J_14 _ h
  · refine x_callS hC (st := []) (mt_X4_requirePerson _ _ _ hb14) q_533 q_534 q_1 q_535 hy_X4_requirePerson ⟨Nat.le_of_ble_eq_true rfl, Nat.le_of_ble_eq_true rfl⟩ ⟨Nat.le_of_ble_eq_true rfl, Nat.le_of_ble_eq_true rfl⟩ rfl (Nat.le_of_ble_eq_true rfl) dX4_personOf_1 r_X (r_XX ?_)
    exact x_out hC hQ hE (z_X (Option.some.inj h)) (Nat.le_of_ble_eq_true rfl) (Nat.le_of_ble_eq_true rfl)
theorem dX4_spreadIn_0 : decode cX4_spreadIn 0 = .ok (.bipush 9, 2) := by decide +kernel
theorem dX4_spreadIn_2 : decode cX4_spreadIn 2 = .ok (.istore_n 1, 1) := by decide +kernel
theorem dX4_spreadIn_3 : decode cX4_spreadIn 3 = .ok (.iconst 0, 1) := by decide +kernel
theorem dX4_spreadIn_4 : decode cX4_spreadIn 4 = .ok (.istore_n 2, 1) := by decide +kernel
theorem dX4_spreadIn_5 : decode cX4_spreadIn 5 = .ok (.iconst 0, 1) := by decide +kernel
theorem dX4_spreadIn_6 : decode cX4_spreadIn 6 = .ok (.istore_n 3, 1) := by decide +kernel
theorem dX4_spreadIn_7 : decode cX4_spreadIn 7 = .ok (.iload_n 3, 1) := by decide +kernel
theorem dX4_spreadIn_8 : decode cX4_spreadIn 8 = .ok (.aload_n 0, 1) := by decide +kernel
theorem dX4_spreadIn_9 : decode cX4_spreadIn 9 = .ok (.arraylength, 1) := by decide +kernel
theorem dX4_spreadIn_10 : decode cX4_spreadIn 10 = .ok (.if_icmp .ge 34, 3) := by decide +kernel
theorem dX4_spreadIn_13 : decode cX4_spreadIn 13 = .ok (.aload_n 0, 1) := by decide +kernel
theorem dX4_spreadIn_14 : decode cX4_spreadIn 14 = .ok (.iload_n 3, 1) := by decide +kernel
theorem dX4_spreadIn_15 : decode cX4_spreadIn 15 = .ok (.iaload, 1) := by decide +kernel
theorem dX4_spreadIn_16 : decode cX4_spreadIn 16 = .ok (.invokestatic 132, 3) := by decide +kernel
theorem dX4_spreadIn_19 : decode cX4_spreadIn 19 = .ok (.ifCond .eq 19, 3) := by decide +kernel
theorem dX4_spreadIn_22 : decode cX4_spreadIn 22 = .ok (.iload_n 1, 1) := by decide +kernel
theorem dX4_spreadIn_23 : decode cX4_spreadIn 23 = .ok (.aload_n 0, 1) := by decide +kernel
theorem dX4_spreadIn_24 : decode cX4_spreadIn 24 = .ok (.iload_n 3, 1) := by decide +kernel
theorem dX4_spreadIn_25 : decode cX4_spreadIn 25 = .ok (.iaload, 1) := by decide +kernel
theorem dX4_spreadIn_26 : decode cX4_spreadIn 26 = .ok (.invokestatic 374, 3) := by decide +kernel
theorem dX4_spreadIn_29 : decode cX4_spreadIn 29 = .ok (.istore_n 1, 1) := by decide +kernel
theorem dX4_spreadIn_30 : decode cX4_spreadIn 30 = .ok (.iload_n 2, 1) := by decide +kernel
theorem dX4_spreadIn_31 : decode cX4_spreadIn 31 = .ok (.aload_n 0, 1) := by decide +kernel
theorem dX4_spreadIn_32 : decode cX4_spreadIn 32 = .ok (.iload_n 3, 1) := by decide +kernel
theorem dX4_spreadIn_33 : decode cX4_spreadIn 33 = .ok (.iaload, 1) := by decide +kernel
theorem dX4_spreadIn_34 : decode cX4_spreadIn 34 = .ok (.invokestatic 379, 3) := by decide +kernel
theorem dX4_spreadIn_37 : decode cX4_spreadIn 37 = .ok (.istore_n 2, 1) := by decide +kernel
theorem dX4_spreadIn_38 : decode cX4_spreadIn 38 = .ok (.iinc 3 1, 3) := by decide +kernel
theorem dX4_spreadIn_41 : decode cX4_spreadIn 41 = .ok (.goto (-34), 3) := by decide +kernel
theorem dX4_spreadIn_44 : decode cX4_spreadIn 44 = .ok (.iconst 0, 1) := by decide +kernel
theorem dX4_spreadIn_45 : decode cX4_spreadIn 45 = .ok (.iload_n 2, 1) := by decide +kernel
theorem dX4_spreadIn_46 : decode cX4_spreadIn 46 = .ok (.iload_n 1, 1) := by decide +kernel
theorem dX4_spreadIn_47 : decode cX4_spreadIn 47 = .ok (.isub, 1) := by decide +kernel
theorem dX4_spreadIn_48 : decode cX4_spreadIn 48 = .ok (.invokestatic 379, 3) := by decide +kernel
theorem dX4_spreadIn_51 : decode cX4_spreadIn 51 = .ok (.ireturn, 1) := by decide +kernel
set_option maxRecDepth 100000 in
set_option maxHeartbeats 4000000 in
theorem mt_X4_spreadIn (r0 : Option Nat) (S0 : PH) (y : Int32 × PH) (h : m_X4_spreadIn r0 S0 = some y) : MT yX4_spreadIn (.code yX4_spreadIn cX4_spreadIn 4 (Option.some FieldType.int)) 1 21 0 0 [va_rf r0] S0 (oQ e_I (qN y)) := by
  refine mt_of (own := RX4) (l0 := [(0, va_rf r0)]) rfl rfl (by cases r0 <;> exact Nat.le_of_ble_eq_true rfl) (by cases r0 <;> rfl) ?_
  intro Z hC hQ hE hN
  unfold m_X4_spreadIn at h
  refine x_bipush (v := (9 : Int32)) hC dX4_spreadIn_0 (by decide) ?_
  refine x_istore_n (i := 1) (l' := [(1, .int (9 : Int32)), (0, va_rf r0)]) hC dX4_spreadIn_2 rfl (⟨fun _ => c_rf r0, trivial⟩) (by decide) rfl ?_
  refine x_iconst (v := (0 : Int32)) hC dX4_spreadIn_3 (by decide) ?_
  refine x_istore_n (i := 2) (l' := [(2, .int (0 : Int32)), (1, .int (9 : Int32)), (0, va_rf r0)]) hC dX4_spreadIn_4 rfl (⟨fun _ => rfl, ⟨fun _ => c_rf r0, trivial⟩⟩) (by decide) rfl ?_
  refine x_iconst (v := (0 : Int32)) hC dX4_spreadIn_5 (by decide) ?_
  refine x_istore_n (i := 3) (l' := [(3, .int (0 : Int32)), (2, .int (0 : Int32)), (1, .int (9 : Int32)), (0, va_rf r0)]) hC dX4_spreadIn_6 rfl (⟨fun _ => rfl, ⟨fun _ => rfl, ⟨fun _ => c_rf r0, trivial⟩⟩⟩) (by decide) rfl ?_
  refine x_sub (l' := [(0, va_rf r0), (1, .int (9 : Int32)), (2, .int (0 : Int32)), (3, .int (0 : Int32))]) [3, 2, 1, 0] rfl ?_
  refine lp_sim (P := fun (t : (Int32 × Int32 × Int32 × PH)) => PX Z 4 t.2.2.2 0 0 7 [(0, va_rf r0), (1, .int t.1), (2, .int t.2.1), (3, .int t.2.2.1)] []) (G := fun r => r = y) ?_ h rfl
  clear h
  intro t x_7 h hg_7
  obtain ⟨v1, v2, v3, S4⟩ := t
  show PX Z 4 S4 0 0 7 [(0, va_rf r0), (1, .int v1), (2, .int v2), (3, .int v3)] []
  unfold st_X4_spreadIn_7 at h
  refine x_iload_n (i := 3) hC dX4_spreadIn_7 rfl 3 rfl ?_
  refine x_aload_n (i := 0) hC dX4_spreadIn_8 rfl 0 rfl ?_
  replace h := dr_el h
  obtain ⟨a5, ea6, ha7, h⟩ := h
  refine x_alen6 hC ea6 ha7 dX4_spreadIn_9 ?_
  refine x_icmp_ge (t := 44) hC dX4_spreadIn_10 (by decide) (fun c8 => ?_) (fun c8 => ?_)
  · replace h := it_t c8 h
    replace h := ir_x h hg_7
    refine x_iconst (v := (0 : Int32)) hC dX4_spreadIn_44 (by decide) ?_
    refine x_iload_n (i := 2) hC dX4_spreadIn_45 rfl 2 rfl ?_
    refine x_iload_n (i := 1) hC dX4_spreadIn_46 rfl 1 rfl ?_
    refine x_isub hC dX4_spreadIn_47 ?_
    refine x_mm (lo := false) hC q_361 q_maxs q_mai q_maxc (Nat.le_of_ble_eq_true rfl) ⟨Nat.le_of_ble_eq_true rfl, Nat.le_of_ble_eq_true rfl⟩ ⟨Nat.le_of_ble_eq_true rfl, Nat.le_of_ble_eq_true rfl⟩ dX4_spreadIn_48 ?_
    refine x_tI (b := (mmax (0 : Int32) (v2 - v1))) rfl ?_
    exact x_iret hC hQ (z_N (Option.some.inj h)) (Nat.le_of_ble_eq_true rfl) (Nat.le_of_ble_eq_true rfl) dX4_spreadIn_51
  · replace h := it_f c8 h
    refine x_aload_n (i := 0) hC dX4_spreadIn_13 rfl 0 rfl ?_
    refine x_iload_n (i := 3) hC dX4_spreadIn_14 rfl 3 rfl ?_
    replace h := ck_el h
    obtain ⟨hc9, h⟩ := h
    refine x_iaload hC ea6 ha7 hc9 dX4_spreadIn_15 ?_
    replace h := bd_el h
    obtain ⟨v10, S11, hb12, h⟩ := h
    refine x_callS hC (st := []) (mt_X4_isScore _ _ _ hb12) q_317 q_318 q_1 q_319 hy_X4_isScore ⟨Nat.le_of_ble_eq_true rfl, Nat.le_of_ble_eq_true rfl⟩ ⟨Nat.le_of_ble_eq_true rfl, Nat.le_of_ble_eq_true rfl⟩ rfl (Nat.le_of_ble_eq_true rfl) dX4_spreadIn_16 (r_N ?_) r_NX
    show PX Z 4 S11 0 0 19 [(0, va_rf r0), (1, .int v1), (2, .int v2), (3, .int v3)] [.int v10]
    refine x_if_eq (t := 38) hC dX4_spreadIn_19 (by decide) (fun c13 => ?_) (fun c13 => ?_)
    · replace h := it_t c13 h
      refine x_iinc (i := 3) (v := (v3 + (1 : Int32))) (l' := [(3, .int (v3 + (1 : Int32))), (0, va_rf r0), (1, .int v1), (2, .int v2)]) hC dX4_spreadIn_38 3 rfl rfl (⟨fun _ => c_rf r0, ⟨fun _ => rfl, ⟨fun _ => rfl, ⟨fun _ => rfl, trivial⟩⟩⟩⟩) (by decide) rfl ?_
      refine x_goto (t := 7) hC dX4_spreadIn_41 (by decide) ?_
      refine x_sub (l' := [(0, va_rf r0), (1, .int v1), (2, .int v2), (3, .int (v3 + (1 : Int32)))]) [1, 2, 3, 0] rfl ?_
      have hb := bk_x h hg_7
      exact hb
    · replace h := it_f c13 h
      refine x_iload_n (i := 1) hC dX4_spreadIn_22 rfl 1 rfl ?_
      refine x_aload_n (i := 0) hC dX4_spreadIn_23 rfl 0 rfl ?_
      refine x_iload_n (i := 3) hC dX4_spreadIn_24 rfl 3 rfl ?_
      replace h := dr_el h
      obtain ⟨a14, ea15, ha16, h⟩ := h
      replace h := ck_el h
      obtain ⟨hc17, h⟩ := h
      refine x_iaload hC ea15 ha16 hc17 dX4_spreadIn_25 ?_
      refine x_mm (lo := true) hC q_358 q_mins q_mai q_minc (Nat.le_of_ble_eq_true rfl) ⟨Nat.le_of_ble_eq_true rfl, Nat.le_of_ble_eq_true rfl⟩ ⟨Nat.le_of_ble_eq_true rfl, Nat.le_of_ble_eq_true rfl⟩ dX4_spreadIn_26 ?_
      refine x_tI (b := (mmin v1 (p_I S11 a14 (Int32.toNatClampNeg v3)))) rfl ?_
      replace h := le_el h
      obtain ⟨x18, hx19, h⟩ := h
      refine x_tI hx19 ?_
      refine x_istore_n (i := 1) (l' := [(1, .int x18), (0, va_rf r0), (2, .int v2), (3, .int v3)]) hC dX4_spreadIn_29 rfl (⟨fun _ => c_rf r0, ⟨fun _ => rfl, ⟨fun _ => rfl, ⟨fun _ => rfl, trivial⟩⟩⟩⟩) (by decide) rfl ?_
      refine x_iload_n (i := 2) hC dX4_spreadIn_30 rfl 2 rfl ?_
      refine x_aload_n (i := 0) hC dX4_spreadIn_31 rfl 1 rfl ?_
      refine x_iload_n (i := 3) hC dX4_spreadIn_32 rfl 3 rfl ?_
      replace h := ck_el h
      obtain ⟨hc20, h⟩ := h
      refine x_iaload hC ea15 ha16 hc20 dX4_spreadIn_33 ?_
      refine x_mm (lo := false) hC q_361 q_maxs q_mai q_maxc (Nat.le_of_ble_eq_true rfl) ⟨Nat.le_of_ble_eq_true rfl, Nat.le_of_ble_eq_true rfl⟩ ⟨Nat.le_of_ble_eq_true rfl, Nat.le_of_ble_eq_true rfl⟩ dX4_spreadIn_34 ?_
      refine x_tI (b := (mmax v2 (p_I S11 a14 (Int32.toNatClampNeg v3)))) rfl ?_
      replace h := le_el h
      obtain ⟨x21, hx22, h⟩ := h
      refine x_tI hx22 ?_
      refine x_istore_n (i := 2) (l' := [(2, .int x21), (1, .int x18), (0, va_rf r0), (3, .int v3)]) hC dX4_spreadIn_37 rfl (⟨fun _ => rfl, ⟨fun _ => c_rf r0, ⟨fun _ => rfl, ⟨fun _ => rfl, trivial⟩⟩⟩⟩) (by decide) rfl ?_
      refine x_iinc (i := 3) (v := (v3 + (1 : Int32))) (l' := [(3, .int (v3 + (1 : Int32))), (2, .int x21), (1, .int x18), (0, va_rf r0)]) hC dX4_spreadIn_38 3 rfl rfl (⟨fun _ => rfl, ⟨fun _ => rfl, ⟨fun _ => c_rf r0, ⟨fun _ => rfl, trivial⟩⟩⟩⟩) (by decide) rfl ?_
      refine x_goto (t := 7) hC dX4_spreadIn_41 (by decide) ?_
      refine x_sub (l' := [(0, va_rf r0), (1, .int x18), (2, .int x21), (3, .int (v3 + (1 : Int32)))]) [3, 2, 1, 0] rfl ?_
      have hb := bk_x h hg_7
      exact hb
theorem dX4_paperProperty_0 : decode cX4_paperProperty 0 = .ok (.aload_n 0, 1) := by decide +kernel
theorem dX4_paperProperty_1 : decode cX4_paperProperty 1 = .ok (.getfield 10, 3) := by decide +kernel
theorem dX4_paperProperty_4 : decode cX4_paperProperty 4 = .ok (.getfield 167, 3) := by decide +kernel
theorem dX4_paperProperty_7 : decode cX4_paperProperty 7 = .ok (.iload_n 1, 1) := by decide +kernel
theorem dX4_paperProperty_8 : decode cX4_paperProperty 8 = .ok (.aaload, 1) := by decide +kernel
theorem dX4_paperProperty_9 : decode cX4_paperProperty 9 = .ok (.astore_n 3, 1) := by decide +kernel
theorem dX4_paperProperty_10 : decode cX4_paperProperty 10 = .ok (.iload_n 2, 1) := by decide +kernel
theorem dX4_paperProperty_11 : decode cX4_paperProperty 11 = .ok (.tableswitch 119 0 8 #[49, 59, 69, 74, 79, 84, 89, 99, 109], 49) := by decide +kernel
theorem dX4_paperProperty_60 : decode cX4_paperProperty 60 = .ok (.aload_n 0, 1) := by decide +kernel
theorem dX4_paperProperty_61 : decode cX4_paperProperty 61 = .ok (.getfield 10, 3) := by decide +kernel
theorem dX4_paperProperty_64 : decode cX4_paperProperty 64 = .ok (.getfield 67, 3) := by decide +kernel
theorem dX4_paperProperty_67 : decode cX4_paperProperty 67 = .ok (.iload_n 1, 1) := by decide +kernel
theorem dX4_paperProperty_68 : decode cX4_paperProperty 68 = .ok (.iaload, 1) := by decide +kernel
theorem dX4_paperProperty_69 : decode cX4_paperProperty 69 = .ok (.ireturn, 1) := by decide +kernel
theorem dX4_paperProperty_70 : decode cX4_paperProperty 70 = .ok (.aload_n 0, 1) := by decide +kernel
theorem dX4_paperProperty_71 : decode cX4_paperProperty 71 = .ok (.getfield 10, 3) := by decide +kernel
theorem dX4_paperProperty_74 : decode cX4_paperProperty 74 = .ok (.getfield 70, 3) := by decide +kernel
theorem dX4_paperProperty_77 : decode cX4_paperProperty 77 = .ok (.iload_n 1, 1) := by decide +kernel
theorem dX4_paperProperty_78 : decode cX4_paperProperty 78 = .ok (.iaload, 1) := by decide +kernel
theorem dX4_paperProperty_79 : decode cX4_paperProperty 79 = .ok (.ireturn, 1) := by decide +kernel
theorem dX4_paperProperty_80 : decode cX4_paperProperty 80 = .ok (.aload_n 3, 1) := by decide +kernel
theorem dX4_paperProperty_81 : decode cX4_paperProperty 81 = .ok (.invokestatic 334, 3) := by decide +kernel
theorem dX4_paperProperty_84 : decode cX4_paperProperty 84 = .ok (.ireturn, 1) := by decide +kernel
theorem dX4_paperProperty_85 : decode cX4_paperProperty 85 = .ok (.aload_n 3, 1) := by decide +kernel
theorem dX4_paperProperty_86 : decode cX4_paperProperty 86 = .ok (.invokestatic 175, 3) := by decide +kernel
theorem dX4_paperProperty_89 : decode cX4_paperProperty 89 = .ok (.ireturn, 1) := by decide +kernel
theorem dX4_paperProperty_90 : decode cX4_paperProperty 90 = .ok (.aload_n 3, 1) := by decide +kernel
theorem dX4_paperProperty_91 : decode cX4_paperProperty 91 = .ok (.invokestatic 171, 3) := by decide +kernel
theorem dX4_paperProperty_94 : decode cX4_paperProperty 94 = .ok (.ireturn, 1) := by decide +kernel
theorem dX4_paperProperty_95 : decode cX4_paperProperty 95 = .ok (.aload_n 3, 1) := by decide +kernel
theorem dX4_paperProperty_96 : decode cX4_paperProperty 96 = .ok (.invokestatic 393, 3) := by decide +kernel
theorem dX4_paperProperty_99 : decode cX4_paperProperty 99 = .ok (.ireturn, 1) := by decide +kernel
theorem dX4_paperProperty_100 : decode cX4_paperProperty 100 = .ok (.aload_n 0, 1) := by decide +kernel
theorem dX4_paperProperty_101 : decode cX4_paperProperty 101 = .ok (.getfield 10, 3) := by decide +kernel
theorem dX4_paperProperty_104 : decode cX4_paperProperty 104 = .ok (.getfield 343, 3) := by decide +kernel
theorem dX4_paperProperty_107 : decode cX4_paperProperty 107 = .ok (.iload_n 1, 1) := by decide +kernel
theorem dX4_paperProperty_108 : decode cX4_paperProperty 108 = .ok (.iaload, 1) := by decide +kernel
theorem dX4_paperProperty_109 : decode cX4_paperProperty 109 = .ok (.ireturn, 1) := by decide +kernel
theorem dX4_paperProperty_110 : decode cX4_paperProperty 110 = .ok (.aload_n 0, 1) := by decide +kernel
theorem dX4_paperProperty_111 : decode cX4_paperProperty 111 = .ok (.getfield 10, 3) := by decide +kernel
theorem dX4_paperProperty_114 : decode cX4_paperProperty 114 = .ok (.getfield 356, 3) := by decide +kernel
theorem dX4_paperProperty_117 : decode cX4_paperProperty 117 = .ok (.iload_n 1, 1) := by decide +kernel
theorem dX4_paperProperty_118 : decode cX4_paperProperty 118 = .ok (.iaload, 1) := by decide +kernel
theorem dX4_paperProperty_119 : decode cX4_paperProperty 119 = .ok (.ireturn, 1) := by decide +kernel
theorem dX4_paperProperty_120 : decode cX4_paperProperty 120 = .ok (.aload_n 0, 1) := by decide +kernel
theorem dX4_paperProperty_121 : decode cX4_paperProperty 121 = .ok (.getfield 10, 3) := by decide +kernel
theorem dX4_paperProperty_124 : decode cX4_paperProperty 124 = .ok (.getfield 183, 3) := by decide +kernel
theorem dX4_paperProperty_127 : decode cX4_paperProperty 127 = .ok (.iload_n 1, 1) := by decide +kernel
theorem dX4_paperProperty_128 : decode cX4_paperProperty 128 = .ok (.iaload, 1) := by decide +kernel
theorem dX4_paperProperty_129 : decode cX4_paperProperty 129 = .ok (.ireturn, 1) := by decide +kernel
theorem dX4_paperProperty_130 : decode cX4_paperProperty 130 = .ok (.aload_n 0, 1) := by decide +kernel
theorem dX4_paperProperty_131 : decode cX4_paperProperty 131 = .ok (.iload_n 1, 1) := by decide +kernel
theorem dX4_paperProperty_132 : decode cX4_paperProperty 132 = .ok (.invokevirtual 162, 3) := by decide +kernel
theorem dX4_paperProperty_135 : decode cX4_paperProperty 135 = .ok (.ifCond .eq 7, 3) := by decide +kernel
theorem dX4_paperProperty_138 : decode cX4_paperProperty 138 = .ok (.iconst 1, 1) := by decide +kernel
theorem dX4_paperProperty_139 : decode cX4_paperProperty 139 = .ok (.goto 4, 3) := by decide +kernel
theorem dX4_paperProperty_142 : decode cX4_paperProperty 142 = .ok (.iconst 0, 1) := by decide +kernel
theorem dX4_paperProperty_143 : decode cX4_paperProperty 143 = .ok (.ireturn, 1) := by decide +kernel
set_option maxRecDepth 100000 in
set_option maxHeartbeats 4000000 in
theorem mt_X4_paperProperty (r0 : Option Nat) (i1 : Int32) (i2 : Int32) (S0 : PH) (y : Int32 × PH) (h : m_X4_paperProperty r0 i1 i2 S0 = some y) : MT yX4_paperProperty (.code yX4_paperProperty cX4_paperProperty 4 (Option.some FieldType.int)) 3 65 0 0 [va_rf r0, .int i1, .int i2] S0 (oQ e_I (qN y)) := by
  refine mt_of (own := RX4) (l0 := [(0, va_rf r0), (1, .int i1), (2, .int i2)]) rfl rfl (by cases r0 <;> exact Nat.le_of_ble_eq_true rfl) (by cases r0 <;> rfl) ?_
  intro Z hC hQ hE hN
  unfold m_X4_paperProperty at h
  refine x_aload_n (i := 0) hC dX4_paperProperty_0 rfl 0 rfl ?_
  replace h := dr_el h
  obtain ⟨a1, ea2, ha3, h⟩ := h
  refine x_getR hC ea2 ha3 kf_4 0 (by decide) rfl q_175 dX4_paperProperty_1 ?_
  replace h := dr_el h
  obtain ⟨a4, ea5, ha6, h⟩ := h
  refine x_getR hC ea5 ha6 kf_2 10 (by decide) rfl q_58 dX4_paperProperty_4 ?_
  refine x_iload_n (i := 1) hC dX4_paperProperty_7 rfl 1 rfl ?_
  replace h := dr_el h
  obtain ⟨a7, ea8, ha9, h⟩ := h
  replace h := ck_el h
  obtain ⟨hc10, h⟩ := h
  refine x_aaload9 hC ea8 ha9 hc10 dX4_paperProperty_8 ?_
  replace h := le_el h
  obtain ⟨r11, hx12, h⟩ := h
  refine x_tA hx12 ?_
  refine x_astore_n (i := 3) (l' := [(3, va_rf r11), (0, va_rf r0), (1, .int i1), (2, .int i2)]) hC dX4_paperProperty_9 rfl (⟨fun _ => c_rf r0, ⟨fun _ => rfl, ⟨fun _ => rfl, trivial⟩⟩⟩) (by decide) rfl ?_
  refine x_iload_n (i := 2) hC dX4_paperProperty_10 rfl 3 rfl ?_
  rcases Decidable.em (i2 = (0 : Int32)) with c13 | c13
  · replace h := it_t c13 h
    refine x_tabIn (off := 49) (t := 60) hC dX4_paperProperty_11 (by rw [c13]; decide) (by rw [c13]; decide) (by rw [c13]; decide) (by decide) ?_
    refine x_aload_n (i := 0) hC dX4_paperProperty_60 rfl 1 rfl ?_
    refine x_getR hC ea2 ha3 kf_4 0 (by decide) rfl q_175 dX4_paperProperty_61 ?_
    refine x_getR hC ea5 ha6 kf_2 5 (by decide) rfl q_48 dX4_paperProperty_64 ?_
    refine x_iload_n (i := 1) hC dX4_paperProperty_67 rfl 2 rfl ?_
    replace h := dr_el h
    obtain ⟨a14, ea15, ha16, h⟩ := h
    replace h := ck_el h
    obtain ⟨hc17, h⟩ := h
    refine x_iaload hC ea15 ha16 hc17 dX4_paperProperty_68 ?_
    exact x_iret hC hQ (z_N (Option.some.inj h)) (Nat.le_of_ble_eq_true rfl) (Nat.le_of_ble_eq_true rfl) dX4_paperProperty_69
  replace h := it_f c13 h
  rcases Decidable.em (i2 = (1 : Int32)) with c18 | c18
  · replace h := it_t c18 h
    refine x_tabIn (off := 59) (t := 70) hC dX4_paperProperty_11 (by rw [c18]; decide) (by rw [c18]; decide) (by rw [c18]; decide) (by decide) ?_
    refine x_aload_n (i := 0) hC dX4_paperProperty_70 rfl 1 rfl ?_
    refine x_getR hC ea2 ha3 kf_4 0 (by decide) rfl q_175 dX4_paperProperty_71 ?_
    refine x_getR hC ea5 ha6 kf_2 6 (by decide) rfl q_50 dX4_paperProperty_74 ?_
    refine x_iload_n (i := 1) hC dX4_paperProperty_77 rfl 2 rfl ?_
    replace h := dr_el h
    obtain ⟨a19, ea20, ha21, h⟩ := h
    replace h := ck_el h
    obtain ⟨hc22, h⟩ := h
    refine x_iaload hC ea20 ha21 hc22 dX4_paperProperty_78 ?_
    exact x_iret hC hQ (z_N (Option.some.inj h)) (Nat.le_of_ble_eq_true rfl) (Nat.le_of_ble_eq_true rfl) dX4_paperProperty_79
  replace h := it_f c18 h
  rcases Decidable.em (i2 = (2 : Int32)) with c23 | c23
  · replace h := it_t c23 h
    refine x_tabIn (off := 69) (t := 80) hC dX4_paperProperty_11 (by rw [c23]; decide) (by rw [c23]; decide) (by rw [c23]; decide) (by decide) ?_
    refine x_aload_n (i := 3) hC dX4_paperProperty_80 rfl 0 rfl ?_
    replace h := bd_el h
    obtain ⟨v24, S25, hb26, h⟩ := h
    refine x_callS hC (st := []) (mt_X4_reviewersIn _ _ _ hb26) q_231 q_232 q_1 q_233 hy_X4_reviewersIn ⟨Nat.le_of_ble_eq_true rfl, Nat.le_of_ble_eq_true rfl⟩ ⟨Nat.le_of_ble_eq_true rfl, Nat.le_of_ble_eq_true rfl⟩ rfl (Nat.le_of_ble_eq_true rfl) dX4_paperProperty_81 (r_N ?_) r_NX
    show PX Z 4 S25 0 0 84 [(3, va_rf r11), (0, va_rf r0), (1, .int i1), (2, .int i2)] [.int v24]
    exact x_iret hC hQ (z_N (Option.some.inj h)) (Nat.le_of_ble_eq_true rfl) (Nat.le_of_ble_eq_true rfl) dX4_paperProperty_84
  replace h := it_f c23 h
  rcases Decidable.em (i2 = (3 : Int32)) with c27 | c27
  · replace h := it_t c27 h
    refine x_tabIn (off := 74) (t := 85) hC dX4_paperProperty_11 (by rw [c27]; decide) (by rw [c27]; decide) (by rw [c27]; decide) (by decide) ?_
    refine x_aload_n (i := 3) hC dX4_paperProperty_85 rfl 0 rfl ?_
    replace h := bd_el h
    obtain ⟨v28, S29, hb30, h⟩ := h
    refine x_callS hC (st := []) (mt_X4_writersIn _ _ _ hb30) q_314 q_315 q_1 q_316 hy_X4_writersIn ⟨Nat.le_of_ble_eq_true rfl, Nat.le_of_ble_eq_true rfl⟩ ⟨Nat.le_of_ble_eq_true rfl, Nat.le_of_ble_eq_true rfl⟩ rfl (Nat.le_of_ble_eq_true rfl) dX4_paperProperty_86 (r_N ?_) r_NX
    show PX Z 4 S29 0 0 89 [(3, va_rf r11), (0, va_rf r0), (1, .int i1), (2, .int i2)] [.int v28]
    exact x_iret hC hQ (z_N (Option.some.inj h)) (Nat.le_of_ble_eq_true rfl) (Nat.le_of_ble_eq_true rfl) dX4_paperProperty_89
  replace h := it_f c27 h
  rcases Decidable.em (i2 = (4 : Int32)) with c31 | c31
  · replace h := it_t c31 h
    refine x_tabIn (off := 79) (t := 90) hC dX4_paperProperty_11 (by rw [c31]; decide) (by rw [c31]; decide) (by rw [c31]; decide) (by decide) ?_
    refine x_aload_n (i := 3) hC dX4_paperProperty_90 rfl 0 rfl ?_
    replace h := bd_el h
    obtain ⟨v32, S33, hb34, h⟩ := h
    refine x_callS hC (st := []) (mt_X4_sumIn _ _ _ hb34) q_352 q_353 q_1 q_354 hy_X4_sumIn ⟨Nat.le_of_ble_eq_true rfl, Nat.le_of_ble_eq_true rfl⟩ ⟨Nat.le_of_ble_eq_true rfl, Nat.le_of_ble_eq_true rfl⟩ rfl (Nat.le_of_ble_eq_true rfl) dX4_paperProperty_91 (r_N ?_) r_NX
    show PX Z 4 S33 0 0 94 [(3, va_rf r11), (0, va_rf r0), (1, .int i1), (2, .int i2)] [.int v32]
    exact x_iret hC hQ (z_N (Option.some.inj h)) (Nat.le_of_ble_eq_true rfl) (Nat.le_of_ble_eq_true rfl) dX4_paperProperty_94
  replace h := it_f c31 h
  rcases Decidable.em (i2 = (5 : Int32)) with c35 | c35
  · replace h := it_t c35 h
    refine x_tabIn (off := 84) (t := 95) hC dX4_paperProperty_11 (by rw [c35]; decide) (by rw [c35]; decide) (by rw [c35]; decide) (by decide) ?_
    refine x_aload_n (i := 3) hC dX4_paperProperty_95 rfl 0 rfl ?_
    replace h := bd_el h
    obtain ⟨v36, S37, hb38, h⟩ := h
    refine x_callS hC (st := []) (mt_X4_spreadIn _ _ _ hb38) q_355 q_356 q_1 q_357 hy_X4_spreadIn ⟨Nat.le_of_ble_eq_true rfl, Nat.le_of_ble_eq_true rfl⟩ ⟨Nat.le_of_ble_eq_true rfl, Nat.le_of_ble_eq_true rfl⟩ rfl (Nat.le_of_ble_eq_true rfl) dX4_paperProperty_96 (r_N ?_) r_NX
    show PX Z 4 S37 0 0 99 [(3, va_rf r11), (0, va_rf r0), (1, .int i1), (2, .int i2)] [.int v36]
    exact x_iret hC hQ (z_N (Option.some.inj h)) (Nat.le_of_ble_eq_true rfl) (Nat.le_of_ble_eq_true rfl) dX4_paperProperty_99
  replace h := it_f c35 h
  rcases Decidable.em (i2 = (6 : Int32)) with c39 | c39
  · replace h := it_t c39 h
    refine x_tabIn (off := 89) (t := 100) hC dX4_paperProperty_11 (by rw [c39]; decide) (by rw [c39]; decide) (by rw [c39]; decide) (by decide) ?_
    refine x_aload_n (i := 0) hC dX4_paperProperty_100 rfl 1 rfl ?_
    refine x_getR hC ea2 ha3 kf_4 0 (by decide) rfl q_175 dX4_paperProperty_101 ?_
    refine x_getR hC ea5 ha6 kf_2 7 (by decide) rfl q_52 dX4_paperProperty_104 ?_
    refine x_iload_n (i := 1) hC dX4_paperProperty_107 rfl 2 rfl ?_
    replace h := dr_el h
    obtain ⟨a40, ea41, ha42, h⟩ := h
    replace h := ck_el h
    obtain ⟨hc43, h⟩ := h
    refine x_iaload hC ea41 ha42 hc43 dX4_paperProperty_108 ?_
    exact x_iret hC hQ (z_N (Option.some.inj h)) (Nat.le_of_ble_eq_true rfl) (Nat.le_of_ble_eq_true rfl) dX4_paperProperty_109
  replace h := it_f c39 h
  rcases Decidable.em (i2 = (7 : Int32)) with c44 | c44
  · replace h := it_t c44 h
    refine x_tabIn (off := 99) (t := 110) hC dX4_paperProperty_11 (by rw [c44]; decide) (by rw [c44]; decide) (by rw [c44]; decide) (by decide) ?_
    refine x_aload_n (i := 0) hC dX4_paperProperty_110 rfl 1 rfl ?_
    refine x_getR hC ea2 ha3 kf_4 0 (by decide) rfl q_175 dX4_paperProperty_111 ?_
    refine x_getR hC ea5 ha6 kf_2 8 (by decide) rfl q_54 dX4_paperProperty_114 ?_
    refine x_iload_n (i := 1) hC dX4_paperProperty_117 rfl 2 rfl ?_
    replace h := dr_el h
    obtain ⟨a45, ea46, ha47, h⟩ := h
    replace h := ck_el h
    obtain ⟨hc48, h⟩ := h
    refine x_iaload hC ea46 ha47 hc48 dX4_paperProperty_118 ?_
    exact x_iret hC hQ (z_N (Option.some.inj h)) (Nat.le_of_ble_eq_true rfl) (Nat.le_of_ble_eq_true rfl) dX4_paperProperty_119
  replace h := it_f c44 h
  rcases Decidable.em (i2 = (8 : Int32)) with c49 | c49
  · replace h := it_t c49 h
    refine x_tabIn (off := 109) (t := 120) hC dX4_paperProperty_11 (by rw [c49]; decide) (by rw [c49]; decide) (by rw [c49]; decide) (by decide) ?_
    refine x_aload_n (i := 0) hC dX4_paperProperty_120 rfl 1 rfl ?_
    refine x_getR hC ea2 ha3 kf_4 0 (by decide) rfl q_175 dX4_paperProperty_121 ?_
    refine x_getR hC ea5 ha6 kf_2 9 (by decide) rfl q_56 dX4_paperProperty_124 ?_
    refine x_iload_n (i := 1) hC dX4_paperProperty_127 rfl 2 rfl ?_
    replace h := dr_el h
    obtain ⟨a50, ea51, ha52, h⟩ := h
    replace h := ck_el h
    obtain ⟨hc53, h⟩ := h
    refine x_iaload hC ea51 ha52 hc53 dX4_paperProperty_128 ?_
    exact x_iret hC hQ (z_N (Option.some.inj h)) (Nat.le_of_ble_eq_true rfl) (Nat.le_of_ble_eq_true rfl) dX4_paperProperty_129
  replace h := it_f c49 h
  refine x_tabOut (t := 130) hC dX4_paperProperty_11 (tab_o 0 [(0 : Int32), (1 : Int32), (2 : Int32), (3 : Int32), (4 : Int32), (5 : Int32), (6 : Int32), (7 : Int32), (8 : Int32)] (by decide) (by decide) (List.forall_mem_cons.mpr ⟨c13, List.forall_mem_cons.mpr ⟨c18, List.forall_mem_cons.mpr ⟨c23, List.forall_mem_cons.mpr ⟨c27, List.forall_mem_cons.mpr ⟨c31, List.forall_mem_cons.mpr ⟨c35, List.forall_mem_cons.mpr ⟨c39, List.forall_mem_cons.mpr ⟨c44, List.forall_mem_cons.mpr ⟨c49, fun _ q => nomatch q⟩⟩⟩⟩⟩⟩⟩⟩⟩)) (by decide) ?_
  refine x_aload_n (i := 0) hC dX4_paperProperty_130 rfl 1 rfl ?_
  refine x_iload_n (i := 1) hC dX4_paperProperty_131 rfl 2 rfl ?_
  replace h := bd_el h
  obtain ⟨v54, S55, hb56, h⟩ := h
  refine x_callV hC (st := []) (mt_X4_canDecide _ _ _ _ hb56) ea2 ha3 kf_4 q_364 q_366 qs_21 q_1 q_367 ⟨rfl, hy_X4_canDecide⟩ ⟨Nat.le_of_ble_eq_true rfl, Nat.le_of_ble_eq_true rfl⟩ ⟨Nat.le_of_ble_eq_true rfl, Nat.le_of_ble_eq_true rfl⟩ rfl (Nat.le_of_ble_eq_true rfl) dX4_paperProperty_132 (r_N ?_) r_NX
  show PX Z 4 S55 0 0 135 [(3, va_rf r11), (0, va_rf r0), (1, .int i1), (2, .int i2)] [.int v54]
  refine x_if_eq (t := 142) hC dX4_paperProperty_135 (by decide) (fun c57 => ?_) (fun c57 => ?_)
  · replace h := it_t c57 h
    refine x_iconst (v := (0 : Int32)) hC dX4_paperProperty_142 (by decide) ?_
    exact x_iret hC hQ (z_N (Option.some.inj h)) (Nat.le_of_ble_eq_true rfl) (Nat.le_of_ble_eq_true rfl) dX4_paperProperty_143
  · replace h := it_f c57 h
    refine x_iconst (v := (1 : Int32)) hC dX4_paperProperty_138 (by decide) ?_
    refine x_goto (t := 143) hC dX4_paperProperty_139 (by decide) ?_
    exact x_iret hC hQ (z_N (Option.some.inj h)) (Nat.le_of_ble_eq_true rfl) (Nat.le_of_ble_eq_true rfl) dX4_paperProperty_143
theorem dX4_paperOf_0 : decode cX4_paperOf 0 = .ok (.aload_n 0, 1) := by decide +kernel
theorem dX4_paperOf_1 : decode cX4_paperOf 1 = .ok (.iload_n 1, 1) := by decide +kernel
theorem dX4_paperOf_2 : decode cX4_paperOf 2 = .ok (.invokevirtual 125, 3) := by decide +kernel
theorem dX4_paperOf_5 : decode cX4_paperOf 5 = .ok (.iload_n 2, 1) := by decide +kernel
theorem dX4_paperOf_6 : decode cX4_paperOf 6 = .ok (.ifCond .lt 9, 3) := by decide +kernel
theorem dX4_paperOf_9 : decode cX4_paperOf 9 = .ok (.iload_n 2, 1) := by decide +kernel
theorem dX4_paperOf_10 : decode cX4_paperOf 10 = .ok (.bipush 10, 2) := by decide +kernel
theorem dX4_paperOf_12 : decode cX4_paperOf 12 = .ok (.if_icmp .lt 13, 3) := by decide +kernel
theorem dX4_paperOf_15 : decode cX4_paperOf 15 = .ok (.new 45, 3) := by decide +kernel
theorem dX4_paperOf_18 : decode cX4_paperOf 18 = .ok (.dup, 1) := by decide +kernel
theorem dX4_paperOf_19 : decode cX4_paperOf 19 = .ok (.ldc 232, 2) := by decide +kernel
theorem dX4_paperOf_21 : decode cX4_paperOf 21 = .ok (.invokespecial 49, 3) := by decide +kernel
theorem dX4_paperOf_24 : decode cX4_paperOf 24 = .ok (.athrow, 1) := by decide +kernel
theorem dX4_paperOf_25 : decode cX4_paperOf 25 = .ok (.aload_n 0, 1) := by decide +kernel
theorem dX4_paperOf_26 : decode cX4_paperOf 26 = .ok (.iload_n 1, 1) := by decide +kernel
theorem dX4_paperOf_27 : decode cX4_paperOf 27 = .ok (.iload_n 2, 1) := by decide +kernel
theorem dX4_paperOf_28 : decode cX4_paperOf 28 = .ok (.invokevirtual 234, 3) := by decide +kernel
theorem dX4_paperOf_31 : decode cX4_paperOf 31 = .ok (.ireturn, 1) := by decide +kernel
set_option maxRecDepth 100000 in
set_option maxHeartbeats 4000000 in
theorem mt_X4_paperOf (r0 : Option Nat) (i1 : Int32) (i2 : Int32) (S0 : PH) (y : (Nat ⊕ Int32) × PH) (h : m_X4_paperOf r0 i1 i2 S0 = some y) : MT yX4_paperOf (.code yX4_paperOf cX4_paperOf 3 (Option.some FieldType.int)) 7 111 2 12 [va_rf r0, .int i1, .int i2] S0 (oQ e_I (qT y)) := by
  refine mt_of (own := RX4) (l0 := [(0, va_rf r0), (1, .int i1), (2, .int i2)]) rfl rfl (by cases r0 <;> exact Nat.le_of_ble_eq_true rfl) (by cases r0 <;> rfl) ?_
  intro Z hC hQ hE hN
  have J_15 : ∀ (S9 : PH), j_X4_paperOf_15 r0 i1 i2 S9 = some y → PX Z 3 S9 1 6 15 [(0, va_rf r0), (1, .int i1), (2, .int i2)] [] := by
    intro S9 h
    unfold j_X4_paperOf_15 at h
    exact x_throw hC hQ hE (j := 0) (z_X (Option.some.inj h)) tx_45_49_0 (List.mem_of_getElem? (i := 23) rfl) (Nat.le_of_ble_eq_true rfl) ⟨Nat.le_of_ble_eq_true rfl, Nat.le_of_ble_eq_true rfl⟩ ⟨Nat.le_of_ble_eq_true rfl, Nat.le_of_ble_eq_true rfl⟩ (Nat.le_of_ble_eq_true rfl) (Nat.le_of_ble_eq_true rfl) dX4_paperOf_15 dX4_paperOf_18 dX4_paperOf_19 dX4_paperOf_21 dX4_paperOf_24
  unfold m_X4_paperOf at h
  refine x_aload_n (i := 0) hC dX4_paperOf_0 rfl 0 rfl ?_
  refine x_iload_n (i := 1) hC dX4_paperOf_1 rfl 1 rfl ?_
  replace h := dr_el h
  obtain ⟨a1, ea2, ha3, h⟩ := h
  replace h := bt_el h
  obtain ⟨v4, S5, hb17, h⟩ | ⟨j6, S7, hb17, h⟩ := h
  · refine x_callV hC (st := []) (mt_X4_requirePaper _ _ _ _ hb17) ea2 ha3 kf_4 q_613 q_615 qs_29 q_1 q_616 ⟨rfl, hy_X4_requirePaper⟩ ⟨Nat.le_of_ble_eq_true rfl, Nat.le_of_ble_eq_true rfl⟩ ⟨Nat.le_of_ble_eq_true rfl, Nat.le_of_ble_eq_true rfl⟩ rfl (Nat.le_of_ble_eq_true rfl) dX4_paperOf_2 (r_T ?_) r_TX
    show PX Z 3 S5 1 6 5 [(0, va_rf r0), (1, .int i1), (2, .int i2)] []
    refine x_iload_n (i := 2) hC dX4_paperOf_5 rfl 2 rfl ?_
    refine x_if_lt (t := 15) hC dX4_paperOf_6 (by decide) (fun c8 => ?_) (fun c8 => ?_)
    · replace h := it_t c8 h
      exact J_15 _ h
    · replace h := it_f c8 h
      refine x_iload_n (i := 2) hC dX4_paperOf_9 rfl 2 rfl ?_
      refine x_bipush (v := (10 : Int32)) hC dX4_paperOf_10 (by decide) ?_
      refine x_icmp_lt (t := 25) hC dX4_paperOf_12 (by decide) (fun c10 => ?_) (fun c10 => ?_)
      · replace h := it_t c10 h
        refine x_aload_n (i := 0) hC dX4_paperOf_25 rfl 0 rfl ?_
        refine x_iload_n (i := 1) hC dX4_paperOf_26 rfl 1 rfl ?_
        refine x_iload_n (i := 2) hC dX4_paperOf_27 rfl 2 rfl ?_
        replace h := dr_el h
        obtain ⟨a11, ea12, ha13, h⟩ := h
        replace h := bd_el h
        obtain ⟨v14, S15, hb16, h⟩ := h
        refine x_callV hC (st := []) (mt_X4_paperProperty _ _ _ _ _ hb16) ea12 ha13 kf_4 q_348 q_350 qs_20 q_1 q_351 ⟨rfl, hy_X4_paperProperty⟩ ⟨Nat.le_of_ble_eq_true rfl, Nat.le_of_ble_eq_true rfl⟩ ⟨Nat.le_of_ble_eq_true rfl, Nat.le_of_ble_eq_true rfl⟩ rfl (Nat.le_of_ble_eq_true rfl) dX4_paperOf_28 (r_N ?_) r_NX
        show PX Z 3 S15 1 6 31 [(0, va_rf r0), (1, .int i1), (2, .int i2)] [.int v14]
        exact x_iret hC hQ (z_T (Option.some.inj h)) (Nat.le_of_ble_eq_true rfl) (Nat.le_of_ble_eq_true rfl) dX4_paperOf_31
      · replace h := it_f c10 h
        exact J_15 _ h
  · refine x_callV hC (st := []) (mt_X4_requirePaper _ _ _ _ hb17) ea2 ha3 kf_4 q_613 q_615 qs_29 q_1 q_616 ⟨rfl, hy_X4_requirePaper⟩ ⟨Nat.le_of_ble_eq_true rfl, Nat.le_of_ble_eq_true rfl⟩ ⟨Nat.le_of_ble_eq_true rfl, Nat.le_of_ble_eq_true rfl⟩ rfl (Nat.le_of_ble_eq_true rfl) dX4_paperOf_2 r_X (r_XX ?_)
    exact x_out hC hQ hE (z_X (Option.some.inj h)) (Nat.le_of_ble_eq_true rfl) (Nat.le_of_ble_eq_true rfl)
theorem dX4_score_0 : decode cX4_score 0 = .ok (.iload_n 1, 1) := by decide +kernel
theorem dX4_score_1 : decode cX4_score 1 = .ok (.invokestatic 73, 3) := by decide +kernel
theorem dX4_score_4 : decode cX4_score 4 = .ok (.aload_n 0, 1) := by decide +kernel
theorem dX4_score_5 : decode cX4_score 5 = .ok (.iload_n 2, 1) := by decide +kernel
theorem dX4_score_6 : decode cX4_score 6 = .ok (.invokevirtual 125, 3) := by decide +kernel
theorem dX4_score_9 : decode cX4_score 9 = .ok (.aload_n 0, 1) := by decide +kernel
theorem dX4_score_10 : decode cX4_score 10 = .ok (.getfield 10, 3) := by decide +kernel
theorem dX4_score_13 : decode cX4_score 13 = .ok (.getfield 167, 3) := by decide +kernel
theorem dX4_score_16 : decode cX4_score 16 = .ok (.iload_n 2, 1) := by decide +kernel
theorem dX4_score_17 : decode cX4_score 17 = .ok (.aaload, 1) := by decide +kernel
theorem dX4_score_18 : decode cX4_score 18 = .ok (.iload_n 1, 1) := by decide +kernel
theorem dX4_score_19 : decode cX4_score 19 = .ok (.iaload, 1) := by decide +kernel
theorem dX4_score_20 : decode cX4_score 20 = .ok (.ireturn, 1) := by decide +kernel
set_option maxRecDepth 100000 in
set_option maxHeartbeats 4000000 in
theorem mt_X4_score (r0 : Option Nat) (i1 : Int32) (i2 : Int32) (S0 : PH) (y : (Nat ⊕ Int32) × PH) (h : m_X4_score r0 i1 i2 S0 = some y) : MT yX4_score (.code yX4_score cX4_score 3 (Option.some FieldType.int)) 7 111 2 12 [va_rf r0, .int i1, .int i2] S0 (oQ e_I (qT y)) := by
  refine mt_of (own := RX4) (l0 := [(0, va_rf r0), (1, .int i1), (2, .int i2)]) rfl rfl (by cases r0 <;> exact Nat.le_of_ble_eq_true rfl) (by cases r0 <;> rfl) ?_
  intro Z hC hQ hE hN
  unfold m_X4_score at h
  refine x_iload_n (i := 1) hC dX4_score_0 rfl 1 rfl ?_
  replace h := bt_el h
  obtain ⟨v1, S2, hb27, h⟩ | ⟨j3, S4, hb27, h⟩ := h
  · refine x_callS hC (st := []) (mt_X4_requirePerson _ _ _ hb27) q_533 q_534 q_1 q_535 hy_X4_requirePerson ⟨Nat.le_of_ble_eq_true rfl, Nat.le_of_ble_eq_true rfl⟩ ⟨Nat.le_of_ble_eq_true rfl, Nat.le_of_ble_eq_true rfl⟩ rfl (Nat.le_of_ble_eq_true rfl) dX4_score_1 (r_T ?_) r_TX
    show PX Z 3 S2 1 6 4 [(0, va_rf r0), (1, .int i1), (2, .int i2)] []
    refine x_aload_n (i := 0) hC dX4_score_4 rfl 0 rfl ?_
    refine x_iload_n (i := 2) hC dX4_score_5 rfl 2 rfl ?_
    replace h := dr_el h
    obtain ⟨a5, ea6, ha7, h⟩ := h
    replace h := bt_el h
    obtain ⟨v8, S9, hb26, h⟩ | ⟨j10, S11, hb26, h⟩ := h
    · refine x_callV hC (st := []) (mt_X4_requirePaper _ _ _ _ hb26) ea6 ha7 kf_4 q_613 q_615 qs_29 q_1 q_616 ⟨rfl, hy_X4_requirePaper⟩ ⟨Nat.le_of_ble_eq_true rfl, Nat.le_of_ble_eq_true rfl⟩ ⟨Nat.le_of_ble_eq_true rfl, Nat.le_of_ble_eq_true rfl⟩ rfl (Nat.le_of_ble_eq_true rfl) dX4_score_6 (r_T ?_) r_TX
      show PX Z 3 S9 2 12 9 [(0, va_rf r0), (1, .int i1), (2, .int i2)] []
      refine x_aload_n (i := 0) hC dX4_score_9 rfl 0 rfl ?_
      replace h := dr_el h
      obtain ⟨a12, ea13, ha14, h⟩ := h
      refine x_getR hC ea13 ha14 kf_4 0 (by decide) rfl q_175 dX4_score_10 ?_
      replace h := dr_el h
      obtain ⟨a15, ea16, ha17, h⟩ := h
      refine x_getR hC ea16 ha17 kf_2 10 (by decide) rfl q_58 dX4_score_13 ?_
      refine x_iload_n (i := 2) hC dX4_score_16 rfl 2 rfl ?_
      replace h := dr_el h
      obtain ⟨a18, ea19, ha20, h⟩ := h
      replace h := ck_el h
      obtain ⟨hc21, h⟩ := h
      refine x_aaload9 hC ea19 ha20 hc21 dX4_score_17 ?_
      refine x_iload_n (i := 1) hC dX4_score_18 rfl 1 rfl ?_
      replace h := dr_el h
      obtain ⟨a22, ea23, ha24, h⟩ := h
      replace h := ck_el h
      obtain ⟨hc25, h⟩ := h
      refine x_iaload hC ea23 ha24 hc25 dX4_score_19 ?_
      exact x_iret hC hQ (z_T (Option.some.inj h)) (Nat.le_of_ble_eq_true rfl) (Nat.le_of_ble_eq_true rfl) dX4_score_20
    · refine x_callV hC (st := []) (mt_X4_requirePaper _ _ _ _ hb26) ea6 ha7 kf_4 q_613 q_615 qs_29 q_1 q_616 ⟨rfl, hy_X4_requirePaper⟩ ⟨Nat.le_of_ble_eq_true rfl, Nat.le_of_ble_eq_true rfl⟩ ⟨Nat.le_of_ble_eq_true rfl, Nat.le_of_ble_eq_true rfl⟩ rfl (Nat.le_of_ble_eq_true rfl) dX4_score_6 r_X (r_XX ?_)
      exact x_out hC hQ hE (z_X (Option.some.inj h)) (Nat.le_of_ble_eq_true rfl) (Nat.le_of_ble_eq_true rfl)
  · refine x_callS hC (st := []) (mt_X4_requirePerson _ _ _ hb27) q_533 q_534 q_1 q_535 hy_X4_requirePerson ⟨Nat.le_of_ble_eq_true rfl, Nat.le_of_ble_eq_true rfl⟩ ⟨Nat.le_of_ble_eq_true rfl, Nat.le_of_ble_eq_true rfl⟩ rfl (Nat.le_of_ble_eq_true rfl) dX4_score_1 r_X (r_XX ?_)
    exact x_out hC hQ hE (z_X (Option.some.inj h)) (Nat.le_of_ble_eq_true rfl) (Nat.le_of_ble_eq_true rfl)
theorem dX4_allSpent_0 : decode cX4_allSpent 0 = .ok (.iconst 0, 1) := by decide +kernel
theorem dX4_allSpent_1 : decode cX4_allSpent 1 = .ok (.istore_n 1, 1) := by decide +kernel
theorem dX4_allSpent_2 : decode cX4_allSpent 2 = .ok (.iconst 0, 1) := by decide +kernel
theorem dX4_allSpent_3 : decode cX4_allSpent 3 = .ok (.istore_n 2, 1) := by decide +kernel
theorem dX4_allSpent_4 : decode cX4_allSpent 4 = .ok (.iload_n 2, 1) := by decide +kernel
theorem dX4_allSpent_5 : decode cX4_allSpent 5 = .ok (.bipush 8, 2) := by decide +kernel
theorem dX4_allSpent_7 : decode cX4_allSpent 7 = .ok (.if_icmp .ge 21, 3) := by decide +kernel
theorem dX4_allSpent_10 : decode cX4_allSpent 10 = .ok (.iload_n 1, 1) := by decide +kernel
theorem dX4_allSpent_11 : decode cX4_allSpent 11 = .ok (.aload_n 0, 1) := by decide +kernel
theorem dX4_allSpent_12 : decode cX4_allSpent 12 = .ok (.getfield 10, 3) := by decide +kernel
theorem dX4_allSpent_15 : decode cX4_allSpent 15 = .ok (.getfield 313, 3) := by decide +kernel
theorem dX4_allSpent_18 : decode cX4_allSpent 18 = .ok (.iload_n 2, 1) := by decide +kernel
theorem dX4_allSpent_19 : decode cX4_allSpent 19 = .ok (.iaload, 1) := by decide +kernel
theorem dX4_allSpent_20 : decode cX4_allSpent 20 = .ok (.iadd, 1) := by decide +kernel
theorem dX4_allSpent_21 : decode cX4_allSpent 21 = .ok (.istore_n 1, 1) := by decide +kernel
theorem dX4_allSpent_22 : decode cX4_allSpent 22 = .ok (.iinc 2 1, 3) := by decide +kernel
theorem dX4_allSpent_25 : decode cX4_allSpent 25 = .ok (.goto (-21), 3) := by decide +kernel
theorem dX4_allSpent_28 : decode cX4_allSpent 28 = .ok (.iload_n 1, 1) := by decide +kernel
theorem dX4_allSpent_29 : decode cX4_allSpent 29 = .ok (.ireturn, 1) := by decide +kernel
set_option maxRecDepth 100000 in
set_option maxHeartbeats 4000000 in
theorem mt_X4_allSpent (r0 : Option Nat) (S0 : PH) (y : Int32 × PH) (h : m_X4_allSpent r0 S0 = some y) : MT yX4_allSpent (.code yX4_allSpent cX4_allSpent 3 (Option.some FieldType.int)) 0 0 0 0 [va_rf r0] S0 (oQ e_I (qN y)) := by
  refine mt_of (own := RX4) (l0 := [(0, va_rf r0)]) rfl rfl (by cases r0 <;> exact Nat.le_of_ble_eq_true rfl) (by cases r0 <;> rfl) ?_
  intro Z hC hQ hE hN
  unfold m_X4_allSpent at h
  refine x_iconst (v := (0 : Int32)) hC dX4_allSpent_0 (by decide) ?_
  refine x_istore_n (i := 1) (l' := [(1, .int (0 : Int32)), (0, va_rf r0)]) hC dX4_allSpent_1 rfl (⟨fun _ => c_rf r0, trivial⟩) (by decide) rfl ?_
  refine x_iconst (v := (0 : Int32)) hC dX4_allSpent_2 (by decide) ?_
  refine x_istore_n (i := 2) (l' := [(2, .int (0 : Int32)), (1, .int (0 : Int32)), (0, va_rf r0)]) hC dX4_allSpent_3 rfl (⟨fun _ => rfl, ⟨fun _ => c_rf r0, trivial⟩⟩) (by decide) rfl ?_
  refine x_sub (l' := [(0, va_rf r0), (1, .int (0 : Int32)), (2, .int (0 : Int32))]) [2, 1, 0] rfl ?_
  refine lp_sim (P := fun (t : (Int32 × Int32 × PH)) => PX Z 3 t.2.2 0 0 4 [(0, va_rf r0), (1, .int t.1), (2, .int t.2.1)] []) (G := fun r => r = y) ?_ h rfl
  clear h
  intro t x_4 h hg_4
  obtain ⟨v1, v2, S3⟩ := t
  show PX Z 3 S3 0 0 4 [(0, va_rf r0), (1, .int v1), (2, .int v2)] []
  unfold st_X4_allSpent_4 at h
  refine x_iload_n (i := 2) hC dX4_allSpent_4 rfl 2 rfl ?_
  refine x_bipush (v := (8 : Int32)) hC dX4_allSpent_5 (by decide) ?_
  refine x_icmp_ge (t := 28) hC dX4_allSpent_7 (by decide) (fun c4 => ?_) (fun c4 => ?_)
  · replace h := it_t c4 h
    replace h := ir_x h hg_4
    refine x_iload_n (i := 1) hC dX4_allSpent_28 rfl 1 rfl ?_
    exact x_iret hC hQ (z_N (Option.some.inj h)) (Nat.le_of_ble_eq_true rfl) (Nat.le_of_ble_eq_true rfl) dX4_allSpent_29
  · replace h := it_f c4 h
    refine x_iload_n (i := 1) hC dX4_allSpent_10 rfl 1 rfl ?_
    refine x_aload_n (i := 0) hC dX4_allSpent_11 rfl 0 rfl ?_
    replace h := dr_el h
    obtain ⟨a5, ea6, ha7, h⟩ := h
    refine x_getR hC ea6 ha7 kf_4 0 (by decide) rfl q_175 dX4_allSpent_12 ?_
    replace h := dr_el h
    obtain ⟨a8, ea9, ha10, h⟩ := h
    refine x_getR hC ea9 ha10 kf_2 3 (by decide) rfl q_44 dX4_allSpent_15 ?_
    refine x_iload_n (i := 2) hC dX4_allSpent_18 rfl 2 rfl ?_
    replace h := dr_el h
    obtain ⟨a11, ea12, ha13, h⟩ := h
    replace h := ck_el h
    obtain ⟨hc14, h⟩ := h
    refine x_iaload hC ea12 ha13 hc14 dX4_allSpent_19 ?_
    refine x_iadd hC dX4_allSpent_20 ?_
    replace h := le_el h
    obtain ⟨x15, hx16, h⟩ := h
    refine x_tI hx16 ?_
    refine x_istore_n (i := 1) (l' := [(1, .int x15), (0, va_rf r0), (2, .int v2)]) hC dX4_allSpent_21 rfl (⟨fun _ => c_rf r0, ⟨fun _ => rfl, ⟨fun _ => rfl, trivial⟩⟩⟩) (by decide) rfl ?_
    refine x_iinc (i := 2) (v := (v2 + (1 : Int32))) (l' := [(2, .int (v2 + (1 : Int32))), (1, .int x15), (0, va_rf r0)]) hC dX4_allSpent_22 2 rfl rfl (⟨fun _ => rfl, ⟨fun _ => c_rf r0, ⟨fun _ => rfl, trivial⟩⟩⟩) (by decide) rfl ?_
    refine x_goto (t := 4) hC dX4_allSpent_25 (by decide) ?_
    refine x_sub (l' := [(0, va_rf r0), (1, .int x15), (2, .int (v2 + (1 : Int32)))]) [2, 1, 0] rfl ?_
    have hb := bk_x h hg_4
    exact hb
theorem dX4_allTokens_0 : decode cX4_allTokens 0 = .ok (.iconst 0, 1) := by decide +kernel
theorem dX4_allTokens_1 : decode cX4_allTokens 1 = .ok (.istore_n 1, 1) := by decide +kernel
theorem dX4_allTokens_2 : decode cX4_allTokens 2 = .ok (.iconst 0, 1) := by decide +kernel
theorem dX4_allTokens_3 : decode cX4_allTokens 3 = .ok (.istore_n 2, 1) := by decide +kernel
theorem dX4_allTokens_4 : decode cX4_allTokens 4 = .ok (.iload_n 2, 1) := by decide +kernel
theorem dX4_allTokens_5 : decode cX4_allTokens 5 = .ok (.bipush 8, 2) := by decide +kernel
theorem dX4_allTokens_7 : decode cX4_allTokens 7 = .ok (.if_icmp .ge 17, 3) := by decide +kernel
theorem dX4_allTokens_10 : decode cX4_allTokens 10 = .ok (.iload_n 1, 1) := by decide +kernel
theorem dX4_allTokens_11 : decode cX4_allTokens 11 = .ok (.aload_n 0, 1) := by decide +kernel
theorem dX4_allTokens_12 : decode cX4_allTokens 12 = .ok (.iload_n 2, 1) := by decide +kernel
theorem dX4_allTokens_13 : decode cX4_allTokens 13 = .ok (.invokevirtual 316, 3) := by decide +kernel
theorem dX4_allTokens_16 : decode cX4_allTokens 16 = .ok (.iadd, 1) := by decide +kernel
theorem dX4_allTokens_17 : decode cX4_allTokens 17 = .ok (.istore_n 1, 1) := by decide +kernel
theorem dX4_allTokens_18 : decode cX4_allTokens 18 = .ok (.iinc 2 1, 3) := by decide +kernel
theorem dX4_allTokens_21 : decode cX4_allTokens 21 = .ok (.goto (-17), 3) := by decide +kernel
theorem dX4_allTokens_24 : decode cX4_allTokens 24 = .ok (.iload_n 1, 1) := by decide +kernel
theorem dX4_allTokens_25 : decode cX4_allTokens 25 = .ok (.ireturn, 1) := by decide +kernel
set_option maxRecDepth 100000 in
set_option maxHeartbeats 4000000 in
theorem mt_X4_allTokens (r0 : Option Nat) (S0 : PH) (y : Int32 × PH) (h : m_X4_allTokens r0 S0 = some y) : MT yX4_allTokens (.code yX4_allTokens cX4_allTokens 3 (Option.some FieldType.int)) 1 21 0 0 [va_rf r0] S0 (oQ e_I (qN y)) := by
  refine mt_of (own := RX4) (l0 := [(0, va_rf r0)]) rfl rfl (by cases r0 <;> exact Nat.le_of_ble_eq_true rfl) (by cases r0 <;> rfl) ?_
  intro Z hC hQ hE hN
  unfold m_X4_allTokens at h
  refine x_iconst (v := (0 : Int32)) hC dX4_allTokens_0 (by decide) ?_
  refine x_istore_n (i := 1) (l' := [(1, .int (0 : Int32)), (0, va_rf r0)]) hC dX4_allTokens_1 rfl (⟨fun _ => c_rf r0, trivial⟩) (by decide) rfl ?_
  refine x_iconst (v := (0 : Int32)) hC dX4_allTokens_2 (by decide) ?_
  refine x_istore_n (i := 2) (l' := [(2, .int (0 : Int32)), (1, .int (0 : Int32)), (0, va_rf r0)]) hC dX4_allTokens_3 rfl (⟨fun _ => rfl, ⟨fun _ => c_rf r0, trivial⟩⟩) (by decide) rfl ?_
  refine x_sub (l' := [(0, va_rf r0), (1, .int (0 : Int32)), (2, .int (0 : Int32))]) [2, 1, 0] rfl ?_
  refine lp_sim (P := fun (t : (Int32 × Int32 × PH)) => PX Z 3 t.2.2 0 0 4 [(0, va_rf r0), (1, .int t.1), (2, .int t.2.1)] []) (G := fun r => r = y) ?_ h rfl
  clear h
  intro t x_4 h hg_4
  obtain ⟨v1, v2, S3⟩ := t
  show PX Z 3 S3 0 0 4 [(0, va_rf r0), (1, .int v1), (2, .int v2)] []
  unfold st_X4_allTokens_4 at h
  refine x_iload_n (i := 2) hC dX4_allTokens_4 rfl 2 rfl ?_
  refine x_bipush (v := (8 : Int32)) hC dX4_allTokens_5 (by decide) ?_
  refine x_icmp_ge (t := 24) hC dX4_allTokens_7 (by decide) (fun c4 => ?_) (fun c4 => ?_)
  · replace h := it_t c4 h
    replace h := ir_x h hg_4
    refine x_iload_n (i := 1) hC dX4_allTokens_24 rfl 1 rfl ?_
    exact x_iret hC hQ (z_N (Option.some.inj h)) (Nat.le_of_ble_eq_true rfl) (Nat.le_of_ble_eq_true rfl) dX4_allTokens_25
  · replace h := it_f c4 h
    refine x_iload_n (i := 1) hC dX4_allTokens_10 rfl 1 rfl ?_
    refine x_aload_n (i := 0) hC dX4_allTokens_11 rfl 0 rfl ?_
    refine x_iload_n (i := 2) hC dX4_allTokens_12 rfl 2 rfl ?_
    replace h := dr_el h
    obtain ⟨a5, ea6, ha7, h⟩ := h
    replace h := bd_el h
    obtain ⟨v8, S9, hb10, h⟩ := h
    refine x_callV hC (st := [.int v1]) (mt_X4_tokensOf _ _ _ _ hb10) ea6 ha7 kf_4 q_227 q_229 qs_1 q_1 q_230 ⟨rfl, hy_X4_tokensOf⟩ ⟨Nat.le_of_ble_eq_true rfl, Nat.le_of_ble_eq_true rfl⟩ ⟨Nat.le_of_ble_eq_true rfl, Nat.le_of_ble_eq_true rfl⟩ rfl (Nat.le_of_ble_eq_true rfl) dX4_allTokens_13 (r_N ?_) r_NX
    show PX Z 3 S9 0 0 16 [(0, va_rf r0), (1, .int v1), (2, .int v2)] [.int v8, .int v1]
    refine x_iadd hC dX4_allTokens_16 ?_
    replace h := le_el h
    obtain ⟨x11, hx12, h⟩ := h
    refine x_tI hx12 ?_
    refine x_istore_n (i := 1) (l' := [(1, .int x11), (0, va_rf r0), (2, .int v2)]) hC dX4_allTokens_17 rfl (⟨fun _ => c_rf r0, ⟨fun _ => rfl, ⟨fun _ => rfl, trivial⟩⟩⟩) (by decide) rfl ?_
    refine x_iinc (i := 2) (v := (v2 + (1 : Int32))) (l' := [(2, .int (v2 + (1 : Int32))), (1, .int x11), (0, va_rf r0)]) hC dX4_allTokens_18 2 rfl rfl (⟨fun _ => rfl, ⟨fun _ => c_rf r0, ⟨fun _ => rfl, trivial⟩⟩⟩) (by decide) rfl ?_
    refine x_goto (t := 4) hC dX4_allTokens_21 (by decide) ?_
    refine x_sub (l' := [(0, va_rf r0), (1, .int x11), (2, .int (v2 + (1 : Int32)))]) [2, 1, 0] rfl ?_
    have hb := bk_x h hg_4
    exact hb
theorem dX4_allReviews_0 : decode cX4_allReviews 0 = .ok (.iconst 0, 1) := by decide +kernel
theorem dX4_allReviews_1 : decode cX4_allReviews 1 = .ok (.istore_n 1, 1) := by decide +kernel
theorem dX4_allReviews_2 : decode cX4_allReviews 2 = .ok (.iconst 0, 1) := by decide +kernel
theorem dX4_allReviews_3 : decode cX4_allReviews 3 = .ok (.istore_n 2, 1) := by decide +kernel
theorem dX4_allReviews_4 : decode cX4_allReviews 4 = .ok (.iload_n 2, 1) := by decide +kernel
theorem dX4_allReviews_5 : decode cX4_allReviews 5 = .ok (.bipush 8, 2) := by decide +kernel
theorem dX4_allReviews_7 : decode cX4_allReviews 7 = .ok (.if_icmp .ge 27, 3) := by decide +kernel
theorem dX4_allReviews_10 : decode cX4_allReviews 10 = .ok (.iload_n 1, 1) := by decide +kernel
theorem dX4_allReviews_11 : decode cX4_allReviews 11 = .ok (.aload_n 0, 1) := by decide +kernel
theorem dX4_allReviews_12 : decode cX4_allReviews 12 = .ok (.getfield 10, 3) := by decide +kernel
theorem dX4_allReviews_15 : decode cX4_allReviews 15 = .ok (.getfield 167, 3) := by decide +kernel
theorem dX4_allReviews_18 : decode cX4_allReviews 18 = .ok (.iload_n 2, 1) := by decide +kernel
theorem dX4_allReviews_19 : decode cX4_allReviews 19 = .ok (.aaload, 1) := by decide +kernel
theorem dX4_allReviews_20 : decode cX4_allReviews 20 = .ok (.invokestatic 334, 3) := by decide +kernel
theorem dX4_allReviews_23 : decode cX4_allReviews 23 = .ok (.invokestatic 178, 3) := by decide +kernel
theorem dX4_allReviews_26 : decode cX4_allReviews 26 = .ok (.iadd, 1) := by decide +kernel
theorem dX4_allReviews_27 : decode cX4_allReviews 27 = .ok (.istore_n 1, 1) := by decide +kernel
theorem dX4_allReviews_28 : decode cX4_allReviews 28 = .ok (.iinc 2 1, 3) := by decide +kernel
theorem dX4_allReviews_31 : decode cX4_allReviews 31 = .ok (.goto (-27), 3) := by decide +kernel
theorem dX4_allReviews_34 : decode cX4_allReviews 34 = .ok (.iload_n 1, 1) := by decide +kernel
theorem dX4_allReviews_35 : decode cX4_allReviews 35 = .ok (.ireturn, 1) := by decide +kernel
set_option maxRecDepth 100000 in
set_option maxHeartbeats 4000000 in
theorem mt_X4_allReviews (r0 : Option Nat) (S0 : PH) (y : Int32 × PH) (h : m_X4_allReviews r0 S0 = some y) : MT yX4_allReviews (.code yX4_allReviews cX4_allReviews 3 (Option.some FieldType.int)) 1 22 0 0 [va_rf r0] S0 (oQ e_I (qN y)) := by
  refine mt_of (own := RX4) (l0 := [(0, va_rf r0)]) rfl rfl (by cases r0 <;> exact Nat.le_of_ble_eq_true rfl) (by cases r0 <;> rfl) ?_
  intro Z hC hQ hE hN
  unfold m_X4_allReviews at h
  refine x_iconst (v := (0 : Int32)) hC dX4_allReviews_0 (by decide) ?_
  refine x_istore_n (i := 1) (l' := [(1, .int (0 : Int32)), (0, va_rf r0)]) hC dX4_allReviews_1 rfl (⟨fun _ => c_rf r0, trivial⟩) (by decide) rfl ?_
  refine x_iconst (v := (0 : Int32)) hC dX4_allReviews_2 (by decide) ?_
  refine x_istore_n (i := 2) (l' := [(2, .int (0 : Int32)), (1, .int (0 : Int32)), (0, va_rf r0)]) hC dX4_allReviews_3 rfl (⟨fun _ => rfl, ⟨fun _ => c_rf r0, trivial⟩⟩) (by decide) rfl ?_
  refine x_sub (l' := [(0, va_rf r0), (1, .int (0 : Int32)), (2, .int (0 : Int32))]) [2, 1, 0] rfl ?_
  refine lp_sim (P := fun (t : (Int32 × Int32 × PH)) => PX Z 3 t.2.2 0 0 4 [(0, va_rf r0), (1, .int t.1), (2, .int t.2.1)] []) (G := fun r => r = y) ?_ h rfl
  clear h
  intro t x_4 h hg_4
  obtain ⟨v1, v2, S3⟩ := t
  show PX Z 3 S3 0 0 4 [(0, va_rf r0), (1, .int v1), (2, .int v2)] []
  unfold st_X4_allReviews_4 at h
  refine x_iload_n (i := 2) hC dX4_allReviews_4 rfl 2 rfl ?_
  refine x_bipush (v := (8 : Int32)) hC dX4_allReviews_5 (by decide) ?_
  refine x_icmp_ge (t := 34) hC dX4_allReviews_7 (by decide) (fun c4 => ?_) (fun c4 => ?_)
  · replace h := it_t c4 h
    replace h := ir_x h hg_4
    refine x_iload_n (i := 1) hC dX4_allReviews_34 rfl 1 rfl ?_
    exact x_iret hC hQ (z_N (Option.some.inj h)) (Nat.le_of_ble_eq_true rfl) (Nat.le_of_ble_eq_true rfl) dX4_allReviews_35
  · replace h := it_f c4 h
    refine x_iload_n (i := 1) hC dX4_allReviews_10 rfl 1 rfl ?_
    refine x_aload_n (i := 0) hC dX4_allReviews_11 rfl 0 rfl ?_
    replace h := dr_el h
    obtain ⟨a5, ea6, ha7, h⟩ := h
    refine x_getR hC ea6 ha7 kf_4 0 (by decide) rfl q_175 dX4_allReviews_12 ?_
    replace h := dr_el h
    obtain ⟨a8, ea9, ha10, h⟩ := h
    refine x_getR hC ea9 ha10 kf_2 10 (by decide) rfl q_58 dX4_allReviews_15 ?_
    refine x_iload_n (i := 2) hC dX4_allReviews_18 rfl 2 rfl ?_
    replace h := dr_el h
    obtain ⟨a11, ea12, ha13, h⟩ := h
    replace h := ck_el h
    obtain ⟨hc14, h⟩ := h
    refine x_aaload9 hC ea12 ha13 hc14 dX4_allReviews_19 ?_
    replace h := bd_el h
    obtain ⟨v15, S16, hb17, h⟩ := h
    refine x_callS hC (st := [.int v1]) (mt_X4_reviewersIn _ _ _ hb17) q_231 q_232 q_1 q_233 hy_X4_reviewersIn ⟨Nat.le_of_ble_eq_true rfl, Nat.le_of_ble_eq_true rfl⟩ ⟨Nat.le_of_ble_eq_true rfl, Nat.le_of_ble_eq_true rfl⟩ rfl (Nat.le_of_ble_eq_true rfl) dX4_allReviews_20 (r_N ?_) r_NX
    show PX Z 3 S16 0 0 23 [(0, va_rf r0), (1, .int v1), (2, .int v2)] [.int v15, .int v1]
    replace h := bd_el h
    obtain ⟨v18, S19, hb20, h⟩ := h
    refine x_callS hC (st := [.int v1]) (mt_J6_bitCount_0f7a4 _ _ _ hb20) q_234 q_235 q_15 q_236 hy_J6_bitCount_0f7a4 ⟨Nat.le_of_ble_eq_true rfl, Nat.le_of_ble_eq_true rfl⟩ ⟨Nat.le_of_ble_eq_true rfl, Nat.le_of_ble_eq_true rfl⟩ rfl (Nat.le_of_ble_eq_true rfl) dX4_allReviews_23 (r_N ?_) r_NX
    show PX Z 3 S19 0 0 26 [(0, va_rf r0), (1, .int v1), (2, .int v2)] [.int v18, .int v1]
    refine x_iadd hC dX4_allReviews_26 ?_
    replace h := le_el h
    obtain ⟨x21, hx22, h⟩ := h
    refine x_tI hx22 ?_
    refine x_istore_n (i := 1) (l' := [(1, .int x21), (0, va_rf r0), (2, .int v2)]) hC dX4_allReviews_27 rfl (⟨fun _ => c_rf r0, ⟨fun _ => rfl, ⟨fun _ => rfl, trivial⟩⟩⟩) (by decide) rfl ?_
    refine x_iinc (i := 2) (v := (v2 + (1 : Int32))) (l' := [(2, .int (v2 + (1 : Int32))), (1, .int x21), (0, va_rf r0)]) hC dX4_allReviews_28 2 rfl rfl (⟨fun _ => rfl, ⟨fun _ => c_rf r0, ⟨fun _ => rfl, trivial⟩⟩⟩) (by decide) rfl ?_
    refine x_goto (t := 4) hC dX4_allReviews_31 (by decide) ?_
    refine x_sub (l' := [(0, va_rf r0), (1, .int x21), (2, .int (v2 + (1 : Int32)))]) [2, 1, 0] rfl ?_
    have hb := bk_x h hg_4
    exact hb
theorem dX4_allWritten_0 : decode cX4_allWritten 0 = .ok (.iconst 0, 1) := by decide +kernel
theorem dX4_allWritten_1 : decode cX4_allWritten 1 = .ok (.istore_n 1, 1) := by decide +kernel
theorem dX4_allWritten_2 : decode cX4_allWritten 2 = .ok (.iconst 0, 1) := by decide +kernel
theorem dX4_allWritten_3 : decode cX4_allWritten 3 = .ok (.istore_n 2, 1) := by decide +kernel
theorem dX4_allWritten_4 : decode cX4_allWritten 4 = .ok (.iload_n 2, 1) := by decide +kernel
theorem dX4_allWritten_5 : decode cX4_allWritten 5 = .ok (.bipush 8, 2) := by decide +kernel
theorem dX4_allWritten_7 : decode cX4_allWritten 7 = .ok (.if_icmp .ge 27, 3) := by decide +kernel
theorem dX4_allWritten_10 : decode cX4_allWritten 10 = .ok (.iload_n 1, 1) := by decide +kernel
theorem dX4_allWritten_11 : decode cX4_allWritten 11 = .ok (.aload_n 0, 1) := by decide +kernel
theorem dX4_allWritten_12 : decode cX4_allWritten 12 = .ok (.getfield 10, 3) := by decide +kernel
theorem dX4_allWritten_15 : decode cX4_allWritten 15 = .ok (.getfield 167, 3) := by decide +kernel
theorem dX4_allWritten_18 : decode cX4_allWritten 18 = .ok (.iload_n 2, 1) := by decide +kernel
theorem dX4_allWritten_19 : decode cX4_allWritten 19 = .ok (.aaload, 1) := by decide +kernel
theorem dX4_allWritten_20 : decode cX4_allWritten 20 = .ok (.invokestatic 175, 3) := by decide +kernel
theorem dX4_allWritten_23 : decode cX4_allWritten 23 = .ok (.invokestatic 178, 3) := by decide +kernel
theorem dX4_allWritten_26 : decode cX4_allWritten 26 = .ok (.iadd, 1) := by decide +kernel
theorem dX4_allWritten_27 : decode cX4_allWritten 27 = .ok (.istore_n 1, 1) := by decide +kernel
theorem dX4_allWritten_28 : decode cX4_allWritten 28 = .ok (.iinc 2 1, 3) := by decide +kernel
theorem dX4_allWritten_31 : decode cX4_allWritten 31 = .ok (.goto (-27), 3) := by decide +kernel
theorem dX4_allWritten_34 : decode cX4_allWritten 34 = .ok (.iload_n 1, 1) := by decide +kernel
theorem dX4_allWritten_35 : decode cX4_allWritten 35 = .ok (.ireturn, 1) := by decide +kernel
set_option maxRecDepth 100000 in
set_option maxHeartbeats 4000000 in
theorem mt_X4_allWritten (r0 : Option Nat) (S0 : PH) (y : Int32 × PH) (h : m_X4_allWritten r0 S0 = some y) : MT yX4_allWritten (.code yX4_allWritten cX4_allWritten 3 (Option.some FieldType.int)) 2 42 0 0 [va_rf r0] S0 (oQ e_I (qN y)) := by
  refine mt_of (own := RX4) (l0 := [(0, va_rf r0)]) rfl rfl (by cases r0 <;> exact Nat.le_of_ble_eq_true rfl) (by cases r0 <;> rfl) ?_
  intro Z hC hQ hE hN
  unfold m_X4_allWritten at h
  refine x_iconst (v := (0 : Int32)) hC dX4_allWritten_0 (by decide) ?_
  refine x_istore_n (i := 1) (l' := [(1, .int (0 : Int32)), (0, va_rf r0)]) hC dX4_allWritten_1 rfl (⟨fun _ => c_rf r0, trivial⟩) (by decide) rfl ?_
  refine x_iconst (v := (0 : Int32)) hC dX4_allWritten_2 (by decide) ?_
  refine x_istore_n (i := 2) (l' := [(2, .int (0 : Int32)), (1, .int (0 : Int32)), (0, va_rf r0)]) hC dX4_allWritten_3 rfl (⟨fun _ => rfl, ⟨fun _ => c_rf r0, trivial⟩⟩) (by decide) rfl ?_
  refine x_sub (l' := [(0, va_rf r0), (1, .int (0 : Int32)), (2, .int (0 : Int32))]) [2, 1, 0] rfl ?_
  refine lp_sim (P := fun (t : (Int32 × Int32 × PH)) => PX Z 3 t.2.2 0 0 4 [(0, va_rf r0), (1, .int t.1), (2, .int t.2.1)] []) (G := fun r => r = y) ?_ h rfl
  clear h
  intro t x_4 h hg_4
  obtain ⟨v1, v2, S3⟩ := t
  show PX Z 3 S3 0 0 4 [(0, va_rf r0), (1, .int v1), (2, .int v2)] []
  unfold st_X4_allWritten_4 at h
  refine x_iload_n (i := 2) hC dX4_allWritten_4 rfl 2 rfl ?_
  refine x_bipush (v := (8 : Int32)) hC dX4_allWritten_5 (by decide) ?_
  refine x_icmp_ge (t := 34) hC dX4_allWritten_7 (by decide) (fun c4 => ?_) (fun c4 => ?_)
  · replace h := it_t c4 h
    replace h := ir_x h hg_4
    refine x_iload_n (i := 1) hC dX4_allWritten_34 rfl 1 rfl ?_
    exact x_iret hC hQ (z_N (Option.some.inj h)) (Nat.le_of_ble_eq_true rfl) (Nat.le_of_ble_eq_true rfl) dX4_allWritten_35
  · replace h := it_f c4 h
    refine x_iload_n (i := 1) hC dX4_allWritten_10 rfl 1 rfl ?_
    refine x_aload_n (i := 0) hC dX4_allWritten_11 rfl 0 rfl ?_
    replace h := dr_el h
    obtain ⟨a5, ea6, ha7, h⟩ := h
    refine x_getR hC ea6 ha7 kf_4 0 (by decide) rfl q_175 dX4_allWritten_12 ?_
    replace h := dr_el h
    obtain ⟨a8, ea9, ha10, h⟩ := h
    refine x_getR hC ea9 ha10 kf_2 10 (by decide) rfl q_58 dX4_allWritten_15 ?_
    refine x_iload_n (i := 2) hC dX4_allWritten_18 rfl 2 rfl ?_
    replace h := dr_el h
    obtain ⟨a11, ea12, ha13, h⟩ := h
    replace h := ck_el h
    obtain ⟨hc14, h⟩ := h
    refine x_aaload9 hC ea12 ha13 hc14 dX4_allWritten_19 ?_
    replace h := bd_el h
    obtain ⟨v15, S16, hb17, h⟩ := h
    refine x_callS hC (st := [.int v1]) (mt_X4_writersIn _ _ _ hb17) q_314 q_315 q_1 q_316 hy_X4_writersIn ⟨Nat.le_of_ble_eq_true rfl, Nat.le_of_ble_eq_true rfl⟩ ⟨Nat.le_of_ble_eq_true rfl, Nat.le_of_ble_eq_true rfl⟩ rfl (Nat.le_of_ble_eq_true rfl) dX4_allWritten_20 (r_N ?_) r_NX
    show PX Z 3 S16 0 0 23 [(0, va_rf r0), (1, .int v1), (2, .int v2)] [.int v15, .int v1]
    replace h := bd_el h
    obtain ⟨v18, S19, hb20, h⟩ := h
    refine x_callS hC (st := [.int v1]) (mt_J6_bitCount_0f7a4 _ _ _ hb20) q_234 q_235 q_15 q_236 hy_J6_bitCount_0f7a4 ⟨Nat.le_of_ble_eq_true rfl, Nat.le_of_ble_eq_true rfl⟩ ⟨Nat.le_of_ble_eq_true rfl, Nat.le_of_ble_eq_true rfl⟩ rfl (Nat.le_of_ble_eq_true rfl) dX4_allWritten_23 (r_N ?_) r_NX
    show PX Z 3 S19 0 0 26 [(0, va_rf r0), (1, .int v1), (2, .int v2)] [.int v18, .int v1]
    refine x_iadd hC dX4_allWritten_26 ?_
    replace h := le_el h
    obtain ⟨x21, hx22, h⟩ := h
    refine x_tI hx22 ?_
    refine x_istore_n (i := 1) (l' := [(1, .int x21), (0, va_rf r0), (2, .int v2)]) hC dX4_allWritten_27 rfl (⟨fun _ => c_rf r0, ⟨fun _ => rfl, ⟨fun _ => rfl, trivial⟩⟩⟩) (by decide) rfl ?_
    refine x_iinc (i := 2) (v := (v2 + (1 : Int32))) (l' := [(2, .int (v2 + (1 : Int32))), (1, .int x21), (0, va_rf r0)]) hC dX4_allWritten_28 2 rfl rfl (⟨fun _ => rfl, ⟨fun _ => c_rf r0, ⟨fun _ => rfl, trivial⟩⟩⟩) (by decide) rfl ?_
    refine x_goto (t := 4) hC dX4_allWritten_31 (by decide) ?_
    refine x_sub (l' := [(0, va_rf r0), (1, .int x21), (2, .int (v2 + (1 : Int32)))]) [2, 1, 0] rfl ?_
    have hb := bk_x h hg_4
    exact hb
theorem dX4_decidedPapers_0 : decode cX4_decidedPapers 0 = .ok (.iconst 0, 1) := by decide +kernel
theorem dX4_decidedPapers_1 : decode cX4_decidedPapers 1 = .ok (.istore_n 1, 1) := by decide +kernel
theorem dX4_decidedPapers_2 : decode cX4_decidedPapers 2 = .ok (.iconst 0, 1) := by decide +kernel
theorem dX4_decidedPapers_3 : decode cX4_decidedPapers 3 = .ok (.istore_n 2, 1) := by decide +kernel
theorem dX4_decidedPapers_4 : decode cX4_decidedPapers 4 = .ok (.iload_n 2, 1) := by decide +kernel
theorem dX4_decidedPapers_5 : decode cX4_decidedPapers 5 = .ok (.bipush 8, 2) := by decide +kernel
theorem dX4_decidedPapers_7 : decode cX4_decidedPapers 7 = .ok (.if_icmp .ge 24, 3) := by decide +kernel
theorem dX4_decidedPapers_10 : decode cX4_decidedPapers 10 = .ok (.aload_n 0, 1) := by decide +kernel
theorem dX4_decidedPapers_11 : decode cX4_decidedPapers 11 = .ok (.getfield 10, 3) := by decide +kernel
theorem dX4_decidedPapers_14 : decode cX4_decidedPapers 14 = .ok (.getfield 183, 3) := by decide +kernel
theorem dX4_decidedPapers_17 : decode cX4_decidedPapers 17 = .ok (.iload_n 2, 1) := by decide +kernel
theorem dX4_decidedPapers_18 : decode cX4_decidedPapers 18 = .ok (.iaload, 1) := by decide +kernel
theorem dX4_decidedPapers_19 : decode cX4_decidedPapers 19 = .ok (.ifCond .eq 6, 3) := by decide +kernel
theorem dX4_decidedPapers_22 : decode cX4_decidedPapers 22 = .ok (.iinc 1 1, 3) := by decide +kernel
theorem dX4_decidedPapers_25 : decode cX4_decidedPapers 25 = .ok (.iinc 2 1, 3) := by decide +kernel
theorem dX4_decidedPapers_28 : decode cX4_decidedPapers 28 = .ok (.goto (-24), 3) := by decide +kernel
theorem dX4_decidedPapers_31 : decode cX4_decidedPapers 31 = .ok (.iload_n 1, 1) := by decide +kernel
theorem dX4_decidedPapers_32 : decode cX4_decidedPapers 32 = .ok (.ireturn, 1) := by decide +kernel
set_option maxRecDepth 100000 in
set_option maxHeartbeats 4000000 in
theorem mt_X4_decidedPapers (r0 : Option Nat) (S0 : PH) (y : Int32 × PH) (h : m_X4_decidedPapers r0 S0 = some y) : MT yX4_decidedPapers (.code yX4_decidedPapers cX4_decidedPapers 3 (Option.some FieldType.int)) 0 0 0 0 [va_rf r0] S0 (oQ e_I (qN y)) := by
  refine mt_of (own := RX4) (l0 := [(0, va_rf r0)]) rfl rfl (by cases r0 <;> exact Nat.le_of_ble_eq_true rfl) (by cases r0 <;> rfl) ?_
  intro Z hC hQ hE hN
  unfold m_X4_decidedPapers at h
  refine x_iconst (v := (0 : Int32)) hC dX4_decidedPapers_0 (by decide) ?_
  refine x_istore_n (i := 1) (l' := [(1, .int (0 : Int32)), (0, va_rf r0)]) hC dX4_decidedPapers_1 rfl (⟨fun _ => c_rf r0, trivial⟩) (by decide) rfl ?_
  refine x_iconst (v := (0 : Int32)) hC dX4_decidedPapers_2 (by decide) ?_
  refine x_istore_n (i := 2) (l' := [(2, .int (0 : Int32)), (1, .int (0 : Int32)), (0, va_rf r0)]) hC dX4_decidedPapers_3 rfl (⟨fun _ => rfl, ⟨fun _ => c_rf r0, trivial⟩⟩) (by decide) rfl ?_
  refine x_sub (l' := [(0, va_rf r0), (1, .int (0 : Int32)), (2, .int (0 : Int32))]) [2, 1, 0] rfl ?_
  refine lp_sim (P := fun (t : (Int32 × Int32 × PH)) => PX Z 3 t.2.2 0 0 4 [(0, va_rf r0), (1, .int t.1), (2, .int t.2.1)] []) (G := fun r => r = y) ?_ h rfl
  clear h
  intro t x_4 h hg_4
  obtain ⟨v1, v2, S3⟩ := t
  show PX Z 3 S3 0 0 4 [(0, va_rf r0), (1, .int v1), (2, .int v2)] []
  unfold st_X4_decidedPapers_4 at h
  refine x_iload_n (i := 2) hC dX4_decidedPapers_4 rfl 2 rfl ?_
  refine x_bipush (v := (8 : Int32)) hC dX4_decidedPapers_5 (by decide) ?_
  refine x_icmp_ge (t := 31) hC dX4_decidedPapers_7 (by decide) (fun c4 => ?_) (fun c4 => ?_)
  · replace h := it_t c4 h
    replace h := ir_x h hg_4
    refine x_iload_n (i := 1) hC dX4_decidedPapers_31 rfl 1 rfl ?_
    exact x_iret hC hQ (z_N (Option.some.inj h)) (Nat.le_of_ble_eq_true rfl) (Nat.le_of_ble_eq_true rfl) dX4_decidedPapers_32
  · replace h := it_f c4 h
    refine x_aload_n (i := 0) hC dX4_decidedPapers_10 rfl 0 rfl ?_
    replace h := dr_el h
    obtain ⟨a5, ea6, ha7, h⟩ := h
    refine x_getR hC ea6 ha7 kf_4 0 (by decide) rfl q_175 dX4_decidedPapers_11 ?_
    replace h := dr_el h
    obtain ⟨a8, ea9, ha10, h⟩ := h
    refine x_getR hC ea9 ha10 kf_2 9 (by decide) rfl q_56 dX4_decidedPapers_14 ?_
    refine x_iload_n (i := 2) hC dX4_decidedPapers_17 rfl 2 rfl ?_
    replace h := dr_el h
    obtain ⟨a11, ea12, ha13, h⟩ := h
    replace h := ck_el h
    obtain ⟨hc14, h⟩ := h
    refine x_iaload hC ea12 ha13 hc14 dX4_decidedPapers_18 ?_
    refine x_if_eq (t := 25) hC dX4_decidedPapers_19 (by decide) (fun c15 => ?_) (fun c15 => ?_)
    · replace h := it_t c15 h
      refine x_iinc (i := 2) (v := (v2 + (1 : Int32))) (l' := [(2, .int (v2 + (1 : Int32))), (0, va_rf r0), (1, .int v1)]) hC dX4_decidedPapers_25 2 rfl rfl (⟨fun _ => c_rf r0, ⟨fun _ => rfl, ⟨fun _ => rfl, trivial⟩⟩⟩) (by decide) rfl ?_
      refine x_goto (t := 4) hC dX4_decidedPapers_28 (by decide) ?_
      refine x_sub (l' := [(0, va_rf r0), (1, .int v1), (2, .int (v2 + (1 : Int32)))]) [1, 2, 0] rfl ?_
      have hb := bk_x h hg_4
      exact hb
    · replace h := it_f c15 h
      refine x_iinc (i := 1) (v := (v1 + (1 : Int32))) (l' := [(1, .int (v1 + (1 : Int32))), (0, va_rf r0), (2, .int v2)]) hC dX4_decidedPapers_22 1 rfl rfl (⟨fun _ => c_rf r0, ⟨fun _ => rfl, ⟨fun _ => rfl, trivial⟩⟩⟩) (by decide) rfl ?_
      refine x_iinc (i := 2) (v := (v2 + (1 : Int32))) (l' := [(2, .int (v2 + (1 : Int32))), (1, .int (v1 + (1 : Int32))), (0, va_rf r0)]) hC dX4_decidedPapers_25 2 rfl rfl (⟨fun _ => rfl, ⟨fun _ => c_rf r0, ⟨fun _ => rfl, trivial⟩⟩⟩) (by decide) rfl ?_
      refine x_goto (t := 4) hC dX4_decidedPapers_28 (by decide) ?_
      refine x_sub (l' := [(0, va_rf r0), (1, .int (v1 + (1 : Int32))), (2, .int (v2 + (1 : Int32)))]) [2, 1, 0] rfl ?_
      have hb := bk_x h hg_4
      exact hb
theorem dX4_pairsWorked_0 : decode cX4_pairsWorked 0 = .ok (.iconst 0, 1) := by decide +kernel
theorem dX4_pairsWorked_1 : decode cX4_pairsWorked 1 = .ok (.istore_n 1, 1) := by decide +kernel
theorem dX4_pairsWorked_2 : decode cX4_pairsWorked 2 = .ok (.iconst 0, 1) := by decide +kernel
theorem dX4_pairsWorked_3 : decode cX4_pairsWorked 3 = .ok (.istore_n 2, 1) := by decide +kernel
theorem dX4_pairsWorked_4 : decode cX4_pairsWorked 4 = .ok (.iload_n 2, 1) := by decide +kernel
theorem dX4_pairsWorked_5 : decode cX4_pairsWorked 5 = .ok (.bipush 8, 2) := by decide +kernel
theorem dX4_pairsWorked_7 : decode cX4_pairsWorked 7 = .ok (.if_icmp .ge 24, 3) := by decide +kernel
theorem dX4_pairsWorked_10 : decode cX4_pairsWorked 10 = .ok (.iload_n 1, 1) := by decide +kernel
theorem dX4_pairsWorked_11 : decode cX4_pairsWorked 11 = .ok (.aload_n 0, 1) := by decide +kernel
theorem dX4_pairsWorked_12 : decode cX4_pairsWorked 12 = .ok (.getfield 10, 3) := by decide +kernel
theorem dX4_pairsWorked_15 : decode cX4_pairsWorked 15 = .ok (.getfield 84, 3) := by decide +kernel
theorem dX4_pairsWorked_18 : decode cX4_pairsWorked 18 = .ok (.iload_n 2, 1) := by decide +kernel
theorem dX4_pairsWorked_19 : decode cX4_pairsWorked 19 = .ok (.iaload, 1) := by decide +kernel
theorem dX4_pairsWorked_20 : decode cX4_pairsWorked 20 = .ok (.invokestatic 178, 3) := by decide +kernel
theorem dX4_pairsWorked_23 : decode cX4_pairsWorked 23 = .ok (.iadd, 1) := by decide +kernel
theorem dX4_pairsWorked_24 : decode cX4_pairsWorked 24 = .ok (.istore_n 1, 1) := by decide +kernel
theorem dX4_pairsWorked_25 : decode cX4_pairsWorked 25 = .ok (.iinc 2 1, 3) := by decide +kernel
theorem dX4_pairsWorked_28 : decode cX4_pairsWorked 28 = .ok (.goto (-24), 3) := by decide +kernel
theorem dX4_pairsWorked_31 : decode cX4_pairsWorked 31 = .ok (.iload_n 1, 1) := by decide +kernel
theorem dX4_pairsWorked_32 : decode cX4_pairsWorked 32 = .ok (.iconst 2, 1) := by decide +kernel
theorem dX4_pairsWorked_33 : decode cX4_pairsWorked 33 = .ok (.idiv, 1) := by decide +kernel
theorem dX4_pairsWorked_34 : decode cX4_pairsWorked 34 = .ok (.ireturn, 1) := by decide +kernel
set_option maxRecDepth 100000 in
set_option maxHeartbeats 4000000 in
theorem mt_X4_pairsWorked (r0 : Option Nat) (S0 : PH) (y : Int32 × PH) (h : m_X4_pairsWorked r0 S0 = some y) : MT yX4_pairsWorked (.code yX4_pairsWorked cX4_pairsWorked 3 (Option.some FieldType.int)) 1 20 0 0 [va_rf r0] S0 (oQ e_I (qN y)) := by
  refine mt_of (own := RX4) (l0 := [(0, va_rf r0)]) rfl rfl (by cases r0 <;> exact Nat.le_of_ble_eq_true rfl) (by cases r0 <;> rfl) ?_
  intro Z hC hQ hE hN
  unfold m_X4_pairsWorked at h
  refine x_iconst (v := (0 : Int32)) hC dX4_pairsWorked_0 (by decide) ?_
  refine x_istore_n (i := 1) (l' := [(1, .int (0 : Int32)), (0, va_rf r0)]) hC dX4_pairsWorked_1 rfl (⟨fun _ => c_rf r0, trivial⟩) (by decide) rfl ?_
  refine x_iconst (v := (0 : Int32)) hC dX4_pairsWorked_2 (by decide) ?_
  refine x_istore_n (i := 2) (l' := [(2, .int (0 : Int32)), (1, .int (0 : Int32)), (0, va_rf r0)]) hC dX4_pairsWorked_3 rfl (⟨fun _ => rfl, ⟨fun _ => c_rf r0, trivial⟩⟩) (by decide) rfl ?_
  refine x_sub (l' := [(0, va_rf r0), (1, .int (0 : Int32)), (2, .int (0 : Int32))]) [2, 1, 0] rfl ?_
  refine lp_sim (P := fun (t : (Int32 × Int32 × PH)) => PX Z 3 t.2.2 0 0 4 [(0, va_rf r0), (1, .int t.1), (2, .int t.2.1)] []) (G := fun r => r = y) ?_ h rfl
  clear h
  intro t x_4 h hg_4
  obtain ⟨v1, v2, S3⟩ := t
  show PX Z 3 S3 0 0 4 [(0, va_rf r0), (1, .int v1), (2, .int v2)] []
  unfold st_X4_pairsWorked_4 at h
  refine x_iload_n (i := 2) hC dX4_pairsWorked_4 rfl 2 rfl ?_
  refine x_bipush (v := (8 : Int32)) hC dX4_pairsWorked_5 (by decide) ?_
  refine x_icmp_ge (t := 31) hC dX4_pairsWorked_7 (by decide) (fun c4 => ?_) (fun c4 => ?_)
  · replace h := it_t c4 h
    replace h := ir_x h hg_4
    refine x_iload_n (i := 1) hC dX4_pairsWorked_31 rfl 1 rfl ?_
    refine x_iconst (v := (2 : Int32)) hC dX4_pairsWorked_32 (by decide) ?_
    refine x_idiv hC dX4_pairsWorked_33 (by decide) ?_
    exact x_iret hC hQ (z_N (Option.some.inj h)) (Nat.le_of_ble_eq_true rfl) (Nat.le_of_ble_eq_true rfl) dX4_pairsWorked_34
  · replace h := it_f c4 h
    refine x_iload_n (i := 1) hC dX4_pairsWorked_10 rfl 1 rfl ?_
    refine x_aload_n (i := 0) hC dX4_pairsWorked_11 rfl 0 rfl ?_
    replace h := dr_el h
    obtain ⟨a5, ea6, ha7, h⟩ := h
    refine x_getR hC ea6 ha7 kf_4 0 (by decide) rfl q_175 dX4_pairsWorked_12 ?_
    replace h := dr_el h
    obtain ⟨a8, ea9, ha10, h⟩ := h
    refine x_getR hC ea9 ha10 kf_2 1 (by decide) rfl q_40 dX4_pairsWorked_15 ?_
    refine x_iload_n (i := 2) hC dX4_pairsWorked_18 rfl 2 rfl ?_
    replace h := dr_el h
    obtain ⟨a11, ea12, ha13, h⟩ := h
    replace h := ck_el h
    obtain ⟨hc14, h⟩ := h
    refine x_iaload hC ea12 ha13 hc14 dX4_pairsWorked_19 ?_
    replace h := bd_el h
    obtain ⟨v15, S16, hb17, h⟩ := h
    refine x_callS hC (st := [.int v1]) (mt_J6_bitCount_0f7a4 _ _ _ hb17) q_234 q_235 q_15 q_236 hy_J6_bitCount_0f7a4 ⟨Nat.le_of_ble_eq_true rfl, Nat.le_of_ble_eq_true rfl⟩ ⟨Nat.le_of_ble_eq_true rfl, Nat.le_of_ble_eq_true rfl⟩ rfl (Nat.le_of_ble_eq_true rfl) dX4_pairsWorked_20 (r_N ?_) r_NX
    show PX Z 3 S16 0 0 23 [(0, va_rf r0), (1, .int v1), (2, .int v2)] [.int v15, .int v1]
    refine x_iadd hC dX4_pairsWorked_23 ?_
    replace h := le_el h
    obtain ⟨x18, hx19, h⟩ := h
    refine x_tI hx19 ?_
    refine x_istore_n (i := 1) (l' := [(1, .int x18), (0, va_rf r0), (2, .int v2)]) hC dX4_pairsWorked_24 rfl (⟨fun _ => c_rf r0, ⟨fun _ => rfl, ⟨fun _ => rfl, trivial⟩⟩⟩) (by decide) rfl ?_
    refine x_iinc (i := 2) (v := (v2 + (1 : Int32))) (l' := [(2, .int (v2 + (1 : Int32))), (1, .int x18), (0, va_rf r0)]) hC dX4_pairsWorked_25 2 rfl rfl (⟨fun _ => rfl, ⟨fun _ => c_rf r0, ⟨fun _ => rfl, trivial⟩⟩⟩) (by decide) rfl ?_
    refine x_goto (t := 4) hC dX4_pairsWorked_28 (by decide) ?_
    refine x_sub (l' := [(0, va_rf r0), (1, .int x18), (2, .int (v2 + (1 : Int32)))]) [2, 1, 0] rfl ?_
    have hb := bk_x h hg_4
    exact hb
theorem dX4_number_0 : decode cX4_number 0 = .ok (.iload_n 1, 1) := by decide +kernel
theorem dX4_number_1 : decode cX4_number 1 = .ok (.tableswitch 132 0 10 #[59, 67, 75, 83, 88, 93, 104, 109, 114, 119, 127], 59) := by decide +kernel
theorem dX4_number_60 : decode cX4_number 60 = .ok (.aload_n 0, 1) := by decide +kernel
theorem dX4_number_61 : decode cX4_number 61 = .ok (.getfield 10, 3) := by decide +kernel
theorem dX4_number_64 : decode cX4_number 64 = .ok (.getfield 54, 3) := by decide +kernel
theorem dX4_number_67 : decode cX4_number 67 = .ok (.ireturn, 1) := by decide +kernel
theorem dX4_number_68 : decode cX4_number 68 = .ok (.aload_n 0, 1) := by decide +kernel
theorem dX4_number_69 : decode cX4_number 69 = .ok (.getfield 10, 3) := by decide +kernel
theorem dX4_number_72 : decode cX4_number 72 = .ok (.getfield 303, 3) := by decide +kernel
theorem dX4_number_75 : decode cX4_number 75 = .ok (.ireturn, 1) := by decide +kernel
theorem dX4_number_76 : decode cX4_number 76 = .ok (.aload_n 0, 1) := by decide +kernel
theorem dX4_number_77 : decode cX4_number 77 = .ok (.getfield 10, 3) := by decide +kernel
theorem dX4_number_80 : decode cX4_number 80 = .ok (.getfield 112, 3) := by decide +kernel
theorem dX4_number_83 : decode cX4_number 83 = .ok (.ireturn, 1) := by decide +kernel
theorem dX4_number_84 : decode cX4_number 84 = .ok (.aload_n 0, 1) := by decide +kernel
theorem dX4_number_85 : decode cX4_number 85 = .ok (.invokevirtual 319, 3) := by decide +kernel
theorem dX4_number_88 : decode cX4_number 88 = .ok (.ireturn, 1) := by decide +kernel
theorem dX4_number_89 : decode cX4_number 89 = .ok (.aload_n 0, 1) := by decide +kernel
theorem dX4_number_90 : decode cX4_number 90 = .ok (.invokevirtual 396, 3) := by decide +kernel
theorem dX4_number_93 : decode cX4_number 93 = .ok (.ireturn, 1) := by decide +kernel
theorem dX4_number_94 : decode cX4_number 94 = .ok (.bipush 100, 2) := by decide +kernel
theorem dX4_number_96 : decode cX4_number 96 = .ok (.aload_n 0, 1) := by decide +kernel
theorem dX4_number_97 : decode cX4_number 97 = .ok (.getfield 10, 3) := by decide +kernel
theorem dX4_number_100 : decode cX4_number 100 = .ok (.getfield 107, 3) := by decide +kernel
theorem dX4_number_103 : decode cX4_number 103 = .ok (.iadd, 1) := by decide +kernel
theorem dX4_number_104 : decode cX4_number 104 = .ok (.ireturn, 1) := by decide +kernel
theorem dX4_number_105 : decode cX4_number 105 = .ok (.aload_n 0, 1) := by decide +kernel
theorem dX4_number_106 : decode cX4_number 106 = .ok (.invokevirtual 399, 3) := by decide +kernel
theorem dX4_number_109 : decode cX4_number 109 = .ok (.ireturn, 1) := by decide +kernel
theorem dX4_number_110 : decode cX4_number 110 = .ok (.aload_n 0, 1) := by decide +kernel
theorem dX4_number_111 : decode cX4_number 111 = .ok (.invokevirtual 402, 3) := by decide +kernel
theorem dX4_number_114 : decode cX4_number 114 = .ok (.ireturn, 1) := by decide +kernel
theorem dX4_number_115 : decode cX4_number 115 = .ok (.aload_n 0, 1) := by decide +kernel
theorem dX4_number_116 : decode cX4_number 116 = .ok (.invokevirtual 405, 3) := by decide +kernel
theorem dX4_number_119 : decode cX4_number 119 = .ok (.ireturn, 1) := by decide +kernel
theorem dX4_number_120 : decode cX4_number 120 = .ok (.aload_n 0, 1) := by decide +kernel
theorem dX4_number_121 : decode cX4_number 121 = .ok (.getfield 10, 3) := by decide +kernel
theorem dX4_number_124 : decode cX4_number 124 = .ok (.getfield 331, 3) := by decide +kernel
theorem dX4_number_127 : decode cX4_number 127 = .ok (.ireturn, 1) := by decide +kernel
theorem dX4_number_128 : decode cX4_number 128 = .ok (.aload_n 0, 1) := by decide +kernel
theorem dX4_number_129 : decode cX4_number 129 = .ok (.invokevirtual 408, 3) := by decide +kernel
theorem dX4_number_132 : decode cX4_number 132 = .ok (.ireturn, 1) := by decide +kernel
theorem dX4_number_133 : decode cX4_number 133 = .ok (.aload_n 0, 1) := by decide +kernel
theorem dX4_number_134 : decode cX4_number 134 = .ok (.getfield 19, 3) := by decide +kernel
theorem dX4_number_137 : decode cX4_number 137 = .ok (.getfield 224, 3) := by decide +kernel
theorem dX4_number_140 : decode cX4_number 140 = .ok (.ireturn, 1) := by decide +kernel
set_option maxRecDepth 100000 in
set_option maxHeartbeats 4000000 in
theorem mt_X4_number (r0 : Option Nat) (i1 : Int32) (S0 : PH) (y : Int32 × PH) (h : m_X4_number r0 i1 S0 = some y) : MT yX4_number (.code yX4_number cX4_number 2 (Option.some FieldType.int)) 3 64 0 0 [va_rf r0, .int i1] S0 (oQ e_I (qN y)) := by
  refine mt_of (own := RX4) (l0 := [(0, va_rf r0), (1, .int i1)]) rfl rfl (by cases r0 <;> exact Nat.le_of_ble_eq_true rfl) (by cases r0 <;> rfl) ?_
  intro Z hC hQ hE hN
  unfold m_X4_number at h
  refine x_iload_n (i := 1) hC dX4_number_0 rfl 1 rfl ?_
  rcases Decidable.em (i1 = (0 : Int32)) with c1 | c1
  · replace h := it_t c1 h
    refine x_tabIn (off := 59) (t := 60) hC dX4_number_1 (by rw [c1]; decide) (by rw [c1]; decide) (by rw [c1]; decide) (by decide) ?_
    refine x_aload_n (i := 0) hC dX4_number_60 rfl 0 rfl ?_
    replace h := dr_el h
    obtain ⟨a2, ea3, ha4, h⟩ := h
    refine x_getR hC ea3 ha4 kf_4 0 (by decide) rfl q_175 dX4_number_61 ?_
    replace h := dr_el h
    obtain ⟨a5, ea6, ha7, h⟩ := h
    refine x_getI hC ea6 ha7 kf_2 12 (by decide) rfl q_62 dX4_number_64 ?_
    exact x_iret hC hQ (z_N (Option.some.inj h)) (Nat.le_of_ble_eq_true rfl) (Nat.le_of_ble_eq_true rfl) dX4_number_67
  replace h := it_f c1 h
  rcases Decidable.em (i1 = (1 : Int32)) with c8 | c8
  · replace h := it_t c8 h
    refine x_tabIn (off := 67) (t := 68) hC dX4_number_1 (by rw [c8]; decide) (by rw [c8]; decide) (by rw [c8]; decide) (by decide) ?_
    refine x_aload_n (i := 0) hC dX4_number_68 rfl 0 rfl ?_
    replace h := dr_el h
    obtain ⟨a9, ea10, ha11, h⟩ := h
    refine x_getR hC ea10 ha11 kf_4 0 (by decide) rfl q_175 dX4_number_69 ?_
    replace h := dr_el h
    obtain ⟨a12, ea13, ha14, h⟩ := h
    refine x_getI hC ea13 ha14 kf_2 13 (by decide) rfl q_64 dX4_number_72 ?_
    exact x_iret hC hQ (z_N (Option.some.inj h)) (Nat.le_of_ble_eq_true rfl) (Nat.le_of_ble_eq_true rfl) dX4_number_75
  replace h := it_f c8 h
  rcases Decidable.em (i1 = (2 : Int32)) with c15 | c15
  · replace h := it_t c15 h
    refine x_tabIn (off := 75) (t := 76) hC dX4_number_1 (by rw [c15]; decide) (by rw [c15]; decide) (by rw [c15]; decide) (by decide) ?_
    refine x_aload_n (i := 0) hC dX4_number_76 rfl 0 rfl ?_
    replace h := dr_el h
    obtain ⟨a16, ea17, ha18, h⟩ := h
    refine x_getR hC ea17 ha18 kf_4 0 (by decide) rfl q_175 dX4_number_77 ?_
    replace h := dr_el h
    obtain ⟨a19, ea20, ha21, h⟩ := h
    refine x_getI hC ea20 ha21 kf_2 14 (by decide) rfl q_66 dX4_number_80 ?_
    exact x_iret hC hQ (z_N (Option.some.inj h)) (Nat.le_of_ble_eq_true rfl) (Nat.le_of_ble_eq_true rfl) dX4_number_83
  replace h := it_f c15 h
  rcases Decidable.em (i1 = (3 : Int32)) with c22 | c22
  · replace h := it_t c22 h
    refine x_tabIn (off := 83) (t := 84) hC dX4_number_1 (by rw [c22]; decide) (by rw [c22]; decide) (by rw [c22]; decide) (by decide) ?_
    refine x_aload_n (i := 0) hC dX4_number_84 rfl 0 rfl ?_
    replace h := dr_el h
    obtain ⟨a23, ea24, ha25, h⟩ := h
    replace h := bd_el h
    obtain ⟨v26, S27, hb28, h⟩ := h
    refine x_callV hC (st := []) (mt_X4_allSpent _ _ _ hb28) ea24 ha25 kf_4 q_288 q_290 qs_8 q_1 q_291 ⟨rfl, hy_X4_allSpent⟩ ⟨Nat.le_of_ble_eq_true rfl, Nat.le_of_ble_eq_true rfl⟩ ⟨Nat.le_of_ble_eq_true rfl, Nat.le_of_ble_eq_true rfl⟩ rfl (Nat.le_of_ble_eq_true rfl) dX4_number_85 (r_N ?_) r_NX
    show PX Z 2 S27 0 0 88 [(0, va_rf r0), (1, .int i1)] [.int v26]
    exact x_iret hC hQ (z_N (Option.some.inj h)) (Nat.le_of_ble_eq_true rfl) (Nat.le_of_ble_eq_true rfl) dX4_number_88
  replace h := it_f c22 h
  rcases Decidable.em (i1 = (4 : Int32)) with c29 | c29
  · replace h := it_t c29 h
    refine x_tabIn (off := 88) (t := 89) hC dX4_number_1 (by rw [c29]; decide) (by rw [c29]; decide) (by rw [c29]; decide) (by decide) ?_
    refine x_aload_n (i := 0) hC dX4_number_89 rfl 0 rfl ?_
    replace h := dr_el h
    obtain ⟨a30, ea31, ha32, h⟩ := h
    replace h := bd_el h
    obtain ⟨v33, S34, hb35, h⟩ := h
    refine x_callV hC (st := []) (mt_X4_allTokens _ _ _ hb35) ea31 ha32 kf_4 q_302 q_304 qs_10 q_1 q_305 ⟨rfl, hy_X4_allTokens⟩ ⟨Nat.le_of_ble_eq_true rfl, Nat.le_of_ble_eq_true rfl⟩ ⟨Nat.le_of_ble_eq_true rfl, Nat.le_of_ble_eq_true rfl⟩ rfl (Nat.le_of_ble_eq_true rfl) dX4_number_90 (r_N ?_) r_NX
    show PX Z 2 S34 0 0 93 [(0, va_rf r0), (1, .int i1)] [.int v33]
    exact x_iret hC hQ (z_N (Option.some.inj h)) (Nat.le_of_ble_eq_true rfl) (Nat.le_of_ble_eq_true rfl) dX4_number_93
  replace h := it_f c29 h
  rcases Decidable.em (i1 = (5 : Int32)) with c36 | c36
  · replace h := it_t c36 h
    refine x_tabIn (off := 93) (t := 94) hC dX4_number_1 (by rw [c36]; decide) (by rw [c36]; decide) (by rw [c36]; decide) (by decide) ?_
    refine x_bipush (v := (100 : Int32)) hC dX4_number_94 (by decide) ?_
    refine x_aload_n (i := 0) hC dX4_number_96 rfl 0 rfl ?_
    replace h := dr_el h
    obtain ⟨a37, ea38, ha39, h⟩ := h
    refine x_getR hC ea38 ha39 kf_4 0 (by decide) rfl q_175 dX4_number_97 ?_
    replace h := dr_el h
    obtain ⟨a40, ea41, ha42, h⟩ := h
    refine x_getI hC ea41 ha42 kf_2 15 (by decide) rfl q_68 dX4_number_100 ?_
    refine x_iadd hC dX4_number_103 ?_
    exact x_iret hC hQ (z_N (Option.some.inj h)) (Nat.le_of_ble_eq_true rfl) (Nat.le_of_ble_eq_true rfl) dX4_number_104
  replace h := it_f c36 h
  rcases Decidable.em (i1 = (6 : Int32)) with c43 | c43
  · replace h := it_t c43 h
    refine x_tabIn (off := 104) (t := 105) hC dX4_number_1 (by rw [c43]; decide) (by rw [c43]; decide) (by rw [c43]; decide) (by decide) ?_
    refine x_aload_n (i := 0) hC dX4_number_105 rfl 0 rfl ?_
    replace h := dr_el h
    obtain ⟨a44, ea45, ha46, h⟩ := h
    replace h := bd_el h
    obtain ⟨v47, S48, hb49, h⟩ := h
    refine x_callV hC (st := []) (mt_X4_allReviews _ _ _ hb49) ea45 ha46 kf_4 q_306 q_308 qs_11 q_1 q_309 ⟨rfl, hy_X4_allReviews⟩ ⟨Nat.le_of_ble_eq_true rfl, Nat.le_of_ble_eq_true rfl⟩ ⟨Nat.le_of_ble_eq_true rfl, Nat.le_of_ble_eq_true rfl⟩ rfl (Nat.le_of_ble_eq_true rfl) dX4_number_106 (r_N ?_) r_NX
    show PX Z 2 S48 0 0 109 [(0, va_rf r0), (1, .int i1)] [.int v47]
    exact x_iret hC hQ (z_N (Option.some.inj h)) (Nat.le_of_ble_eq_true rfl) (Nat.le_of_ble_eq_true rfl) dX4_number_109
  replace h := it_f c43 h
  rcases Decidable.em (i1 = (7 : Int32)) with c50 | c50
  · replace h := it_t c50 h
    refine x_tabIn (off := 109) (t := 110) hC dX4_number_1 (by rw [c50]; decide) (by rw [c50]; decide) (by rw [c50]; decide) (by decide) ?_
    refine x_aload_n (i := 0) hC dX4_number_110 rfl 0 rfl ?_
    replace h := dr_el h
    obtain ⟨a51, ea52, ha53, h⟩ := h
    replace h := bd_el h
    obtain ⟨v54, S55, hb56, h⟩ := h
    refine x_callV hC (st := []) (mt_X4_allWritten _ _ _ hb56) ea52 ha53 kf_4 q_310 q_312 qs_12 q_1 q_313 ⟨rfl, hy_X4_allWritten⟩ ⟨Nat.le_of_ble_eq_true rfl, Nat.le_of_ble_eq_true rfl⟩ ⟨Nat.le_of_ble_eq_true rfl, Nat.le_of_ble_eq_true rfl⟩ rfl (Nat.le_of_ble_eq_true rfl) dX4_number_111 (r_N ?_) r_NX
    show PX Z 2 S55 0 0 114 [(0, va_rf r0), (1, .int i1)] [.int v54]
    exact x_iret hC hQ (z_N (Option.some.inj h)) (Nat.le_of_ble_eq_true rfl) (Nat.le_of_ble_eq_true rfl) dX4_number_114
  replace h := it_f c50 h
  rcases Decidable.em (i1 = (8 : Int32)) with c57 | c57
  · replace h := it_t c57 h
    refine x_tabIn (off := 114) (t := 115) hC dX4_number_1 (by rw [c57]; decide) (by rw [c57]; decide) (by rw [c57]; decide) (by decide) ?_
    refine x_aload_n (i := 0) hC dX4_number_115 rfl 0 rfl ?_
    replace h := dr_el h
    obtain ⟨a58, ea59, ha60, h⟩ := h
    replace h := bd_el h
    obtain ⟨v61, S62, hb63, h⟩ := h
    refine x_callV hC (st := []) (mt_X4_decidedPapers _ _ _ hb63) ea59 ha60 kf_4 q_320 q_322 qs_13 q_1 q_323 ⟨rfl, hy_X4_decidedPapers⟩ ⟨Nat.le_of_ble_eq_true rfl, Nat.le_of_ble_eq_true rfl⟩ ⟨Nat.le_of_ble_eq_true rfl, Nat.le_of_ble_eq_true rfl⟩ rfl (Nat.le_of_ble_eq_true rfl) dX4_number_116 (r_N ?_) r_NX
    show PX Z 2 S62 0 0 119 [(0, va_rf r0), (1, .int i1)] [.int v61]
    exact x_iret hC hQ (z_N (Option.some.inj h)) (Nat.le_of_ble_eq_true rfl) (Nat.le_of_ble_eq_true rfl) dX4_number_119
  replace h := it_f c57 h
  rcases Decidable.em (i1 = (9 : Int32)) with c64 | c64
  · replace h := it_t c64 h
    refine x_tabIn (off := 119) (t := 120) hC dX4_number_1 (by rw [c64]; decide) (by rw [c64]; decide) (by rw [c64]; decide) (by decide) ?_
    refine x_aload_n (i := 0) hC dX4_number_120 rfl 0 rfl ?_
    replace h := dr_el h
    obtain ⟨a65, ea66, ha67, h⟩ := h
    refine x_getR hC ea66 ha67 kf_4 0 (by decide) rfl q_175 dX4_number_121 ?_
    replace h := dr_el h
    obtain ⟨a68, ea69, ha70, h⟩ := h
    refine x_getI hC ea69 ha70 kf_2 16 (by decide) rfl q_70 dX4_number_124 ?_
    exact x_iret hC hQ (z_N (Option.some.inj h)) (Nat.le_of_ble_eq_true rfl) (Nat.le_of_ble_eq_true rfl) dX4_number_127
  replace h := it_f c64 h
  rcases Decidable.em (i1 = (10 : Int32)) with c71 | c71
  · replace h := it_t c71 h
    refine x_tabIn (off := 127) (t := 128) hC dX4_number_1 (by rw [c71]; decide) (by rw [c71]; decide) (by rw [c71]; decide) (by decide) ?_
    refine x_aload_n (i := 0) hC dX4_number_128 rfl 0 rfl ?_
    replace h := dr_el h
    obtain ⟨a72, ea73, ha74, h⟩ := h
    replace h := bd_el h
    obtain ⟨v75, S76, hb77, h⟩ := h
    refine x_callV hC (st := []) (mt_X4_pairsWorked _ _ _ hb77) ea73 ha74 kf_4 q_324 q_326 qs_14 q_1 q_327 ⟨rfl, hy_X4_pairsWorked⟩ ⟨Nat.le_of_ble_eq_true rfl, Nat.le_of_ble_eq_true rfl⟩ ⟨Nat.le_of_ble_eq_true rfl, Nat.le_of_ble_eq_true rfl⟩ rfl (Nat.le_of_ble_eq_true rfl) dX4_number_129 (r_N ?_) r_NX
    show PX Z 2 S76 0 0 132 [(0, va_rf r0), (1, .int i1)] [.int v75]
    exact x_iret hC hQ (z_N (Option.some.inj h)) (Nat.le_of_ble_eq_true rfl) (Nat.le_of_ble_eq_true rfl) dX4_number_132
  replace h := it_f c71 h
  refine x_tabOut (t := 133) hC dX4_number_1 (tab_o 0 [(0 : Int32), (1 : Int32), (2 : Int32), (3 : Int32), (4 : Int32), (5 : Int32), (6 : Int32), (7 : Int32), (8 : Int32), (9 : Int32), (10 : Int32)] (by decide) (by decide) (List.forall_mem_cons.mpr ⟨c1, List.forall_mem_cons.mpr ⟨c8, List.forall_mem_cons.mpr ⟨c15, List.forall_mem_cons.mpr ⟨c22, List.forall_mem_cons.mpr ⟨c29, List.forall_mem_cons.mpr ⟨c36, List.forall_mem_cons.mpr ⟨c43, List.forall_mem_cons.mpr ⟨c50, List.forall_mem_cons.mpr ⟨c57, List.forall_mem_cons.mpr ⟨c64, List.forall_mem_cons.mpr ⟨c71, fun _ q => nomatch q⟩⟩⟩⟩⟩⟩⟩⟩⟩⟩⟩)) (by decide) ?_
  refine x_aload_n (i := 0) hC dX4_number_133 rfl 0 rfl ?_
  replace h := dr_el h
  obtain ⟨a78, ea79, ha80, h⟩ := h
  refine x_getR hC ea79 ha80 kf_4 1 (by decide) rfl q_176 dX4_number_134 ?_
  replace h := dr_el h
  obtain ⟨a81, ea82, ha83, h⟩ := h
  refine x_getI hC ea82 ha83 kf_0 2 (by decide) rfl q_118 dX4_number_137 ?_
  exact x_iret hC hQ (z_N (Option.some.inj h)) (Nat.le_of_ble_eq_true rfl) (Nat.le_of_ble_eq_true rfl) dX4_number_140
theorem dX4_count_0 : decode cX4_count 0 = .ok (.iload_n 1, 1) := by decide +kernel
theorem dX4_count_1 : decode cX4_count 1 = .ok (.ifCond .lt 9, 3) := by decide +kernel
theorem dX4_count_4 : decode cX4_count 4 = .ok (.iload_n 1, 1) := by decide +kernel
theorem dX4_count_5 : decode cX4_count 5 = .ok (.bipush 12, 2) := by decide +kernel
theorem dX4_count_7 : decode cX4_count 7 = .ok (.if_icmp .lt 13, 3) := by decide +kernel
theorem dX4_count_10 : decode cX4_count 10 = .ok (.new 45, 3) := by decide +kernel
theorem dX4_count_13 : decode cX4_count 13 = .ok (.dup, 1) := by decide +kernel
theorem dX4_count_14 : decode cX4_count 14 = .ok (.ldc 237, 2) := by decide +kernel
theorem dX4_count_16 : decode cX4_count 16 = .ok (.invokespecial 49, 3) := by decide +kernel
theorem dX4_count_19 : decode cX4_count 19 = .ok (.athrow, 1) := by decide +kernel
theorem dX4_count_20 : decode cX4_count 20 = .ok (.aload_n 0, 1) := by decide +kernel
theorem dX4_count_21 : decode cX4_count 21 = .ok (.iload_n 1, 1) := by decide +kernel
theorem dX4_count_22 : decode cX4_count 22 = .ok (.invokevirtual 239, 3) := by decide +kernel
theorem dX4_count_25 : decode cX4_count 25 = .ok (.ireturn, 1) := by decide +kernel
set_option maxRecDepth 100000 in
set_option maxHeartbeats 4000000 in
theorem mt_X4_count (r0 : Option Nat) (i1 : Int32) (S0 : PH) (y : (Nat ⊕ Int32) × PH) (h : m_X4_count r0 i1 S0 = some y) : MT yX4_count (.code yX4_count cX4_count 2 (Option.some FieldType.int)) 6 90 1 6 [va_rf r0, .int i1] S0 (oQ e_I (qT y)) := by
  refine mt_of (own := RX4) (l0 := [(0, va_rf r0), (1, .int i1)]) rfl rfl (by cases r0 <;> exact Nat.le_of_ble_eq_true rfl) (by cases r0 <;> rfl) ?_
  intro Z hC hQ hE hN
  have J_10 : ∀ (S2 : PH), j_X4_count_10 r0 i1 S2 = some y → PX Z 2 S2 0 0 10 [(0, va_rf r0), (1, .int i1)] [] := by
    intro S2 h
    unfold j_X4_count_10 at h
    exact x_throw hC hQ hE (j := 0) (z_X (Option.some.inj h)) tx_45_49_0 (List.mem_of_getElem? (i := 24) rfl) (Nat.le_of_ble_eq_true rfl) ⟨Nat.le_of_ble_eq_true rfl, Nat.le_of_ble_eq_true rfl⟩ ⟨Nat.le_of_ble_eq_true rfl, Nat.le_of_ble_eq_true rfl⟩ (Nat.le_of_ble_eq_true rfl) (Nat.le_of_ble_eq_true rfl) dX4_count_10 dX4_count_13 dX4_count_14 dX4_count_16 dX4_count_19
  unfold m_X4_count at h
  refine x_iload_n (i := 1) hC dX4_count_0 rfl 1 rfl ?_
  refine x_if_lt (t := 10) hC dX4_count_1 (by decide) (fun c1 => ?_) (fun c1 => ?_)
  · replace h := it_t c1 h
    exact J_10 _ h
  · replace h := it_f c1 h
    refine x_iload_n (i := 1) hC dX4_count_4 rfl 1 rfl ?_
    refine x_bipush (v := (12 : Int32)) hC dX4_count_5 (by decide) ?_
    refine x_icmp_lt (t := 20) hC dX4_count_7 (by decide) (fun c3 => ?_) (fun c3 => ?_)
    · replace h := it_t c3 h
      refine x_aload_n (i := 0) hC dX4_count_20 rfl 0 rfl ?_
      refine x_iload_n (i := 1) hC dX4_count_21 rfl 1 rfl ?_
      replace h := dr_el h
      obtain ⟨a4, ea5, ha6, h⟩ := h
      replace h := bd_el h
      obtain ⟨v7, S8, hb9, h⟩ := h
      refine x_callV hC (st := []) (mt_X4_number _ _ _ _ hb9) ea5 ha6 kf_4 q_298 q_300 qs_9 q_1 q_301 ⟨rfl, hy_X4_number⟩ ⟨Nat.le_of_ble_eq_true rfl, Nat.le_of_ble_eq_true rfl⟩ ⟨Nat.le_of_ble_eq_true rfl, Nat.le_of_ble_eq_true rfl⟩ rfl (Nat.le_of_ble_eq_true rfl) dX4_count_22 (r_N ?_) r_NX
      show PX Z 2 S8 0 0 25 [(0, va_rf r0), (1, .int i1)] [.int v7]
      exact x_iret hC hQ (z_T (Option.some.inj h)) (Nat.le_of_ble_eq_true rfl) (Nat.le_of_ble_eq_true rfl) dX4_count_25
    · replace h := it_f c3 h
      exact J_10 _ h
theorem dX4_setting_0 : decode cX4_setting 0 = .ok (.iload_n 1, 1) := by decide +kernel
theorem dX4_setting_1 : decode cX4_setting 1 = .ok (.invokestatic 91, 3) := by decide +kernel
theorem dX4_setting_4 : decode cX4_setting 4 = .ok (.aload_n 0, 1) := by decide +kernel
theorem dX4_setting_5 : decode cX4_setting 5 = .ok (.getfield 10, 3) := by decide +kernel
theorem dX4_setting_8 : decode cX4_setting 8 = .ok (.getfield 102, 3) := by decide +kernel
theorem dX4_setting_11 : decode cX4_setting 11 = .ok (.iload_n 1, 1) := by decide +kernel
theorem dX4_setting_12 : decode cX4_setting 12 = .ok (.iaload, 1) := by decide +kernel
theorem dX4_setting_13 : decode cX4_setting 13 = .ok (.ireturn, 1) := by decide +kernel
set_option maxRecDepth 100000 in
set_option maxHeartbeats 4000000 in
theorem mt_X4_setting (r0 : Option Nat) (i1 : Int32) (S0 : PH) (y : (Nat ⊕ Int32) × PH) (h : m_X4_setting r0 i1 S0 = some y) : MT yX4_setting (.code yX4_setting cX4_setting 2 (Option.some FieldType.int)) 7 110 1 6 [va_rf r0, .int i1] S0 (oQ e_I (qT y)) := by
  refine mt_of (own := RX4) (l0 := [(0, va_rf r0), (1, .int i1)]) rfl rfl (by cases r0 <;> exact Nat.le_of_ble_eq_true rfl) (by cases r0 <;> rfl) ?_
  intro Z hC hQ hE hN
  unfold m_X4_setting at h
  refine x_iload_n (i := 1) hC dX4_setting_0 rfl 1 rfl ?_
  replace h := bt_el h
  obtain ⟨v1, S2, hb15, h⟩ | ⟨j3, S4, hb15, h⟩ := h
  · refine x_callS hC (st := []) (mt_X4_requireSetting _ _ _ hb15) q_568 q_569 q_1 q_570 hy_X4_requireSetting ⟨Nat.le_of_ble_eq_true rfl, Nat.le_of_ble_eq_true rfl⟩ ⟨Nat.le_of_ble_eq_true rfl, Nat.le_of_ble_eq_true rfl⟩ rfl (Nat.le_of_ble_eq_true rfl) dX4_setting_1 (r_T ?_) r_TX
    show PX Z 2 S2 1 6 4 [(0, va_rf r0), (1, .int i1)] []
    refine x_aload_n (i := 0) hC dX4_setting_4 rfl 0 rfl ?_
    replace h := dr_el h
    obtain ⟨a5, ea6, ha7, h⟩ := h
    refine x_getR hC ea6 ha7 kf_4 0 (by decide) rfl q_175 dX4_setting_5 ?_
    replace h := dr_el h
    obtain ⟨a8, ea9, ha10, h⟩ := h
    refine x_getR hC ea9 ha10 kf_2 11 (by decide) rfl q_60 dX4_setting_8 ?_
    refine x_iload_n (i := 1) hC dX4_setting_11 rfl 1 rfl ?_
    replace h := dr_el h
    obtain ⟨a11, ea12, ha13, h⟩ := h
    replace h := ck_el h
    obtain ⟨hc14, h⟩ := h
    refine x_iaload hC ea12 ha13 hc14 dX4_setting_12 ?_
    exact x_iret hC hQ (z_T (Option.some.inj h)) (Nat.le_of_ble_eq_true rfl) (Nat.le_of_ble_eq_true rfl) dX4_setting_13
  · refine x_callS hC (st := []) (mt_X4_requireSetting _ _ _ hb15) q_568 q_569 q_1 q_570 hy_X4_requireSetting ⟨Nat.le_of_ble_eq_true rfl, Nat.le_of_ble_eq_true rfl⟩ ⟨Nat.le_of_ble_eq_true rfl, Nat.le_of_ble_eq_true rfl⟩ rfl (Nat.le_of_ble_eq_true rfl) dX4_setting_1 r_X (r_XX ?_)
    exact x_out hC hQ hE (z_X (Option.some.inj h)) (Nat.le_of_ble_eq_true rfl) (Nat.le_of_ble_eq_true rfl)
theorem dX4_whyNot_0 : decode cX4_whyNot 0 = .ok (.iload_n 1, 1) := by decide +kernel
theorem dX4_whyNot_1 : decode cX4_whyNot 1 = .ok (.invokestatic 73, 3) := by decide +kernel
theorem dX4_whyNot_4 : decode cX4_whyNot 4 = .ok (.aload_n 0, 1) := by decide +kernel
theorem dX4_whyNot_5 : decode cX4_whyNot 5 = .ok (.iload_n 2, 1) := by decide +kernel
theorem dX4_whyNot_6 : decode cX4_whyNot 6 = .ok (.invokevirtual 125, 3) := by decide +kernel
theorem dX4_whyNot_9 : decode cX4_whyNot 9 = .ok (.aload_n 0, 1) := by decide +kernel
theorem dX4_whyNot_10 : decode cX4_whyNot 10 = .ok (.iload_n 1, 1) := by decide +kernel
theorem dX4_whyNot_11 : decode cX4_whyNot 11 = .ok (.iload_n 2, 1) := by decide +kernel
theorem dX4_whyNot_12 : decode cX4_whyNot 12 = .ok (.invokevirtual 242, 3) := by decide +kernel
theorem dX4_whyNot_15 : decode cX4_whyNot 15 = .ok (.ireturn, 1) := by decide +kernel
set_option maxRecDepth 100000 in
set_option maxHeartbeats 4000000 in
theorem mt_X4_whyNot (r0 : Option Nat) (i1 : Int32) (i2 : Int32) (S0 : PH) (y : (Nat ⊕ Int32) × PH) (h : m_X4_whyNot r0 i1 i2 S0 = some y) : MT yX4_whyNot (.code yX4_whyNot cX4_whyNot 3 (Option.some FieldType.int)) 7 111 2 12 [va_rf r0, .int i1, .int i2] S0 (oQ e_I (qT y)) := by
  refine mt_of (own := RX4) (l0 := [(0, va_rf r0), (1, .int i1), (2, .int i2)]) rfl rfl (by cases r0 <;> exact Nat.le_of_ble_eq_true rfl) (by cases r0 <;> rfl) ?_
  intro Z hC hQ hE hN
  unfold m_X4_whyNot at h
  refine x_iload_n (i := 1) hC dX4_whyNot_0 rfl 1 rfl ?_
  replace h := bt_el h
  obtain ⟨v1, S2, hb19, h⟩ | ⟨j3, S4, hb19, h⟩ := h
  · refine x_callS hC (st := []) (mt_X4_requirePerson _ _ _ hb19) q_533 q_534 q_1 q_535 hy_X4_requirePerson ⟨Nat.le_of_ble_eq_true rfl, Nat.le_of_ble_eq_true rfl⟩ ⟨Nat.le_of_ble_eq_true rfl, Nat.le_of_ble_eq_true rfl⟩ rfl (Nat.le_of_ble_eq_true rfl) dX4_whyNot_1 (r_T ?_) r_TX
    show PX Z 3 S2 1 6 4 [(0, va_rf r0), (1, .int i1), (2, .int i2)] []
    refine x_aload_n (i := 0) hC dX4_whyNot_4 rfl 0 rfl ?_
    refine x_iload_n (i := 2) hC dX4_whyNot_5 rfl 2 rfl ?_
    replace h := dr_el h
    obtain ⟨a5, ea6, ha7, h⟩ := h
    replace h := bt_el h
    obtain ⟨v8, S9, hb18, h⟩ | ⟨j10, S11, hb18, h⟩ := h
    · refine x_callV hC (st := []) (mt_X4_requirePaper _ _ _ _ hb18) ea6 ha7 kf_4 q_613 q_615 qs_29 q_1 q_616 ⟨rfl, hy_X4_requirePaper⟩ ⟨Nat.le_of_ble_eq_true rfl, Nat.le_of_ble_eq_true rfl⟩ ⟨Nat.le_of_ble_eq_true rfl, Nat.le_of_ble_eq_true rfl⟩ rfl (Nat.le_of_ble_eq_true rfl) dX4_whyNot_6 (r_T ?_) r_TX
      show PX Z 3 S9 2 12 9 [(0, va_rf r0), (1, .int i1), (2, .int i2)] []
      refine x_aload_n (i := 0) hC dX4_whyNot_9 rfl 0 rfl ?_
      refine x_iload_n (i := 1) hC dX4_whyNot_10 rfl 1 rfl ?_
      refine x_iload_n (i := 2) hC dX4_whyNot_11 rfl 2 rfl ?_
      replace h := dr_el h
      obtain ⟨a12, ea13, ha14, h⟩ := h
      replace h := bd_el h
      obtain ⟨v15, S16, hb17, h⟩ := h
      refine x_callV hC (st := []) (mt_X4_reasonAgainstTaking _ _ _ _ _ hb17) ea13 ha14 kf_4 q_372 q_374 qs_23 q_1 q_375 ⟨rfl, hy_X4_reasonAgainstTaking⟩ ⟨Nat.le_of_ble_eq_true rfl, Nat.le_of_ble_eq_true rfl⟩ ⟨Nat.le_of_ble_eq_true rfl, Nat.le_of_ble_eq_true rfl⟩ rfl (Nat.le_of_ble_eq_true rfl) dX4_whyNot_12 (r_N ?_) r_NX
      show PX Z 3 S16 2 12 15 [(0, va_rf r0), (1, .int i1), (2, .int i2)] [.int v15]
      exact x_iret hC hQ (z_T (Option.some.inj h)) (Nat.le_of_ble_eq_true rfl) (Nat.le_of_ble_eq_true rfl) dX4_whyNot_15
    · refine x_callV hC (st := []) (mt_X4_requirePaper _ _ _ _ hb18) ea6 ha7 kf_4 q_613 q_615 qs_29 q_1 q_616 ⟨rfl, hy_X4_requirePaper⟩ ⟨Nat.le_of_ble_eq_true rfl, Nat.le_of_ble_eq_true rfl⟩ ⟨Nat.le_of_ble_eq_true rfl, Nat.le_of_ble_eq_true rfl⟩ rfl (Nat.le_of_ble_eq_true rfl) dX4_whyNot_6 r_X (r_XX ?_)
      exact x_out hC hQ hE (z_X (Option.some.inj h)) (Nat.le_of_ble_eq_true rfl) (Nat.le_of_ble_eq_true rfl)
  · refine x_callS hC (st := []) (mt_X4_requirePerson _ _ _ hb19) q_533 q_534 q_1 q_535 hy_X4_requirePerson ⟨Nat.le_of_ble_eq_true rfl, Nat.le_of_ble_eq_true rfl⟩ ⟨Nat.le_of_ble_eq_true rfl, Nat.le_of_ble_eq_true rfl⟩ rfl (Nat.le_of_ble_eq_true rfl) dX4_whyNot_1 r_X (r_XX ?_)
    exact x_out hC hQ hE (z_X (Option.some.inj h)) (Nat.le_of_ble_eq_true rfl) (Nat.le_of_ble_eq_true rfl)
theorem dX4_bestPersonFor_0 : decode cX4_bestPersonFor 0 = .ok (.iconst (-1), 1) := by decide +kernel
theorem dX4_bestPersonFor_1 : decode cX4_bestPersonFor 1 = .ok (.istore_n 2, 1) := by decide +kernel
theorem dX4_bestPersonFor_2 : decode cX4_bestPersonFor 2 = .ok (.iconst 0, 1) := by decide +kernel
theorem dX4_bestPersonFor_3 : decode cX4_bestPersonFor 3 = .ok (.istore_n 3, 1) := by decide +kernel
theorem dX4_bestPersonFor_4 : decode cX4_bestPersonFor 4 = .ok (.iconst 0, 1) := by decide +kernel
theorem dX4_bestPersonFor_5 : decode cX4_bestPersonFor 5 = .ok (.istore 4, 2) := by decide +kernel
theorem dX4_bestPersonFor_7 : decode cX4_bestPersonFor 7 = .ok (.iconst 0, 1) := by decide +kernel
theorem dX4_bestPersonFor_8 : decode cX4_bestPersonFor 8 = .ok (.istore 5, 2) := by decide +kernel
theorem dX4_bestPersonFor_10 : decode cX4_bestPersonFor 10 = .ok (.iload 5, 2) := by decide +kernel
theorem dX4_bestPersonFor_12 : decode cX4_bestPersonFor 12 = .ok (.bipush 8, 2) := by decide +kernel
theorem dX4_bestPersonFor_14 : decode cX4_bestPersonFor 14 = .ok (.if_icmp .ge 72, 3) := by decide +kernel
theorem dX4_bestPersonFor_17 : decode cX4_bestPersonFor 17 = .ok (.aload_n 0, 1) := by decide +kernel
theorem dX4_bestPersonFor_18 : decode cX4_bestPersonFor 18 = .ok (.iload 5, 2) := by decide +kernel
theorem dX4_bestPersonFor_20 : decode cX4_bestPersonFor 20 = .ok (.iload_n 1, 1) := by decide +kernel
theorem dX4_bestPersonFor_21 : decode cX4_bestPersonFor 21 = .ok (.invokevirtual 242, 3) := by decide +kernel
theorem dX4_bestPersonFor_24 : decode cX4_bestPersonFor 24 = .ok (.ifCond .eq 6, 3) := by decide +kernel
theorem dX4_bestPersonFor_27 : decode cX4_bestPersonFor 27 = .ok (.goto 53, 3) := by decide +kernel
theorem dX4_bestPersonFor_30 : decode cX4_bestPersonFor 30 = .ok (.aload_n 0, 1) := by decide +kernel
theorem dX4_bestPersonFor_31 : decode cX4_bestPersonFor 31 = .ok (.iload 5, 2) := by decide +kernel
theorem dX4_bestPersonFor_33 : decode cX4_bestPersonFor 33 = .ok (.invokevirtual 384, 3) := by decide +kernel
theorem dX4_bestPersonFor_36 : decode cX4_bestPersonFor 36 = .ok (.istore 6, 2) := by decide +kernel
theorem dX4_bestPersonFor_38 : decode cX4_bestPersonFor 38 = .ok (.aload_n 0, 1) := by decide +kernel
theorem dX4_bestPersonFor_39 : decode cX4_bestPersonFor 39 = .ok (.iload 5, 2) := by decide +kernel
theorem dX4_bestPersonFor_41 : decode cX4_bestPersonFor 41 = .ok (.invokevirtual 316, 3) := by decide +kernel
theorem dX4_bestPersonFor_44 : decode cX4_bestPersonFor 44 = .ok (.istore 7, 2) := by decide +kernel
theorem dX4_bestPersonFor_46 : decode cX4_bestPersonFor 46 = .ok (.iload_n 2, 1) := by decide +kernel
theorem dX4_bestPersonFor_47 : decode cX4_bestPersonFor 47 = .ok (.iconst (-1), 1) := by decide +kernel
theorem dX4_bestPersonFor_48 : decode cX4_bestPersonFor 48 = .ok (.if_icmp .eq 22, 3) := by decide +kernel
theorem dX4_bestPersonFor_51 : decode cX4_bestPersonFor 51 = .ok (.iload 6, 2) := by decide +kernel
theorem dX4_bestPersonFor_53 : decode cX4_bestPersonFor 53 = .ok (.iload_n 3, 1) := by decide +kernel
theorem dX4_bestPersonFor_54 : decode cX4_bestPersonFor 54 = .ok (.if_icmp .lt 16, 3) := by decide +kernel
theorem dX4_bestPersonFor_57 : decode cX4_bestPersonFor 57 = .ok (.iload 6, 2) := by decide +kernel
theorem dX4_bestPersonFor_59 : decode cX4_bestPersonFor 59 = .ok (.iload_n 3, 1) := by decide +kernel
theorem dX4_bestPersonFor_60 : decode cX4_bestPersonFor 60 = .ok (.if_icmp .ne 20, 3) := by decide +kernel
theorem dX4_bestPersonFor_63 : decode cX4_bestPersonFor 63 = .ok (.iload 7, 2) := by decide +kernel
theorem dX4_bestPersonFor_65 : decode cX4_bestPersonFor 65 = .ok (.iload 4, 2) := by decide +kernel
theorem dX4_bestPersonFor_67 : decode cX4_bestPersonFor 67 = .ok (.if_icmp .le 13, 3) := by decide +kernel
theorem dX4_bestPersonFor_70 : decode cX4_bestPersonFor 70 = .ok (.iload 5, 2) := by decide +kernel
theorem dX4_bestPersonFor_72 : decode cX4_bestPersonFor 72 = .ok (.istore_n 2, 1) := by decide +kernel
theorem dX4_bestPersonFor_73 : decode cX4_bestPersonFor 73 = .ok (.iload 6, 2) := by decide +kernel
theorem dX4_bestPersonFor_75 : decode cX4_bestPersonFor 75 = .ok (.istore_n 3, 1) := by decide +kernel
theorem dX4_bestPersonFor_76 : decode cX4_bestPersonFor 76 = .ok (.iload 7, 2) := by decide +kernel
theorem dX4_bestPersonFor_78 : decode cX4_bestPersonFor 78 = .ok (.istore 4, 2) := by decide +kernel
theorem dX4_bestPersonFor_80 : decode cX4_bestPersonFor 80 = .ok (.iinc 5 1, 3) := by decide +kernel
theorem dX4_bestPersonFor_83 : decode cX4_bestPersonFor 83 = .ok (.goto (-73), 3) := by decide +kernel
theorem dX4_bestPersonFor_86 : decode cX4_bestPersonFor 86 = .ok (.iload_n 2, 1) := by decide +kernel
theorem dX4_bestPersonFor_87 : decode cX4_bestPersonFor 87 = .ok (.ireturn, 1) := by decide +kernel
set_option maxRecDepth 100000 in
set_option maxHeartbeats 4000000 in
theorem mt_X4_bestPersonFor (r0 : Option Nat) (i1 : Int32) (S0 : PH) (y : Int32 × PH) (h : m_X4_bestPersonFor r0 i1 S0 = some y) : MT yX4_bestPersonFor (.code yX4_bestPersonFor cX4_bestPersonFor 8 (Option.some FieldType.int)) 4 90 0 0 [va_rf r0, .int i1] S0 (oQ e_I (qN y)) := by
  refine mt_of (own := RX4) (l0 := [(0, va_rf r0), (1, .int i1)]) rfl rfl (by cases r0 <;> exact Nat.le_of_ble_eq_true rfl) (by cases r0 <;> rfl) ?_
  intro Z hC hQ hE hN
  unfold m_X4_bestPersonFor at h
  refine x_iconst (v := (-1 : Int32)) hC dX4_bestPersonFor_0 (by decide) ?_
  refine x_istore_n (i := 2) (l' := [(2, .int (-1 : Int32)), (0, va_rf r0), (1, .int i1)]) hC dX4_bestPersonFor_1 rfl (⟨fun _ => c_rf r0, ⟨fun _ => rfl, trivial⟩⟩) (by decide) rfl ?_
  refine x_iconst (v := (0 : Int32)) hC dX4_bestPersonFor_2 (by decide) ?_
  refine x_istore_n (i := 3) (l' := [(3, .int (0 : Int32)), (2, .int (-1 : Int32)), (0, va_rf r0), (1, .int i1)]) hC dX4_bestPersonFor_3 rfl (⟨fun _ => rfl, ⟨fun _ => c_rf r0, ⟨fun _ => rfl, trivial⟩⟩⟩) (by decide) rfl ?_
  refine x_iconst (v := (0 : Int32)) hC dX4_bestPersonFor_4 (by decide) ?_
  refine x_istore (i := 4) (l' := [(4, .int (0 : Int32)), (3, .int (0 : Int32)), (2, .int (-1 : Int32)), (0, va_rf r0), (1, .int i1)]) hC dX4_bestPersonFor_5 (⟨fun _ => rfl, ⟨fun _ => rfl, ⟨fun _ => c_rf r0, ⟨fun _ => rfl, trivial⟩⟩⟩⟩) (by decide) rfl ?_
  refine x_iconst (v := (0 : Int32)) hC dX4_bestPersonFor_7 (by decide) ?_
  refine x_istore (i := 5) (l' := [(5, .int (0 : Int32)), (4, .int (0 : Int32)), (3, .int (0 : Int32)), (2, .int (-1 : Int32)), (0, va_rf r0), (1, .int i1)]) hC dX4_bestPersonFor_8 (⟨fun _ => rfl, ⟨fun _ => rfl, ⟨fun _ => rfl, ⟨fun _ => c_rf r0, ⟨fun _ => rfl, trivial⟩⟩⟩⟩⟩) (by decide) rfl ?_
  refine x_sub (l' := [(0, va_rf r0), (1, .int i1), (2, .int (-1 : Int32)), (3, .int (0 : Int32)), (4, .int (0 : Int32)), (5, .int (0 : Int32))]) [4, 5, 3, 2, 1, 0] rfl ?_
  refine lp_sim (P := fun (t : (Int32 × Int32 × Int32 × Int32 × PH)) => PX Z 8 t.2.2.2.2 0 0 10 [(0, va_rf r0), (1, .int i1), (2, .int t.1), (3, .int t.2.1), (4, .int t.2.2.1), (5, .int t.2.2.2.1)] []) (G := fun r => r = y) ?_ h rfl
  clear h
  intro t x_10 h hg_10
  obtain ⟨v1, v2, v3, v4, S5⟩ := t
  show PX Z 8 S5 0 0 10 [(0, va_rf r0), (1, .int i1), (2, .int v1), (3, .int v2), (4, .int v3), (5, .int v4)] []
  have J_70 : ∀ (v27 : Int32) (v28 : Int32) (v29 : Int32) (S30 : PH), j_X4_bestPersonFor_70 r0 i1 v27 v28 v29 S30 = some x_10 → PX Z 8 S30 0 0 70 [(0, va_rf r0), (1, .int i1), (5, .int v27), (6, .int v28), (7, .int v29)] [] := by
    intro v27 v28 v29 S30 h
    unfold j_X4_bestPersonFor_70 at h
    refine x_iload (i := 5) hC dX4_bestPersonFor_70 2 rfl ?_
    refine x_istore_n (i := 2) (l' := [(2, .int v27), (0, va_rf r0), (1, .int i1), (5, .int v27), (6, .int v28), (7, .int v29)]) hC dX4_bestPersonFor_72 rfl (⟨fun _ => c_rf r0, ⟨fun _ => rfl, ⟨fun _ => rfl, ⟨fun _ => rfl, ⟨fun _ => rfl, trivial⟩⟩⟩⟩⟩) (by decide) rfl ?_
    refine x_iload (i := 6) hC dX4_bestPersonFor_73 4 rfl ?_
    refine x_istore_n (i := 3) (l' := [(3, .int v28), (2, .int v27), (0, va_rf r0), (1, .int i1), (5, .int v27), (6, .int v28), (7, .int v29)]) hC dX4_bestPersonFor_75 rfl (⟨fun _ => rfl, ⟨fun _ => c_rf r0, ⟨fun _ => rfl, ⟨fun _ => rfl, ⟨fun _ => rfl, ⟨fun _ => rfl, trivial⟩⟩⟩⟩⟩⟩) (by decide) rfl ?_
    refine x_iload (i := 7) hC dX4_bestPersonFor_76 6 rfl ?_
    refine x_istore (i := 4) (l' := [(4, .int v29), (3, .int v28), (2, .int v27), (0, va_rf r0), (1, .int i1), (5, .int v27), (6, .int v28), (7, .int v29)]) hC dX4_bestPersonFor_78 (⟨fun _ => rfl, ⟨fun _ => rfl, ⟨fun _ => c_rf r0, ⟨fun _ => rfl, ⟨fun _ => rfl, ⟨fun _ => rfl, ⟨fun _ => rfl, trivial⟩⟩⟩⟩⟩⟩⟩) (by decide) rfl ?_
    refine x_iinc (i := 5) (v := (v27 + (1 : Int32))) (l' := [(5, .int (v27 + (1 : Int32))), (4, .int v29), (3, .int v28), (2, .int v27), (0, va_rf r0), (1, .int i1), (6, .int v28), (7, .int v29)]) hC dX4_bestPersonFor_80 5 rfl rfl (⟨fun _ => rfl, ⟨fun _ => rfl, ⟨fun _ => rfl, ⟨fun _ => c_rf r0, ⟨fun _ => rfl, ⟨fun _ => rfl, ⟨fun _ => rfl, ⟨fun _ => rfl, trivial⟩⟩⟩⟩⟩⟩⟩⟩) (by decide) rfl ?_
    refine x_goto (t := 10) hC dX4_bestPersonFor_83 (by decide) ?_
    refine x_sub (l' := [(0, va_rf r0), (1, .int i1), (2, .int v27), (3, .int v28), (4, .int v29), (5, .int (v27 + (1 : Int32)))]) [4, 5, 3, 2, 1, 0] rfl ?_
    have hb := bk_x h hg_10
    exact hb
  unfold st_X4_bestPersonFor_10 at h
  refine x_iload (i := 5) hC dX4_bestPersonFor_10 5 rfl ?_
  refine x_bipush (v := (8 : Int32)) hC dX4_bestPersonFor_12 (by decide) ?_
  refine x_icmp_ge (t := 86) hC dX4_bestPersonFor_14 (by decide) (fun c6 => ?_) (fun c6 => ?_)
  · replace h := it_t c6 h
    replace h := ir_x h hg_10
    refine x_iload_n (i := 2) hC dX4_bestPersonFor_86 rfl 2 rfl ?_
    exact x_iret hC hQ (z_N (Option.some.inj h)) (Nat.le_of_ble_eq_true rfl) (Nat.le_of_ble_eq_true rfl) dX4_bestPersonFor_87
  · replace h := it_f c6 h
    refine x_aload_n (i := 0) hC dX4_bestPersonFor_17 rfl 0 rfl ?_
    refine x_iload (i := 5) hC dX4_bestPersonFor_18 5 rfl ?_
    refine x_iload_n (i := 1) hC dX4_bestPersonFor_20 rfl 1 rfl ?_
    replace h := dr_el h
    obtain ⟨a7, ea8, ha9, h⟩ := h
    replace h := bd_el h
    obtain ⟨v10, S11, hb12, h⟩ := h
    refine x_callV hC (st := []) (mt_X4_reasonAgainstTaking _ _ _ _ _ hb12) ea8 ha9 kf_4 q_372 q_374 qs_23 q_1 q_375 ⟨rfl, hy_X4_reasonAgainstTaking⟩ ⟨Nat.le_of_ble_eq_true rfl, Nat.le_of_ble_eq_true rfl⟩ ⟨Nat.le_of_ble_eq_true rfl, Nat.le_of_ble_eq_true rfl⟩ rfl (Nat.le_of_ble_eq_true rfl) dX4_bestPersonFor_21 (r_N ?_) r_NX
    show PX Z 8 S11 0 0 24 [(0, va_rf r0), (1, .int i1), (2, .int v1), (3, .int v2), (4, .int v3), (5, .int v4)] [.int v10]
    refine x_if_eq (t := 30) hC dX4_bestPersonFor_24 (by decide) (fun c13 => ?_) (fun c13 => ?_)
    · replace h := it_t c13 h
      refine x_aload_n (i := 0) hC dX4_bestPersonFor_30 rfl 0 rfl ?_
      refine x_iload (i := 5) hC dX4_bestPersonFor_31 5 rfl ?_
      replace h := dr_el h
      obtain ⟨a14, ea15, ha16, h⟩ := h
      replace h := bd_el h
      obtain ⟨v17, S18, hb19, h⟩ := h
      refine x_callV hC (st := []) (mt_X4_loadOf _ _ _ _ hb19) ea15 ha16 kf_4 q_332 q_334 qs_16 q_1 q_335 ⟨rfl, hy_X4_loadOf⟩ ⟨Nat.le_of_ble_eq_true rfl, Nat.le_of_ble_eq_true rfl⟩ ⟨Nat.le_of_ble_eq_true rfl, Nat.le_of_ble_eq_true rfl⟩ rfl (Nat.le_of_ble_eq_true rfl) dX4_bestPersonFor_33 (r_N ?_) r_NX
      show PX Z 8 S18 0 0 36 [(0, va_rf r0), (1, .int i1), (2, .int v1), (3, .int v2), (4, .int v3), (5, .int v4)] [.int v17]
      refine x_istore (i := 6) (l' := [(6, .int v17), (0, va_rf r0), (1, .int i1), (2, .int v1), (3, .int v2), (4, .int v3), (5, .int v4)]) hC dX4_bestPersonFor_36 (⟨fun _ => c_rf r0, ⟨fun _ => rfl, ⟨fun _ => rfl, ⟨fun _ => rfl, ⟨fun _ => rfl, ⟨fun _ => rfl, trivial⟩⟩⟩⟩⟩⟩) (by decide) rfl ?_
      refine x_aload_n (i := 0) hC dX4_bestPersonFor_38 rfl 1 rfl ?_
      refine x_iload (i := 5) hC dX4_bestPersonFor_39 6 rfl ?_
      replace h := dr_el h
      obtain ⟨a20, ea21, ha22, h⟩ := h
      replace h := bd_el h
      obtain ⟨v23, S24, hb25, h⟩ := h
      refine x_callV hC (st := []) (mt_X4_tokensOf _ _ _ _ hb25) ea21 ha22 kf_4 q_227 q_229 qs_1 q_1 q_230 ⟨rfl, hy_X4_tokensOf⟩ ⟨Nat.le_of_ble_eq_true rfl, Nat.le_of_ble_eq_true rfl⟩ ⟨Nat.le_of_ble_eq_true rfl, Nat.le_of_ble_eq_true rfl⟩ rfl (Nat.le_of_ble_eq_true rfl) dX4_bestPersonFor_41 (r_N ?_) r_NX
      show PX Z 8 S24 0 0 44 [(6, .int v17), (0, va_rf r0), (1, .int i1), (2, .int v1), (3, .int v2), (4, .int v3), (5, .int v4)] [.int v23]
      refine x_istore (i := 7) (l' := [(7, .int v23), (6, .int v17), (0, va_rf r0), (1, .int i1), (2, .int v1), (3, .int v2), (4, .int v3), (5, .int v4)]) hC dX4_bestPersonFor_44 (⟨fun _ => rfl, ⟨fun _ => c_rf r0, ⟨fun _ => rfl, ⟨fun _ => rfl, ⟨fun _ => rfl, ⟨fun _ => rfl, ⟨fun _ => rfl, trivial⟩⟩⟩⟩⟩⟩⟩) (by decide) rfl ?_
      refine x_iload_n (i := 2) hC dX4_bestPersonFor_46 rfl 4 rfl ?_
      refine x_iconst (v := (-1 : Int32)) hC dX4_bestPersonFor_47 (by decide) ?_
      refine x_icmp_eq (t := 70) hC dX4_bestPersonFor_48 (by decide) (fun c26 => ?_) (fun c26 => ?_)
      · replace h := it_t c26 h
        refine x_sub (l' := [(0, va_rf r0), (1, .int i1), (5, .int v4), (6, .int v17), (7, .int v23)]) [2, 3, 7, 1, 0] rfl ?_
        exact J_70 _ _ _ _ h
      · replace h := it_f c26 h
        refine x_iload (i := 6) hC dX4_bestPersonFor_51 1 rfl ?_
        refine x_iload_n (i := 3) hC dX4_bestPersonFor_53 rfl 5 rfl ?_
        refine x_icmp_lt (t := 70) hC dX4_bestPersonFor_54 (by decide) (fun c31 => ?_) (fun c31 => ?_)
        · replace h := it_t c31 h
          refine x_sub (l' := [(0, va_rf r0), (1, .int i1), (5, .int v4), (6, .int v17), (7, .int v23)]) [2, 3, 7, 1, 0] rfl ?_
          exact J_70 _ _ _ _ h
        · replace h := it_f c31 h
          refine x_iload (i := 6) hC dX4_bestPersonFor_57 1 rfl ?_
          refine x_iload_n (i := 3) hC dX4_bestPersonFor_59 rfl 5 rfl ?_
          refine x_icmp_ne (t := 80) hC dX4_bestPersonFor_60 (by decide) (fun c32 => ?_) (fun c32 => ?_)
          · replace h := it_f c32 h
            refine x_iinc (i := 5) (v := (v4 + (1 : Int32))) (l' := [(5, .int (v4 + (1 : Int32))), (7, .int v23), (6, .int v17), (0, va_rf r0), (1, .int i1), (2, .int v1), (3, .int v2), (4, .int v3)]) hC dX4_bestPersonFor_80 7 rfl rfl (⟨fun _ => rfl, ⟨fun _ => rfl, ⟨fun _ => c_rf r0, ⟨fun _ => rfl, ⟨fun _ => rfl, ⟨fun _ => rfl, ⟨fun _ => rfl, ⟨fun _ => rfl, trivial⟩⟩⟩⟩⟩⟩⟩⟩) (by decide) rfl ?_
            refine x_goto (t := 10) hC dX4_bestPersonFor_83 (by decide) ?_
            refine x_sub (l' := [(0, va_rf r0), (1, .int i1), (2, .int v1), (3, .int v2), (4, .int v3), (5, .int (v4 + (1 : Int32)))]) [3, 4, 5, 6, 7, 0] rfl ?_
            have hb := bk_x h hg_10
            exact hb
          · replace h := it_t c32 h
            refine x_iload (i := 7) hC dX4_bestPersonFor_63 0 rfl ?_
            refine x_iload (i := 4) hC dX4_bestPersonFor_65 6 rfl ?_
            refine x_icmp_le (t := 80) hC dX4_bestPersonFor_67 (by decide) (fun c33 => ?_) (fun c33 => ?_)
            · replace h := it_t c33 h
              refine x_iinc (i := 5) (v := (v4 + (1 : Int32))) (l' := [(5, .int (v4 + (1 : Int32))), (7, .int v23), (6, .int v17), (0, va_rf r0), (1, .int i1), (2, .int v1), (3, .int v2), (4, .int v3)]) hC dX4_bestPersonFor_80 7 rfl rfl (⟨fun _ => rfl, ⟨fun _ => rfl, ⟨fun _ => c_rf r0, ⟨fun _ => rfl, ⟨fun _ => rfl, ⟨fun _ => rfl, ⟨fun _ => rfl, ⟨fun _ => rfl, trivial⟩⟩⟩⟩⟩⟩⟩⟩) (by decide) rfl ?_
              refine x_goto (t := 10) hC dX4_bestPersonFor_83 (by decide) ?_
              refine x_sub (l' := [(0, va_rf r0), (1, .int i1), (2, .int v1), (3, .int v2), (4, .int v3), (5, .int (v4 + (1 : Int32)))]) [3, 4, 5, 6, 7, 0] rfl ?_
              have hb := bk_x h hg_10
              exact hb
            · replace h := it_f c33 h
              refine x_sub (l' := [(0, va_rf r0), (1, .int i1), (5, .int v4), (6, .int v17), (7, .int v23)]) [2, 3, 7, 1, 0] rfl ?_
              exact J_70 _ _ _ _ h
    · replace h := it_f c13 h
      refine x_goto (t := 80) hC dX4_bestPersonFor_27 (by decide) ?_
      refine x_iinc (i := 5) (v := (v4 + (1 : Int32))) (l' := [(5, .int (v4 + (1 : Int32))), (0, va_rf r0), (1, .int i1), (2, .int v1), (3, .int v2), (4, .int v3)]) hC dX4_bestPersonFor_80 5 rfl rfl (⟨fun _ => c_rf r0, ⟨fun _ => rfl, ⟨fun _ => rfl, ⟨fun _ => rfl, ⟨fun _ => rfl, ⟨fun _ => rfl, trivial⟩⟩⟩⟩⟩⟩) (by decide) rfl ?_
      refine x_goto (t := 10) hC dX4_bestPersonFor_83 (by decide) ?_
      refine x_sub (l' := [(0, va_rf r0), (1, .int i1), (2, .int v1), (3, .int v2), (4, .int v3), (5, .int (v4 + (1 : Int32)))]) [1, 2, 3, 4, 5, 0] rfl ?_
      have hb := bk_x h hg_10
      exact hb
theorem dX4_bestReviewer_0 : decode cX4_bestReviewer 0 = .ok (.aload_n 0, 1) := by decide +kernel
theorem dX4_bestReviewer_1 : decode cX4_bestReviewer 1 = .ok (.iload_n 1, 1) := by decide +kernel
theorem dX4_bestReviewer_2 : decode cX4_bestReviewer 2 = .ok (.invokevirtual 125, 3) := by decide +kernel
theorem dX4_bestReviewer_5 : decode cX4_bestReviewer 5 = .ok (.aload_n 0, 1) := by decide +kernel
theorem dX4_bestReviewer_6 : decode cX4_bestReviewer 6 = .ok (.iload_n 1, 1) := by decide +kernel
theorem dX4_bestReviewer_7 : decode cX4_bestReviewer 7 = .ok (.invokevirtual 245, 3) := by decide +kernel
theorem dX4_bestReviewer_10 : decode cX4_bestReviewer 10 = .ok (.ireturn, 1) := by decide +kernel
set_option maxRecDepth 100000 in
set_option maxHeartbeats 4000000 in
theorem mt_X4_bestReviewer (r0 : Option Nat) (i1 : Int32) (S0 : PH) (y : (Nat ⊕ Int32) × PH) (h : m_X4_bestReviewer r0 i1 S0 = some y) : MT yX4_bestReviewer (.code yX4_bestReviewer cX4_bestReviewer 2 (Option.some FieldType.int)) 7 117 1 6 [va_rf r0, .int i1] S0 (oQ e_I (qT y)) := by
  refine mt_of (own := RX4) (l0 := [(0, va_rf r0), (1, .int i1)]) rfl rfl (by cases r0 <;> exact Nat.le_of_ble_eq_true rfl) (by cases r0 <;> rfl) ?_
  intro Z hC hQ hE hN
  unfold m_X4_bestReviewer at h
  refine x_aload_n (i := 0) hC dX4_bestReviewer_0 rfl 0 rfl ?_
  refine x_iload_n (i := 1) hC dX4_bestReviewer_1 rfl 1 rfl ?_
  replace h := dr_el h
  obtain ⟨a1, ea2, ha3, h⟩ := h
  replace h := bt_el h
  obtain ⟨v4, S5, hb14, h⟩ | ⟨j6, S7, hb14, h⟩ := h
  · refine x_callV hC (st := []) (mt_X4_requirePaper _ _ _ _ hb14) ea2 ha3 kf_4 q_613 q_615 qs_29 q_1 q_616 ⟨rfl, hy_X4_requirePaper⟩ ⟨Nat.le_of_ble_eq_true rfl, Nat.le_of_ble_eq_true rfl⟩ ⟨Nat.le_of_ble_eq_true rfl, Nat.le_of_ble_eq_true rfl⟩ rfl (Nat.le_of_ble_eq_true rfl) dX4_bestReviewer_2 (r_T ?_) r_TX
    show PX Z 2 S5 1 6 5 [(0, va_rf r0), (1, .int i1)] []
    refine x_aload_n (i := 0) hC dX4_bestReviewer_5 rfl 0 rfl ?_
    refine x_iload_n (i := 1) hC dX4_bestReviewer_6 rfl 1 rfl ?_
    replace h := dr_el h
    obtain ⟨a8, ea9, ha10, h⟩ := h
    replace h := bd_el h
    obtain ⟨v11, S12, hb13, h⟩ := h
    refine x_callV hC (st := []) (mt_X4_bestPersonFor _ _ _ _ hb13) ea9 ha10 kf_4 q_368 q_370 qs_22 q_1 q_371 ⟨rfl, hy_X4_bestPersonFor⟩ ⟨Nat.le_of_ble_eq_true rfl, Nat.le_of_ble_eq_true rfl⟩ ⟨Nat.le_of_ble_eq_true rfl, Nat.le_of_ble_eq_true rfl⟩ rfl (Nat.le_of_ble_eq_true rfl) dX4_bestReviewer_7 (r_N ?_) r_NX
    show PX Z 2 S12 1 6 10 [(0, va_rf r0), (1, .int i1)] [.int v11]
    exact x_iret hC hQ (z_T (Option.some.inj h)) (Nat.le_of_ble_eq_true rfl) (Nat.le_of_ble_eq_true rfl) dX4_bestReviewer_10
  · refine x_callV hC (st := []) (mt_X4_requirePaper _ _ _ _ hb14) ea2 ha3 kf_4 q_613 q_615 qs_29 q_1 q_616 ⟨rfl, hy_X4_requirePaper⟩ ⟨Nat.le_of_ble_eq_true rfl, Nat.le_of_ble_eq_true rfl⟩ ⟨Nat.le_of_ble_eq_true rfl, Nat.le_of_ble_eq_true rfl⟩ rfl (Nat.le_of_ble_eq_true rfl) dX4_bestReviewer_2 r_X (r_XX ?_)
    exact x_out hC hQ hE (z_X (Option.some.inj h)) (Nat.le_of_ble_eq_true rfl) (Nat.le_of_ble_eq_true rfl)
theorem dX4_readFitting_0 : decode cX4_readFitting 0 = .ok (.iconst 0, 1) := by decide +kernel
theorem dX4_readFitting_1 : decode cX4_readFitting 1 = .ok (.istore_n 3, 1) := by decide +kernel
theorem dX4_readFitting_2 : decode cX4_readFitting 2 = .ok (.iload_n 3, 1) := by decide +kernel
theorem dX4_readFitting_3 : decode cX4_readFitting 3 = .ok (.bipush 8, 2) := by decide +kernel
theorem dX4_readFitting_5 : decode cX4_readFitting 5 = .ok (.if_icmp .ge 56, 3) := by decide +kernel
theorem dX4_readFitting_8 : decode cX4_readFitting 8 = .ok (.iload_n 2, 1) := by decide +kernel
theorem dX4_readFitting_9 : decode cX4_readFitting 9 = .ok (.iload_n 3, 1) := by decide +kernel
theorem dX4_readFitting_10 : decode cX4_readFitting 10 = .ok (.invokestatic 87, 3) := by decide +kernel
theorem dX4_readFitting_13 : decode cX4_readFitting 13 = .ok (.ifCond .ne 42, 3) := by decide +kernel
theorem dX4_readFitting_16 : decode cX4_readFitting 16 = .ok (.aload_n 0, 1) := by decide +kernel
theorem dX4_readFitting_17 : decode cX4_readFitting 17 = .ok (.getfield 10, 3) := by decide +kernel
theorem dX4_readFitting_20 : decode cX4_readFitting 20 = .ok (.getfield 79, 3) := by decide +kernel
theorem dX4_readFitting_23 : decode cX4_readFitting 23 = .ok (.iload_n 3, 1) := by decide +kernel
theorem dX4_readFitting_24 : decode cX4_readFitting 24 = .ok (.iaload, 1) := by decide +kernel
theorem dX4_readFitting_25 : decode cX4_readFitting 25 = .ok (.aload_n 0, 1) := by decide +kernel
theorem dX4_readFitting_26 : decode cX4_readFitting 26 = .ok (.getfield 10, 3) := by decide +kernel
theorem dX4_readFitting_29 : decode cX4_readFitting 29 = .ok (.getfield 67, 3) := by decide +kernel
theorem dX4_readFitting_32 : decode cX4_readFitting 32 = .ok (.iload_n 1, 1) := by decide +kernel
theorem dX4_readFitting_33 : decode cX4_readFitting 33 = .ok (.iaload, 1) := by decide +kernel
theorem dX4_readFitting_34 : decode cX4_readFitting 34 = .ok (.invokestatic 87, 3) := by decide +kernel
theorem dX4_readFitting_37 : decode cX4_readFitting 37 = .ok (.ifCond .eq 18, 3) := by decide +kernel
theorem dX4_readFitting_40 : decode cX4_readFitting 40 = .ok (.aload_n 0, 1) := by decide +kernel
theorem dX4_readFitting_41 : decode cX4_readFitting 41 = .ok (.getfield 37, 3) := by decide +kernel
theorem dX4_readFitting_44 : decode cX4_readFitting 44 = .ok (.getfield 420, 3) := by decide +kernel
theorem dX4_readFitting_47 : decode cX4_readFitting 47 = .ok (.iload_n 3, 1) := by decide +kernel
theorem dX4_readFitting_48 : decode cX4_readFitting 48 = .ok (.dup2, 1) := by decide +kernel
theorem dX4_readFitting_49 : decode cX4_readFitting 49 = .ok (.iaload, 1) := by decide +kernel
theorem dX4_readFitting_50 : decode cX4_readFitting 50 = .ok (.iconst 1, 1) := by decide +kernel
theorem dX4_readFitting_51 : decode cX4_readFitting 51 = .ok (.iload_n 1, 1) := by decide +kernel
theorem dX4_readFitting_52 : decode cX4_readFitting 52 = .ok (.ishl, 1) := by decide +kernel
theorem dX4_readFitting_53 : decode cX4_readFitting 53 = .ok (.ior, 1) := by decide +kernel
theorem dX4_readFitting_54 : decode cX4_readFitting 54 = .ok (.iastore, 1) := by decide +kernel
theorem dX4_readFitting_55 : decode cX4_readFitting 55 = .ok (.iinc 3 1, 3) := by decide +kernel
theorem dX4_readFitting_58 : decode cX4_readFitting 58 = .ok (.goto (-56), 3) := by decide +kernel
theorem dX4_readFitting_61 : decode cX4_readFitting 61 = .ok (.return_, 1) := by decide +kernel
set_option maxRecDepth 100000 in
set_option maxHeartbeats 4000000 in
theorem mt_X4_readFitting (r0 : Option Nat) (i1 : Int32) (i2 : Int32) (S0 : PH) (y : Unit × PH) (h : m_X4_readFitting r0 i1 i2 S0 = some y) : MT yX4_readFitting (.code yX4_readFitting cX4_readFitting 4 (Option.none : Option FieldType)) 1 21 0 0 [va_rf r0, .int i1, .int i2] S0 (oQ e_V (qN y)) := by
  refine mt_of (own := RX4) (l0 := [(0, va_rf r0), (1, .int i1), (2, .int i2)]) rfl rfl (by cases r0 <;> exact Nat.le_of_ble_eq_true rfl) (by cases r0 <;> rfl) ?_
  intro Z hC hQ hE hN
  unfold m_X4_readFitting at h
  refine x_iconst (v := (0 : Int32)) hC dX4_readFitting_0 (by decide) ?_
  refine x_istore_n (i := 3) (l' := [(3, .int (0 : Int32)), (0, va_rf r0), (1, .int i1), (2, .int i2)]) hC dX4_readFitting_1 rfl (⟨fun _ => c_rf r0, ⟨fun _ => rfl, ⟨fun _ => rfl, trivial⟩⟩⟩) (by decide) rfl ?_
  refine x_sub (l' := [(0, va_rf r0), (1, .int i1), (2, .int i2), (3, .int (0 : Int32))]) [1, 2, 3, 0] rfl ?_
  refine lp_sim (P := fun (t : (Int32 × PH)) => PX Z 4 t.2 0 0 2 [(0, va_rf r0), (1, .int i1), (2, .int i2), (3, .int t.1)] []) (G := fun r => r = y) ?_ h rfl
  clear h
  intro t x_2 h hg_2
  obtain ⟨v1, S2⟩ := t
  show PX Z 4 S2 0 0 2 [(0, va_rf r0), (1, .int i1), (2, .int i2), (3, .int v1)] []
  unfold st_X4_readFitting_2 at h
  refine x_iload_n (i := 3) hC dX4_readFitting_2 rfl 3 rfl ?_
  refine x_bipush (v := (8 : Int32)) hC dX4_readFitting_3 (by decide) ?_
  refine x_icmp_ge (t := 61) hC dX4_readFitting_5 (by decide) (fun c3 => ?_) (fun c3 => ?_)
  · replace h := it_t c3 h
    replace h := ir_x h hg_2
    exact x_vret hC hQ (z_N (v := ()) (Option.some.inj h)) (Nat.le_of_ble_eq_true rfl) (Nat.le_of_ble_eq_true rfl) dX4_readFitting_61
  · replace h := it_f c3 h
    refine x_iload_n (i := 2) hC dX4_readFitting_8 rfl 2 rfl ?_
    refine x_iload_n (i := 3) hC dX4_readFitting_9 rfl 3 rfl ?_
    replace h := bd_el h
    obtain ⟨v4, S5, hb6, h⟩ := h
    refine x_callS hC (st := []) (mt_X4_has _ _ _ _ hb6) q_252 q_253 q_1 q_254 hy_X4_has ⟨Nat.le_of_ble_eq_true rfl, Nat.le_of_ble_eq_true rfl⟩ ⟨Nat.le_of_ble_eq_true rfl, Nat.le_of_ble_eq_true rfl⟩ rfl (Nat.le_of_ble_eq_true rfl) dX4_readFitting_10 (r_N ?_) r_NX
    show PX Z 4 S5 0 0 13 [(0, va_rf r0), (1, .int i1), (2, .int i2), (3, .int v1)] [.int v4]
    refine x_if_ne (t := 55) hC dX4_readFitting_13 (by decide) (fun c7 => ?_) (fun c7 => ?_)
    · replace h := it_f c7 h
      refine x_iinc (i := 3) (v := (v1 + (1 : Int32))) (l' := [(3, .int (v1 + (1 : Int32))), (0, va_rf r0), (1, .int i1), (2, .int i2)]) hC dX4_readFitting_55 3 rfl rfl (⟨fun _ => c_rf r0, ⟨fun _ => rfl, ⟨fun _ => rfl, ⟨fun _ => rfl, trivial⟩⟩⟩⟩) (by decide) rfl ?_
      refine x_goto (t := 2) hC dX4_readFitting_58 (by decide) ?_
      refine x_sub (l' := [(0, va_rf r0), (1, .int i1), (2, .int i2), (3, .int (v1 + (1 : Int32)))]) [1, 2, 3, 0] rfl ?_
      have hb := bk_x h hg_2
      exact hb
    · replace h := it_t c7 h
      refine x_aload_n (i := 0) hC dX4_readFitting_16 rfl 0 rfl ?_
      replace h := dr_el h
      obtain ⟨a8, ea9, ha10, h⟩ := h
      refine x_getR hC ea9 ha10 kf_4 0 (by decide) rfl q_175 dX4_readFitting_17 ?_
      replace h := dr_el h
      obtain ⟨a11, ea12, ha13, h⟩ := h
      refine x_getR hC ea12 ha13 kf_2 0 (by decide) rfl q_38 dX4_readFitting_20 ?_
      refine x_iload_n (i := 3) hC dX4_readFitting_23 rfl 3 rfl ?_
      replace h := dr_el h
      obtain ⟨a14, ea15, ha16, h⟩ := h
      replace h := ck_el h
      obtain ⟨hc17, h⟩ := h
      refine x_iaload hC ea15 ha16 hc17 dX4_readFitting_24 ?_
      refine x_aload_n (i := 0) hC dX4_readFitting_25 rfl 0 rfl ?_
      refine x_getR hC ea9 ha10 kf_4 0 (by decide) rfl q_175 dX4_readFitting_26 ?_
      refine x_getR hC ea12 ha13 kf_2 5 (by decide) rfl q_48 dX4_readFitting_29 ?_
      refine x_iload_n (i := 1) hC dX4_readFitting_32 rfl 1 rfl ?_
      replace h := dr_el h
      obtain ⟨a18, ea19, ha20, h⟩ := h
      replace h := ck_el h
      obtain ⟨hc21, h⟩ := h
      refine x_iaload hC ea19 ha20 hc21 dX4_readFitting_33 ?_
      replace h := bd_el h
      obtain ⟨v22, S23, hb24, h⟩ := h
      refine x_callS hC (st := []) (mt_X4_has _ _ _ _ hb24) q_252 q_253 q_1 q_254 hy_X4_has ⟨Nat.le_of_ble_eq_true rfl, Nat.le_of_ble_eq_true rfl⟩ ⟨Nat.le_of_ble_eq_true rfl, Nat.le_of_ble_eq_true rfl⟩ rfl (Nat.le_of_ble_eq_true rfl) dX4_readFitting_34 (r_N ?_) r_NX
      show PX Z 4 S23 0 0 37 [(0, va_rf r0), (1, .int i1), (2, .int i2), (3, .int v1)] [.int v22]
      refine x_if_eq (t := 55) hC dX4_readFitting_37 (by decide) (fun c25 => ?_) (fun c25 => ?_)
      · replace h := it_t c25 h
        refine x_iinc (i := 3) (v := (v1 + (1 : Int32))) (l' := [(3, .int (v1 + (1 : Int32))), (0, va_rf r0), (1, .int i1), (2, .int i2)]) hC dX4_readFitting_55 3 rfl rfl (⟨fun _ => c_rf r0, ⟨fun _ => rfl, ⟨fun _ => rfl, ⟨fun _ => rfl, trivial⟩⟩⟩⟩) (by decide) rfl ?_
        refine x_goto (t := 2) hC dX4_readFitting_58 (by decide) ?_
        refine x_sub (l' := [(0, va_rf r0), (1, .int i1), (2, .int i2), (3, .int (v1 + (1 : Int32)))]) [1, 2, 3, 0] rfl ?_
        have hb := bk_x h hg_2
        exact hb
      · replace h := it_f c25 h
        refine x_aload_n (i := 0) hC dX4_readFitting_40 rfl 0 rfl ?_
        replace h := dr_el h
        obtain ⟨a26, ea27, ha28, h⟩ := h
        refine x_getR hC ea27 ha28 kf_4 4 (by decide) rfl q_179 dX4_readFitting_41 ?_
        replace h := dr_el h
        obtain ⟨a29, ea30, ha31, h⟩ := h
        refine x_getR hC ea30 ha31 kf_1 1 (by decide) rfl q_150 dX4_readFitting_44 ?_
        refine x_iload_n (i := 3) hC dX4_readFitting_47 rfl 3 rfl ?_
        refine x_dup2 hC dX4_readFitting_48 rfl (c_rf (p_R S23 a29 1)) ?_
        replace h := dr_el h
        obtain ⟨a32, ea33, ha34, h⟩ := h
        replace h := ck_el h
        obtain ⟨hc35, h⟩ := h
        refine x_iaload hC ea33 ha34 hc35 dX4_readFitting_49 ?_
        refine x_iconst (v := (1 : Int32)) hC dX4_readFitting_50 (by decide) ?_
        refine x_iload_n (i := 1) hC dX4_readFitting_51 rfl 1 rfl ?_
        refine x_ishl hC dX4_readFitting_52 ?_
        refine x_ior hC dX4_readFitting_53 ?_
        replace h := ck_el h
        obtain ⟨hc36, h⟩ := h
        replace h := le_el h
        obtain ⟨S37, hx38, h⟩ := h
        refine x_iastore hC ea33 ha34 hc36 dX4_readFitting_54 ?_
        refine x_tS hx38 ?_
        refine x_iinc (i := 3) (v := (v1 + (1 : Int32))) (l' := [(3, .int (v1 + (1 : Int32))), (0, va_rf r0), (1, .int i1), (2, .int i2)]) hC dX4_readFitting_55 3 rfl rfl (⟨fun _ => c_rf r0, ⟨fun _ => rfl, ⟨fun _ => rfl, ⟨fun _ => rfl, trivial⟩⟩⟩⟩) (by decide) rfl ?_
        refine x_goto (t := 2) hC dX4_readFitting_58 (by decide) ?_
        refine x_sub (l' := [(0, va_rf r0), (1, .int i1), (2, .int i2), (3, .int (v1 + (1 : Int32)))]) [1, 2, 3, 0] rfl ?_
        have hb := bk_x h hg_2
        exact hb
theorem dX4_readMatching_0 : decode cX4_readMatching 0 = .ok (.iconst 0, 1) := by decide +kernel
theorem dX4_readMatching_1 : decode cX4_readMatching 1 = .ok (.istore_n 1, 1) := by decide +kernel
theorem dX4_readMatching_2 : decode cX4_readMatching 2 = .ok (.iload_n 1, 1) := by decide +kernel
theorem dX4_readMatching_3 : decode cX4_readMatching 3 = .ok (.bipush 8, 2) := by decide +kernel
theorem dX4_readMatching_5 : decode cX4_readMatching 5 = .ok (.if_icmp .ge 35, 3) := by decide +kernel
theorem dX4_readMatching_8 : decode cX4_readMatching 8 = .ok (.aload_n 0, 1) := by decide +kernel
theorem dX4_readMatching_9 : decode cX4_readMatching 9 = .ok (.getfield 37, 3) := by decide +kernel
theorem dX4_readMatching_12 : decode cX4_readMatching 12 = .ok (.getfield 417, 3) := by decide +kernel
theorem dX4_readMatching_15 : decode cX4_readMatching 15 = .ok (.iload_n 1, 1) := by decide +kernel
theorem dX4_readMatching_16 : decode cX4_readMatching 16 = .ok (.aload_n 0, 1) := by decide +kernel
theorem dX4_readMatching_17 : decode cX4_readMatching 17 = .ok (.iload_n 1, 1) := by decide +kernel
theorem dX4_readMatching_18 : decode cX4_readMatching 18 = .ok (.invokevirtual 316, 3) := by decide +kernel
theorem dX4_readMatching_21 : decode cX4_readMatching 21 = .ok (.iconst 2, 1) := by decide +kernel
theorem dX4_readMatching_22 : decode cX4_readMatching 22 = .ok (.idiv, 1) := by decide +kernel
theorem dX4_readMatching_23 : decode cX4_readMatching 23 = .ok (.iastore, 1) := by decide +kernel
theorem dX4_readMatching_24 : decode cX4_readMatching 24 = .ok (.aload_n 0, 1) := by decide +kernel
theorem dX4_readMatching_25 : decode cX4_readMatching 25 = .ok (.getfield 37, 3) := by decide +kernel
theorem dX4_readMatching_28 : decode cX4_readMatching 28 = .ok (.getfield 420, 3) := by decide +kernel
theorem dX4_readMatching_31 : decode cX4_readMatching 31 = .ok (.iload_n 1, 1) := by decide +kernel
theorem dX4_readMatching_32 : decode cX4_readMatching 32 = .ok (.iconst 0, 1) := by decide +kernel
theorem dX4_readMatching_33 : decode cX4_readMatching 33 = .ok (.iastore, 1) := by decide +kernel
theorem dX4_readMatching_34 : decode cX4_readMatching 34 = .ok (.iinc 1 1, 3) := by decide +kernel
theorem dX4_readMatching_37 : decode cX4_readMatching 37 = .ok (.goto (-35), 3) := by decide +kernel
theorem dX4_readMatching_40 : decode cX4_readMatching 40 = .ok (.iconst 0, 1) := by decide +kernel
theorem dX4_readMatching_41 : decode cX4_readMatching 41 = .ok (.istore_n 1, 1) := by decide +kernel
theorem dX4_readMatching_42 : decode cX4_readMatching 42 = .ok (.iload_n 1, 1) := by decide +kernel
theorem dX4_readMatching_43 : decode cX4_readMatching 43 = .ok (.bipush 8, 2) := by decide +kernel
theorem dX4_readMatching_45 : decode cX4_readMatching 45 = .ok (.if_icmp .ge 107, 3) := by decide +kernel
theorem dX4_readMatching_48 : decode cX4_readMatching 48 = .ok (.aload_n 0, 1) := by decide +kernel
theorem dX4_readMatching_49 : decode cX4_readMatching 49 = .ok (.getfield 10, 3) := by decide +kernel
theorem dX4_readMatching_52 : decode cX4_readMatching 52 = .ok (.getfield 167, 3) := by decide +kernel
theorem dX4_readMatching_55 : decode cX4_readMatching 55 = .ok (.iload_n 1, 1) := by decide +kernel
theorem dX4_readMatching_56 : decode cX4_readMatching 56 = .ok (.aaload, 1) := by decide +kernel
theorem dX4_readMatching_57 : decode cX4_readMatching 57 = .ok (.astore_n 2, 1) := by decide +kernel
theorem dX4_readMatching_58 : decode cX4_readMatching 58 = .ok (.aload_n 0, 1) := by decide +kernel
theorem dX4_readMatching_59 : decode cX4_readMatching 59 = .ok (.getfield 10, 3) := by decide +kernel
theorem dX4_readMatching_62 : decode cX4_readMatching 62 = .ok (.getfield 102, 3) := by decide +kernel
theorem dX4_readMatching_65 : decode cX4_readMatching 65 = .ok (.iconst 0, 1) := by decide +kernel
theorem dX4_readMatching_66 : decode cX4_readMatching 66 = .ok (.iaload, 1) := by decide +kernel
theorem dX4_readMatching_67 : decode cX4_readMatching 67 = .ok (.aload_n 2, 1) := by decide +kernel
theorem dX4_readMatching_68 : decode cX4_readMatching 68 = .ok (.invokestatic 334, 3) := by decide +kernel
theorem dX4_readMatching_71 : decode cX4_readMatching 71 = .ok (.invokestatic 178, 3) := by decide +kernel
theorem dX4_readMatching_74 : decode cX4_readMatching 74 = .ok (.isub, 1) := by decide +kernel
theorem dX4_readMatching_75 : decode cX4_readMatching 75 = .ok (.istore_n 3, 1) := by decide +kernel
theorem dX4_readMatching_76 : decode cX4_readMatching 76 = .ok (.aload_n 0, 1) := by decide +kernel
theorem dX4_readMatching_77 : decode cX4_readMatching 77 = .ok (.iload_n 1, 1) := by decide +kernel
theorem dX4_readMatching_78 : decode cX4_readMatching 78 = .ok (.invokevirtual 294, 3) := by decide +kernel
theorem dX4_readMatching_81 : decode cX4_readMatching 81 = .ok (.ifCond .eq 23, 3) := by decide +kernel
theorem dX4_readMatching_84 : decode cX4_readMatching 84 = .ok (.aload_n 0, 1) := by decide +kernel
theorem dX4_readMatching_85 : decode cX4_readMatching 85 = .ok (.getfield 10, 3) := by decide +kernel
theorem dX4_readMatching_88 : decode cX4_readMatching 88 = .ok (.getfield 183, 3) := by decide +kernel
theorem dX4_readMatching_91 : decode cX4_readMatching 91 = .ok (.iload_n 1, 1) := by decide +kernel
theorem dX4_readMatching_92 : decode cX4_readMatching 92 = .ok (.iaload, 1) := by decide +kernel
theorem dX4_readMatching_93 : decode cX4_readMatching 93 = .ok (.ifCond .ne 11, 3) := by decide +kernel
theorem dX4_readMatching_96 : decode cX4_readMatching 96 = .ok (.iload_n 3, 1) := by decide +kernel
theorem dX4_readMatching_97 : decode cX4_readMatching 97 = .ok (.ifCond .le 7, 3) := by decide +kernel
theorem dX4_readMatching_100 : decode cX4_readMatching 100 = .ok (.iconst 1, 1) := by decide +kernel
theorem dX4_readMatching_101 : decode cX4_readMatching 101 = .ok (.goto 4, 3) := by decide +kernel
theorem dX4_readMatching_104 : decode cX4_readMatching 104 = .ok (.iconst 0, 1) := by decide +kernel
theorem dX4_readMatching_105 : decode cX4_readMatching 105 = .ok (.istore 4, 2) := by decide +kernel
theorem dX4_readMatching_107 : decode cX4_readMatching 107 = .ok (.aload_n 0, 1) := by decide +kernel
theorem dX4_readMatching_108 : decode cX4_readMatching 108 = .ok (.getfield 37, 3) := by decide +kernel
theorem dX4_readMatching_111 : decode cX4_readMatching 111 = .ok (.getfield 423, 3) := by decide +kernel
theorem dX4_readMatching_114 : decode cX4_readMatching 114 = .ok (.iload_n 1, 1) := by decide +kernel
theorem dX4_readMatching_115 : decode cX4_readMatching 115 = .ok (.iload 4, 2) := by decide +kernel
theorem dX4_readMatching_117 : decode cX4_readMatching 117 = .ok (.ifCond .eq 7, 3) := by decide +kernel
theorem dX4_readMatching_120 : decode cX4_readMatching 120 = .ok (.iload_n 3, 1) := by decide +kernel
theorem dX4_readMatching_121 : decode cX4_readMatching 121 = .ok (.goto 4, 3) := by decide +kernel
theorem dX4_readMatching_124 : decode cX4_readMatching 124 = .ok (.iconst 0, 1) := by decide +kernel
theorem dX4_readMatching_125 : decode cX4_readMatching 125 = .ok (.iastore, 1) := by decide +kernel
theorem dX4_readMatching_126 : decode cX4_readMatching 126 = .ok (.iload 4, 2) := by decide +kernel
theorem dX4_readMatching_128 : decode cX4_readMatching 128 = .ok (.ifCond .eq 18, 3) := by decide +kernel
theorem dX4_readMatching_131 : decode cX4_readMatching 131 = .ok (.aload_n 0, 1) := by decide +kernel
theorem dX4_readMatching_132 : decode cX4_readMatching 132 = .ok (.iload_n 1, 1) := by decide +kernel
theorem dX4_readMatching_133 : decode cX4_readMatching 133 = .ok (.aload_n 2, 1) := by decide +kernel
theorem dX4_readMatching_134 : decode cX4_readMatching 134 = .ok (.invokestatic 334, 3) := by decide +kernel
theorem dX4_readMatching_137 : decode cX4_readMatching 137 = .ok (.aload_n 0, 1) := by decide +kernel
theorem dX4_readMatching_138 : decode cX4_readMatching 138 = .ok (.iload_n 1, 1) := by decide +kernel
theorem dX4_readMatching_139 : decode cX4_readMatching 139 = .ok (.invokevirtual 325, 3) := by decide +kernel
theorem dX4_readMatching_142 : decode cX4_readMatching 142 = .ok (.ior, 1) := by decide +kernel
theorem dX4_readMatching_143 : decode cX4_readMatching 143 = .ok (.invokevirtual 426, 3) := by decide +kernel
theorem dX4_readMatching_146 : decode cX4_readMatching 146 = .ok (.iinc 1 1, 3) := by decide +kernel
theorem dX4_readMatching_149 : decode cX4_readMatching 149 = .ok (.goto (-107), 3) := by decide +kernel
theorem dX4_readMatching_152 : decode cX4_readMatching 152 = .ok (.return_, 1) := by decide +kernel
set_option maxRecDepth 100000 in
set_option maxHeartbeats 4000000 in
theorem mt_X4_readMatching (r0 : Option Nat) (S0 : PH) (y : Unit × PH) (h : m_X4_readMatching r0 S0 = some y) : MT yX4_readMatching (.code yX4_readMatching cX4_readMatching 5 (Option.none : Option FieldType)) 3 67 0 0 [va_rf r0] S0 (oQ e_V (qN y)) := by
  refine mt_of (own := RX4) (l0 := [(0, va_rf r0)]) rfl rfl (by cases r0 <;> exact Nat.le_of_ble_eq_true rfl) (by cases r0 <;> rfl) ?_
  intro Z hC hQ hE hN
  unfold m_X4_readMatching at h
  refine x_iconst (v := (0 : Int32)) hC dX4_readMatching_0 (by decide) ?_
  refine x_istore_n (i := 1) (l' := [(1, .int (0 : Int32)), (0, va_rf r0)]) hC dX4_readMatching_1 rfl (⟨fun _ => c_rf r0, trivial⟩) (by decide) rfl ?_
  refine x_sub (l' := [(0, va_rf r0), (1, .int (0 : Int32))]) [1, 0] rfl ?_
  refine lp_sim (P := fun (t : (Int32 × PH)) => PX Z 5 t.2 0 0 2 [(0, va_rf r0), (1, .int t.1)] []) (G := fun r => r = y) ?_ h rfl
  clear h
  intro t x_2 h hg_2
  obtain ⟨v1, S2⟩ := t
  show PX Z 5 S2 0 0 2 [(0, va_rf r0), (1, .int v1)] []
  unfold st_X4_readMatching_2 at h
  refine x_iload_n (i := 1) hC dX4_readMatching_2 rfl 1 rfl ?_
  refine x_bipush (v := (8 : Int32)) hC dX4_readMatching_3 (by decide) ?_
  refine x_icmp_ge (t := 40) hC dX4_readMatching_5 (by decide) (fun c3 => ?_) (fun c3 => ?_)
  · replace h := it_t c3 h
    replace h := ir_x h hg_2
    refine x_iconst (v := (0 : Int32)) hC dX4_readMatching_40 (by decide) ?_
    refine x_istore_n (i := 1) (l' := [(1, .int (0 : Int32)), (0, va_rf r0)]) hC dX4_readMatching_41 rfl (⟨fun _ => c_rf r0, ⟨fun _ => rfl, trivial⟩⟩) (by decide) rfl ?_
    refine x_sub (l' := [(0, va_rf r0), (1, .int (0 : Int32))]) [1, 0] rfl ?_
    refine lp_sim (P := fun (t : (Int32 × PH)) => PX Z 5 t.2 0 0 42 [(0, va_rf r0), (1, .int t.1)] []) (G := fun r => r = y) ?_ h rfl
    clear h
    intro t x_42 h hg_42
    obtain ⟨v4, S5⟩ := t
    show PX Z 5 S5 0 0 42 [(0, va_rf r0), (1, .int v4)] []
    have J_125 : ∀ (v50 : Int32) (v51 : Option Nat) (v52 : Int32) (v53 : Option Nat) (v54 : Int32) (v55 : Int32) (S56 : PH), j_X4_readMatching_125 r0 v50 v51 v52 v53 v54 v55 S56 = some x_42 → PX Z 5 S56 0 0 125 [(0, va_rf r0), (1, .int v50), (2, va_rf v51), (4, .int v52)] [.int v55, .int v54, va_rf v53] := by
      intro v50 v51 v52 v53 v54 v55 S56 h
      unfold j_X4_readMatching_125 at h
      replace h := dr_el h
      obtain ⟨a57, ea58, ha59, h⟩ := h
      replace h := ck_el h
      obtain ⟨hc60, h⟩ := h
      replace h := le_el h
      obtain ⟨S61, hx62, h⟩ := h
      refine x_iastore hC ea58 ha59 hc60 dX4_readMatching_125 ?_
      refine x_tS hx62 ?_
      refine x_iload (i := 4) hC dX4_readMatching_126 3 rfl ?_
      refine x_if_eq (t := 146) hC dX4_readMatching_128 (by decide) (fun c63 => ?_) (fun c63 => ?_)
      · replace h := it_t c63 h
        refine x_iinc (i := 1) (v := (v50 + (1 : Int32))) (l' := [(1, .int (v50 + (1 : Int32))), (0, va_rf r0), (2, va_rf v51), (4, .int v52)]) hC dX4_readMatching_146 1 rfl rfl (⟨fun _ => c_rf r0, ⟨fun _ => rfl, ⟨fun _ => c_rf v51, ⟨fun _ => rfl, trivial⟩⟩⟩⟩) (by decide) rfl ?_
        refine x_goto (t := 42) hC dX4_readMatching_149 (by decide) ?_
        refine x_sub (l' := [(0, va_rf r0), (1, .int (v50 + (1 : Int32)))]) [1, 0] rfl ?_
        have hb := bk_x h hg_42
        exact hb
      · replace h := it_f c63 h
        refine x_aload_n (i := 0) hC dX4_readMatching_131 rfl 0 rfl ?_
        refine x_iload_n (i := 1) hC dX4_readMatching_132 rfl 1 rfl ?_
        refine x_aload_n (i := 2) hC dX4_readMatching_133 rfl 2 rfl ?_
        replace h := bd_el h
        obtain ⟨v64, S65, hb66, h⟩ := h
        refine x_callS hC (st := [.int v50, va_rf r0]) (mt_X4_reviewersIn _ _ _ hb66) q_231 q_232 q_1 q_233 hy_X4_reviewersIn ⟨Nat.le_of_ble_eq_true rfl, Nat.le_of_ble_eq_true rfl⟩ ⟨Nat.le_of_ble_eq_true rfl, Nat.le_of_ble_eq_true rfl⟩ rfl (Nat.le_of_ble_eq_true rfl) dX4_readMatching_134 (r_N ?_) r_NX
        show PX Z 5 S65 0 0 137 [(0, va_rf r0), (1, .int v50), (2, va_rf v51), (4, .int v52)] [.int v64, .int v50, va_rf r0]
        refine x_aload_n (i := 0) hC dX4_readMatching_137 rfl 0 rfl ?_
        refine x_iload_n (i := 1) hC dX4_readMatching_138 rfl 1 rfl ?_
        replace h := dr_el h
        obtain ⟨a67, ea68, ha69, h⟩ := h
        replace h := bd_el h
        obtain ⟨v70, S71, hb72, h⟩ := h
        refine x_callV hC (st := [.int v64, .int v50, va_rf r0]) (mt_X4_personsInConflict _ _ _ _ hb72) ea68 ha69 kf_4 q_244 q_246 qs_3 q_1 q_247 ⟨rfl, hy_X4_personsInConflict⟩ ⟨Nat.le_of_ble_eq_true rfl, Nat.le_of_ble_eq_true rfl⟩ ⟨Nat.le_of_ble_eq_true rfl, Nat.le_of_ble_eq_true rfl⟩ rfl (Nat.le_of_ble_eq_true rfl) dX4_readMatching_139 (r_N ?_) r_NX
        show PX Z 5 S71 0 0 142 [(0, va_rf r0), (1, .int v50), (2, va_rf v51), (4, .int v52)] [.int v70, .int v64, .int v50, va_rf r0]
        refine x_ior hC dX4_readMatching_142 ?_
        replace h := dr_el h
        obtain ⟨a73, ea74, ha75, h⟩ := h
        replace h := bd_el h
        obtain ⟨v76, S77, hb78, h⟩ := h
        refine x_callV hC (st := []) (mt_X4_readFitting _ _ _ _ _ hb78) ea74 ha75 kf_4 q_255 q_257 qs_5 q_1 q_258 ⟨rfl, hy_X4_readFitting⟩ ⟨Nat.le_of_ble_eq_true rfl, Nat.le_of_ble_eq_true rfl⟩ ⟨Nat.le_of_ble_eq_true rfl, Nat.le_of_ble_eq_true rfl⟩ rfl (Nat.le_of_ble_eq_true rfl) dX4_readMatching_143 (r_N ?_) r_NX
        show PX Z 5 S77 0 0 146 [(0, va_rf r0), (1, .int v50), (2, va_rf v51), (4, .int v52)] []
        refine x_iinc (i := 1) (v := (v50 + (1 : Int32))) (l' := [(1, .int (v50 + (1 : Int32))), (0, va_rf r0), (2, va_rf v51), (4, .int v52)]) hC dX4_readMatching_146 1 rfl rfl (⟨fun _ => c_rf r0, ⟨fun _ => rfl, ⟨fun _ => c_rf v51, ⟨fun _ => rfl, trivial⟩⟩⟩⟩) (by decide) rfl ?_
        refine x_goto (t := 42) hC dX4_readMatching_149 (by decide) ?_
        refine x_sub (l' := [(0, va_rf r0), (1, .int (v50 + (1 : Int32)))]) [1, 0] rfl ?_
        have hb := bk_x h hg_42
        exact hb
    have J_105 : ∀ (v38 : Int32) (v39 : Option Nat) (v40 : Int32) (v41 : Int32) (S42 : PH), j_X4_readMatching_105 r0 v38 v39 v40 v41 S42 = some x_42 → PX Z 5 S42 0 0 105 [(0, va_rf r0), (1, .int v38), (2, va_rf v39), (3, .int v40)] [.int v41] := by
      intro v38 v39 v40 v41 S42 h
      unfold j_X4_readMatching_105 at h
      refine x_istore (i := 4) (l' := [(4, .int v41), (0, va_rf r0), (1, .int v38), (2, va_rf v39), (3, .int v40)]) hC dX4_readMatching_105 (⟨fun _ => c_rf r0, ⟨fun _ => rfl, ⟨fun _ => c_rf v39, ⟨fun _ => rfl, trivial⟩⟩⟩⟩) (by decide) rfl ?_
      refine x_aload_n (i := 0) hC dX4_readMatching_107 rfl 1 rfl ?_
      replace h := dr_el h
      obtain ⟨a43, ea44, ha45, h⟩ := h
      refine x_getR hC ea44 ha45 kf_4 4 (by decide) rfl q_179 dX4_readMatching_108 ?_
      replace h := dr_el h
      obtain ⟨a46, ea47, ha48, h⟩ := h
      refine x_getR hC ea47 ha48 kf_1 2 (by decide) rfl q_152 dX4_readMatching_111 ?_
      refine x_iload_n (i := 1) hC dX4_readMatching_114 rfl 2 rfl ?_
      refine x_iload (i := 4) hC dX4_readMatching_115 0 rfl ?_
      refine x_if_eq (t := 124) hC dX4_readMatching_117 (by decide) (fun c49 => ?_) (fun c49 => ?_)
      · replace h := it_t c49 h
        refine x_iconst (v := (0 : Int32)) hC dX4_readMatching_124 (by decide) ?_
        refine x_sub (l' := [(0, va_rf r0), (1, .int v38), (2, va_rf v39), (4, .int v41)]) [1, 2, 3, 0] rfl ?_
        exact J_125 _ _ _ _ _ _ _ h
      · replace h := it_f c49 h
        refine x_iload_n (i := 3) hC dX4_readMatching_120 rfl 4 rfl ?_
        refine x_goto (t := 125) hC dX4_readMatching_121 (by decide) ?_
        refine x_sub (l' := [(0, va_rf r0), (1, .int v38), (2, va_rf v39), (4, .int v41)]) [1, 2, 3, 0] rfl ?_
        exact J_125 _ _ _ _ _ _ _ h
    unfold st_X4_readMatching_42 at h
    refine x_iload_n (i := 1) hC dX4_readMatching_42 rfl 1 rfl ?_
    refine x_bipush (v := (8 : Int32)) hC dX4_readMatching_43 (by decide) ?_
    refine x_icmp_ge (t := 152) hC dX4_readMatching_45 (by decide) (fun c6 => ?_) (fun c6 => ?_)
    · replace h := it_t c6 h
      replace h := ir_x h hg_42
      exact x_vret hC hQ (z_N (v := ()) (Option.some.inj h)) (Nat.le_of_ble_eq_true rfl) (Nat.le_of_ble_eq_true rfl) dX4_readMatching_152
    · replace h := it_f c6 h
      refine x_aload_n (i := 0) hC dX4_readMatching_48 rfl 0 rfl ?_
      replace h := dr_el h
      obtain ⟨a7, ea8, ha9, h⟩ := h
      refine x_getR hC ea8 ha9 kf_4 0 (by decide) rfl q_175 dX4_readMatching_49 ?_
      replace h := dr_el h
      obtain ⟨a10, ea11, ha12, h⟩ := h
      refine x_getR hC ea11 ha12 kf_2 10 (by decide) rfl q_58 dX4_readMatching_52 ?_
      refine x_iload_n (i := 1) hC dX4_readMatching_55 rfl 1 rfl ?_
      replace h := dr_el h
      obtain ⟨a13, ea14, ha15, h⟩ := h
      replace h := ck_el h
      obtain ⟨hc16, h⟩ := h
      refine x_aaload9 hC ea14 ha15 hc16 dX4_readMatching_56 ?_
      replace h := le_el h
      obtain ⟨r17, hx18, h⟩ := h
      refine x_tA hx18 ?_
      refine x_astore_n (i := 2) (l' := [(2, va_rf r17), (0, va_rf r0), (1, .int v4)]) hC dX4_readMatching_57 rfl (⟨fun _ => c_rf r0, ⟨fun _ => rfl, trivial⟩⟩) (by decide) rfl ?_
      refine x_aload_n (i := 0) hC dX4_readMatching_58 rfl 1 rfl ?_
      refine x_getR hC ea8 ha9 kf_4 0 (by decide) rfl q_175 dX4_readMatching_59 ?_
      refine x_getR hC ea11 ha12 kf_2 11 (by decide) rfl q_60 dX4_readMatching_62 ?_
      refine x_iconst (v := (0 : Int32)) hC dX4_readMatching_65 (by decide) ?_
      replace h := dr_el h
      obtain ⟨a19, ea20, ha21, h⟩ := h
      replace h := ck_el h
      obtain ⟨hc22, h⟩ := h
      refine x_iaload hC ea20 ha21 hc22 dX4_readMatching_66 ?_
      refine x_tI (b := (p_I S5 a19 0)) rfl ?_
      refine x_aload_n (i := 2) hC dX4_readMatching_67 rfl 0 rfl ?_
      replace h := bd_el h
      obtain ⟨v23, S24, hb25, h⟩ := h
      refine x_callS hC (st := [.int (p_I S5 a19 0)]) (mt_X4_reviewersIn _ _ _ hb25) q_231 q_232 q_1 q_233 hy_X4_reviewersIn ⟨Nat.le_of_ble_eq_true rfl, Nat.le_of_ble_eq_true rfl⟩ ⟨Nat.le_of_ble_eq_true rfl, Nat.le_of_ble_eq_true rfl⟩ rfl (Nat.le_of_ble_eq_true rfl) dX4_readMatching_68 (r_N ?_) r_NX
      show PX Z 5 S24 0 0 71 [(2, va_rf r17), (0, va_rf r0), (1, .int v4)] [.int v23, .int (p_I S5 a19 0)]
      replace h := bd_el h
      obtain ⟨v26, S27, hb28, h⟩ := h
      refine x_callS hC (st := [.int (p_I S5 a19 0)]) (mt_J6_bitCount_0f7a4 _ _ _ hb28) q_234 q_235 q_15 q_236 hy_J6_bitCount_0f7a4 ⟨Nat.le_of_ble_eq_true rfl, Nat.le_of_ble_eq_true rfl⟩ ⟨Nat.le_of_ble_eq_true rfl, Nat.le_of_ble_eq_true rfl⟩ rfl (Nat.le_of_ble_eq_true rfl) dX4_readMatching_71 (r_N ?_) r_NX
      show PX Z 5 S27 0 0 74 [(2, va_rf r17), (0, va_rf r0), (1, .int v4)] [.int v26, .int (p_I S5 a19 0)]
      refine x_isub hC dX4_readMatching_74 ?_
      replace h := le_el h
      obtain ⟨x29, hx30, h⟩ := h
      refine x_tI hx30 ?_
      refine x_istore_n (i := 3) (l' := [(3, .int x29), (2, va_rf r17), (0, va_rf r0), (1, .int v4)]) hC dX4_readMatching_75 rfl (⟨fun _ => c_rf r17, ⟨fun _ => c_rf r0, ⟨fun _ => rfl, trivial⟩⟩⟩) (by decide) rfl ?_
      refine x_aload_n (i := 0) hC dX4_readMatching_76 rfl 2 rfl ?_
      refine x_iload_n (i := 1) hC dX4_readMatching_77 rfl 3 rfl ?_
      replace h := dr_el h
      obtain ⟨a31, ea32, ha33, h⟩ := h
      replace h := bd_el h
      obtain ⟨v34, S35, hb36, h⟩ := h
      refine x_callV hC (st := []) (mt_X4_isPaper _ _ _ _ hb36) ea32 ha33 kf_4 q_240 q_242 qs_2 q_1 q_243 ⟨rfl, hy_X4_isPaper⟩ ⟨Nat.le_of_ble_eq_true rfl, Nat.le_of_ble_eq_true rfl⟩ ⟨Nat.le_of_ble_eq_true rfl, Nat.le_of_ble_eq_true rfl⟩ rfl (Nat.le_of_ble_eq_true rfl) dX4_readMatching_78 (r_N ?_) r_NX
      show PX Z 5 S35 0 0 81 [(3, .int x29), (2, va_rf r17), (0, va_rf r0), (1, .int v4)] [.int v34]
      refine x_if_eq (t := 104) hC dX4_readMatching_81 (by decide) (fun c37 => ?_) (fun c37 => ?_)
      · replace h := it_t c37 h
        refine x_iconst (v := (0 : Int32)) hC dX4_readMatching_104 (by decide) ?_
        refine x_sub (l' := [(0, va_rf r0), (1, .int v4), (2, va_rf r17), (3, .int x29)]) [2, 3, 1, 0] rfl ?_
        exact J_105 _ _ _ _ _ h
      · replace h := it_f c37 h
        refine x_aload_n (i := 0) hC dX4_readMatching_84 rfl 2 rfl ?_
        replace h := dr_el h
        obtain ⟨a79, ea80, ha81, h⟩ := h
        refine x_getR hC ea80 ha81 kf_4 0 (by decide) rfl q_175 dX4_readMatching_85 ?_
        replace h := dr_el h
        obtain ⟨a82, ea83, ha84, h⟩ := h
        refine x_getR hC ea83 ha84 kf_2 9 (by decide) rfl q_56 dX4_readMatching_88 ?_
        refine x_iload_n (i := 1) hC dX4_readMatching_91 rfl 3 rfl ?_
        replace h := dr_el h
        obtain ⟨a85, ea86, ha87, h⟩ := h
        replace h := ck_el h
        obtain ⟨hc88, h⟩ := h
        refine x_iaload hC ea86 ha87 hc88 dX4_readMatching_92 ?_
        refine x_if_ne (t := 104) hC dX4_readMatching_93 (by decide) (fun c89 => ?_) (fun c89 => ?_)
        · replace h := it_f c89 h
          refine x_iconst (v := (0 : Int32)) hC dX4_readMatching_104 (by decide) ?_
          refine x_sub (l' := [(0, va_rf r0), (1, .int v4), (2, va_rf r17), (3, .int x29)]) [2, 3, 1, 0] rfl ?_
          exact J_105 _ _ _ _ _ h
        · replace h := it_t c89 h
          refine x_iload_n (i := 3) hC dX4_readMatching_96 rfl 0 rfl ?_
          refine x_if_le (t := 104) hC dX4_readMatching_97 (by decide) (fun c90 => ?_) (fun c90 => ?_)
          · replace h := it_t c90 h
            refine x_iconst (v := (0 : Int32)) hC dX4_readMatching_104 (by decide) ?_
            refine x_sub (l' := [(0, va_rf r0), (1, .int v4), (2, va_rf r17), (3, .int x29)]) [2, 3, 1, 0] rfl ?_
            exact J_105 _ _ _ _ _ h
          · replace h := it_f c90 h
            refine x_iconst (v := (1 : Int32)) hC dX4_readMatching_100 (by decide) ?_
            refine x_goto (t := 105) hC dX4_readMatching_101 (by decide) ?_
            refine x_sub (l' := [(0, va_rf r0), (1, .int v4), (2, va_rf r17), (3, .int x29)]) [2, 3, 1, 0] rfl ?_
            exact J_105 _ _ _ _ _ h
  · replace h := it_f c3 h
    refine x_aload_n (i := 0) hC dX4_readMatching_8 rfl 0 rfl ?_
    replace h := dr_el h
    obtain ⟨a91, ea92, ha93, h⟩ := h
    refine x_getR hC ea92 ha93 kf_4 4 (by decide) rfl q_179 dX4_readMatching_9 ?_
    replace h := dr_el h
    obtain ⟨a94, ea95, ha96, h⟩ := h
    refine x_getR hC ea95 ha96 kf_1 0 (by decide) rfl q_148 dX4_readMatching_12 ?_
    refine x_iload_n (i := 1) hC dX4_readMatching_15 rfl 1 rfl ?_
    refine x_aload_n (i := 0) hC dX4_readMatching_16 rfl 0 rfl ?_
    refine x_iload_n (i := 1) hC dX4_readMatching_17 rfl 1 rfl ?_
    replace h := bd_el h
    obtain ⟨v97, S98, hb99, h⟩ := h
    refine x_callV hC (st := [.int v1, va_rf (p_R S2 a94 0)]) (mt_X4_tokensOf _ _ _ _ hb99) ea92 ha93 kf_4 q_227 q_229 qs_1 q_1 q_230 ⟨rfl, hy_X4_tokensOf⟩ ⟨Nat.le_of_ble_eq_true rfl, Nat.le_of_ble_eq_true rfl⟩ ⟨Nat.le_of_ble_eq_true rfl, Nat.le_of_ble_eq_true rfl⟩ rfl (Nat.le_of_ble_eq_true rfl) dX4_readMatching_18 (r_N ?_) r_NX
    show PX Z 5 S98 0 0 21 [(0, va_rf r0), (1, .int v1)] [.int v97, .int v1, va_rf (p_R S2 a94 0)]
    refine x_iconst (v := (2 : Int32)) hC dX4_readMatching_21 (by decide) ?_
    refine x_idiv hC dX4_readMatching_22 (by decide) ?_
    replace h := dr_el h
    obtain ⟨a100, ea101, ha102, h⟩ := h
    replace h := ck_el h
    obtain ⟨hc103, h⟩ := h
    replace h := le_el h
    obtain ⟨S104, hx105, h⟩ := h
    refine x_iastore hC ea101 ha102 hc103 dX4_readMatching_23 ?_
    refine x_tS hx105 ?_
    refine x_aload_n (i := 0) hC dX4_readMatching_24 rfl 0 rfl ?_
    replace h := dr_el h
    obtain ⟨a106, ea107, ha108, h⟩ := h
    refine x_getR hC ea107 ha108 kf_4 4 (by decide) rfl q_179 dX4_readMatching_25 ?_
    replace h := dr_el h
    obtain ⟨a109, ea110, ha111, h⟩ := h
    refine x_getR hC ea110 ha111 kf_1 1 (by decide) rfl q_150 dX4_readMatching_28 ?_
    refine x_iload_n (i := 1) hC dX4_readMatching_31 rfl 1 rfl ?_
    refine x_iconst (v := (0 : Int32)) hC dX4_readMatching_32 (by decide) ?_
    replace h := dr_el h
    obtain ⟨a112, ea113, ha114, h⟩ := h
    replace h := ck_el h
    obtain ⟨hc115, h⟩ := h
    replace h := le_el h
    obtain ⟨S116, hx117, h⟩ := h
    refine x_iastore hC ea113 ha114 hc115 dX4_readMatching_33 ?_
    refine x_tS hx117 ?_
    refine x_iinc (i := 1) (v := (v1 + (1 : Int32))) (l' := [(1, .int (v1 + (1 : Int32))), (0, va_rf r0)]) hC dX4_readMatching_34 1 rfl rfl (⟨fun _ => c_rf r0, ⟨fun _ => rfl, trivial⟩⟩) (by decide) rfl ?_
    refine x_goto (t := 2) hC dX4_readMatching_37 (by decide) ?_
    refine x_sub (l' := [(0, va_rf r0), (1, .int (v1 + (1 : Int32)))]) [1, 0] rfl ?_
    have hb := bk_x h hg_2
    exact hb
theorem dX4_most_0 : decode cX4_most 0 = .ok (.iload_n 1, 1) := by decide +kernel
theorem dX4_most_1 : decode cX4_most 1 = .ok (.ifCond .lt 8, 3) := by decide +kernel
theorem dX4_most_4 : decode cX4_most 4 = .ok (.iload_n 1, 1) := by decide +kernel
theorem dX4_most_5 : decode cX4_most 5 = .ok (.iconst 1, 1) := by decide +kernel
theorem dX4_most_6 : decode cX4_most 6 = .ok (.if_icmp .le 13, 3) := by decide +kernel
theorem dX4_most_9 : decode cX4_most 9 = .ok (.new 45, 3) := by decide +kernel
theorem dX4_most_12 : decode cX4_most 12 = .ok (.dup, 1) := by decide +kernel
theorem dX4_most_13 : decode cX4_most 13 = .ok (.ldc 248, 2) := by decide +kernel
theorem dX4_most_15 : decode cX4_most 15 = .ok (.invokespecial 49, 3) := by decide +kernel
theorem dX4_most_18 : decode cX4_most 18 = .ok (.athrow, 1) := by decide +kernel
theorem dX4_most_19 : decode cX4_most 19 = .ok (.aload_n 0, 1) := by decide +kernel
theorem dX4_most_20 : decode cX4_most 20 = .ok (.invokevirtual 250, 3) := by decide +kernel
theorem dX4_most_23 : decode cX4_most 23 = .ok (.iload_n 1, 1) := by decide +kernel
theorem dX4_most_24 : decode cX4_most 24 = .ok (.ifCond .ne 14, 3) := by decide +kernel
theorem dX4_most_27 : decode cX4_most 27 = .ok (.aload_n 0, 1) := by decide +kernel
theorem dX4_most_28 : decode cX4_most 28 = .ok (.getfield 37, 3) := by decide +kernel
theorem dX4_most_31 : decode cX4_most 31 = .ok (.iconst (-1), 1) := by decide +kernel
theorem dX4_most_32 : decode cX4_most 32 = .ok (.invokevirtual 253, 3) := by decide +kernel
theorem dX4_most_35 : decode cX4_most 35 = .ok (.goto 10, 3) := by decide +kernel
theorem dX4_most_38 : decode cX4_most 38 = .ok (.aload_n 0, 1) := by decide +kernel
theorem dX4_most_39 : decode cX4_most 39 = .ok (.getfield 37, 3) := by decide +kernel
theorem dX4_most_42 : decode cX4_most 42 = .ok (.invokevirtual 256, 3) := by decide +kernel
theorem dX4_most_45 : decode cX4_most 45 = .ok (.ireturn, 1) := by decide +kernel
set_option maxRecDepth 100000 in
set_option maxHeartbeats 4000000 in
theorem mt_X4_most (r0 : Option Nat) (i1 : Int32) (S0 : PH) (y : (Nat ⊕ Int32) × PH) (h : m_X4_most r0 i1 S0 = some y) : MT yX4_most (.code yX4_most cX4_most 2 (Option.some FieldType.int)) 6 97 1 6 [va_rf r0, .int i1] S0 (oQ e_I (qT y)) := by
  refine mt_of (own := RX4) (l0 := [(0, va_rf r0), (1, .int i1)]) rfl rfl (by cases r0 <;> exact Nat.le_of_ble_eq_true rfl) (by cases r0 <;> rfl) ?_
  intro Z hC hQ hE hN
  have J_9 : ∀ (S2 : PH), j_X4_most_9 r0 i1 S2 = some y → PX Z 2 S2 0 0 9 [(0, va_rf r0), (1, .int i1)] [] := by
    intro S2 h
    unfold j_X4_most_9 at h
    exact x_throw hC hQ hE (j := 0) (z_X (Option.some.inj h)) tx_45_49_0 (List.mem_of_getElem? (i := 25) rfl) (Nat.le_of_ble_eq_true rfl) ⟨Nat.le_of_ble_eq_true rfl, Nat.le_of_ble_eq_true rfl⟩ ⟨Nat.le_of_ble_eq_true rfl, Nat.le_of_ble_eq_true rfl⟩ (Nat.le_of_ble_eq_true rfl) (Nat.le_of_ble_eq_true rfl) dX4_most_9 dX4_most_12 dX4_most_13 dX4_most_15 dX4_most_18
  unfold m_X4_most at h
  refine x_iload_n (i := 1) hC dX4_most_0 rfl 1 rfl ?_
  refine x_if_lt (t := 9) hC dX4_most_1 (by decide) (fun c1 => ?_) (fun c1 => ?_)
  · replace h := it_t c1 h
    exact J_9 _ h
  · replace h := it_f c1 h
    refine x_iload_n (i := 1) hC dX4_most_4 rfl 1 rfl ?_
    refine x_iconst (v := (1 : Int32)) hC dX4_most_5 (by decide) ?_
    refine x_icmp_le (t := 19) hC dX4_most_6 (by decide) (fun c3 => ?_) (fun c3 => ?_)
    · replace h := it_t c3 h
      refine x_aload_n (i := 0) hC dX4_most_19 rfl 0 rfl ?_
      replace h := dr_el h
      obtain ⟨a4, ea5, ha6, h⟩ := h
      replace h := bd_el h
      obtain ⟨v7, S8, hb9, h⟩ := h
      refine x_callV hC (st := []) (mt_X4_readMatching _ _ _ hb9) ea5 ha6 kf_4 q_223 q_225 qs_0 q_1 q_226 ⟨rfl, hy_X4_readMatching⟩ ⟨Nat.le_of_ble_eq_true rfl, Nat.le_of_ble_eq_true rfl⟩ ⟨Nat.le_of_ble_eq_true rfl, Nat.le_of_ble_eq_true rfl⟩ rfl (Nat.le_of_ble_eq_true rfl) dX4_most_20 (r_N ?_) r_NX
      show PX Z 2 S8 0 0 23 [(0, va_rf r0), (1, .int i1)] []
      refine x_iload_n (i := 1) hC dX4_most_23 rfl 1 rfl ?_
      refine x_if_ne (t := 38) hC dX4_most_24 (by decide) (fun c10 => ?_) (fun c10 => ?_)
      · replace h := it_f c10 h
        refine x_aload_n (i := 0) hC dX4_most_38 rfl 0 rfl ?_
        replace h := dr_el h
        obtain ⟨a11, ea12, ha13, h⟩ := h
        refine x_getR hC ea12 ha13 kf_4 4 (by decide) rfl q_179 dX4_most_39 ?_
        replace h := dr_el h
        obtain ⟨a14, ea15, ha16, h⟩ := h
        replace h := bd_el h
        obtain ⟨v17, S18, hb19, h⟩ := h
        refine x_callV hC (st := []) (mt_X1_byCuts _ _ _ hb19) ea15 ha16 kf_1 q_397 q_398 q_399 q_6 q_400 ⟨rfl, hy_X1_byCuts⟩ ⟨Nat.le_of_ble_eq_true rfl, Nat.le_of_ble_eq_true rfl⟩ ⟨Nat.le_of_ble_eq_true rfl, Nat.le_of_ble_eq_true rfl⟩ rfl (Nat.le_of_ble_eq_true rfl) dX4_most_42 (r_N ?_) r_NX
        show PX Z 2 S18 0 0 45 [(0, va_rf r0), (1, .int i1)] [.int v17]
        exact x_iret hC hQ (z_T (Option.some.inj h)) (Nat.le_of_ble_eq_true rfl) (Nat.le_of_ble_eq_true rfl) dX4_most_45
      · replace h := it_t c10 h
        refine x_aload_n (i := 0) hC dX4_most_27 rfl 0 rfl ?_
        replace h := dr_el h
        obtain ⟨a20, ea21, ha22, h⟩ := h
        refine x_getR hC ea21 ha22 kf_4 4 (by decide) rfl q_179 dX4_most_28 ?_
        refine x_iconst (v := (-1 : Int32)) hC dX4_most_31 (by decide) ?_
        replace h := dr_el h
        obtain ⟨a23, ea24, ha25, h⟩ := h
        replace h := bd_el h
        obtain ⟨v26, S27, hb28, h⟩ := h
        refine x_callV hC (st := []) (mt_X1_byWays _ _ _ _ hb28) ea24 ha25 kf_1 q_263 q_264 q_265 q_6 q_266 ⟨rfl, hy_X1_byWays⟩ ⟨Nat.le_of_ble_eq_true rfl, Nat.le_of_ble_eq_true rfl⟩ ⟨Nat.le_of_ble_eq_true rfl, Nat.le_of_ble_eq_true rfl⟩ rfl (Nat.le_of_ble_eq_true rfl) dX4_most_32 (r_N ?_) r_NX
        show PX Z 2 S27 0 0 35 [(0, va_rf r0), (1, .int i1)] [.int v26]
        refine x_goto (t := 45) hC dX4_most_35 (by decide) ?_
        exact x_iret hC hQ (z_T (Option.some.inj h)) (Nat.le_of_ble_eq_true rfl) (Nat.le_of_ble_eq_true rfl) dX4_most_45
    · replace h := it_f c3 h
      exact J_9 _ h
theorem dX4_neededPerson_0 : decode cX4_neededPerson 0 = .ok (.iconst 0, 1) := by decide +kernel
theorem dX4_neededPerson_1 : decode cX4_neededPerson 1 = .ok (.istore_n 1, 1) := by decide +kernel
theorem dX4_neededPerson_2 : decode cX4_neededPerson 2 = .ok (.aload_n 0, 1) := by decide +kernel
theorem dX4_neededPerson_3 : decode cX4_neededPerson 3 = .ok (.getfield 37, 3) := by decide +kernel
theorem dX4_neededPerson_6 : decode cX4_neededPerson 6 = .ok (.iconst 0, 1) := by decide +kernel
theorem dX4_neededPerson_7 : decode cX4_neededPerson 7 = .ok (.invokevirtual 253, 3) := by decide +kernel
theorem dX4_neededPerson_10 : decode cX4_neededPerson 10 = .ok (.istore_n 2, 1) := by decide +kernel
theorem dX4_neededPerson_11 : decode cX4_neededPerson 11 = .ok (.iconst 1, 1) := by decide +kernel
theorem dX4_neededPerson_12 : decode cX4_neededPerson 12 = .ok (.istore_n 3, 1) := by decide +kernel
theorem dX4_neededPerson_13 : decode cX4_neededPerson 13 = .ok (.iload_n 3, 1) := by decide +kernel
theorem dX4_neededPerson_14 : decode cX4_neededPerson 14 = .ok (.bipush 8, 2) := by decide +kernel
theorem dX4_neededPerson_16 : decode cX4_neededPerson 16 = .ok (.if_icmp .ge 30, 3) := by decide +kernel
theorem dX4_neededPerson_19 : decode cX4_neededPerson 19 = .ok (.aload_n 0, 1) := by decide +kernel
theorem dX4_neededPerson_20 : decode cX4_neededPerson 20 = .ok (.getfield 37, 3) := by decide +kernel
theorem dX4_neededPerson_23 : decode cX4_neededPerson 23 = .ok (.iload_n 3, 1) := by decide +kernel
theorem dX4_neededPerson_24 : decode cX4_neededPerson 24 = .ok (.invokevirtual 253, 3) := by decide +kernel
theorem dX4_neededPerson_27 : decode cX4_neededPerson 27 = .ok (.istore 4, 2) := by decide +kernel
theorem dX4_neededPerson_29 : decode cX4_neededPerson 29 = .ok (.iload 4, 2) := by decide +kernel
theorem dX4_neededPerson_31 : decode cX4_neededPerson 31 = .ok (.iload_n 2, 1) := by decide +kernel
theorem dX4_neededPerson_32 : decode cX4_neededPerson 32 = .ok (.if_icmp .ge 8, 3) := by decide +kernel
theorem dX4_neededPerson_35 : decode cX4_neededPerson 35 = .ok (.iload_n 3, 1) := by decide +kernel
theorem dX4_neededPerson_36 : decode cX4_neededPerson 36 = .ok (.istore_n 1, 1) := by decide +kernel
theorem dX4_neededPerson_37 : decode cX4_neededPerson 37 = .ok (.iload 4, 2) := by decide +kernel
theorem dX4_neededPerson_39 : decode cX4_neededPerson 39 = .ok (.istore_n 2, 1) := by decide +kernel
theorem dX4_neededPerson_40 : decode cX4_neededPerson 40 = .ok (.iinc 3 1, 3) := by decide +kernel
theorem dX4_neededPerson_43 : decode cX4_neededPerson 43 = .ok (.goto (-30), 3) := by decide +kernel
theorem dX4_neededPerson_46 : decode cX4_neededPerson 46 = .ok (.iload_n 1, 1) := by decide +kernel
theorem dX4_neededPerson_47 : decode cX4_neededPerson 47 = .ok (.ireturn, 1) := by decide +kernel
set_option maxRecDepth 100000 in
set_option maxHeartbeats 4000000 in
theorem mt_X4_neededPerson (r0 : Option Nat) (S0 : PH) (y : Int32 × PH) (h : m_X4_neededPerson r0 S0 = some y) : MT yX4_neededPerson (.code yX4_neededPerson cX4_neededPerson 5 (Option.some FieldType.int)) 4 97 0 0 [va_rf r0] S0 (oQ e_I (qN y)) := by
  refine mt_of (own := RX4) (l0 := [(0, va_rf r0)]) rfl rfl (by cases r0 <;> exact Nat.le_of_ble_eq_true rfl) (by cases r0 <;> rfl) ?_
  intro Z hC hQ hE hN
  unfold m_X4_neededPerson at h
  refine x_iconst (v := (0 : Int32)) hC dX4_neededPerson_0 (by decide) ?_
  refine x_istore_n (i := 1) (l' := [(1, .int (0 : Int32)), (0, va_rf r0)]) hC dX4_neededPerson_1 rfl (⟨fun _ => c_rf r0, trivial⟩) (by decide) rfl ?_
  refine x_aload_n (i := 0) hC dX4_neededPerson_2 rfl 1 rfl ?_
  replace h := dr_el h
  obtain ⟨a1, ea2, ha3, h⟩ := h
  refine x_getR hC ea2 ha3 kf_4 4 (by decide) rfl q_179 dX4_neededPerson_3 ?_
  refine x_iconst (v := (0 : Int32)) hC dX4_neededPerson_6 (by decide) ?_
  replace h := dr_el h
  obtain ⟨a4, ea5, ha6, h⟩ := h
  replace h := bd_el h
  obtain ⟨v7, S8, hb9, h⟩ := h
  refine x_callV hC (st := []) (mt_X1_byWays _ _ _ _ hb9) ea5 ha6 kf_1 q_263 q_264 q_265 q_6 q_266 ⟨rfl, hy_X1_byWays⟩ ⟨Nat.le_of_ble_eq_true rfl, Nat.le_of_ble_eq_true rfl⟩ ⟨Nat.le_of_ble_eq_true rfl, Nat.le_of_ble_eq_true rfl⟩ rfl (Nat.le_of_ble_eq_true rfl) dX4_neededPerson_7 (r_N ?_) r_NX
  show PX Z 5 S8 0 0 10 [(1, .int (0 : Int32)), (0, va_rf r0)] [.int v7]
  refine x_istore_n (i := 2) (l' := [(2, .int v7), (1, .int (0 : Int32)), (0, va_rf r0)]) hC dX4_neededPerson_10 rfl (⟨fun _ => rfl, ⟨fun _ => c_rf r0, trivial⟩⟩) (by decide) rfl ?_
  refine x_iconst (v := (1 : Int32)) hC dX4_neededPerson_11 (by decide) ?_
  refine x_istore_n (i := 3) (l' := [(3, .int (1 : Int32)), (2, .int v7), (1, .int (0 : Int32)), (0, va_rf r0)]) hC dX4_neededPerson_12 rfl (⟨fun _ => rfl, ⟨fun _ => rfl, ⟨fun _ => c_rf r0, trivial⟩⟩⟩) (by decide) rfl ?_
  refine x_sub (l' := [(0, va_rf r0), (1, .int (0 : Int32)), (2, .int v7), (3, .int (1 : Int32))]) [3, 2, 1, 0] rfl ?_
  refine lp_sim (P := fun (t : (Int32 × Int32 × Int32 × PH)) => PX Z 5 t.2.2.2 0 0 13 [(0, va_rf r0), (1, .int t.1), (2, .int t.2.1), (3, .int t.2.2.1)] []) (G := fun r => r = y) ?_ h rfl
  clear h
  intro t x_13 h hg_13
  obtain ⟨v10, v11, v12, S13⟩ := t
  show PX Z 5 S13 0 0 13 [(0, va_rf r0), (1, .int v10), (2, .int v11), (3, .int v12)] []
  unfold st_X4_neededPerson_13 at h
  refine x_iload_n (i := 3) hC dX4_neededPerson_13 rfl 3 rfl ?_
  refine x_bipush (v := (8 : Int32)) hC dX4_neededPerson_14 (by decide) ?_
  refine x_icmp_ge (t := 46) hC dX4_neededPerson_16 (by decide) (fun c14 => ?_) (fun c14 => ?_)
  · replace h := it_t c14 h
    replace h := ir_x h hg_13
    refine x_iload_n (i := 1) hC dX4_neededPerson_46 rfl 1 rfl ?_
    exact x_iret hC hQ (z_N (Option.some.inj h)) (Nat.le_of_ble_eq_true rfl) (Nat.le_of_ble_eq_true rfl) dX4_neededPerson_47
  · replace h := it_f c14 h
    refine x_aload_n (i := 0) hC dX4_neededPerson_19 rfl 0 rfl ?_
    replace h := dr_el h
    obtain ⟨a15, ea16, ha17, h⟩ := h
    refine x_getR hC ea16 ha17 kf_4 4 (by decide) rfl q_179 dX4_neededPerson_20 ?_
    refine x_iload_n (i := 3) hC dX4_neededPerson_23 rfl 3 rfl ?_
    replace h := dr_el h
    obtain ⟨a18, ea19, ha20, h⟩ := h
    replace h := bd_el h
    obtain ⟨v21, S22, hb23, h⟩ := h
    refine x_callV hC (st := []) (mt_X1_byWays _ _ _ _ hb23) ea19 ha20 kf_1 q_263 q_264 q_265 q_6 q_266 ⟨rfl, hy_X1_byWays⟩ ⟨Nat.le_of_ble_eq_true rfl, Nat.le_of_ble_eq_true rfl⟩ ⟨Nat.le_of_ble_eq_true rfl, Nat.le_of_ble_eq_true rfl⟩ rfl (Nat.le_of_ble_eq_true rfl) dX4_neededPerson_24 (r_N ?_) r_NX
    show PX Z 5 S22 0 0 27 [(0, va_rf r0), (1, .int v10), (2, .int v11), (3, .int v12)] [.int v21]
    refine x_istore (i := 4) (l' := [(4, .int v21), (0, va_rf r0), (1, .int v10), (2, .int v11), (3, .int v12)]) hC dX4_neededPerson_27 (⟨fun _ => c_rf r0, ⟨fun _ => rfl, ⟨fun _ => rfl, ⟨fun _ => rfl, trivial⟩⟩⟩⟩) (by decide) rfl ?_
    refine x_iload (i := 4) hC dX4_neededPerson_29 0 rfl ?_
    refine x_iload_n (i := 2) hC dX4_neededPerson_31 rfl 3 rfl ?_
    refine x_icmp_ge (t := 40) hC dX4_neededPerson_32 (by decide) (fun c24 => ?_) (fun c24 => ?_)
    · replace h := it_t c24 h
      refine x_iinc (i := 3) (v := (v12 + (1 : Int32))) (l' := [(3, .int (v12 + (1 : Int32))), (4, .int v21), (0, va_rf r0), (1, .int v10), (2, .int v11)]) hC dX4_neededPerson_40 4 rfl rfl (⟨fun _ => rfl, ⟨fun _ => c_rf r0, ⟨fun _ => rfl, ⟨fun _ => rfl, ⟨fun _ => rfl, trivial⟩⟩⟩⟩⟩) (by decide) rfl ?_
      refine x_goto (t := 13) hC dX4_neededPerson_43 (by decide) ?_
      refine x_sub (l' := [(0, va_rf r0), (1, .int v10), (2, .int v11), (3, .int (v12 + (1 : Int32)))]) [2, 3, 4, 0] rfl ?_
      have hb := bk_x h hg_13
      exact hb
    · replace h := it_f c24 h
      refine x_iload_n (i := 3) hC dX4_neededPerson_35 rfl 4 rfl ?_
      refine x_istore_n (i := 1) (l' := [(1, .int v12), (4, .int v21), (0, va_rf r0), (2, .int v11), (3, .int v12)]) hC dX4_neededPerson_36 rfl (⟨fun _ => rfl, ⟨fun _ => c_rf r0, ⟨fun _ => rfl, ⟨fun _ => rfl, ⟨fun _ => rfl, trivial⟩⟩⟩⟩⟩) (by decide) rfl ?_
      refine x_iload (i := 4) hC dX4_neededPerson_37 1 rfl ?_
      refine x_istore_n (i := 2) (l' := [(2, .int v21), (1, .int v12), (4, .int v21), (0, va_rf r0), (3, .int v12)]) hC dX4_neededPerson_39 rfl (⟨fun _ => rfl, ⟨fun _ => rfl, ⟨fun _ => c_rf r0, ⟨fun _ => rfl, ⟨fun _ => rfl, trivial⟩⟩⟩⟩⟩) (by decide) rfl ?_
      refine x_iinc (i := 3) (v := (v12 + (1 : Int32))) (l' := [(3, .int (v12 + (1 : Int32))), (2, .int v21), (1, .int v12), (4, .int v21), (0, va_rf r0)]) hC dX4_neededPerson_40 4 rfl rfl (⟨fun _ => rfl, ⟨fun _ => rfl, ⟨fun _ => rfl, ⟨fun _ => c_rf r0, ⟨fun _ => rfl, trivial⟩⟩⟩⟩⟩) (by decide) rfl ?_
      refine x_goto (t := 13) hC dX4_neededPerson_43 (by decide) ?_
      refine x_sub (l' := [(0, va_rf r0), (1, .int v12), (2, .int v21), (3, .int (v12 + (1 : Int32)))]) [4, 2, 1, 0] rfl ?_
      have hb := bk_x h hg_13
      exact hb
theorem dX4_needed_0 : decode cX4_needed 0 = .ok (.aload_n 0, 1) := by decide +kernel
theorem dX4_needed_1 : decode cX4_needed 1 = .ok (.invokevirtual 250, 3) := by decide +kernel
theorem dX4_needed_4 : decode cX4_needed 4 = .ok (.aload_n 0, 1) := by decide +kernel
theorem dX4_needed_5 : decode cX4_needed 5 = .ok (.invokevirtual 259, 3) := by decide +kernel
theorem dX4_needed_8 : decode cX4_needed 8 = .ok (.ireturn, 1) := by decide +kernel
set_option maxRecDepth 100000 in
set_option maxHeartbeats 4000000 in
theorem mt_X4_needed (r0 : Option Nat) (S0 : PH) (y : Int32 × PH) (h : m_X4_needed r0 S0 = some y) : MT yX4_needed (.code yX4_needed cX4_needed 1 (Option.some FieldType.int)) 5 121 0 0 [va_rf r0] S0 (oQ e_I (qN y)) := by
  refine mt_of (own := RX4) (l0 := [(0, va_rf r0)]) rfl rfl (by cases r0 <;> exact Nat.le_of_ble_eq_true rfl) (by cases r0 <;> rfl) ?_
  intro Z hC hQ hE hN
  unfold m_X4_needed at h
  refine x_aload_n (i := 0) hC dX4_needed_0 rfl 0 rfl ?_
  replace h := dr_el h
  obtain ⟨a1, ea2, ha3, h⟩ := h
  replace h := bd_el h
  obtain ⟨v4, S5, hb6, h⟩ := h
  refine x_callV hC (st := []) (mt_X4_readMatching _ _ _ hb6) ea2 ha3 kf_4 q_223 q_225 qs_0 q_1 q_226 ⟨rfl, hy_X4_readMatching⟩ ⟨Nat.le_of_ble_eq_true rfl, Nat.le_of_ble_eq_true rfl⟩ ⟨Nat.le_of_ble_eq_true rfl, Nat.le_of_ble_eq_true rfl⟩ rfl (Nat.le_of_ble_eq_true rfl) dX4_needed_1 (r_N ?_) r_NX
  show PX Z 1 S5 0 0 4 [(0, va_rf r0)] []
  refine x_aload_n (i := 0) hC dX4_needed_4 rfl 0 rfl ?_
  replace h := dr_el h
  obtain ⟨a7, ea8, ha9, h⟩ := h
  replace h := bd_el h
  obtain ⟨v10, S11, hb12, h⟩ := h
  refine x_callV hC (st := []) (mt_X4_neededPerson _ _ _ hb12) ea8 ha9 kf_4 q_259 q_261 qs_6 q_1 q_262 ⟨rfl, hy_X4_neededPerson⟩ ⟨Nat.le_of_ble_eq_true rfl, Nat.le_of_ble_eq_true rfl⟩ ⟨Nat.le_of_ble_eq_true rfl, Nat.le_of_ble_eq_true rfl⟩ rfl (Nat.le_of_ble_eq_true rfl) dX4_needed_5 (r_N ?_) r_NX
  show PX Z 1 S11 0 0 8 [(0, va_rf r0)] [.int v10]
  exact x_iret hC hQ (z_N (Option.some.inj h)) (Nat.le_of_ble_eq_true rfl) (Nat.le_of_ble_eq_true rfl) dX4_needed_8
theorem dX4_roundsFor_0 : decode cX4_roundsFor 0 = .ok (.aload_n 0, 1) := by decide +kernel
theorem dX4_roundsFor_1 : decode cX4_roundsFor 1 = .ok (.getfield 10, 3) := by decide +kernel
theorem dX4_roundsFor_4 : decode cX4_roundsFor 4 = .ok (.getfield 167, 3) := by decide +kernel
theorem dX4_roundsFor_7 : decode cX4_roundsFor 7 = .ok (.iload_n 1, 1) := by decide +kernel
theorem dX4_roundsFor_8 : decode cX4_roundsFor 8 = .ok (.aaload, 1) := by decide +kernel
theorem dX4_roundsFor_9 : decode cX4_roundsFor 9 = .ok (.iconst 0, 1) := by decide +kernel
theorem dX4_roundsFor_10 : decode cX4_roundsFor 10 = .ok (.aload_n 0, 1) := by decide +kernel
theorem dX4_roundsFor_11 : decode cX4_roundsFor 11 = .ok (.getfield 41, 3) := by decide +kernel
theorem dX4_roundsFor_14 : decode cX4_roundsFor 14 = .ok (.iconst 0, 1) := by decide +kernel
theorem dX4_roundsFor_15 : decode cX4_roundsFor 15 = .ok (.bipush 8, 2) := by decide +kernel
theorem dX4_roundsFor_17 : decode cX4_roundsFor 17 = .ok (.invokestatic 411, 3) := by decide +kernel
theorem dX4_roundsFor_20 : decode cX4_roundsFor 20 = .ok (.iconst 0, 1) := by decide +kernel
theorem dX4_roundsFor_21 : decode cX4_roundsFor 21 = .ok (.istore_n 2, 1) := by decide +kernel
theorem dX4_roundsFor_22 : decode cX4_roundsFor 22 = .ok (.iload_n 2, 1) := by decide +kernel
theorem dX4_roundsFor_23 : decode cX4_roundsFor 23 = .ok (.bipush 20, 2) := by decide +kernel
theorem dX4_roundsFor_25 : decode cX4_roundsFor 25 = .ok (.if_icmp .gt 30, 3) := by decide +kernel
theorem dX4_roundsFor_28 : decode cX4_roundsFor 28 = .ok (.aload_n 0, 1) := by decide +kernel
theorem dX4_roundsFor_29 : decode cX4_roundsFor 29 = .ok (.getfield 41, 3) := by decide +kernel
theorem dX4_roundsFor_32 : decode cX4_roundsFor 32 = .ok (.invokestatic 393, 3) := by decide +kernel
theorem dX4_roundsFor_35 : decode cX4_roundsFor 35 = .ok (.iconst 1, 1) := by decide +kernel
theorem dX4_roundsFor_36 : decode cX4_roundsFor 36 = .ok (.if_icmp .gt 5, 3) := by decide +kernel
theorem dX4_roundsFor_39 : decode cX4_roundsFor 39 = .ok (.iload_n 2, 1) := by decide +kernel
theorem dX4_roundsFor_40 : decode cX4_roundsFor 40 = .ok (.ireturn, 1) := by decide +kernel
theorem dX4_roundsFor_41 : decode cX4_roundsFor 41 = .ok (.aload_n 0, 1) := by decide +kernel
theorem dX4_roundsFor_42 : decode cX4_roundsFor 42 = .ok (.getfield 41, 3) := by decide +kernel
theorem dX4_roundsFor_45 : decode cX4_roundsFor 45 = .ok (.invokestatic 346, 3) := by decide +kernel
theorem dX4_roundsFor_48 : decode cX4_roundsFor 48 = .ok (.pop, 1) := by decide +kernel
theorem dX4_roundsFor_49 : decode cX4_roundsFor 49 = .ok (.iinc 2 1, 3) := by decide +kernel
theorem dX4_roundsFor_52 : decode cX4_roundsFor 52 = .ok (.goto (-30), 3) := by decide +kernel
theorem dX4_roundsFor_55 : decode cX4_roundsFor 55 = .ok (.iconst (-1), 1) := by decide +kernel
theorem dX4_roundsFor_56 : decode cX4_roundsFor 56 = .ok (.ireturn, 1) := by decide +kernel
set_option maxRecDepth 100000 in
set_option maxHeartbeats 4000000 in
theorem mt_X4_roundsFor (r0 : Option Nat) (i1 : Int32) (S0 : PH) (y : Int32 × PH) (h : m_X4_roundsFor r0 i1 S0 = some y) : MT yX4_roundsFor (.code yX4_roundsFor cX4_roundsFor 3 (Option.some FieldType.int)) 3 66 0 0 [va_rf r0, .int i1] S0 (oQ e_I (qN y)) := by
  refine mt_of (own := RX4) (l0 := [(0, va_rf r0), (1, .int i1)]) rfl rfl (by cases r0 <;> exact Nat.le_of_ble_eq_true rfl) (by cases r0 <;> rfl) ?_
  intro Z hC hQ hE hN
  unfold m_X4_roundsFor at h
  refine x_aload_n (i := 0) hC dX4_roundsFor_0 rfl 0 rfl ?_
  replace h := dr_el h
  obtain ⟨a1, ea2, ha3, h⟩ := h
  refine x_getR hC ea2 ha3 kf_4 0 (by decide) rfl q_175 dX4_roundsFor_1 ?_
  replace h := dr_el h
  obtain ⟨a4, ea5, ha6, h⟩ := h
  refine x_getR hC ea5 ha6 kf_2 10 (by decide) rfl q_58 dX4_roundsFor_4 ?_
  refine x_iload_n (i := 1) hC dX4_roundsFor_7 rfl 1 rfl ?_
  replace h := dr_el h
  obtain ⟨a7, ea8, ha9, h⟩ := h
  replace h := ck_el h
  obtain ⟨hc10, h⟩ := h
  refine x_aaload9 hC ea8 ha9 hc10 dX4_roundsFor_8 ?_
  refine x_iconst (v := (0 : Int32)) hC dX4_roundsFor_9 (by decide) ?_
  refine x_aload_n (i := 0) hC dX4_roundsFor_10 rfl 0 rfl ?_
  refine x_getR hC ea2 ha3 kf_4 5 (by decide) rfl q_180 dX4_roundsFor_11 ?_
  refine x_iconst (v := (0 : Int32)) hC dX4_roundsFor_14 (by decide) ?_
  refine x_bipush (v := (8 : Int32)) hC dX4_roundsFor_15 (by decide) ?_
  replace h := dr_el h
  obtain ⟨a11, ea12, ha13, h⟩ := h
  replace h := dr_el h
  obtain ⟨a14, ea15, ha16, h⟩ := h
  replace h := ck_el h
  obtain ⟨hc17, h⟩ := h
  replace h := ck_el h
  obtain ⟨hc18, h⟩ := h
  replace h := le_el h
  obtain ⟨S19, hx20, h⟩ := h
  refine x_copy hC q_380 q_cpn q_cps q_sys ea12 ha13 ea15 ha16 (by decide) (by decide) (by decide) (of_decide_eq_true hc17) (of_decide_eq_true hc18) (Nat.le_of_ble_eq_true rfl) (Nat.le_of_ble_eq_true rfl) (Nat.le_of_ble_eq_true rfl) dX4_roundsFor_17 ?_
  refine x_tS hx20 ?_
  refine x_iconst (v := (0 : Int32)) hC dX4_roundsFor_20 (by decide) ?_
  refine x_istore_n (i := 2) (l' := [(2, .int (0 : Int32)), (0, va_rf r0), (1, .int i1)]) hC dX4_roundsFor_21 rfl (⟨fun _ => c_rf r0, ⟨fun _ => rfl, trivial⟩⟩) (by decide) rfl ?_
  refine x_sub (l' := [(0, va_rf r0), (1, .int i1), (2, .int (0 : Int32))]) [1, 2, 0] rfl ?_
  refine lp_sim (P := fun (t : (Int32 × PH)) => PX Z 3 t.2 0 0 22 [(0, va_rf r0), (1, .int i1), (2, .int t.1)] []) (G := fun r => r = y) ?_ h rfl
  clear h
  intro t x_22 h hg_22
  obtain ⟨v21, S22⟩ := t
  show PX Z 3 S22 0 0 22 [(0, va_rf r0), (1, .int i1), (2, .int v21)] []
  unfold st_X4_roundsFor_22 at h
  refine x_iload_n (i := 2) hC dX4_roundsFor_22 rfl 2 rfl ?_
  refine x_bipush (v := (20 : Int32)) hC dX4_roundsFor_23 (by decide) ?_
  refine x_icmp_gt (t := 55) hC dX4_roundsFor_25 (by decide) (fun c23 => ?_) (fun c23 => ?_)
  · replace h := it_t c23 h
    replace h := ir_x h hg_22
    refine x_iconst (v := (-1 : Int32)) hC dX4_roundsFor_55 (by decide) ?_
    exact x_iret hC hQ (z_N (Option.some.inj h)) (Nat.le_of_ble_eq_true rfl) (Nat.le_of_ble_eq_true rfl) dX4_roundsFor_56
  · replace h := it_f c23 h
    refine x_aload_n (i := 0) hC dX4_roundsFor_28 rfl 0 rfl ?_
    replace h := dr_el h
    obtain ⟨a24, ea25, ha26, h⟩ := h
    refine x_getR hC ea25 ha26 kf_4 5 (by decide) rfl q_180 dX4_roundsFor_29 ?_
    replace h := bd_el h
    obtain ⟨v27, S28, hb29, h⟩ := h
    refine x_callS hC (st := []) (mt_X4_spreadIn _ _ _ hb29) q_355 q_356 q_1 q_357 hy_X4_spreadIn ⟨Nat.le_of_ble_eq_true rfl, Nat.le_of_ble_eq_true rfl⟩ ⟨Nat.le_of_ble_eq_true rfl, Nat.le_of_ble_eq_true rfl⟩ rfl (Nat.le_of_ble_eq_true rfl) dX4_roundsFor_32 (r_N ?_) r_NX
    show PX Z 3 S28 0 0 35 [(0, va_rf r0), (1, .int i1), (2, .int v21)] [.int v27]
    refine x_iconst (v := (1 : Int32)) hC dX4_roundsFor_35 (by decide) ?_
    refine x_icmp_gt (t := 41) hC dX4_roundsFor_36 (by decide) (fun c30 => ?_) (fun c30 => ?_)
    · replace h := it_t c30 h
      refine x_aload_n (i := 0) hC dX4_roundsFor_41 rfl 0 rfl ?_
      replace h := dr_el h
      obtain ⟨a31, ea32, ha33, h⟩ := h
      refine x_getR hC ea32 ha33 kf_4 5 (by decide) rfl q_180 dX4_roundsFor_42 ?_
      replace h := bd_el h
      obtain ⟨v34, S35, hb36, h⟩ := h
      refine x_callS hC (st := []) (mt_X4_bringNearer _ _ _ hb36) q_381 q_382 q_1 q_383 hy_X4_bringNearer ⟨Nat.le_of_ble_eq_true rfl, Nat.le_of_ble_eq_true rfl⟩ ⟨Nat.le_of_ble_eq_true rfl, Nat.le_of_ble_eq_true rfl⟩ rfl (Nat.le_of_ble_eq_true rfl) dX4_roundsFor_45 (r_N ?_) r_NX
      show PX Z 3 S35 0 0 48 [(0, va_rf r0), (1, .int i1), (2, .int v21)] [.int v34]
      refine x_pop hC dX4_roundsFor_48 rfl ?_
      refine x_iinc (i := 2) (v := (v21 + (1 : Int32))) (l' := [(2, .int (v21 + (1 : Int32))), (0, va_rf r0), (1, .int i1)]) hC dX4_roundsFor_49 2 rfl rfl (⟨fun _ => c_rf r0, ⟨fun _ => rfl, ⟨fun _ => rfl, trivial⟩⟩⟩) (by decide) rfl ?_
      refine x_goto (t := 22) hC dX4_roundsFor_52 (by decide) ?_
      refine x_sub (l' := [(0, va_rf r0), (1, .int i1), (2, .int (v21 + (1 : Int32)))]) [1, 2, 0] rfl ?_
      have hb := bk_x h hg_22
      exact hb
    · replace h := it_f c30 h
      replace h := ir_x h hg_22
      refine x_iload_n (i := 2) hC dX4_roundsFor_39 rfl 2 rfl ?_
      exact x_iret hC hQ (z_N (Option.some.inj h)) (Nat.le_of_ble_eq_true rfl) (Nat.le_of_ble_eq_true rfl) dX4_roundsFor_40
theorem dX4_roundsToAgree_0 : decode cX4_roundsToAgree 0 = .ok (.aload_n 0, 1) := by decide +kernel
theorem dX4_roundsToAgree_1 : decode cX4_roundsToAgree 1 = .ok (.iload_n 1, 1) := by decide +kernel
theorem dX4_roundsToAgree_2 : decode cX4_roundsToAgree 2 = .ok (.invokevirtual 125, 3) := by decide +kernel
theorem dX4_roundsToAgree_5 : decode cX4_roundsToAgree 5 = .ok (.aload_n 0, 1) := by decide +kernel
theorem dX4_roundsToAgree_6 : decode cX4_roundsToAgree 6 = .ok (.iload_n 1, 1) := by decide +kernel
theorem dX4_roundsToAgree_7 : decode cX4_roundsToAgree 7 = .ok (.invokevirtual 262, 3) := by decide +kernel
theorem dX4_roundsToAgree_10 : decode cX4_roundsToAgree 10 = .ok (.ireturn, 1) := by decide +kernel
set_option maxRecDepth 100000 in
set_option maxHeartbeats 4000000 in
theorem mt_X4_roundsToAgree (r0 : Option Nat) (i1 : Int32) (S0 : PH) (y : (Nat ⊕ Int32) × PH) (h : m_X4_roundsToAgree r0 i1 S0 = some y) : MT yX4_roundsToAgree (.code yX4_roundsToAgree cX4_roundsToAgree 2 (Option.some FieldType.int)) 7 111 1 6 [va_rf r0, .int i1] S0 (oQ e_I (qT y)) := by
  refine mt_of (own := RX4) (l0 := [(0, va_rf r0), (1, .int i1)]) rfl rfl (by cases r0 <;> exact Nat.le_of_ble_eq_true rfl) (by cases r0 <;> rfl) ?_
  intro Z hC hQ hE hN
  unfold m_X4_roundsToAgree at h
  refine x_aload_n (i := 0) hC dX4_roundsToAgree_0 rfl 0 rfl ?_
  refine x_iload_n (i := 1) hC dX4_roundsToAgree_1 rfl 1 rfl ?_
  replace h := dr_el h
  obtain ⟨a1, ea2, ha3, h⟩ := h
  replace h := bt_el h
  obtain ⟨v4, S5, hb14, h⟩ | ⟨j6, S7, hb14, h⟩ := h
  · refine x_callV hC (st := []) (mt_X4_requirePaper _ _ _ _ hb14) ea2 ha3 kf_4 q_613 q_615 qs_29 q_1 q_616 ⟨rfl, hy_X4_requirePaper⟩ ⟨Nat.le_of_ble_eq_true rfl, Nat.le_of_ble_eq_true rfl⟩ ⟨Nat.le_of_ble_eq_true rfl, Nat.le_of_ble_eq_true rfl⟩ rfl (Nat.le_of_ble_eq_true rfl) dX4_roundsToAgree_2 (r_T ?_) r_TX
    show PX Z 2 S5 1 6 5 [(0, va_rf r0), (1, .int i1)] []
    refine x_aload_n (i := 0) hC dX4_roundsToAgree_5 rfl 0 rfl ?_
    refine x_iload_n (i := 1) hC dX4_roundsToAgree_6 rfl 1 rfl ?_
    replace h := dr_el h
    obtain ⟨a8, ea9, ha10, h⟩ := h
    replace h := bd_el h
    obtain ⟨v11, S12, hb13, h⟩ := h
    refine x_callV hC (st := []) (mt_X4_roundsFor _ _ _ _ hb13) ea9 ha10 kf_4 q_376 q_378 qs_24 q_1 q_379 ⟨rfl, hy_X4_roundsFor⟩ ⟨Nat.le_of_ble_eq_true rfl, Nat.le_of_ble_eq_true rfl⟩ ⟨Nat.le_of_ble_eq_true rfl, Nat.le_of_ble_eq_true rfl⟩ rfl (Nat.le_of_ble_eq_true rfl) dX4_roundsToAgree_7 (r_N ?_) r_NX
    show PX Z 2 S12 1 6 10 [(0, va_rf r0), (1, .int i1)] [.int v11]
    exact x_iret hC hQ (z_T (Option.some.inj h)) (Nat.le_of_ble_eq_true rfl) (Nat.le_of_ble_eq_true rfl) dX4_roundsToAgree_10
  · refine x_callV hC (st := []) (mt_X4_requirePaper _ _ _ _ hb14) ea2 ha3 kf_4 q_613 q_615 qs_29 q_1 q_616 ⟨rfl, hy_X4_requirePaper⟩ ⟨Nat.le_of_ble_eq_true rfl, Nat.le_of_ble_eq_true rfl⟩ ⟨Nat.le_of_ble_eq_true rfl, Nat.le_of_ble_eq_true rfl⟩ rfl (Nat.le_of_ble_eq_true rfl) dX4_roundsToAgree_2 r_X (r_XX ?_)
    exact x_out hC hQ hE (z_X (Option.some.inj h)) (Nat.le_of_ble_eq_true rfl) (Nat.le_of_ble_eq_true rfl)
theorem dX4_meanIn_0 : decode cX4_meanIn 0 = .ok (.aload_n 0, 1) := by decide +kernel
theorem dX4_meanIn_1 : decode cX4_meanIn 1 = .ok (.invokestatic 175, 3) := by decide +kernel
theorem dX4_meanIn_4 : decode cX4_meanIn 4 = .ok (.invokestatic 178, 3) := by decide +kernel
theorem dX4_meanIn_7 : decode cX4_meanIn 7 = .ok (.istore_n 1, 1) := by decide +kernel
theorem dX4_meanIn_8 : decode cX4_meanIn 8 = .ok (.iload_n 1, 1) := by decide +kernel
theorem dX4_meanIn_9 : decode cX4_meanIn 9 = .ok (.ifCond .le 14, 3) := by decide +kernel
theorem dX4_meanIn_12 : decode cX4_meanIn 12 = .ok (.aload_n 0, 1) := by decide +kernel
theorem dX4_meanIn_13 : decode cX4_meanIn 13 = .ok (.invokestatic 171, 3) := by decide +kernel
theorem dX4_meanIn_16 : decode cX4_meanIn 16 = .ok (.i2d, 1) := by decide +kernel
theorem dX4_meanIn_17 : decode cX4_meanIn 17 = .ok (.iload_n 1, 1) := by decide +kernel
theorem dX4_meanIn_18 : decode cX4_meanIn 18 = .ok (.i2d, 1) := by decide +kernel
theorem dX4_meanIn_19 : decode cX4_meanIn 19 = .ok (.ddiv, 1) := by decide +kernel
theorem dX4_meanIn_20 : decode cX4_meanIn 20 = .ok (.goto 6, 3) := by decide +kernel
theorem dX4_meanIn_23 : decode cX4_meanIn 23 = .ok (.ldc2_w 382, 3) := by decide +kernel
theorem dX4_meanIn_26 : decode cX4_meanIn 26 = .ok (.dreturn, 1) := by decide +kernel
set_option maxRecDepth 100000 in
set_option maxHeartbeats 4000000 in
theorem mt_X4_meanIn (r0 : Option Nat) (S0 : PH) (y : UInt64 × PH) (h : m_X4_meanIn r0 S0 = some y) : MT yX4_meanIn (.code yX4_meanIn cX4_meanIn 2 (Option.some FieldType.double)) 2 42 0 0 [va_rf r0] S0 (oQ e_D (qN y)) := by
  refine mt_of (own := RX4) (l0 := [(0, va_rf r0)]) rfl rfl (by cases r0 <;> exact Nat.le_of_ble_eq_true rfl) (by cases r0 <;> rfl) ?_
  intro Z hC hQ hE hN
  unfold m_X4_meanIn at h
  refine x_aload_n (i := 0) hC dX4_meanIn_0 rfl 0 rfl ?_
  replace h := bd_el h
  obtain ⟨v1, S2, hb3, h⟩ := h
  refine x_callS hC (st := []) (mt_X4_writersIn _ _ _ hb3) q_314 q_315 q_1 q_316 hy_X4_writersIn ⟨Nat.le_of_ble_eq_true rfl, Nat.le_of_ble_eq_true rfl⟩ ⟨Nat.le_of_ble_eq_true rfl, Nat.le_of_ble_eq_true rfl⟩ rfl (Nat.le_of_ble_eq_true rfl) dX4_meanIn_1 (r_N ?_) r_NX
  show PX Z 2 S2 0 0 4 [(0, va_rf r0)] [.int v1]
  replace h := bd_el h
  obtain ⟨v4, S5, hb6, h⟩ := h
  refine x_callS hC (st := []) (mt_J6_bitCount_0f7a4 _ _ _ hb6) q_234 q_235 q_15 q_236 hy_J6_bitCount_0f7a4 ⟨Nat.le_of_ble_eq_true rfl, Nat.le_of_ble_eq_true rfl⟩ ⟨Nat.le_of_ble_eq_true rfl, Nat.le_of_ble_eq_true rfl⟩ rfl (Nat.le_of_ble_eq_true rfl) dX4_meanIn_4 (r_N ?_) r_NX
  show PX Z 2 S5 0 0 7 [(0, va_rf r0)] [.int v4]
  refine x_istore_n (i := 1) (l' := [(1, .int v4), (0, va_rf r0)]) hC dX4_meanIn_7 rfl (⟨fun _ => c_rf r0, trivial⟩) (by decide) rfl ?_
  refine x_iload_n (i := 1) hC dX4_meanIn_8 rfl 0 rfl ?_
  refine x_if_le (t := 23) hC dX4_meanIn_9 (by decide) (fun c7 => ?_) (fun c7 => ?_)
  · replace h := it_t c7 h
    refine x_ldc2d hC dX4_meanIn_23 q_387 ?_
    exact x_dret hC hQ (z_N (Option.some.inj h)) (Nat.le_of_ble_eq_true rfl) (Nat.le_of_ble_eq_true rfl) dX4_meanIn_26
  · replace h := it_f c7 h
    refine x_aload_n (i := 0) hC dX4_meanIn_12 rfl 1 rfl ?_
    replace h := bd_el h
    obtain ⟨v8, S9, hb10, h⟩ := h
    refine x_callS hC (st := []) (mt_X4_sumIn _ _ _ hb10) q_352 q_353 q_1 q_354 hy_X4_sumIn ⟨Nat.le_of_ble_eq_true rfl, Nat.le_of_ble_eq_true rfl⟩ ⟨Nat.le_of_ble_eq_true rfl, Nat.le_of_ble_eq_true rfl⟩ rfl (Nat.le_of_ble_eq_true rfl) dX4_meanIn_13 (r_N ?_) r_NX
    show PX Z 2 S9 0 0 16 [(1, .int v4), (0, va_rf r0)] [.int v8]
    refine x_i2d hC dX4_meanIn_16 ?_
    refine x_iload_n (i := 1) hC dX4_meanIn_17 rfl 0 rfl ?_
    refine x_i2d hC dX4_meanIn_18 ?_
    replace h := ck_el h
    obtain ⟨hc11, h⟩ := h
    refine x_ddiv hC dX4_meanIn_19 (nn64_ok hc11) ?_
    refine x_goto (t := 26) hC dX4_meanIn_20 (by decide) ?_
    exact x_dret hC hQ (z_N (Option.some.inj h)) (Nat.le_of_ble_eq_true rfl) (Nat.le_of_ble_eq_true rfl) dX4_meanIn_26
theorem dX4_meanScore_0 : decode cX4_meanScore 0 = .ok (.aload_n 0, 1) := by decide +kernel
theorem dX4_meanScore_1 : decode cX4_meanScore 1 = .ok (.iload_n 1, 1) := by decide +kernel
theorem dX4_meanScore_2 : decode cX4_meanScore 2 = .ok (.invokevirtual 125, 3) := by decide +kernel
theorem dX4_meanScore_5 : decode cX4_meanScore 5 = .ok (.aload_n 0, 1) := by decide +kernel
theorem dX4_meanScore_6 : decode cX4_meanScore 6 = .ok (.getfield 10, 3) := by decide +kernel
theorem dX4_meanScore_9 : decode cX4_meanScore 9 = .ok (.getfield 167, 3) := by decide +kernel
theorem dX4_meanScore_12 : decode cX4_meanScore 12 = .ok (.iload_n 1, 1) := by decide +kernel
theorem dX4_meanScore_13 : decode cX4_meanScore 13 = .ok (.aaload, 1) := by decide +kernel
theorem dX4_meanScore_14 : decode cX4_meanScore 14 = .ok (.invokestatic 265, 3) := by decide +kernel
theorem dX4_meanScore_17 : decode cX4_meanScore 17 = .ok (.dreturn, 1) := by decide +kernel
set_option maxRecDepth 100000 in
set_option maxHeartbeats 4000000 in
theorem mt_X4_meanScore (r0 : Option Nat) (i1 : Int32) (S0 : PH) (y : (Nat ⊕ UInt64) × PH) (h : m_X4_meanScore r0 i1 S0 = some y) : MT yX4_meanScore (.code yX4_meanScore cX4_meanScore 2 (Option.some FieldType.double)) 7 111 1 6 [va_rf r0, .int i1] S0 (oQ e_D (qT y)) := by
  refine mt_of (own := RX4) (l0 := [(0, va_rf r0), (1, .int i1)]) rfl rfl (by cases r0 <;> exact Nat.le_of_ble_eq_true rfl) (by cases r0 <;> rfl) ?_
  intro Z hC hQ hE hN
  unfold m_X4_meanScore at h
  refine x_aload_n (i := 0) hC dX4_meanScore_0 rfl 0 rfl ?_
  refine x_iload_n (i := 1) hC dX4_meanScore_1 rfl 1 rfl ?_
  replace h := dr_el h
  obtain ⟨a1, ea2, ha3, h⟩ := h
  replace h := bt_el h
  obtain ⟨v4, S5, hb21, h⟩ | ⟨j6, S7, hb21, h⟩ := h
  · refine x_callV hC (st := []) (mt_X4_requirePaper _ _ _ _ hb21) ea2 ha3 kf_4 q_613 q_615 qs_29 q_1 q_616 ⟨rfl, hy_X4_requirePaper⟩ ⟨Nat.le_of_ble_eq_true rfl, Nat.le_of_ble_eq_true rfl⟩ ⟨Nat.le_of_ble_eq_true rfl, Nat.le_of_ble_eq_true rfl⟩ rfl (Nat.le_of_ble_eq_true rfl) dX4_meanScore_2 (r_T ?_) r_TX
    show PX Z 2 S5 1 6 5 [(0, va_rf r0), (1, .int i1)] []
    refine x_aload_n (i := 0) hC dX4_meanScore_5 rfl 0 rfl ?_
    replace h := dr_el h
    obtain ⟨a8, ea9, ha10, h⟩ := h
    refine x_getR hC ea9 ha10 kf_4 0 (by decide) rfl q_175 dX4_meanScore_6 ?_
    replace h := dr_el h
    obtain ⟨a11, ea12, ha13, h⟩ := h
    refine x_getR hC ea12 ha13 kf_2 10 (by decide) rfl q_58 dX4_meanScore_9 ?_
    refine x_iload_n (i := 1) hC dX4_meanScore_12 rfl 1 rfl ?_
    replace h := dr_el h
    obtain ⟨a14, ea15, ha16, h⟩ := h
    replace h := ck_el h
    obtain ⟨hc17, h⟩ := h
    refine x_aaload9 hC ea15 ha16 hc17 dX4_meanScore_13 ?_
    replace h := bd_el h
    obtain ⟨v18, S19, hb20, h⟩ := h
    refine x_callS hC (st := []) (mt_X4_meanIn _ _ _ hb20) q_384 q_385 q_1 q_386 hy_X4_meanIn ⟨Nat.le_of_ble_eq_true rfl, Nat.le_of_ble_eq_true rfl⟩ ⟨Nat.le_of_ble_eq_true rfl, Nat.le_of_ble_eq_true rfl⟩ rfl (Nat.le_of_ble_eq_true rfl) dX4_meanScore_14 (r_N ?_) r_NX
    show PX Z 2 S19 1 6 17 [(0, va_rf r0), (1, .int i1)] [.double v18]
    exact x_dret hC hQ (z_T (Option.some.inj h)) (Nat.le_of_ble_eq_true rfl) (Nat.le_of_ble_eq_true rfl) dX4_meanScore_17
  · refine x_callV hC (st := []) (mt_X4_requirePaper _ _ _ _ hb21) ea2 ha3 kf_4 q_613 q_615 qs_29 q_1 q_616 ⟨rfl, hy_X4_requirePaper⟩ ⟨Nat.le_of_ble_eq_true rfl, Nat.le_of_ble_eq_true rfl⟩ ⟨Nat.le_of_ble_eq_true rfl, Nat.le_of_ble_eq_true rfl⟩ rfl (Nat.le_of_ble_eq_true rfl) dX4_meanScore_2 r_X (r_XX ?_)
    exact x_out hC hQ hE (z_X (Option.some.inj h)) (Nat.le_of_ble_eq_true rfl) (Nat.le_of_ble_eq_true rfl)
theorem dX4_shareOfSpent_0 : decode cX4_shareOfSpent 0 = .ok (.bipush 100, 2) := by decide +kernel
theorem dX4_shareOfSpent_2 : decode cX4_shareOfSpent 2 = .ok (.aload_n 0, 1) := by decide +kernel
theorem dX4_shareOfSpent_3 : decode cX4_shareOfSpent 3 = .ok (.getfield 10, 3) := by decide +kernel
theorem dX4_shareOfSpent_6 : decode cX4_shareOfSpent 6 = .ok (.getfield 107, 3) := by decide +kernel
theorem dX4_shareOfSpent_9 : decode cX4_shareOfSpent 9 = .ok (.iadd, 1) := by decide +kernel
theorem dX4_shareOfSpent_10 : decode cX4_shareOfSpent 10 = .ok (.istore_n 1, 1) := by decide +kernel
theorem dX4_shareOfSpent_11 : decode cX4_shareOfSpent 11 = .ok (.iload_n 1, 1) := by decide +kernel
theorem dX4_shareOfSpent_12 : decode cX4_shareOfSpent 12 = .ok (.ifCond .le 14, 3) := by decide +kernel
theorem dX4_shareOfSpent_15 : decode cX4_shareOfSpent 15 = .ok (.aload_n 0, 1) := by decide +kernel
theorem dX4_shareOfSpent_16 : decode cX4_shareOfSpent 16 = .ok (.invokevirtual 319, 3) := by decide +kernel
theorem dX4_shareOfSpent_19 : decode cX4_shareOfSpent 19 = .ok (.i2f, 1) := by decide +kernel
theorem dX4_shareOfSpent_20 : decode cX4_shareOfSpent 20 = .ok (.iload_n 1, 1) := by decide +kernel
theorem dX4_shareOfSpent_21 : decode cX4_shareOfSpent 21 = .ok (.i2f, 1) := by decide +kernel
theorem dX4_shareOfSpent_22 : decode cX4_shareOfSpent 22 = .ok (.fdiv, 1) := by decide +kernel
theorem dX4_shareOfSpent_23 : decode cX4_shareOfSpent 23 = .ok (.goto 4, 3) := by decide +kernel
theorem dX4_shareOfSpent_26 : decode cX4_shareOfSpent 26 = .ok (.fconst 0, 1) := by decide +kernel
theorem dX4_shareOfSpent_27 : decode cX4_shareOfSpent 27 = .ok (.freturn, 1) := by decide +kernel
set_option maxRecDepth 100000 in
set_option maxHeartbeats 4000000 in
theorem mt_X4_shareOfSpent (r0 : Option Nat) (S0 : PH) (y : UInt32 × PH) (h : m_X4_shareOfSpent r0 S0 = some y) : MT yX4_shareOfSpent (.code yX4_shareOfSpent cX4_shareOfSpent 2 (Option.some FieldType.float)) 1 22 0 0 [va_rf r0] S0 (oQ e_F (qN y)) := by
  refine mt_of (own := RX4) (l0 := [(0, va_rf r0)]) rfl rfl (by cases r0 <;> exact Nat.le_of_ble_eq_true rfl) (by cases r0 <;> rfl) ?_
  intro Z hC hQ hE hN
  unfold m_X4_shareOfSpent at h
  refine x_bipush (v := (100 : Int32)) hC dX4_shareOfSpent_0 (by decide) ?_
  refine x_aload_n (i := 0) hC dX4_shareOfSpent_2 rfl 0 rfl ?_
  replace h := dr_el h
  obtain ⟨a1, ea2, ha3, h⟩ := h
  refine x_getR hC ea2 ha3 kf_4 0 (by decide) rfl q_175 dX4_shareOfSpent_3 ?_
  replace h := dr_el h
  obtain ⟨a4, ea5, ha6, h⟩ := h
  refine x_getI hC ea5 ha6 kf_2 15 (by decide) rfl q_68 dX4_shareOfSpent_6 ?_
  refine x_iadd hC dX4_shareOfSpent_9 ?_
  replace h := le_el h
  obtain ⟨x7, hx8, h⟩ := h
  refine x_tI hx8 ?_
  refine x_istore_n (i := 1) (l' := [(1, .int x7), (0, va_rf r0)]) hC dX4_shareOfSpent_10 rfl (⟨fun _ => c_rf r0, trivial⟩) (by decide) rfl ?_
  refine x_iload_n (i := 1) hC dX4_shareOfSpent_11 rfl 0 rfl ?_
  refine x_if_le (t := 26) hC dX4_shareOfSpent_12 (by decide) (fun c9 => ?_) (fun c9 => ?_)
  · replace h := it_t c9 h
    refine x_fconst0 hC dX4_shareOfSpent_26 ?_
    exact x_fret hC hQ (z_N (Option.some.inj h)) (Nat.le_of_ble_eq_true rfl) (Nat.le_of_ble_eq_true rfl) dX4_shareOfSpent_27
  · replace h := it_f c9 h
    refine x_aload_n (i := 0) hC dX4_shareOfSpent_15 rfl 1 rfl ?_
    replace h := bd_el h
    obtain ⟨v10, S11, hb12, h⟩ := h
    refine x_callV hC (st := []) (mt_X4_allSpent _ _ _ hb12) ea2 ha3 kf_4 q_288 q_290 qs_8 q_1 q_291 ⟨rfl, hy_X4_allSpent⟩ ⟨Nat.le_of_ble_eq_true rfl, Nat.le_of_ble_eq_true rfl⟩ ⟨Nat.le_of_ble_eq_true rfl, Nat.le_of_ble_eq_true rfl⟩ rfl (Nat.le_of_ble_eq_true rfl) dX4_shareOfSpent_16 (r_N ?_) r_NX
    show PX Z 2 S11 0 0 19 [(1, .int x7), (0, va_rf r0)] [.int v10]
    refine x_i2f hC dX4_shareOfSpent_19 ?_
    refine x_iload_n (i := 1) hC dX4_shareOfSpent_20 rfl 0 rfl ?_
    refine x_i2f hC dX4_shareOfSpent_21 ?_
    replace h := ck_el h
    obtain ⟨hc13, h⟩ := h
    refine x_fdiv hC dX4_shareOfSpent_22 (nn32_ok hc13) ?_
    refine x_goto (t := 27) hC dX4_shareOfSpent_23 (by decide) ?_
    exact x_fret hC hQ (z_N (Option.some.inj h)) (Nat.le_of_ble_eq_true rfl) (Nat.le_of_ble_eq_true rfl) dX4_shareOfSpent_27
theorem dX4_spentShare_0 : decode cX4_spentShare 0 = .ok (.aload_n 0, 1) := by decide +kernel
theorem dX4_spentShare_1 : decode cX4_spentShare 1 = .ok (.invokevirtual 269, 3) := by decide +kernel
theorem dX4_spentShare_4 : decode cX4_spentShare 4 = .ok (.freturn, 1) := by decide +kernel
set_option maxRecDepth 100000 in
set_option maxHeartbeats 4000000 in
theorem mt_X4_spentShare (r0 : Option Nat) (S0 : PH) (y : UInt32 × PH) (h : m_X4_spentShare r0 S0 = some y) : MT yX4_spentShare (.code yX4_spentShare cX4_spentShare 1 (Option.some FieldType.float)) 2 43 0 0 [va_rf r0] S0 (oQ e_F (qN y)) := by
  refine mt_of (own := RX4) (l0 := [(0, va_rf r0)]) rfl rfl (by cases r0 <;> exact Nat.le_of_ble_eq_true rfl) (by cases r0 <;> rfl) ?_
  intro Z hC hQ hE hN
  unfold m_X4_spentShare at h
  refine x_aload_n (i := 0) hC dX4_spentShare_0 rfl 0 rfl ?_
  replace h := dr_el h
  obtain ⟨a1, ea2, ha3, h⟩ := h
  replace h := bd_el h
  obtain ⟨v4, S5, hb6, h⟩ := h
  refine x_callV hC (st := []) (mt_X4_shareOfSpent _ _ _ hb6) ea2 ha3 kf_4 q_284 q_286 qs_7 q_1 q_287 ⟨rfl, hy_X4_shareOfSpent⟩ ⟨Nat.le_of_ble_eq_true rfl, Nat.le_of_ble_eq_true rfl⟩ ⟨Nat.le_of_ble_eq_true rfl, Nat.le_of_ble_eq_true rfl⟩ rfl (Nat.le_of_ble_eq_true rfl) dX4_spentShare_1 (r_N ?_) r_NX
  show PX Z 1 S5 0 0 4 [(0, va_rf r0)] [.float v4]
  exact x_fret hC hQ (z_N (Option.some.inj h)) (Nat.le_of_ble_eq_true rfl) (Nat.le_of_ble_eq_true rfl) dX4_spentShare_4
theorem dX4_doubleBits_0 : decode cX4_doubleBits 0 = .ok (.dload_n 0, 1) := by decide +kernel
theorem dX4_doubleBits_1 : decode cX4_doubleBits 1 = .ok (.dconst 0, 1) := by decide +kernel
theorem dX4_doubleBits_2 : decode cX4_doubleBits 2 = .ok (.dcmp .l, 1) := by decide +kernel
theorem dX4_doubleBits_3 : decode cX4_doubleBits 3 = .ok (.ifCond .ne 5, 3) := by decide +kernel
theorem dX4_doubleBits_6 : decode cX4_doubleBits 6 = .ok (.lconst 0, 1) := by decide +kernel
theorem dX4_doubleBits_7 : decode cX4_doubleBits 7 = .ok (.lreturn, 1) := by decide +kernel
theorem dX4_doubleBits_8 : decode cX4_doubleBits 8 = .ok (.dload_n 0, 1) := by decide +kernel
theorem dX4_doubleBits_9 : decode cX4_doubleBits 9 = .ok (.dconst 0, 1) := by decide +kernel
theorem dX4_doubleBits_10 : decode cX4_doubleBits 10 = .ok (.dcmp .g, 1) := by decide +kernel
theorem dX4_doubleBits_11 : decode cX4_doubleBits 11 = .ok (.ifCond .ge 9, 3) := by decide +kernel
theorem dX4_doubleBits_14 : decode cX4_doubleBits 14 = .ok (.ldc2_w 435, 3) := by decide +kernel
theorem dX4_doubleBits_17 : decode cX4_doubleBits 17 = .ok (.goto 4, 3) := by decide +kernel
theorem dX4_doubleBits_20 : decode cX4_doubleBits 20 = .ok (.lconst 0, 1) := by decide +kernel
theorem dX4_doubleBits_21 : decode cX4_doubleBits 21 = .ok (.lstore_n 2, 1) := by decide +kernel
theorem dX4_doubleBits_22 : decode cX4_doubleBits 22 = .ok (.dload_n 0, 1) := by decide +kernel
theorem dX4_doubleBits_23 : decode cX4_doubleBits 23 = .ok (.dconst 0, 1) := by decide +kernel
theorem dX4_doubleBits_24 : decode cX4_doubleBits 24 = .ok (.dcmp .g, 1) := by decide +kernel
theorem dX4_doubleBits_25 : decode cX4_doubleBits 25 = .ok (.ifCond .ge 8, 3) := by decide +kernel
theorem dX4_doubleBits_28 : decode cX4_doubleBits 28 = .ok (.dload_n 0, 1) := by decide +kernel
theorem dX4_doubleBits_29 : decode cX4_doubleBits 29 = .ok (.dneg, 1) := by decide +kernel
theorem dX4_doubleBits_30 : decode cX4_doubleBits 30 = .ok (.goto 4, 3) := by decide +kernel
theorem dX4_doubleBits_33 : decode cX4_doubleBits 33 = .ok (.dload_n 0, 1) := by decide +kernel
theorem dX4_doubleBits_34 : decode cX4_doubleBits 34 = .ok (.dstore 4, 2) := by decide +kernel
theorem dX4_doubleBits_36 : decode cX4_doubleBits 36 = .ok (.ldc2_w 437, 3) := by decide +kernel
theorem dX4_doubleBits_39 : decode cX4_doubleBits 39 = .ok (.lstore 6, 2) := by decide +kernel
theorem dX4_doubleBits_41 : decode cX4_doubleBits 41 = .ok (.dload 4, 2) := by decide +kernel
theorem dX4_doubleBits_43 : decode cX4_doubleBits 43 = .ok (.ldc2_w 439, 3) := by decide +kernel
theorem dX4_doubleBits_46 : decode cX4_doubleBits 46 = .ok (.dcmp .l, 1) := by decide +kernel
theorem dX4_doubleBits_47 : decode cX4_doubleBits 47 = .ok (.ifCond .lt 29, 3) := by decide +kernel
theorem dX4_doubleBits_50 : decode cX4_doubleBits 50 = .ok (.lload 6, 2) := by decide +kernel
theorem dX4_doubleBits_52 : decode cX4_doubleBits 52 = .ok (.ldc2_w 441, 3) := by decide +kernel
theorem dX4_doubleBits_55 : decode cX4_doubleBits 55 = .ok (.lcmp, 1) := by decide +kernel
theorem dX4_doubleBits_56 : decode cX4_doubleBits 56 = .ok (.ifCond .ge 20, 3) := by decide +kernel
theorem dX4_doubleBits_59 : decode cX4_doubleBits 59 = .ok (.dload 4, 2) := by decide +kernel
theorem dX4_doubleBits_61 : decode cX4_doubleBits 61 = .ok (.ldc2_w 443, 3) := by decide +kernel
theorem dX4_doubleBits_64 : decode cX4_doubleBits 64 = .ok (.dmul, 1) := by decide +kernel
theorem dX4_doubleBits_65 : decode cX4_doubleBits 65 = .ok (.dstore 4, 2) := by decide +kernel
theorem dX4_doubleBits_67 : decode cX4_doubleBits 67 = .ok (.lload 6, 2) := by decide +kernel
theorem dX4_doubleBits_69 : decode cX4_doubleBits 69 = .ok (.lconst 1, 1) := by decide +kernel
theorem dX4_doubleBits_70 : decode cX4_doubleBits 70 = .ok (.ladd, 1) := by decide +kernel
theorem dX4_doubleBits_71 : decode cX4_doubleBits 71 = .ok (.lstore 6, 2) := by decide +kernel
theorem dX4_doubleBits_73 : decode cX4_doubleBits 73 = .ok (.goto (-32), 3) := by decide +kernel
theorem dX4_doubleBits_76 : decode cX4_doubleBits 76 = .ok (.dload 4, 2) := by decide +kernel
theorem dX4_doubleBits_78 : decode cX4_doubleBits 78 = .ok (.dconst 1, 1) := by decide +kernel
theorem dX4_doubleBits_79 : decode cX4_doubleBits 79 = .ok (.dcmp .g, 1) := by decide +kernel
theorem dX4_doubleBits_80 : decode cX4_doubleBits 80 = .ok (.ifCond .ge 27, 3) := by decide +kernel
theorem dX4_doubleBits_83 : decode cX4_doubleBits 83 = .ok (.lload 6, 2) := by decide +kernel
theorem dX4_doubleBits_85 : decode cX4_doubleBits 85 = .ok (.lconst 1, 1) := by decide +kernel
theorem dX4_doubleBits_86 : decode cX4_doubleBits 86 = .ok (.lcmp, 1) := by decide +kernel
theorem dX4_doubleBits_87 : decode cX4_doubleBits 87 = .ok (.ifCond .le 20, 3) := by decide +kernel
theorem dX4_doubleBits_90 : decode cX4_doubleBits 90 = .ok (.dload 4, 2) := by decide +kernel
theorem dX4_doubleBits_92 : decode cX4_doubleBits 92 = .ok (.ldc2_w 439, 3) := by decide +kernel
theorem dX4_doubleBits_95 : decode cX4_doubleBits 95 = .ok (.dmul, 1) := by decide +kernel
theorem dX4_doubleBits_96 : decode cX4_doubleBits 96 = .ok (.dstore 4, 2) := by decide +kernel
theorem dX4_doubleBits_98 : decode cX4_doubleBits 98 = .ok (.lload 6, 2) := by decide +kernel
theorem dX4_doubleBits_100 : decode cX4_doubleBits 100 = .ok (.lconst 1, 1) := by decide +kernel
theorem dX4_doubleBits_101 : decode cX4_doubleBits 101 = .ok (.lsub, 1) := by decide +kernel
theorem dX4_doubleBits_102 : decode cX4_doubleBits 102 = .ok (.lstore 6, 2) := by decide +kernel
theorem dX4_doubleBits_104 : decode cX4_doubleBits 104 = .ok (.goto (-28), 3) := by decide +kernel
theorem dX4_doubleBits_107 : decode cX4_doubleBits 107 = .ok (.lload_n 2, 1) := by decide +kernel
theorem dX4_doubleBits_108 : decode cX4_doubleBits 108 = .ok (.lload 6, 2) := by decide +kernel
theorem dX4_doubleBits_110 : decode cX4_doubleBits 110 = .ok (.bipush 52, 2) := by decide +kernel
theorem dX4_doubleBits_112 : decode cX4_doubleBits 112 = .ok (.lshl, 1) := by decide +kernel
theorem dX4_doubleBits_113 : decode cX4_doubleBits 113 = .ok (.lor, 1) := by decide +kernel
theorem dX4_doubleBits_114 : decode cX4_doubleBits 114 = .ok (.dload 4, 2) := by decide +kernel
theorem dX4_doubleBits_116 : decode cX4_doubleBits 116 = .ok (.dconst 1, 1) := by decide +kernel
theorem dX4_doubleBits_117 : decode cX4_doubleBits 117 = .ok (.dsub, 1) := by decide +kernel
theorem dX4_doubleBits_118 : decode cX4_doubleBits 118 = .ok (.ldc2_w 445, 3) := by decide +kernel
theorem dX4_doubleBits_121 : decode cX4_doubleBits 121 = .ok (.dmul, 1) := by decide +kernel
theorem dX4_doubleBits_122 : decode cX4_doubleBits 122 = .ok (.d2l, 1) := by decide +kernel
theorem dX4_doubleBits_123 : decode cX4_doubleBits 123 = .ok (.lor, 1) := by decide +kernel
theorem dX4_doubleBits_124 : decode cX4_doubleBits 124 = .ok (.lreturn, 1) := by decide +kernel
set_option maxRecDepth 100000 in
set_option maxHeartbeats 4000000 in
theorem mt_X4_doubleBits (d0 : UInt64) (S0 : PH) (y : Int64 × PH) (h : m_X4_doubleBits d0 S0 = some y) : MT yX4_doubleBits (.code yX4_doubleBits cX4_doubleBits 8 (Option.some FieldType.long)) 0 0 0 0 [.double d0] S0 (oQ e_J (qN y)) := by
  refine mt_of (own := RX4) (l0 := [(0, .double d0)]) rfl rfl (by exact Nat.le_of_ble_eq_true rfl) (by rfl) ?_
  intro Z hC hQ hE hN
  have J_107 : ∀ (v19 : Int64) (v20 : UInt64) (v21 : Int64) (S22 : PH), j_X4_doubleBits_107 d0 v19 v20 v21 S22 = some y → PX Z 8 S22 0 0 107 [(0, .double d0), (2, .long v19), (4, .double v20), (6, .long v21)] [] := by
    intro v19 v20 v21 S22 h
    unfold j_X4_doubleBits_107 at h
    refine x_lload_n (i := 2) hC dX4_doubleBits_107 rfl 1 rfl ?_
    refine x_lload (i := 6) hC dX4_doubleBits_108 3 rfl ?_
    refine x_bipush (v := (52 : Int32)) hC dX4_doubleBits_110 (by decide) ?_
    refine x_lshl hC dX4_doubleBits_112 ?_
    refine x_lor hC dX4_doubleBits_113 ?_
    refine x_dload (i := 4) hC dX4_doubleBits_114 2 rfl ?_
    refine x_dconst1 hC dX4_doubleBits_116 ?_
    replace h := ck_el h
    obtain ⟨hc23, h⟩ := h
    refine x_dsub hC dX4_doubleBits_117 (nn64_ok hc23) ?_
    refine x_ldc2d hC dX4_doubleBits_118 q_396 ?_
    replace h := ck_el h
    obtain ⟨hc24, h⟩ := h
    refine x_dmul hC dX4_doubleBits_121 (nn64_ok hc24) ?_
    refine x_d2l hC dX4_doubleBits_122 ?_
    refine x_lor hC dX4_doubleBits_123 ?_
    exact x_lret hC hQ (z_N (Option.some.inj h)) (Nat.le_of_ble_eq_true rfl) (Nat.le_of_ble_eq_true rfl) dX4_doubleBits_124
  have J_34 : ∀ (v6 : Int64) (v7 : UInt64) (S8 : PH), j_X4_doubleBits_34 d0 v6 v7 S8 = some y → PX Z 8 S8 0 0 34 [(0, .double d0), (2, .long v6)] [.double v7] := by
    intro v6 v7 S8 h
    unfold j_X4_doubleBits_34 at h
    refine x_dstore (i := 4) (l' := [(4, .double v7), (0, .double d0), (2, .long v6)]) hC dX4_doubleBits_34 (⟨fun q => absurd (show (0 : Nat) + 1 = 4 from q) (by decide), ⟨fun q => absurd (show (2 : Nat) + 1 = 4 from q) (by decide), trivial⟩⟩) (by decide) rfl ?_
    refine x_ldc2 hC dX4_doubleBits_36 q_392 ?_
    refine x_lstore (i := 6) (l' := [(6, .long (1023 : Int64)), (4, .double v7), (0, .double d0), (2, .long v6)]) hC dX4_doubleBits_39 (⟨fun q => absurd (show (4 : Nat) + 1 = 6 from q) (by decide), ⟨fun q => absurd (show (0 : Nat) + 1 = 6 from q) (by decide), ⟨fun q => absurd (show (2 : Nat) + 1 = 6 from q) (by decide), trivial⟩⟩⟩) (by decide) rfl ?_
    refine x_sub (l' := [(0, .double d0), (2, .long v6), (4, .double v7), (6, .long (1023 : Int64))]) [2, 3, 1, 0] rfl ?_
    refine lp_sim (P := fun (t : (Int64 × UInt64 × Int64 × PH)) => PX Z 8 t.2.2.2 0 0 41 [(0, .double d0), (2, .long t.1), (4, .double t.2.1), (6, .long t.2.2.1)] []) (G := fun r => r = y) ?_ h rfl
    clear h
    intro t x_41 h hg_41
    obtain ⟨v9, v10, v11, S12⟩ := t
    show PX Z 8 S12 0 0 41 [(0, .double d0), (2, .long v9), (4, .double v10), (6, .long v11)] []
    unfold st_X4_doubleBits_41 at h
    refine x_dload (i := 4) hC dX4_doubleBits_41 2 rfl ?_
    refine x_ldc2d hC dX4_doubleBits_43 q_393 ?_
    refine x_dcmp hC dX4_doubleBits_46 ?_
    refine x_if_lt (t := 76) hC dX4_doubleBits_47 (by decide) (fun c13 => ?_) (fun c13 => ?_)
    · replace h := it_t c13 h
      replace h := ir_x h hg_41
      refine lp_sim (P := fun (t : (Int64 × UInt64 × Int64 × PH)) => PX Z 8 t.2.2.2 0 0 76 [(0, .double d0), (2, .long t.1), (4, .double t.2.1), (6, .long t.2.2.1)] []) (G := fun r => r = y) ?_ h rfl
      clear h
      intro t x_76 h hg_76
      obtain ⟨v14, v15, v16, S17⟩ := t
      show PX Z 8 S17 0 0 76 [(0, .double d0), (2, .long v14), (4, .double v15), (6, .long v16)] []
      unfold st_X4_doubleBits_76 at h
      refine x_dload (i := 4) hC dX4_doubleBits_76 2 rfl ?_
      refine x_dconst1 hC dX4_doubleBits_78 ?_
      refine x_dcmp hC dX4_doubleBits_79 ?_
      refine x_if_ge (t := 107) hC dX4_doubleBits_80 (by decide) (fun c18 => ?_) (fun c18 => ?_)
      · replace h := it_t c18 h
        replace h := ir_x h hg_76
        exact J_107 _ _ _ _ h
      · replace h := it_f c18 h
        refine x_lload (i := 6) hC dX4_doubleBits_83 3 rfl ?_
        refine x_lconst (v := (1 : Int64)) hC dX4_doubleBits_85 (by decide) ?_
        refine x_lcmp hC dX4_doubleBits_86 ?_
        refine x_if_le (t := 107) hC dX4_doubleBits_87 (by decide) (fun c25 => ?_) (fun c25 => ?_)
        · replace h := it_t c25 h
          replace h := ir_x h hg_76
          exact J_107 _ _ _ _ h
        · replace h := it_f c25 h
          refine x_dload (i := 4) hC dX4_doubleBits_90 2 rfl ?_
          refine x_ldc2d hC dX4_doubleBits_92 q_393 ?_
          replace h := ck_el h
          obtain ⟨hc26, h⟩ := h
          refine x_dmul hC dX4_doubleBits_95 (nn64_ok hc26) ?_
          replace h := le_el h
          obtain ⟨x27, hx28, h⟩ := h
          refine x_tD hx28 ?_
          refine x_dstore (i := 4) (l' := [(4, .double x27), (0, .double d0), (2, .long v14), (6, .long v16)]) hC dX4_doubleBits_96 (⟨fun q => absurd (show (0 : Nat) + 1 = 4 from q) (by decide), ⟨fun q => absurd (show (2 : Nat) + 1 = 4 from q) (by decide), ⟨fun q => absurd (show (4 : Nat) + 1 = 4 from q) (by decide), ⟨fun q => absurd (show (6 : Nat) + 1 = 4 from q) (by decide), trivial⟩⟩⟩⟩) (by decide) rfl ?_
          refine x_lload (i := 6) hC dX4_doubleBits_98 3 rfl ?_
          refine x_lconst (v := (1 : Int64)) hC dX4_doubleBits_100 (by decide) ?_
          refine x_lsub hC dX4_doubleBits_101 ?_
          replace h := le_el h
          obtain ⟨x29, hx30, h⟩ := h
          refine x_tJ hx30 ?_
          refine x_lstore (i := 6) (l' := [(6, .long x29), (4, .double x27), (0, .double d0), (2, .long v14)]) hC dX4_doubleBits_102 (⟨fun q => absurd (show (4 : Nat) + 1 = 6 from q) (by decide), ⟨fun q => absurd (show (0 : Nat) + 1 = 6 from q) (by decide), ⟨fun q => absurd (show (2 : Nat) + 1 = 6 from q) (by decide), ⟨fun q => absurd (show (6 : Nat) + 1 = 6 from q) (by decide), trivial⟩⟩⟩⟩) (by decide) rfl ?_
          refine x_goto (t := 76) hC dX4_doubleBits_104 (by decide) ?_
          refine x_sub (l' := [(0, .double d0), (2, .long v14), (4, .double x27), (6, .long x29)]) [2, 3, 1, 0] rfl ?_
          have hb := bk_x h hg_76
          exact hb
    · replace h := it_f c13 h
      refine x_lload (i := 6) hC dX4_doubleBits_50 3 rfl ?_
      refine x_ldc2 hC dX4_doubleBits_52 q_394 ?_
      refine x_lcmp hC dX4_doubleBits_55 ?_
      refine x_if_ge (t := 76) hC dX4_doubleBits_56 (by decide) (fun c31 => ?_) (fun c31 => ?_)
      · replace h := it_t c31 h
        replace h := ir_x h hg_41
        refine lp_sim (P := fun (t : (Int64 × UInt64 × Int64 × PH)) => PX Z 8 t.2.2.2 0 0 76 [(0, .double d0), (2, .long t.1), (4, .double t.2.1), (6, .long t.2.2.1)] []) (G := fun r => r = y) ?_ h rfl
        clear h
        intro t x_76 h hg_76
        obtain ⟨v32, v33, v34, S35⟩ := t
        show PX Z 8 S35 0 0 76 [(0, .double d0), (2, .long v32), (4, .double v33), (6, .long v34)] []
        unfold st_X4_doubleBits_76 at h
        refine x_dload (i := 4) hC dX4_doubleBits_76 2 rfl ?_
        refine x_dconst1 hC dX4_doubleBits_78 ?_
        refine x_dcmp hC dX4_doubleBits_79 ?_
        refine x_if_ge (t := 107) hC dX4_doubleBits_80 (by decide) (fun c36 => ?_) (fun c36 => ?_)
        · replace h := it_t c36 h
          replace h := ir_x h hg_76
          exact J_107 _ _ _ _ h
        · replace h := it_f c36 h
          refine x_lload (i := 6) hC dX4_doubleBits_83 3 rfl ?_
          refine x_lconst (v := (1 : Int64)) hC dX4_doubleBits_85 (by decide) ?_
          refine x_lcmp hC dX4_doubleBits_86 ?_
          refine x_if_le (t := 107) hC dX4_doubleBits_87 (by decide) (fun c37 => ?_) (fun c37 => ?_)
          · replace h := it_t c37 h
            replace h := ir_x h hg_76
            exact J_107 _ _ _ _ h
          · replace h := it_f c37 h
            refine x_dload (i := 4) hC dX4_doubleBits_90 2 rfl ?_
            refine x_ldc2d hC dX4_doubleBits_92 q_393 ?_
            replace h := ck_el h
            obtain ⟨hc38, h⟩ := h
            refine x_dmul hC dX4_doubleBits_95 (nn64_ok hc38) ?_
            replace h := le_el h
            obtain ⟨x39, hx40, h⟩ := h
            refine x_tD hx40 ?_
            refine x_dstore (i := 4) (l' := [(4, .double x39), (0, .double d0), (2, .long v32), (6, .long v34)]) hC dX4_doubleBits_96 (⟨fun q => absurd (show (0 : Nat) + 1 = 4 from q) (by decide), ⟨fun q => absurd (show (2 : Nat) + 1 = 4 from q) (by decide), ⟨fun q => absurd (show (4 : Nat) + 1 = 4 from q) (by decide), ⟨fun q => absurd (show (6 : Nat) + 1 = 4 from q) (by decide), trivial⟩⟩⟩⟩) (by decide) rfl ?_
            refine x_lload (i := 6) hC dX4_doubleBits_98 3 rfl ?_
            refine x_lconst (v := (1 : Int64)) hC dX4_doubleBits_100 (by decide) ?_
            refine x_lsub hC dX4_doubleBits_101 ?_
            replace h := le_el h
            obtain ⟨x41, hx42, h⟩ := h
            refine x_tJ hx42 ?_
            refine x_lstore (i := 6) (l' := [(6, .long x41), (4, .double x39), (0, .double d0), (2, .long v32)]) hC dX4_doubleBits_102 (⟨fun q => absurd (show (4 : Nat) + 1 = 6 from q) (by decide), ⟨fun q => absurd (show (0 : Nat) + 1 = 6 from q) (by decide), ⟨fun q => absurd (show (2 : Nat) + 1 = 6 from q) (by decide), ⟨fun q => absurd (show (6 : Nat) + 1 = 6 from q) (by decide), trivial⟩⟩⟩⟩) (by decide) rfl ?_
            refine x_goto (t := 76) hC dX4_doubleBits_104 (by decide) ?_
            refine x_sub (l' := [(0, .double d0), (2, .long v32), (4, .double x39), (6, .long x41)]) [2, 3, 1, 0] rfl ?_
            have hb := bk_x h hg_76
            exact hb
      · replace h := it_f c31 h
        refine x_dload (i := 4) hC dX4_doubleBits_59 2 rfl ?_
        refine x_ldc2d hC dX4_doubleBits_61 q_395 ?_
        replace h := ck_el h
        obtain ⟨hc43, h⟩ := h
        refine x_dmul hC dX4_doubleBits_64 (nn64_ok hc43) ?_
        replace h := le_el h
        obtain ⟨x44, hx45, h⟩ := h
        refine x_tD hx45 ?_
        refine x_dstore (i := 4) (l' := [(4, .double x44), (0, .double d0), (2, .long v9), (6, .long v11)]) hC dX4_doubleBits_65 (⟨fun q => absurd (show (0 : Nat) + 1 = 4 from q) (by decide), ⟨fun q => absurd (show (2 : Nat) + 1 = 4 from q) (by decide), ⟨fun q => absurd (show (4 : Nat) + 1 = 4 from q) (by decide), ⟨fun q => absurd (show (6 : Nat) + 1 = 4 from q) (by decide), trivial⟩⟩⟩⟩) (by decide) rfl ?_
        refine x_lload (i := 6) hC dX4_doubleBits_67 3 rfl ?_
        refine x_lconst (v := (1 : Int64)) hC dX4_doubleBits_69 (by decide) ?_
        refine x_ladd hC dX4_doubleBits_70 ?_
        replace h := le_el h
        obtain ⟨x46, hx47, h⟩ := h
        refine x_tJ hx47 ?_
        refine x_lstore (i := 6) (l' := [(6, .long x46), (4, .double x44), (0, .double d0), (2, .long v9)]) hC dX4_doubleBits_71 (⟨fun q => absurd (show (4 : Nat) + 1 = 6 from q) (by decide), ⟨fun q => absurd (show (0 : Nat) + 1 = 6 from q) (by decide), ⟨fun q => absurd (show (2 : Nat) + 1 = 6 from q) (by decide), ⟨fun q => absurd (show (6 : Nat) + 1 = 6 from q) (by decide), trivial⟩⟩⟩⟩) (by decide) rfl ?_
        refine x_goto (t := 41) hC dX4_doubleBits_73 (by decide) ?_
        refine x_sub (l' := [(0, .double d0), (2, .long v9), (4, .double x44), (6, .long x46)]) [2, 3, 1, 0] rfl ?_
        have hb := bk_x h hg_41
        exact hb
  have J_21 : ∀ (v3 : Int64) (S4 : PH), j_X4_doubleBits_21 d0 v3 S4 = some y → PX Z 8 S4 0 0 21 [(0, .double d0)] [.long v3] := by
    intro v3 S4 h
    unfold j_X4_doubleBits_21 at h
    refine x_lstore_n (i := 2) (l' := [(2, .long v3), (0, .double d0)]) hC dX4_doubleBits_21 rfl (⟨fun q => absurd (show (0 : Nat) + 1 = 2 from q) (by decide), trivial⟩) (by decide) rfl ?_
    refine x_dload_n (i := 0) hC dX4_doubleBits_22 rfl 1 rfl ?_
    refine x_dconst0 hC dX4_doubleBits_23 ?_
    refine x_dcmp hC dX4_doubleBits_24 ?_
    refine x_if_ge (t := 33) hC dX4_doubleBits_25 (by decide) (fun c5 => ?_) (fun c5 => ?_)
    · replace h := it_t c5 h
      refine x_dload_n (i := 0) hC dX4_doubleBits_33 rfl 1 rfl ?_
      refine x_sub (l' := [(0, .double d0), (2, .long v3)]) [1, 0] rfl ?_
      exact J_34 _ _ _ h
    · replace h := it_f c5 h
      refine x_dload_n (i := 0) hC dX4_doubleBits_28 rfl 1 rfl ?_
      refine x_dneg hC dX4_doubleBits_29 ?_
      refine x_goto (t := 34) hC dX4_doubleBits_30 (by decide) ?_
      refine x_sub (l' := [(0, .double d0), (2, .long v3)]) [1, 0] rfl ?_
      exact J_34 _ _ _ h
  unfold m_X4_doubleBits at h
  refine x_dload_n (i := 0) hC dX4_doubleBits_0 rfl 0 rfl ?_
  refine x_dconst0 hC dX4_doubleBits_1 ?_
  refine x_dcmp hC dX4_doubleBits_2 ?_
  refine x_if_ne (t := 8) hC dX4_doubleBits_3 (by decide) (fun c1 => ?_) (fun c1 => ?_)
  · replace h := it_f c1 h
    refine x_dload_n (i := 0) hC dX4_doubleBits_8 rfl 0 rfl ?_
    refine x_dconst0 hC dX4_doubleBits_9 ?_
    refine x_dcmp hC dX4_doubleBits_10 ?_
    refine x_if_ge (t := 20) hC dX4_doubleBits_11 (by decide) (fun c2 => ?_) (fun c2 => ?_)
    · replace h := it_t c2 h
      refine x_lconst (v := (0 : Int64)) hC dX4_doubleBits_20 (by decide) ?_
      exact J_21 _ _ h
    · replace h := it_f c2 h
      refine x_ldc2 hC dX4_doubleBits_14 q_391 ?_
      refine x_goto (t := 21) hC dX4_doubleBits_17 (by decide) ?_
      exact J_21 _ _ h
  · replace h := it_t c1 h
    refine x_lconst (v := (0 : Int64)) hC dX4_doubleBits_6 (by decide) ?_
    exact x_lret hC hQ (z_N (Option.some.inj h)) (Nat.le_of_ble_eq_true rfl) (Nat.le_of_ble_eq_true rfl) dX4_doubleBits_7
theorem dX4_hashWithPaper_0 : decode cX4_hashWithPaper 0 = .ok (.lload_n 1, 1) := by decide +kernel
theorem dX4_hashWithPaper_1 : decode cX4_hashWithPaper 1 = .ok (.lstore 4, 2) := by decide +kernel
theorem dX4_hashWithPaper_3 : decode cX4_hashWithPaper 3 = .ok (.iconst 0, 1) := by decide +kernel
theorem dX4_hashWithPaper_4 : decode cX4_hashWithPaper 4 = .ok (.istore 6, 2) := by decide +kernel
theorem dX4_hashWithPaper_6 : decode cX4_hashWithPaper 6 = .ok (.iload 6, 2) := by decide +kernel
theorem dX4_hashWithPaper_8 : decode cX4_hashWithPaper 8 = .ok (.bipush 10, 2) := by decide +kernel
theorem dX4_hashWithPaper_10 : decode cX4_hashWithPaper 10 = .ok (.if_icmp .ge 26, 3) := by decide +kernel
theorem dX4_hashWithPaper_13 : decode cX4_hashWithPaper 13 = .ok (.ldc2_w 275, 3) := by decide +kernel
theorem dX4_hashWithPaper_16 : decode cX4_hashWithPaper 16 = .ok (.lload 4, 2) := by decide +kernel
theorem dX4_hashWithPaper_18 : decode cX4_hashWithPaper 18 = .ok (.lmul, 1) := by decide +kernel
theorem dX4_hashWithPaper_19 : decode cX4_hashWithPaper 19 = .ok (.aload_n 0, 1) := by decide +kernel
theorem dX4_hashWithPaper_20 : decode cX4_hashWithPaper 20 = .ok (.iload_n 3, 1) := by decide +kernel
theorem dX4_hashWithPaper_21 : decode cX4_hashWithPaper 21 = .ok (.iload 6, 2) := by decide +kernel
theorem dX4_hashWithPaper_23 : decode cX4_hashWithPaper 23 = .ok (.invokevirtual 234, 3) := by decide +kernel
theorem dX4_hashWithPaper_26 : decode cX4_hashWithPaper 26 = .ok (.i2l, 1) := by decide +kernel
theorem dX4_hashWithPaper_27 : decode cX4_hashWithPaper 27 = .ok (.ladd, 1) := by decide +kernel
theorem dX4_hashWithPaper_28 : decode cX4_hashWithPaper 28 = .ok (.lstore 4, 2) := by decide +kernel
theorem dX4_hashWithPaper_30 : decode cX4_hashWithPaper 30 = .ok (.iinc 6 1, 3) := by decide +kernel
theorem dX4_hashWithPaper_33 : decode cX4_hashWithPaper 33 = .ok (.goto (-27), 3) := by decide +kernel
theorem dX4_hashWithPaper_36 : decode cX4_hashWithPaper 36 = .ok (.iconst 0, 1) := by decide +kernel
theorem dX4_hashWithPaper_37 : decode cX4_hashWithPaper 37 = .ok (.istore 6, 2) := by decide +kernel
theorem dX4_hashWithPaper_39 : decode cX4_hashWithPaper 39 = .ok (.iload 6, 2) := by decide +kernel
theorem dX4_hashWithPaper_41 : decode cX4_hashWithPaper 41 = .ok (.bipush 8, 2) := by decide +kernel
theorem dX4_hashWithPaper_43 : decode cX4_hashWithPaper 43 = .ok (.if_icmp .ge 31, 3) := by decide +kernel
theorem dX4_hashWithPaper_46 : decode cX4_hashWithPaper 46 = .ok (.ldc2_w 275, 3) := by decide +kernel
theorem dX4_hashWithPaper_49 : decode cX4_hashWithPaper 49 = .ok (.lload 4, 2) := by decide +kernel
theorem dX4_hashWithPaper_51 : decode cX4_hashWithPaper 51 = .ok (.lmul, 1) := by decide +kernel
theorem dX4_hashWithPaper_52 : decode cX4_hashWithPaper 52 = .ok (.aload_n 0, 1) := by decide +kernel
theorem dX4_hashWithPaper_53 : decode cX4_hashWithPaper 53 = .ok (.getfield 10, 3) := by decide +kernel
theorem dX4_hashWithPaper_56 : decode cX4_hashWithPaper 56 = .ok (.getfield 167, 3) := by decide +kernel
theorem dX4_hashWithPaper_59 : decode cX4_hashWithPaper 59 = .ok (.iload_n 3, 1) := by decide +kernel
theorem dX4_hashWithPaper_60 : decode cX4_hashWithPaper 60 = .ok (.aaload, 1) := by decide +kernel
theorem dX4_hashWithPaper_61 : decode cX4_hashWithPaper 61 = .ok (.iload 6, 2) := by decide +kernel
theorem dX4_hashWithPaper_63 : decode cX4_hashWithPaper 63 = .ok (.iaload, 1) := by decide +kernel
theorem dX4_hashWithPaper_64 : decode cX4_hashWithPaper 64 = .ok (.i2l, 1) := by decide +kernel
theorem dX4_hashWithPaper_65 : decode cX4_hashWithPaper 65 = .ok (.ladd, 1) := by decide +kernel
theorem dX4_hashWithPaper_66 : decode cX4_hashWithPaper 66 = .ok (.lstore 4, 2) := by decide +kernel
theorem dX4_hashWithPaper_68 : decode cX4_hashWithPaper 68 = .ok (.iinc 6 1, 3) := by decide +kernel
theorem dX4_hashWithPaper_71 : decode cX4_hashWithPaper 71 = .ok (.goto (-32), 3) := by decide +kernel
theorem dX4_hashWithPaper_74 : decode cX4_hashWithPaper 74 = .ok (.ldc2_w 275, 3) := by decide +kernel
theorem dX4_hashWithPaper_77 : decode cX4_hashWithPaper 77 = .ok (.lload 4, 2) := by decide +kernel
theorem dX4_hashWithPaper_79 : decode cX4_hashWithPaper 79 = .ok (.lmul, 1) := by decide +kernel
theorem dX4_hashWithPaper_80 : decode cX4_hashWithPaper 80 = .ok (.aload_n 0, 1) := by decide +kernel
theorem dX4_hashWithPaper_81 : decode cX4_hashWithPaper 81 = .ok (.iload_n 3, 1) := by decide +kernel
theorem dX4_hashWithPaper_82 : decode cX4_hashWithPaper 82 = .ok (.invokevirtual 245, 3) := by decide +kernel
theorem dX4_hashWithPaper_85 : decode cX4_hashWithPaper 85 = .ok (.i2l, 1) := by decide +kernel
theorem dX4_hashWithPaper_86 : decode cX4_hashWithPaper 86 = .ok (.ladd, 1) := by decide +kernel
theorem dX4_hashWithPaper_87 : decode cX4_hashWithPaper 87 = .ok (.lstore 4, 2) := by decide +kernel
theorem dX4_hashWithPaper_89 : decode cX4_hashWithPaper 89 = .ok (.ldc2_w 275, 3) := by decide +kernel
theorem dX4_hashWithPaper_92 : decode cX4_hashWithPaper 92 = .ok (.lload 4, 2) := by decide +kernel
theorem dX4_hashWithPaper_94 : decode cX4_hashWithPaper 94 = .ok (.lmul, 1) := by decide +kernel
theorem dX4_hashWithPaper_95 : decode cX4_hashWithPaper 95 = .ok (.aload_n 0, 1) := by decide +kernel
theorem dX4_hashWithPaper_96 : decode cX4_hashWithPaper 96 = .ok (.iload_n 3, 1) := by decide +kernel
theorem dX4_hashWithPaper_97 : decode cX4_hashWithPaper 97 = .ok (.invokevirtual 262, 3) := by decide +kernel
theorem dX4_hashWithPaper_100 : decode cX4_hashWithPaper 100 = .ok (.i2l, 1) := by decide +kernel
theorem dX4_hashWithPaper_101 : decode cX4_hashWithPaper 101 = .ok (.ladd, 1) := by decide +kernel
theorem dX4_hashWithPaper_102 : decode cX4_hashWithPaper 102 = .ok (.lstore 4, 2) := by decide +kernel
theorem dX4_hashWithPaper_104 : decode cX4_hashWithPaper 104 = .ok (.ldc2_w 275, 3) := by decide +kernel
theorem dX4_hashWithPaper_107 : decode cX4_hashWithPaper 107 = .ok (.lload 4, 2) := by decide +kernel
theorem dX4_hashWithPaper_109 : decode cX4_hashWithPaper 109 = .ok (.lmul, 1) := by decide +kernel
theorem dX4_hashWithPaper_110 : decode cX4_hashWithPaper 110 = .ok (.aload_n 0, 1) := by decide +kernel
theorem dX4_hashWithPaper_111 : decode cX4_hashWithPaper 111 = .ok (.getfield 10, 3) := by decide +kernel
theorem dX4_hashWithPaper_114 : decode cX4_hashWithPaper 114 = .ok (.getfield 167, 3) := by decide +kernel
theorem dX4_hashWithPaper_117 : decode cX4_hashWithPaper 117 = .ok (.iload_n 3, 1) := by decide +kernel
theorem dX4_hashWithPaper_118 : decode cX4_hashWithPaper 118 = .ok (.aaload, 1) := by decide +kernel
theorem dX4_hashWithPaper_119 : decode cX4_hashWithPaper 119 = .ok (.invokestatic 265, 3) := by decide +kernel
theorem dX4_hashWithPaper_122 : decode cX4_hashWithPaper 122 = .ok (.invokestatic 429, 3) := by decide +kernel
theorem dX4_hashWithPaper_125 : decode cX4_hashWithPaper 125 = .ok (.ladd, 1) := by decide +kernel
theorem dX4_hashWithPaper_126 : decode cX4_hashWithPaper 126 = .ok (.lreturn, 1) := by decide +kernel
set_option maxRecDepth 100000 in
set_option maxHeartbeats 4000000 in
theorem mt_X4_hashWithPaper (r0 : Option Nat) (j1 : Int64) (i3 : Int32) (S0 : PH) (y : Int64 × PH) (h : m_X4_hashWithPaper r0 j1 i3 S0 = some y) : MT yX4_hashWithPaper (.code yX4_hashWithPaper cX4_hashWithPaper 7 (Option.some FieldType.long)) 5 117 0 0 [va_rf r0, .long j1, .int i3] S0 (oQ e_J (qN y)) := by
  refine mt_of (own := RX4) (l0 := [(0, va_rf r0), (1, .long j1), (3, .int i3)]) rfl rfl (by cases r0 <;> exact Nat.le_of_ble_eq_true rfl) (by cases r0 <;> rfl) ?_
  intro Z hC hQ hE hN
  unfold m_X4_hashWithPaper at h
  refine x_lload_n (i := 1) hC dX4_hashWithPaper_0 rfl 1 rfl ?_
  refine x_lstore (i := 4) (l' := [(4, .long j1), (0, va_rf r0), (1, .long j1), (3, .int i3)]) hC dX4_hashWithPaper_1 (⟨fun _ => c_rf r0, ⟨fun q => absurd (show (1 : Nat) + 1 = 4 from q) (by decide), ⟨fun _ => rfl, trivial⟩⟩⟩) (by decide) rfl ?_
  refine x_iconst (v := (0 : Int32)) hC dX4_hashWithPaper_3 (by decide) ?_
  refine x_istore (i := 6) (l' := [(6, .int (0 : Int32)), (4, .long j1), (0, va_rf r0), (1, .long j1), (3, .int i3)]) hC dX4_hashWithPaper_4 (⟨fun q => absurd (show (4 : Nat) + 1 = 6 from q) (by decide), ⟨fun _ => c_rf r0, ⟨fun q => absurd (show (1 : Nat) + 1 = 6 from q) (by decide), ⟨fun _ => rfl, trivial⟩⟩⟩⟩) (by decide) rfl ?_
  refine x_sub (l' := [(0, va_rf r0), (1, .long j1), (3, .int i3), (4, .long j1), (6, .int (0 : Int32))]) [2, 3, 4, 1, 0] rfl ?_
  refine lp_sim (P := fun (t : (Int64 × Int32 × PH)) => PX Z 7 t.2.2 0 0 6 [(0, va_rf r0), (1, .long j1), (3, .int i3), (4, .long t.1), (6, .int t.2.1)] []) (G := fun r => r = y) ?_ h rfl
  clear h
  intro t x_6 h hg_6
  obtain ⟨v1, v2, S3⟩ := t
  show PX Z 7 S3 0 0 6 [(0, va_rf r0), (1, .long j1), (3, .int i3), (4, .long v1), (6, .int v2)] []
  unfold st_X4_hashWithPaper_6 at h
  refine x_iload (i := 6) hC dX4_hashWithPaper_6 4 rfl ?_
  refine x_bipush (v := (10 : Int32)) hC dX4_hashWithPaper_8 (by decide) ?_
  refine x_icmp_ge (t := 36) hC dX4_hashWithPaper_10 (by decide) (fun c4 => ?_) (fun c4 => ?_)
  · replace h := it_t c4 h
    replace h := ir_x h hg_6
    refine x_iconst (v := (0 : Int32)) hC dX4_hashWithPaper_36 (by decide) ?_
    refine x_istore (i := 6) (l' := [(6, .int (0 : Int32)), (0, va_rf r0), (1, .long j1), (3, .int i3), (4, .long v1)]) hC dX4_hashWithPaper_37 (⟨fun _ => c_rf r0, ⟨fun q => absurd (show (1 : Nat) + 1 = 6 from q) (by decide), ⟨fun _ => rfl, ⟨fun q => absurd (show (4 : Nat) + 1 = 6 from q) (by decide), ⟨fun _ => rfl, trivial⟩⟩⟩⟩⟩) (by decide) rfl ?_
    refine x_sub (l' := [(0, va_rf r0), (1, .long j1), (3, .int i3), (4, .long v1), (6, .int (0 : Int32))]) [1, 2, 3, 4, 0] rfl ?_
    refine lp_sim (P := fun (t : (Int64 × Int32 × PH)) => PX Z 7 t.2.2 0 0 39 [(0, va_rf r0), (1, .long j1), (3, .int i3), (4, .long t.1), (6, .int t.2.1)] []) (G := fun r => r = y) ?_ h rfl
    clear h
    intro t x_39 h hg_39
    obtain ⟨v5, v6, S7⟩ := t
    show PX Z 7 S7 0 0 39 [(0, va_rf r0), (1, .long j1), (3, .int i3), (4, .long v5), (6, .int v6)] []
    unfold st_X4_hashWithPaper_39 at h
    refine x_iload (i := 6) hC dX4_hashWithPaper_39 4 rfl ?_
    refine x_bipush (v := (8 : Int32)) hC dX4_hashWithPaper_41 (by decide) ?_
    refine x_icmp_ge (t := 74) hC dX4_hashWithPaper_43 (by decide) (fun c8 => ?_) (fun c8 => ?_)
    · replace h := it_t c8 h
      replace h := ir_x h hg_39
      refine x_ldc2 hC dX4_hashWithPaper_74 q_297 ?_
      refine x_lload (i := 4) hC dX4_hashWithPaper_77 3 rfl ?_
      refine x_lmul hC dX4_hashWithPaper_79 ?_
      refine x_aload_n (i := 0) hC dX4_hashWithPaper_80 rfl 0 rfl ?_
      refine x_iload_n (i := 3) hC dX4_hashWithPaper_81 rfl 2 rfl ?_
      replace h := dr_el h
      obtain ⟨a9, ea10, ha11, h⟩ := h
      replace h := bd_el h
      obtain ⟨v12, S13, hb14, h⟩ := h
      refine x_callV hC (st := [.long ((31 : Int64) * v5)]) (mt_X4_bestPersonFor _ _ _ _ hb14) ea10 ha11 kf_4 q_368 q_370 qs_22 q_1 q_371 ⟨rfl, hy_X4_bestPersonFor⟩ ⟨Nat.le_of_ble_eq_true rfl, Nat.le_of_ble_eq_true rfl⟩ ⟨Nat.le_of_ble_eq_true rfl, Nat.le_of_ble_eq_true rfl⟩ rfl (Nat.le_of_ble_eq_true rfl) dX4_hashWithPaper_82 (r_N ?_) r_NX
      show PX Z 7 S13 0 0 85 [(0, va_rf r0), (1, .long j1), (3, .int i3), (4, .long v5), (6, .int v6)] [.int v12, .long ((31 : Int64) * v5)]
      refine x_i2l hC dX4_hashWithPaper_85 ?_
      refine x_ladd hC dX4_hashWithPaper_86 ?_
      replace h := le_el h
      obtain ⟨x15, hx16, h⟩ := h
      refine x_tJ hx16 ?_
      refine x_lstore (i := 4) (l' := [(4, .long x15), (0, va_rf r0), (1, .long j1), (3, .int i3), (6, .int v6)]) hC dX4_hashWithPaper_87 (⟨fun _ => c_rf r0, ⟨fun q => absurd (show (1 : Nat) + 1 = 4 from q) (by decide), ⟨fun _ => rfl, ⟨fun q => absurd (show (4 : Nat) + 1 = 4 from q) (by decide), ⟨fun _ => rfl, trivial⟩⟩⟩⟩⟩) (by decide) rfl ?_
      refine x_ldc2 hC dX4_hashWithPaper_89 q_297 ?_
      refine x_lload (i := 4) hC dX4_hashWithPaper_92 0 rfl ?_
      refine x_lmul hC dX4_hashWithPaper_94 ?_
      refine x_aload_n (i := 0) hC dX4_hashWithPaper_95 rfl 1 rfl ?_
      refine x_iload_n (i := 3) hC dX4_hashWithPaper_96 rfl 3 rfl ?_
      replace h := dr_el h
      obtain ⟨a17, ea18, ha19, h⟩ := h
      replace h := bd_el h
      obtain ⟨v20, S21, hb22, h⟩ := h
      refine x_callV hC (st := [.long ((31 : Int64) * x15)]) (mt_X4_roundsFor _ _ _ _ hb22) ea18 ha19 kf_4 q_376 q_378 qs_24 q_1 q_379 ⟨rfl, hy_X4_roundsFor⟩ ⟨Nat.le_of_ble_eq_true rfl, Nat.le_of_ble_eq_true rfl⟩ ⟨Nat.le_of_ble_eq_true rfl, Nat.le_of_ble_eq_true rfl⟩ rfl (Nat.le_of_ble_eq_true rfl) dX4_hashWithPaper_97 (r_N ?_) r_NX
      show PX Z 7 S21 0 0 100 [(4, .long x15), (0, va_rf r0), (1, .long j1), (3, .int i3), (6, .int v6)] [.int v20, .long ((31 : Int64) * x15)]
      refine x_i2l hC dX4_hashWithPaper_100 ?_
      refine x_ladd hC dX4_hashWithPaper_101 ?_
      replace h := le_el h
      obtain ⟨x23, hx24, h⟩ := h
      refine x_tJ hx24 ?_
      refine x_lstore (i := 4) (l' := [(4, .long x23), (0, va_rf r0), (1, .long j1), (3, .int i3), (6, .int v6)]) hC dX4_hashWithPaper_102 (⟨fun q => absurd (show (4 : Nat) + 1 = 4 from q) (by decide), ⟨fun _ => c_rf r0, ⟨fun q => absurd (show (1 : Nat) + 1 = 4 from q) (by decide), ⟨fun _ => rfl, ⟨fun _ => rfl, trivial⟩⟩⟩⟩⟩) (by decide) rfl ?_
      refine x_ldc2 hC dX4_hashWithPaper_104 q_297 ?_
      refine x_lload (i := 4) hC dX4_hashWithPaper_107 0 rfl ?_
      refine x_lmul hC dX4_hashWithPaper_109 ?_
      refine x_aload_n (i := 0) hC dX4_hashWithPaper_110 rfl 1 rfl ?_
      replace h := dr_el h
      obtain ⟨a25, ea26, ha27, h⟩ := h
      refine x_getR hC ea26 ha27 kf_4 0 (by decide) rfl q_175 dX4_hashWithPaper_111 ?_
      replace h := dr_el h
      obtain ⟨a28, ea29, ha30, h⟩ := h
      refine x_getR hC ea29 ha30 kf_2 10 (by decide) rfl q_58 dX4_hashWithPaper_114 ?_
      refine x_iload_n (i := 3) hC dX4_hashWithPaper_117 rfl 3 rfl ?_
      replace h := dr_el h
      obtain ⟨a31, ea32, ha33, h⟩ := h
      replace h := ck_el h
      obtain ⟨hc34, h⟩ := h
      refine x_aaload9 hC ea32 ha33 hc34 dX4_hashWithPaper_118 ?_
      replace h := bd_el h
      obtain ⟨v35, S36, hb37, h⟩ := h
      refine x_callS hC (st := [.long ((31 : Int64) * x23)]) (mt_X4_meanIn _ _ _ hb37) q_384 q_385 q_1 q_386 hy_X4_meanIn ⟨Nat.le_of_ble_eq_true rfl, Nat.le_of_ble_eq_true rfl⟩ ⟨Nat.le_of_ble_eq_true rfl, Nat.le_of_ble_eq_true rfl⟩ rfl (Nat.le_of_ble_eq_true rfl) dX4_hashWithPaper_119 (r_N ?_) r_NX
      show PX Z 7 S36 0 0 122 [(4, .long x23), (0, va_rf r0), (1, .long j1), (3, .int i3), (6, .int v6)] [.double v35, .long ((31 : Int64) * x23)]
      replace h := bd_el h
      obtain ⟨v38, S39, hb40, h⟩ := h
      refine x_callS hC (st := [.long ((31 : Int64) * x23)]) (mt_X4_doubleBits _ _ _ hb40) q_388 q_389 q_1 q_390 hy_X4_doubleBits ⟨Nat.le_of_ble_eq_true rfl, Nat.le_of_ble_eq_true rfl⟩ ⟨Nat.le_of_ble_eq_true rfl, Nat.le_of_ble_eq_true rfl⟩ rfl (Nat.le_of_ble_eq_true rfl) dX4_hashWithPaper_122 (r_N ?_) r_NX
      show PX Z 7 S39 0 0 125 [(4, .long x23), (0, va_rf r0), (1, .long j1), (3, .int i3), (6, .int v6)] [.long v38, .long ((31 : Int64) * x23)]
      refine x_ladd hC dX4_hashWithPaper_125 ?_
      exact x_lret hC hQ (z_N (Option.some.inj h)) (Nat.le_of_ble_eq_true rfl) (Nat.le_of_ble_eq_true rfl) dX4_hashWithPaper_126
    · replace h := it_f c8 h
      refine x_ldc2 hC dX4_hashWithPaper_46 q_297 ?_
      refine x_lload (i := 4) hC dX4_hashWithPaper_49 3 rfl ?_
      refine x_lmul hC dX4_hashWithPaper_51 ?_
      refine x_aload_n (i := 0) hC dX4_hashWithPaper_52 rfl 0 rfl ?_
      replace h := dr_el h
      obtain ⟨a41, ea42, ha43, h⟩ := h
      refine x_getR hC ea42 ha43 kf_4 0 (by decide) rfl q_175 dX4_hashWithPaper_53 ?_
      replace h := dr_el h
      obtain ⟨a44, ea45, ha46, h⟩ := h
      refine x_getR hC ea45 ha46 kf_2 10 (by decide) rfl q_58 dX4_hashWithPaper_56 ?_
      refine x_iload_n (i := 3) hC dX4_hashWithPaper_59 rfl 2 rfl ?_
      replace h := dr_el h
      obtain ⟨a47, ea48, ha49, h⟩ := h
      replace h := ck_el h
      obtain ⟨hc50, h⟩ := h
      refine x_aaload9 hC ea48 ha49 hc50 dX4_hashWithPaper_60 ?_
      refine x_iload (i := 6) hC dX4_hashWithPaper_61 4 rfl ?_
      replace h := dr_el h
      obtain ⟨a51, ea52, ha53, h⟩ := h
      replace h := ck_el h
      obtain ⟨hc54, h⟩ := h
      refine x_iaload hC ea52 ha53 hc54 dX4_hashWithPaper_63 ?_
      refine x_i2l hC dX4_hashWithPaper_64 ?_
      refine x_ladd hC dX4_hashWithPaper_65 ?_
      replace h := le_el h
      obtain ⟨x55, hx56, h⟩ := h
      refine x_tJ hx56 ?_
      refine x_lstore (i := 4) (l' := [(4, .long x55), (0, va_rf r0), (1, .long j1), (3, .int i3), (6, .int v6)]) hC dX4_hashWithPaper_66 (⟨fun _ => c_rf r0, ⟨fun q => absurd (show (1 : Nat) + 1 = 4 from q) (by decide), ⟨fun _ => rfl, ⟨fun q => absurd (show (4 : Nat) + 1 = 4 from q) (by decide), ⟨fun _ => rfl, trivial⟩⟩⟩⟩⟩) (by decide) rfl ?_
      refine x_iinc (i := 6) (v := (v6 + (1 : Int32))) (l' := [(6, .int (v6 + (1 : Int32))), (4, .long x55), (0, va_rf r0), (1, .long j1), (3, .int i3)]) hC dX4_hashWithPaper_68 4 rfl rfl (⟨fun q => absurd (show (4 : Nat) + 1 = 6 from q) (by decide), ⟨fun _ => c_rf r0, ⟨fun q => absurd (show (1 : Nat) + 1 = 6 from q) (by decide), ⟨fun _ => rfl, ⟨fun _ => rfl, trivial⟩⟩⟩⟩⟩) (by decide) rfl ?_
      refine x_goto (t := 39) hC dX4_hashWithPaper_71 (by decide) ?_
      refine x_sub (l' := [(0, va_rf r0), (1, .long j1), (3, .int i3), (4, .long x55), (6, .int (v6 + (1 : Int32)))]) [2, 3, 4, 1, 0] rfl ?_
      have hb := bk_x h hg_39
      exact hb
  · replace h := it_f c4 h
    refine x_ldc2 hC dX4_hashWithPaper_13 q_297 ?_
    refine x_lload (i := 4) hC dX4_hashWithPaper_16 3 rfl ?_
    refine x_lmul hC dX4_hashWithPaper_18 ?_
    refine x_aload_n (i := 0) hC dX4_hashWithPaper_19 rfl 0 rfl ?_
    refine x_iload_n (i := 3) hC dX4_hashWithPaper_20 rfl 2 rfl ?_
    refine x_iload (i := 6) hC dX4_hashWithPaper_21 4 rfl ?_
    replace h := dr_el h
    obtain ⟨a57, ea58, ha59, h⟩ := h
    replace h := bd_el h
    obtain ⟨v60, S61, hb62, h⟩ := h
    refine x_callV hC (st := [.long ((31 : Int64) * v1)]) (mt_X4_paperProperty _ _ _ _ _ hb62) ea58 ha59 kf_4 q_348 q_350 qs_20 q_1 q_351 ⟨rfl, hy_X4_paperProperty⟩ ⟨Nat.le_of_ble_eq_true rfl, Nat.le_of_ble_eq_true rfl⟩ ⟨Nat.le_of_ble_eq_true rfl, Nat.le_of_ble_eq_true rfl⟩ rfl (Nat.le_of_ble_eq_true rfl) dX4_hashWithPaper_23 (r_N ?_) r_NX
    show PX Z 7 S61 0 0 26 [(0, va_rf r0), (1, .long j1), (3, .int i3), (4, .long v1), (6, .int v2)] [.int v60, .long ((31 : Int64) * v1)]
    refine x_i2l hC dX4_hashWithPaper_26 ?_
    refine x_ladd hC dX4_hashWithPaper_27 ?_
    replace h := le_el h
    obtain ⟨x63, hx64, h⟩ := h
    refine x_tJ hx64 ?_
    refine x_lstore (i := 4) (l' := [(4, .long x63), (0, va_rf r0), (1, .long j1), (3, .int i3), (6, .int v2)]) hC dX4_hashWithPaper_28 (⟨fun _ => c_rf r0, ⟨fun q => absurd (show (1 : Nat) + 1 = 4 from q) (by decide), ⟨fun _ => rfl, ⟨fun q => absurd (show (4 : Nat) + 1 = 4 from q) (by decide), ⟨fun _ => rfl, trivial⟩⟩⟩⟩⟩) (by decide) rfl ?_
    refine x_iinc (i := 6) (v := (v2 + (1 : Int32))) (l' := [(6, .int (v2 + (1 : Int32))), (4, .long x63), (0, va_rf r0), (1, .long j1), (3, .int i3)]) hC dX4_hashWithPaper_30 4 rfl rfl (⟨fun q => absurd (show (4 : Nat) + 1 = 6 from q) (by decide), ⟨fun _ => c_rf r0, ⟨fun q => absurd (show (1 : Nat) + 1 = 6 from q) (by decide), ⟨fun _ => rfl, ⟨fun _ => rfl, trivial⟩⟩⟩⟩⟩) (by decide) rfl ?_
    refine x_goto (t := 6) hC dX4_hashWithPaper_33 (by decide) ?_
    refine x_sub (l' := [(0, va_rf r0), (1, .long j1), (3, .int i3), (4, .long x63), (6, .int (v2 + (1 : Int32)))]) [2, 3, 4, 1, 0] rfl ?_
    have hb := bk_x h hg_6
    exact hb
theorem dX4_floatBits_0 : decode cX4_floatBits 0 = .ok (.fload_n 0, 1) := by decide +kernel
theorem dX4_floatBits_1 : decode cX4_floatBits 1 = .ok (.fconst 0, 1) := by decide +kernel
theorem dX4_floatBits_2 : decode cX4_floatBits 2 = .ok (.fcmp .g, 1) := by decide +kernel
theorem dX4_floatBits_3 : decode cX4_floatBits 3 = .ok (.ifCond .gt 5, 3) := by decide +kernel
theorem dX4_floatBits_6 : decode cX4_floatBits 6 = .ok (.iconst 0, 1) := by decide +kernel
theorem dX4_floatBits_7 : decode cX4_floatBits 7 = .ok (.ireturn, 1) := by decide +kernel
theorem dX4_floatBits_8 : decode cX4_floatBits 8 = .ok (.fload_n 0, 1) := by decide +kernel
theorem dX4_floatBits_9 : decode cX4_floatBits 9 = .ok (.fstore_n 1, 1) := by decide +kernel
theorem dX4_floatBits_10 : decode cX4_floatBits 10 = .ok (.bipush 127, 2) := by decide +kernel
theorem dX4_floatBits_12 : decode cX4_floatBits 12 = .ok (.istore_n 2, 1) := by decide +kernel
theorem dX4_floatBits_13 : decode cX4_floatBits 13 = .ok (.fload_n 1, 1) := by decide +kernel
theorem dX4_floatBits_14 : decode cX4_floatBits 14 = .ok (.fconst 2, 1) := by decide +kernel
theorem dX4_floatBits_15 : decode cX4_floatBits 15 = .ok (.fcmp .l, 1) := by decide +kernel
theorem dX4_floatBits_16 : decode cX4_floatBits 16 = .ok (.ifCond .lt 22, 3) := by decide +kernel
theorem dX4_floatBits_19 : decode cX4_floatBits 19 = .ok (.iload_n 2, 1) := by decide +kernel
theorem dX4_floatBits_20 : decode cX4_floatBits 20 = .ok (.sipush 254, 3) := by decide +kernel
theorem dX4_floatBits_23 : decode cX4_floatBits 23 = .ok (.if_icmp .ge 15, 3) := by decide +kernel
theorem dX4_floatBits_26 : decode cX4_floatBits 26 = .ok (.fload_n 1, 1) := by decide +kernel
theorem dX4_floatBits_27 : decode cX4_floatBits 27 = .ok (.ldc_w 447, 3) := by decide +kernel
theorem dX4_floatBits_30 : decode cX4_floatBits 30 = .ok (.fmul, 1) := by decide +kernel
theorem dX4_floatBits_31 : decode cX4_floatBits 31 = .ok (.fstore_n 1, 1) := by decide +kernel
theorem dX4_floatBits_32 : decode cX4_floatBits 32 = .ok (.iinc 2 1, 3) := by decide +kernel
theorem dX4_floatBits_35 : decode cX4_floatBits 35 = .ok (.goto (-22), 3) := by decide +kernel
theorem dX4_floatBits_38 : decode cX4_floatBits 38 = .ok (.fload_n 1, 1) := by decide +kernel
theorem dX4_floatBits_39 : decode cX4_floatBits 39 = .ok (.fconst 1, 1) := by decide +kernel
theorem dX4_floatBits_40 : decode cX4_floatBits 40 = .ok (.fcmp .g, 1) := by decide +kernel
theorem dX4_floatBits_41 : decode cX4_floatBits 41 = .ok (.ifCond .ge 18, 3) := by decide +kernel
theorem dX4_floatBits_44 : decode cX4_floatBits 44 = .ok (.iload_n 2, 1) := by decide +kernel
theorem dX4_floatBits_45 : decode cX4_floatBits 45 = .ok (.iconst 1, 1) := by decide +kernel
theorem dX4_floatBits_46 : decode cX4_floatBits 46 = .ok (.if_icmp .le 13, 3) := by decide +kernel
theorem dX4_floatBits_49 : decode cX4_floatBits 49 = .ok (.fload_n 1, 1) := by decide +kernel
theorem dX4_floatBits_50 : decode cX4_floatBits 50 = .ok (.fconst 2, 1) := by decide +kernel
theorem dX4_floatBits_51 : decode cX4_floatBits 51 = .ok (.fmul, 1) := by decide +kernel
theorem dX4_floatBits_52 : decode cX4_floatBits 52 = .ok (.fstore_n 1, 1) := by decide +kernel
theorem dX4_floatBits_53 : decode cX4_floatBits 53 = .ok (.iinc 2 (-1), 3) := by decide +kernel
theorem dX4_floatBits_56 : decode cX4_floatBits 56 = .ok (.goto (-18), 3) := by decide +kernel
theorem dX4_floatBits_59 : decode cX4_floatBits 59 = .ok (.iload_n 2, 1) := by decide +kernel
theorem dX4_floatBits_60 : decode cX4_floatBits 60 = .ok (.bipush 23, 2) := by decide +kernel
theorem dX4_floatBits_62 : decode cX4_floatBits 62 = .ok (.ishl, 1) := by decide +kernel
theorem dX4_floatBits_63 : decode cX4_floatBits 63 = .ok (.fload_n 1, 1) := by decide +kernel
theorem dX4_floatBits_64 : decode cX4_floatBits 64 = .ok (.fconst 1, 1) := by decide +kernel
theorem dX4_floatBits_65 : decode cX4_floatBits 65 = .ok (.fsub, 1) := by decide +kernel
theorem dX4_floatBits_66 : decode cX4_floatBits 66 = .ok (.ldc_w 448, 3) := by decide +kernel
theorem dX4_floatBits_69 : decode cX4_floatBits 69 = .ok (.fmul, 1) := by decide +kernel
theorem dX4_floatBits_70 : decode cX4_floatBits 70 = .ok (.f2i, 1) := by decide +kernel
theorem dX4_floatBits_71 : decode cX4_floatBits 71 = .ok (.ior, 1) := by decide +kernel
theorem dX4_floatBits_72 : decode cX4_floatBits 72 = .ok (.ireturn, 1) := by decide +kernel
set_option maxRecDepth 100000 in
set_option maxHeartbeats 4000000 in
theorem mt_X4_floatBits (f0 : UInt32) (S0 : PH) (y : Int32 × PH) (h : m_X4_floatBits f0 S0 = some y) : MT yX4_floatBits (.code yX4_floatBits cX4_floatBits 3 (Option.some FieldType.int)) 0 0 0 0 [.float f0] S0 (oQ e_I (qN y)) := by
  refine mt_of (own := RX4) (l0 := [(0, .float f0)]) rfl rfl (by exact Nat.le_of_ble_eq_true rfl) (by rfl) ?_
  intro Z hC hQ hE hN
  have J_59 : ∀ (v10 : UInt32) (v11 : Int32) (S12 : PH), j_X4_floatBits_59 f0 v10 v11 S12 = some y → PX Z 3 S12 0 0 59 [(0, .float f0), (1, .float v10), (2, .int v11)] [] := by
    intro v10 v11 S12 h
    unfold j_X4_floatBits_59 at h
    refine x_iload_n (i := 2) hC dX4_floatBits_59 rfl 2 rfl ?_
    refine x_bipush (v := (23 : Int32)) hC dX4_floatBits_60 (by decide) ?_
    refine x_ishl hC dX4_floatBits_62 ?_
    refine x_fload_n (i := 1) hC dX4_floatBits_63 rfl 1 rfl ?_
    refine x_fconst1 hC dX4_floatBits_64 ?_
    replace h := ck_el h
    obtain ⟨hc13, h⟩ := h
    refine x_fsub hC dX4_floatBits_65 (nn32_ok hc13) ?_
    refine x_ldcwf hC dX4_floatBits_66 q_415 ?_
    replace h := ck_el h
    obtain ⟨hc14, h⟩ := h
    refine x_fmul hC dX4_floatBits_69 (nn32_ok hc14) ?_
    refine x_f2i hC dX4_floatBits_70 ?_
    refine x_ior hC dX4_floatBits_71 ?_
    exact x_iret hC hQ (z_N (Option.some.inj h)) (Nat.le_of_ble_eq_true rfl) (Nat.le_of_ble_eq_true rfl) dX4_floatBits_72
  unfold m_X4_floatBits at h
  refine x_fload_n (i := 0) hC dX4_floatBits_0 rfl 0 rfl ?_
  refine x_fconst0 hC dX4_floatBits_1 ?_
  refine x_fcmp hC dX4_floatBits_2 ?_
  refine x_if_gt (t := 8) hC dX4_floatBits_3 (by decide) (fun c1 => ?_) (fun c1 => ?_)
  · replace h := it_t c1 h
    refine x_fload_n (i := 0) hC dX4_floatBits_8 rfl 0 rfl ?_
    refine x_fstore_n (i := 1) (l' := [(1, .float f0), (0, .float f0)]) hC dX4_floatBits_9 rfl (⟨fun _ => rfl, trivial⟩) (by decide) rfl ?_
    refine x_bipush (v := (127 : Int32)) hC dX4_floatBits_10 (by decide) ?_
    refine x_istore_n (i := 2) (l' := [(2, .int (127 : Int32)), (1, .float f0), (0, .float f0)]) hC dX4_floatBits_12 rfl (⟨fun _ => rfl, ⟨fun _ => rfl, trivial⟩⟩) (by decide) rfl ?_
    refine x_sub (l' := [(0, .float f0), (1, .float f0), (2, .int (127 : Int32))]) [2, 1, 0] rfl ?_
    refine lp_sim (P := fun (t : (UInt32 × Int32 × PH)) => PX Z 3 t.2.2 0 0 13 [(0, .float f0), (1, .float t.1), (2, .int t.2.1)] []) (G := fun r => r = y) ?_ h rfl
    clear h
    intro t x_13 h hg_13
    obtain ⟨v2, v3, S4⟩ := t
    show PX Z 3 S4 0 0 13 [(0, .float f0), (1, .float v2), (2, .int v3)] []
    unfold st_X4_floatBits_13 at h
    refine x_fload_n (i := 1) hC dX4_floatBits_13 rfl 1 rfl ?_
    refine x_fconst2 hC dX4_floatBits_14 ?_
    refine x_fcmp hC dX4_floatBits_15 ?_
    refine x_if_lt (t := 38) hC dX4_floatBits_16 (by decide) (fun c5 => ?_) (fun c5 => ?_)
    · replace h := it_t c5 h
      replace h := ir_x h hg_13
      refine lp_sim (P := fun (t : (UInt32 × Int32 × PH)) => PX Z 3 t.2.2 0 0 38 [(0, .float f0), (1, .float t.1), (2, .int t.2.1)] []) (G := fun r => r = y) ?_ h rfl
      clear h
      intro t x_38 h hg_38
      obtain ⟨v6, v7, S8⟩ := t
      show PX Z 3 S8 0 0 38 [(0, .float f0), (1, .float v6), (2, .int v7)] []
      unfold st_X4_floatBits_38 at h
      refine x_fload_n (i := 1) hC dX4_floatBits_38 rfl 1 rfl ?_
      refine x_fconst1 hC dX4_floatBits_39 ?_
      refine x_fcmp hC dX4_floatBits_40 ?_
      refine x_if_ge (t := 59) hC dX4_floatBits_41 (by decide) (fun c9 => ?_) (fun c9 => ?_)
      · replace h := it_t c9 h
        replace h := ir_x h hg_38
        exact J_59 _ _ _ h
      · replace h := it_f c9 h
        refine x_iload_n (i := 2) hC dX4_floatBits_44 rfl 2 rfl ?_
        refine x_iconst (v := (1 : Int32)) hC dX4_floatBits_45 (by decide) ?_
        refine x_icmp_le (t := 59) hC dX4_floatBits_46 (by decide) (fun c15 => ?_) (fun c15 => ?_)
        · replace h := it_t c15 h
          replace h := ir_x h hg_38
          exact J_59 _ _ _ h
        · replace h := it_f c15 h
          refine x_fload_n (i := 1) hC dX4_floatBits_49 rfl 1 rfl ?_
          refine x_fconst2 hC dX4_floatBits_50 ?_
          replace h := ck_el h
          obtain ⟨hc16, h⟩ := h
          refine x_fmul hC dX4_floatBits_51 (nn32_ok hc16) ?_
          replace h := le_el h
          obtain ⟨x17, hx18, h⟩ := h
          refine x_tF hx18 ?_
          refine x_fstore_n (i := 1) (l' := [(1, .float x17), (0, .float f0), (2, .int v7)]) hC dX4_floatBits_52 rfl (⟨fun _ => rfl, ⟨fun _ => rfl, ⟨fun _ => rfl, trivial⟩⟩⟩) (by decide) rfl ?_
          refine x_iinc (i := 2) (v := (v7 + (-1 : Int32))) (l' := [(2, .int (v7 + (-1 : Int32))), (1, .float x17), (0, .float f0)]) hC dX4_floatBits_53 2 rfl rfl (⟨fun _ => rfl, ⟨fun _ => rfl, ⟨fun _ => rfl, trivial⟩⟩⟩) (by decide) rfl ?_
          refine x_goto (t := 38) hC dX4_floatBits_56 (by decide) ?_
          refine x_sub (l' := [(0, .float f0), (1, .float x17), (2, .int (v7 + (-1 : Int32)))]) [2, 1, 0] rfl ?_
          have hb := bk_x h hg_38
          exact hb
    · replace h := it_f c5 h
      refine x_iload_n (i := 2) hC dX4_floatBits_19 rfl 2 rfl ?_
      refine x_sipush (v := (254 : Int32)) hC dX4_floatBits_20 (by decide) ?_
      refine x_icmp_ge (t := 38) hC dX4_floatBits_23 (by decide) (fun c19 => ?_) (fun c19 => ?_)
      · replace h := it_t c19 h
        replace h := ir_x h hg_13
        refine lp_sim (P := fun (t : (UInt32 × Int32 × PH)) => PX Z 3 t.2.2 0 0 38 [(0, .float f0), (1, .float t.1), (2, .int t.2.1)] []) (G := fun r => r = y) ?_ h rfl
        clear h
        intro t x_38 h hg_38
        obtain ⟨v20, v21, S22⟩ := t
        show PX Z 3 S22 0 0 38 [(0, .float f0), (1, .float v20), (2, .int v21)] []
        unfold st_X4_floatBits_38 at h
        refine x_fload_n (i := 1) hC dX4_floatBits_38 rfl 1 rfl ?_
        refine x_fconst1 hC dX4_floatBits_39 ?_
        refine x_fcmp hC dX4_floatBits_40 ?_
        refine x_if_ge (t := 59) hC dX4_floatBits_41 (by decide) (fun c23 => ?_) (fun c23 => ?_)
        · replace h := it_t c23 h
          replace h := ir_x h hg_38
          exact J_59 _ _ _ h
        · replace h := it_f c23 h
          refine x_iload_n (i := 2) hC dX4_floatBits_44 rfl 2 rfl ?_
          refine x_iconst (v := (1 : Int32)) hC dX4_floatBits_45 (by decide) ?_
          refine x_icmp_le (t := 59) hC dX4_floatBits_46 (by decide) (fun c24 => ?_) (fun c24 => ?_)
          · replace h := it_t c24 h
            replace h := ir_x h hg_38
            exact J_59 _ _ _ h
          · replace h := it_f c24 h
            refine x_fload_n (i := 1) hC dX4_floatBits_49 rfl 1 rfl ?_
            refine x_fconst2 hC dX4_floatBits_50 ?_
            replace h := ck_el h
            obtain ⟨hc25, h⟩ := h
            refine x_fmul hC dX4_floatBits_51 (nn32_ok hc25) ?_
            replace h := le_el h
            obtain ⟨x26, hx27, h⟩ := h
            refine x_tF hx27 ?_
            refine x_fstore_n (i := 1) (l' := [(1, .float x26), (0, .float f0), (2, .int v21)]) hC dX4_floatBits_52 rfl (⟨fun _ => rfl, ⟨fun _ => rfl, ⟨fun _ => rfl, trivial⟩⟩⟩) (by decide) rfl ?_
            refine x_iinc (i := 2) (v := (v21 + (-1 : Int32))) (l' := [(2, .int (v21 + (-1 : Int32))), (1, .float x26), (0, .float f0)]) hC dX4_floatBits_53 2 rfl rfl (⟨fun _ => rfl, ⟨fun _ => rfl, ⟨fun _ => rfl, trivial⟩⟩⟩) (by decide) rfl ?_
            refine x_goto (t := 38) hC dX4_floatBits_56 (by decide) ?_
            refine x_sub (l' := [(0, .float f0), (1, .float x26), (2, .int (v21 + (-1 : Int32)))]) [2, 1, 0] rfl ?_
            have hb := bk_x h hg_38
            exact hb
      · replace h := it_f c19 h
        refine x_fload_n (i := 1) hC dX4_floatBits_26 rfl 1 rfl ?_
        refine x_ldcwf hC dX4_floatBits_27 q_414 ?_
        replace h := ck_el h
        obtain ⟨hc28, h⟩ := h
        refine x_fmul hC dX4_floatBits_30 (nn32_ok hc28) ?_
        replace h := le_el h
        obtain ⟨x29, hx30, h⟩ := h
        refine x_tF hx30 ?_
        refine x_fstore_n (i := 1) (l' := [(1, .float x29), (0, .float f0), (2, .int v3)]) hC dX4_floatBits_31 rfl (⟨fun _ => rfl, ⟨fun _ => rfl, ⟨fun _ => rfl, trivial⟩⟩⟩) (by decide) rfl ?_
        refine x_iinc (i := 2) (v := (v3 + (1 : Int32))) (l' := [(2, .int (v3 + (1 : Int32))), (1, .float x29), (0, .float f0)]) hC dX4_floatBits_32 2 rfl rfl (⟨fun _ => rfl, ⟨fun _ => rfl, ⟨fun _ => rfl, trivial⟩⟩⟩) (by decide) rfl ?_
        refine x_goto (t := 13) hC dX4_floatBits_35 (by decide) ?_
        refine x_sub (l' := [(0, .float f0), (1, .float x29), (2, .int (v3 + (1 : Int32)))]) [2, 1, 0] rfl ?_
        have hb := bk_x h hg_13
        exact hb
  · replace h := it_f c1 h
    refine x_iconst (v := (0 : Int32)) hC dX4_floatBits_6 (by decide) ?_
    exact x_iret hC hQ (z_N (Option.some.inj h)) (Nat.le_of_ble_eq_true rfl) (Nat.le_of_ble_eq_true rfl) dX4_floatBits_7
theorem dX4_digest_0 : decode cX4_digest 0 = .ok (.ldc2_w 273, 3) := by decide +kernel
theorem dX4_digest_3 : decode cX4_digest 3 = .ok (.lstore_n 1, 1) := by decide +kernel
theorem dX4_digest_4 : decode cX4_digest 4 = .ok (.iconst 0, 1) := by decide +kernel
theorem dX4_digest_5 : decode cX4_digest 5 = .ok (.istore_n 3, 1) := by decide +kernel
theorem dX4_digest_6 : decode cX4_digest 6 = .ok (.iload_n 3, 1) := by decide +kernel
theorem dX4_digest_7 : decode cX4_digest 7 = .ok (.bipush 12, 2) := by decide +kernel
theorem dX4_digest_9 : decode cX4_digest 9 = .ok (.if_icmp .ge 22, 3) := by decide +kernel
theorem dX4_digest_12 : decode cX4_digest 12 = .ok (.ldc2_w 275, 3) := by decide +kernel
theorem dX4_digest_15 : decode cX4_digest 15 = .ok (.lload_n 1, 1) := by decide +kernel
theorem dX4_digest_16 : decode cX4_digest 16 = .ok (.lmul, 1) := by decide +kernel
theorem dX4_digest_17 : decode cX4_digest 17 = .ok (.aload_n 0, 1) := by decide +kernel
theorem dX4_digest_18 : decode cX4_digest 18 = .ok (.iload_n 3, 1) := by decide +kernel
theorem dX4_digest_19 : decode cX4_digest 19 = .ok (.invokevirtual 239, 3) := by decide +kernel
theorem dX4_digest_22 : decode cX4_digest 22 = .ok (.i2l, 1) := by decide +kernel
theorem dX4_digest_23 : decode cX4_digest 23 = .ok (.ladd, 1) := by decide +kernel
theorem dX4_digest_24 : decode cX4_digest 24 = .ok (.lstore_n 1, 1) := by decide +kernel
theorem dX4_digest_25 : decode cX4_digest 25 = .ok (.iinc 3 1, 3) := by decide +kernel
theorem dX4_digest_28 : decode cX4_digest 28 = .ok (.goto (-22), 3) := by decide +kernel
theorem dX4_digest_31 : decode cX4_digest 31 = .ok (.iconst 0, 1) := by decide +kernel
theorem dX4_digest_32 : decode cX4_digest 32 = .ok (.istore_n 3, 1) := by decide +kernel
theorem dX4_digest_33 : decode cX4_digest 33 = .ok (.iload_n 3, 1) := by decide +kernel
theorem dX4_digest_34 : decode cX4_digest 34 = .ok (.iconst 4, 1) := by decide +kernel
theorem dX4_digest_35 : decode cX4_digest 35 = .ok (.if_icmp .ge 26, 3) := by decide +kernel
theorem dX4_digest_38 : decode cX4_digest 38 = .ok (.ldc2_w 275, 3) := by decide +kernel
theorem dX4_digest_41 : decode cX4_digest 41 = .ok (.lload_n 1, 1) := by decide +kernel
theorem dX4_digest_42 : decode cX4_digest 42 = .ok (.lmul, 1) := by decide +kernel
theorem dX4_digest_43 : decode cX4_digest 43 = .ok (.aload_n 0, 1) := by decide +kernel
theorem dX4_digest_44 : decode cX4_digest 44 = .ok (.getfield 10, 3) := by decide +kernel
theorem dX4_digest_47 : decode cX4_digest 47 = .ok (.getfield 102, 3) := by decide +kernel
theorem dX4_digest_50 : decode cX4_digest 50 = .ok (.iload_n 3, 1) := by decide +kernel
theorem dX4_digest_51 : decode cX4_digest 51 = .ok (.iaload, 1) := by decide +kernel
theorem dX4_digest_52 : decode cX4_digest 52 = .ok (.i2l, 1) := by decide +kernel
theorem dX4_digest_53 : decode cX4_digest 53 = .ok (.ladd, 1) := by decide +kernel
theorem dX4_digest_54 : decode cX4_digest 54 = .ok (.lstore_n 1, 1) := by decide +kernel
theorem dX4_digest_55 : decode cX4_digest 55 = .ok (.iinc 3 1, 3) := by decide +kernel
theorem dX4_digest_58 : decode cX4_digest 58 = .ok (.goto (-25), 3) := by decide +kernel
theorem dX4_digest_61 : decode cX4_digest 61 = .ok (.iconst 0, 1) := by decide +kernel
theorem dX4_digest_62 : decode cX4_digest 62 = .ok (.istore_n 3, 1) := by decide +kernel
theorem dX4_digest_63 : decode cX4_digest 63 = .ok (.iload_n 3, 1) := by decide +kernel
theorem dX4_digest_64 : decode cX4_digest 64 = .ok (.bipush 8, 2) := by decide +kernel
theorem dX4_digest_66 : decode cX4_digest 66 = .ok (.if_icmp .ge 40, 3) := by decide +kernel
theorem dX4_digest_69 : decode cX4_digest 69 = .ok (.iconst 0, 1) := by decide +kernel
theorem dX4_digest_70 : decode cX4_digest 70 = .ok (.istore 4, 2) := by decide +kernel
theorem dX4_digest_72 : decode cX4_digest 72 = .ok (.iload 4, 2) := by decide +kernel
theorem dX4_digest_74 : decode cX4_digest 74 = .ok (.bipush 9, 2) := by decide +kernel
theorem dX4_digest_76 : decode cX4_digest 76 = .ok (.if_icmp .ge 24, 3) := by decide +kernel
theorem dX4_digest_79 : decode cX4_digest 79 = .ok (.ldc2_w 275, 3) := by decide +kernel
theorem dX4_digest_82 : decode cX4_digest 82 = .ok (.lload_n 1, 1) := by decide +kernel
theorem dX4_digest_83 : decode cX4_digest 83 = .ok (.lmul, 1) := by decide +kernel
theorem dX4_digest_84 : decode cX4_digest 84 = .ok (.aload_n 0, 1) := by decide +kernel
theorem dX4_digest_85 : decode cX4_digest 85 = .ok (.iload_n 3, 1) := by decide +kernel
theorem dX4_digest_86 : decode cX4_digest 86 = .ok (.iload 4, 2) := by decide +kernel
theorem dX4_digest_88 : decode cX4_digest 88 = .ok (.invokevirtual 229, 3) := by decide +kernel
theorem dX4_digest_91 : decode cX4_digest 91 = .ok (.i2l, 1) := by decide +kernel
theorem dX4_digest_92 : decode cX4_digest 92 = .ok (.ladd, 1) := by decide +kernel
theorem dX4_digest_93 : decode cX4_digest 93 = .ok (.lstore_n 1, 1) := by decide +kernel
theorem dX4_digest_94 : decode cX4_digest 94 = .ok (.iinc 4 1, 3) := by decide +kernel
theorem dX4_digest_97 : decode cX4_digest 97 = .ok (.goto (-25), 3) := by decide +kernel
theorem dX4_digest_100 : decode cX4_digest 100 = .ok (.iinc 3 1, 3) := by decide +kernel
theorem dX4_digest_103 : decode cX4_digest 103 = .ok (.goto (-40), 3) := by decide +kernel
theorem dX4_digest_106 : decode cX4_digest 106 = .ok (.iconst 0, 1) := by decide +kernel
theorem dX4_digest_107 : decode cX4_digest 107 = .ok (.istore_n 3, 1) := by decide +kernel
theorem dX4_digest_108 : decode cX4_digest 108 = .ok (.iload_n 3, 1) := by decide +kernel
theorem dX4_digest_109 : decode cX4_digest 109 = .ok (.bipush 8, 2) := by decide +kernel
theorem dX4_digest_111 : decode cX4_digest 111 = .ok (.if_icmp .ge 27, 3) := by decide +kernel
theorem dX4_digest_114 : decode cX4_digest 114 = .ok (.iload_n 3, 1) := by decide +kernel
theorem dX4_digest_115 : decode cX4_digest 115 = .ok (.aload_n 0, 1) := by decide +kernel
theorem dX4_digest_116 : decode cX4_digest 116 = .ok (.getfield 10, 3) := by decide +kernel
theorem dX4_digest_119 : decode cX4_digest 119 = .ok (.getfield 54, 3) := by decide +kernel
theorem dX4_digest_122 : decode cX4_digest 122 = .ok (.if_icmp .ge 16, 3) := by decide +kernel
theorem dX4_digest_125 : decode cX4_digest 125 = .ok (.aload_n 0, 1) := by decide +kernel
theorem dX4_digest_126 : decode cX4_digest 126 = .ok (.lload_n 1, 1) := by decide +kernel
theorem dX4_digest_127 : decode cX4_digest 127 = .ok (.iload_n 3, 1) := by decide +kernel
theorem dX4_digest_128 : decode cX4_digest 128 = .ok (.invokevirtual 277, 3) := by decide +kernel
theorem dX4_digest_131 : decode cX4_digest 131 = .ok (.lstore_n 1, 1) := by decide +kernel
theorem dX4_digest_132 : decode cX4_digest 132 = .ok (.iinc 3 1, 3) := by decide +kernel
theorem dX4_digest_135 : decode cX4_digest 135 = .ok (.goto (-27), 3) := by decide +kernel
theorem dX4_digest_138 : decode cX4_digest 138 = .ok (.aload_n 0, 1) := by decide +kernel
theorem dX4_digest_139 : decode cX4_digest 139 = .ok (.invokevirtual 250, 3) := by decide +kernel
theorem dX4_digest_142 : decode cX4_digest 142 = .ok (.ldc2_w 275, 3) := by decide +kernel
theorem dX4_digest_145 : decode cX4_digest 145 = .ok (.lload_n 1, 1) := by decide +kernel
theorem dX4_digest_146 : decode cX4_digest 146 = .ok (.lmul, 1) := by decide +kernel
theorem dX4_digest_147 : decode cX4_digest 147 = .ok (.aload_n 0, 1) := by decide +kernel
theorem dX4_digest_148 : decode cX4_digest 148 = .ok (.getfield 37, 3) := by decide +kernel
theorem dX4_digest_151 : decode cX4_digest 151 = .ok (.iconst (-1), 1) := by decide +kernel
theorem dX4_digest_152 : decode cX4_digest 152 = .ok (.invokevirtual 253, 3) := by decide +kernel
theorem dX4_digest_155 : decode cX4_digest 155 = .ok (.i2l, 1) := by decide +kernel
theorem dX4_digest_156 : decode cX4_digest 156 = .ok (.ladd, 1) := by decide +kernel
theorem dX4_digest_157 : decode cX4_digest 157 = .ok (.lstore_n 1, 1) := by decide +kernel
theorem dX4_digest_158 : decode cX4_digest 158 = .ok (.ldc2_w 275, 3) := by decide +kernel
theorem dX4_digest_161 : decode cX4_digest 161 = .ok (.lload_n 1, 1) := by decide +kernel
theorem dX4_digest_162 : decode cX4_digest 162 = .ok (.lmul, 1) := by decide +kernel
theorem dX4_digest_163 : decode cX4_digest 163 = .ok (.aload_n 0, 1) := by decide +kernel
theorem dX4_digest_164 : decode cX4_digest 164 = .ok (.getfield 37, 3) := by decide +kernel
theorem dX4_digest_167 : decode cX4_digest 167 = .ok (.invokevirtual 256, 3) := by decide +kernel
theorem dX4_digest_170 : decode cX4_digest 170 = .ok (.i2l, 1) := by decide +kernel
theorem dX4_digest_171 : decode cX4_digest 171 = .ok (.ladd, 1) := by decide +kernel
theorem dX4_digest_172 : decode cX4_digest 172 = .ok (.lstore_n 1, 1) := by decide +kernel
theorem dX4_digest_173 : decode cX4_digest 173 = .ok (.ldc2_w 275, 3) := by decide +kernel
theorem dX4_digest_176 : decode cX4_digest 176 = .ok (.lload_n 1, 1) := by decide +kernel
theorem dX4_digest_177 : decode cX4_digest 177 = .ok (.lmul, 1) := by decide +kernel
theorem dX4_digest_178 : decode cX4_digest 178 = .ok (.aload_n 0, 1) := by decide +kernel
theorem dX4_digest_179 : decode cX4_digest 179 = .ok (.invokevirtual 259, 3) := by decide +kernel
theorem dX4_digest_182 : decode cX4_digest 182 = .ok (.i2l, 1) := by decide +kernel
theorem dX4_digest_183 : decode cX4_digest 183 = .ok (.ladd, 1) := by decide +kernel
theorem dX4_digest_184 : decode cX4_digest 184 = .ok (.lstore_n 1, 1) := by decide +kernel
theorem dX4_digest_185 : decode cX4_digest 185 = .ok (.ldc2_w 275, 3) := by decide +kernel
theorem dX4_digest_188 : decode cX4_digest 188 = .ok (.lload_n 1, 1) := by decide +kernel
theorem dX4_digest_189 : decode cX4_digest 189 = .ok (.lmul, 1) := by decide +kernel
theorem dX4_digest_190 : decode cX4_digest 190 = .ok (.aload_n 0, 1) := by decide +kernel
theorem dX4_digest_191 : decode cX4_digest 191 = .ok (.invokevirtual 269, 3) := by decide +kernel
theorem dX4_digest_194 : decode cX4_digest 194 = .ok (.invokestatic 281, 3) := by decide +kernel
theorem dX4_digest_197 : decode cX4_digest 197 = .ok (.i2l, 1) := by decide +kernel
theorem dX4_digest_198 : decode cX4_digest 198 = .ok (.ladd, 1) := by decide +kernel
theorem dX4_digest_199 : decode cX4_digest 199 = .ok (.lstore_n 1, 1) := by decide +kernel
theorem dX4_digest_200 : decode cX4_digest 200 = .ok (.iconst 0, 1) := by decide +kernel
theorem dX4_digest_201 : decode cX4_digest 201 = .ok (.istore_n 3, 1) := by decide +kernel
theorem dX4_digest_202 : decode cX4_digest 202 = .ok (.iload_n 3, 1) := by decide +kernel
theorem dX4_digest_203 : decode cX4_digest 203 = .ok (.iconst 2, 1) := by decide +kernel
theorem dX4_digest_204 : decode cX4_digest 204 = .ok (.if_icmp .ge 31, 3) := by decide +kernel
theorem dX4_digest_207 : decode cX4_digest 207 = .ok (.ldc2_w 275, 3) := by decide +kernel
theorem dX4_digest_210 : decode cX4_digest 210 = .ok (.lload_n 1, 1) := by decide +kernel
theorem dX4_digest_211 : decode cX4_digest 211 = .ok (.lmul, 1) := by decide +kernel
theorem dX4_digest_212 : decode cX4_digest 212 = .ok (.aload_n 0, 1) := by decide +kernel
theorem dX4_digest_213 : decode cX4_digest 213 = .ok (.getfield 23, 3) := by decide +kernel
theorem dX4_digest_216 : decode cX4_digest 216 = .ok (.iload_n 3, 1) := by decide +kernel
theorem dX4_digest_217 : decode cX4_digest 217 = .ok (.aaload, 1) := by decide +kernel
theorem dX4_digest_218 : decode cX4_digest 218 = .ok (.ifnonnull 7, 3) := by decide +kernel
theorem dX4_digest_221 : decode cX4_digest 221 = .ok (.iconst 0, 1) := by decide +kernel
theorem dX4_digest_222 : decode cX4_digest 222 = .ok (.goto 4, 3) := by decide +kernel
theorem dX4_digest_225 : decode cX4_digest 225 = .ok (.iconst 1, 1) := by decide +kernel
theorem dX4_digest_226 : decode cX4_digest 226 = .ok (.i2l, 1) := by decide +kernel
theorem dX4_digest_227 : decode cX4_digest 227 = .ok (.ladd, 1) := by decide +kernel
theorem dX4_digest_228 : decode cX4_digest 228 = .ok (.lstore_n 1, 1) := by decide +kernel
theorem dX4_digest_229 : decode cX4_digest 229 = .ok (.iinc 3 1, 3) := by decide +kernel
theorem dX4_digest_232 : decode cX4_digest 232 = .ok (.goto (-30), 3) := by decide +kernel
theorem dX4_digest_235 : decode cX4_digest 235 = .ok (.aload_n 0, 1) := by decide +kernel
theorem dX4_digest_236 : decode cX4_digest 236 = .ok (.getfield 30, 3) := by decide +kernel
theorem dX4_digest_239 : decode cX4_digest 239 = .ok (.lload_n 1, 1) := by decide +kernel
theorem dX4_digest_240 : decode cX4_digest 240 = .ok (.invokevirtual 285, 3) := by decide +kernel
theorem dX4_digest_243 : decode cX4_digest 243 = .ok (.lreturn, 1) := by decide +kernel
set_option maxRecDepth 100000 in
set_option maxHeartbeats 4000000 in
theorem mt_X4_digest (r0 : Option Nat) (S0 : PH) (y : Int64 × PH) (h : m_X4_digest r0 S0 = some y) : MT yX4_digest (.code yX4_digest cX4_digest 5 (Option.some FieldType.long)) 6 143 0 0 [va_rf r0] S0 (oQ e_J (qN y)) := by
  refine mt_of (own := RX4) (l0 := [(0, va_rf r0)]) rfl rfl (by cases r0 <;> exact Nat.le_of_ble_eq_true rfl) (by cases r0 <;> rfl) ?_
  intro Z hC hQ hE hN
  have J_138 : ∀ (v17 : Int64) (S18 : PH), j_X4_digest_138 r0 v17 S18 = some y → PX Z 5 S18 0 0 138 [(0, va_rf r0), (1, .long v17)] [] := by
    intro v17 S18 h
    unfold j_X4_digest_138 at h
    refine x_aload_n (i := 0) hC dX4_digest_138 rfl 0 rfl ?_
    replace h := dr_el h
    obtain ⟨a19, ea20, ha21, h⟩ := h
    replace h := bd_el h
    obtain ⟨v22, S23, hb24, h⟩ := h
    refine x_callV hC (st := []) (mt_X4_readMatching _ _ _ hb24) ea20 ha21 kf_4 q_223 q_225 qs_0 q_1 q_226 ⟨rfl, hy_X4_readMatching⟩ ⟨Nat.le_of_ble_eq_true rfl, Nat.le_of_ble_eq_true rfl⟩ ⟨Nat.le_of_ble_eq_true rfl, Nat.le_of_ble_eq_true rfl⟩ rfl (Nat.le_of_ble_eq_true rfl) dX4_digest_139 (r_N ?_) r_NX
    show PX Z 5 S23 0 0 142 [(0, va_rf r0), (1, .long v17)] []
    refine x_ldc2 hC dX4_digest_142 q_297 ?_
    refine x_lload_n (i := 1) hC dX4_digest_145 rfl 1 rfl ?_
    refine x_lmul hC dX4_digest_146 ?_
    refine x_aload_n (i := 0) hC dX4_digest_147 rfl 0 rfl ?_
    replace h := dr_el h
    obtain ⟨a25, ea26, ha27, h⟩ := h
    refine x_getR hC ea26 ha27 kf_4 4 (by decide) rfl q_179 dX4_digest_148 ?_
    refine x_iconst (v := (-1 : Int32)) hC dX4_digest_151 (by decide) ?_
    replace h := dr_el h
    obtain ⟨a28, ea29, ha30, h⟩ := h
    replace h := bd_el h
    obtain ⟨v31, S32, hb33, h⟩ := h
    refine x_callV hC (st := [.long ((31 : Int64) * v17)]) (mt_X1_byWays _ _ _ _ hb33) ea29 ha30 kf_1 q_263 q_264 q_265 q_6 q_266 ⟨rfl, hy_X1_byWays⟩ ⟨Nat.le_of_ble_eq_true rfl, Nat.le_of_ble_eq_true rfl⟩ ⟨Nat.le_of_ble_eq_true rfl, Nat.le_of_ble_eq_true rfl⟩ rfl (Nat.le_of_ble_eq_true rfl) dX4_digest_152 (r_N ?_) r_NX
    show PX Z 5 S32 0 0 155 [(0, va_rf r0), (1, .long v17)] [.int v31, .long ((31 : Int64) * v17)]
    refine x_i2l hC dX4_digest_155 ?_
    refine x_ladd hC dX4_digest_156 ?_
    replace h := le_el h
    obtain ⟨x34, hx35, h⟩ := h
    refine x_tJ hx35 ?_
    refine x_lstore_n (i := 1) (l' := [(1, .long x34), (0, va_rf r0)]) hC dX4_digest_157 rfl (⟨fun _ => c_rf r0, ⟨fun q => absurd (show (1 : Nat) + 1 = 1 from q) (by decide), trivial⟩⟩) (by decide) rfl ?_
    refine x_ldc2 hC dX4_digest_158 q_297 ?_
    refine x_lload_n (i := 1) hC dX4_digest_161 rfl 0 rfl ?_
    refine x_lmul hC dX4_digest_162 ?_
    refine x_aload_n (i := 0) hC dX4_digest_163 rfl 1 rfl ?_
    replace h := dr_el h
    obtain ⟨a36, ea37, ha38, h⟩ := h
    refine x_getR hC ea37 ha38 kf_4 4 (by decide) rfl q_179 dX4_digest_164 ?_
    replace h := dr_el h
    obtain ⟨a39, ea40, ha41, h⟩ := h
    replace h := bd_el h
    obtain ⟨v42, S43, hb44, h⟩ := h
    refine x_callV hC (st := [.long ((31 : Int64) * x34)]) (mt_X1_byCuts _ _ _ hb44) ea40 ha41 kf_1 q_397 q_398 q_399 q_6 q_400 ⟨rfl, hy_X1_byCuts⟩ ⟨Nat.le_of_ble_eq_true rfl, Nat.le_of_ble_eq_true rfl⟩ ⟨Nat.le_of_ble_eq_true rfl, Nat.le_of_ble_eq_true rfl⟩ rfl (Nat.le_of_ble_eq_true rfl) dX4_digest_167 (r_N ?_) r_NX
    show PX Z 5 S43 0 0 170 [(1, .long x34), (0, va_rf r0)] [.int v42, .long ((31 : Int64) * x34)]
    refine x_i2l hC dX4_digest_170 ?_
    refine x_ladd hC dX4_digest_171 ?_
    replace h := le_el h
    obtain ⟨x45, hx46, h⟩ := h
    refine x_tJ hx46 ?_
    refine x_lstore_n (i := 1) (l' := [(1, .long x45), (0, va_rf r0)]) hC dX4_digest_172 rfl (⟨fun q => absurd (show (1 : Nat) + 1 = 1 from q) (by decide), ⟨fun _ => c_rf r0, trivial⟩⟩) (by decide) rfl ?_
    refine x_ldc2 hC dX4_digest_173 q_297 ?_
    refine x_lload_n (i := 1) hC dX4_digest_176 rfl 0 rfl ?_
    refine x_lmul hC dX4_digest_177 ?_
    refine x_aload_n (i := 0) hC dX4_digest_178 rfl 1 rfl ?_
    replace h := dr_el h
    obtain ⟨a47, ea48, ha49, h⟩ := h
    replace h := bd_el h
    obtain ⟨v50, S51, hb52, h⟩ := h
    refine x_callV hC (st := [.long ((31 : Int64) * x45)]) (mt_X4_neededPerson _ _ _ hb52) ea48 ha49 kf_4 q_259 q_261 qs_6 q_1 q_262 ⟨rfl, hy_X4_neededPerson⟩ ⟨Nat.le_of_ble_eq_true rfl, Nat.le_of_ble_eq_true rfl⟩ ⟨Nat.le_of_ble_eq_true rfl, Nat.le_of_ble_eq_true rfl⟩ rfl (Nat.le_of_ble_eq_true rfl) dX4_digest_179 (r_N ?_) r_NX
    show PX Z 5 S51 0 0 182 [(1, .long x45), (0, va_rf r0)] [.int v50, .long ((31 : Int64) * x45)]
    refine x_i2l hC dX4_digest_182 ?_
    refine x_ladd hC dX4_digest_183 ?_
    replace h := le_el h
    obtain ⟨x53, hx54, h⟩ := h
    refine x_tJ hx54 ?_
    refine x_lstore_n (i := 1) (l' := [(1, .long x53), (0, va_rf r0)]) hC dX4_digest_184 rfl (⟨fun q => absurd (show (1 : Nat) + 1 = 1 from q) (by decide), ⟨fun _ => c_rf r0, trivial⟩⟩) (by decide) rfl ?_
    refine x_ldc2 hC dX4_digest_185 q_297 ?_
    refine x_lload_n (i := 1) hC dX4_digest_188 rfl 0 rfl ?_
    refine x_lmul hC dX4_digest_189 ?_
    refine x_aload_n (i := 0) hC dX4_digest_190 rfl 1 rfl ?_
    replace h := dr_el h
    obtain ⟨a55, ea56, ha57, h⟩ := h
    replace h := bd_el h
    obtain ⟨v58, S59, hb60, h⟩ := h
    refine x_callV hC (st := [.long ((31 : Int64) * x53)]) (mt_X4_shareOfSpent _ _ _ hb60) ea56 ha57 kf_4 q_284 q_286 qs_7 q_1 q_287 ⟨rfl, hy_X4_shareOfSpent⟩ ⟨Nat.le_of_ble_eq_true rfl, Nat.le_of_ble_eq_true rfl⟩ ⟨Nat.le_of_ble_eq_true rfl, Nat.le_of_ble_eq_true rfl⟩ rfl (Nat.le_of_ble_eq_true rfl) dX4_digest_191 (r_N ?_) r_NX
    show PX Z 5 S59 0 0 194 [(1, .long x53), (0, va_rf r0)] [.float v58, .long ((31 : Int64) * x53)]
    replace h := bd_el h
    obtain ⟨v61, S62, hb63, h⟩ := h
    refine x_callS hC (st := [.long ((31 : Int64) * x53)]) (mt_X4_floatBits _ _ _ hb63) q_411 q_412 q_1 q_413 hy_X4_floatBits ⟨Nat.le_of_ble_eq_true rfl, Nat.le_of_ble_eq_true rfl⟩ ⟨Nat.le_of_ble_eq_true rfl, Nat.le_of_ble_eq_true rfl⟩ rfl (Nat.le_of_ble_eq_true rfl) dX4_digest_194 (r_N ?_) r_NX
    show PX Z 5 S62 0 0 197 [(1, .long x53), (0, va_rf r0)] [.int v61, .long ((31 : Int64) * x53)]
    refine x_i2l hC dX4_digest_197 ?_
    refine x_ladd hC dX4_digest_198 ?_
    replace h := le_el h
    obtain ⟨x64, hx65, h⟩ := h
    refine x_tJ hx65 ?_
    refine x_lstore_n (i := 1) (l' := [(1, .long x64), (0, va_rf r0)]) hC dX4_digest_199 rfl (⟨fun q => absurd (show (1 : Nat) + 1 = 1 from q) (by decide), ⟨fun _ => c_rf r0, trivial⟩⟩) (by decide) rfl ?_
    refine x_iconst (v := (0 : Int32)) hC dX4_digest_200 (by decide) ?_
    refine x_istore_n (i := 3) (l' := [(3, .int (0 : Int32)), (1, .long x64), (0, va_rf r0)]) hC dX4_digest_201 rfl (⟨fun q => absurd (show (1 : Nat) + 1 = 3 from q) (by decide), ⟨fun _ => c_rf r0, trivial⟩⟩) (by decide) rfl ?_
    refine x_sub (l' := [(0, va_rf r0), (1, .long x64), (3, .int (0 : Int32))]) [2, 1, 0] rfl ?_
    refine lp_sim (P := fun (t : (Int64 × Int32 × PH)) => PX Z 5 t.2.2 0 0 202 [(0, va_rf r0), (1, .long t.1), (3, .int t.2.1)] []) (G := fun r => r = y) ?_ h rfl
    clear h
    intro t x_202 h hg_202
    obtain ⟨v66, v67, S68⟩ := t
    show PX Z 5 S68 0 0 202 [(0, va_rf r0), (1, .long v66), (3, .int v67)] []
    have J_226 : ∀ (v87 : Int32) (v88 : Int64) (v89 : Int32) (S90 : PH), j_X4_digest_226 r0 v87 v88 v89 S90 = some x_202 → PX Z 5 S90 0 0 226 [(0, va_rf r0), (3, .int v87)] [.int v89, .long v88] := by
      intro v87 v88 v89 S90 h
      unfold j_X4_digest_226 at h
      refine x_i2l hC dX4_digest_226 ?_
      refine x_ladd hC dX4_digest_227 ?_
      replace h := le_el h
      obtain ⟨x91, hx92, h⟩ := h
      refine x_tJ hx92 ?_
      refine x_lstore_n (i := 1) (l' := [(1, .long x91), (0, va_rf r0), (3, .int v87)]) hC dX4_digest_228 rfl (⟨fun _ => c_rf r0, ⟨fun _ => rfl, trivial⟩⟩) (by decide) rfl ?_
      refine x_iinc (i := 3) (v := (v87 + (1 : Int32))) (l' := [(3, .int (v87 + (1 : Int32))), (1, .long x91), (0, va_rf r0)]) hC dX4_digest_229 2 rfl rfl (⟨fun q => absurd (show (1 : Nat) + 1 = 3 from q) (by decide), ⟨fun _ => c_rf r0, ⟨fun _ => rfl, trivial⟩⟩⟩) (by decide) rfl ?_
      refine x_goto (t := 202) hC dX4_digest_232 (by decide) ?_
      refine x_sub (l' := [(0, va_rf r0), (1, .long x91), (3, .int (v87 + (1 : Int32)))]) [2, 1, 0] rfl ?_
      have hb := bk_x h hg_202
      exact hb
    unfold st_X4_digest_202 at h
    refine x_iload_n (i := 3) hC dX4_digest_202 rfl 2 rfl ?_
    refine x_iconst (v := (2 : Int32)) hC dX4_digest_203 (by decide) ?_
    refine x_icmp_ge (t := 235) hC dX4_digest_204 (by decide) (fun c69 => ?_) (fun c69 => ?_)
    · replace h := it_t c69 h
      replace h := ir_x h hg_202
      refine x_aload_n (i := 0) hC dX4_digest_235 rfl 0 rfl ?_
      replace h := dr_el h
      obtain ⟨a70, ea71, ha72, h⟩ := h
      refine x_getR hC ea71 ha72 kf_4 3 (by decide) rfl q_178 dX4_digest_236 ?_
      refine x_lload_n (i := 1) hC dX4_digest_239 rfl 1 rfl ?_
      replace h := dr_el h
      obtain ⟨a73, ea74, ha75, h⟩ := h
      replace h := bd_el h
      obtain ⟨v76, S77, hb78, h⟩ := h
      refine x_callV hC (st := []) (mt_X3_hashWithText _ _ _ _ hb78) ea74 ha75 kf_3 q_416 q_417 q_418 q_5 q_419 ⟨rfl, hy_X3_hashWithText⟩ ⟨Nat.le_of_ble_eq_true rfl, Nat.le_of_ble_eq_true rfl⟩ ⟨Nat.le_of_ble_eq_true rfl, Nat.le_of_ble_eq_true rfl⟩ rfl (Nat.le_of_ble_eq_true rfl) dX4_digest_240 (r_N ?_) r_NX
      show PX Z 5 S77 0 0 243 [(0, va_rf r0), (1, .long v66), (3, .int v67)] [.long v76]
      exact x_lret hC hQ (z_N (Option.some.inj h)) (Nat.le_of_ble_eq_true rfl) (Nat.le_of_ble_eq_true rfl) dX4_digest_243
    · replace h := it_f c69 h
      refine x_ldc2 hC dX4_digest_207 q_297 ?_
      refine x_lload_n (i := 1) hC dX4_digest_210 rfl 1 rfl ?_
      refine x_lmul hC dX4_digest_211 ?_
      refine x_aload_n (i := 0) hC dX4_digest_212 rfl 0 rfl ?_
      replace h := dr_el h
      obtain ⟨a79, ea80, ha81, h⟩ := h
      refine x_getR hC ea80 ha81 kf_4 2 (by decide) rfl q_177 dX4_digest_213 ?_
      refine x_iload_n (i := 3) hC dX4_digest_216 rfl 2 rfl ?_
      replace h := dr_el h
      obtain ⟨a82, ea83, ha84, h⟩ := h
      replace h := ck_el h
      obtain ⟨hc85, h⟩ := h
      refine x_aaload8 hC ea83 ha84 hc85 dX4_digest_217 ?_
      refine x_ifnonnull (t := 225) hC dX4_digest_218 (by decide) (fun c86 => ?_) (fun c86 => ?_)
      · replace h := it_t c86 h
        refine x_iconst (v := (1 : Int32)) hC dX4_digest_225 (by decide) ?_
        refine x_sub (l' := [(0, va_rf r0), (3, .int v67)]) [0, 2] rfl ?_
        exact J_226 _ _ _ _ h
      · replace h := it_f c86 h
        refine x_iconst (v := (0 : Int32)) hC dX4_digest_221 (by decide) ?_
        refine x_goto (t := 226) hC dX4_digest_222 (by decide) ?_
        refine x_sub (l' := [(0, va_rf r0), (3, .int v67)]) [0, 2] rfl ?_
        exact J_226 _ _ _ _ h
  unfold m_X4_digest at h
  refine x_ldc2 hC dX4_digest_0 q_296 ?_
  refine x_lstore_n (i := 1) (l' := [(1, .long (3449 : Int64)), (0, va_rf r0)]) hC dX4_digest_3 rfl (⟨fun _ => c_rf r0, trivial⟩) (by decide) rfl ?_
  refine x_iconst (v := (0 : Int32)) hC dX4_digest_4 (by decide) ?_
  refine x_istore_n (i := 3) (l' := [(3, .int (0 : Int32)), (1, .long (3449 : Int64)), (0, va_rf r0)]) hC dX4_digest_5 rfl (⟨fun q => absurd (show (1 : Nat) + 1 = 3 from q) (by decide), ⟨fun _ => c_rf r0, trivial⟩⟩) (by decide) rfl ?_
  refine x_sub (l' := [(0, va_rf r0), (1, .long (3449 : Int64)), (3, .int (0 : Int32))]) [2, 1, 0] rfl ?_
  refine lp_sim (P := fun (t : (Int64 × Int32 × PH)) => PX Z 5 t.2.2 0 0 6 [(0, va_rf r0), (1, .long t.1), (3, .int t.2.1)] []) (G := fun r => r = y) ?_ h rfl
  clear h
  intro t x_6 h hg_6
  obtain ⟨v1, v2, S3⟩ := t
  show PX Z 5 S3 0 0 6 [(0, va_rf r0), (1, .long v1), (3, .int v2)] []
  unfold st_X4_digest_6 at h
  refine x_iload_n (i := 3) hC dX4_digest_6 rfl 2 rfl ?_
  refine x_bipush (v := (12 : Int32)) hC dX4_digest_7 (by decide) ?_
  refine x_icmp_ge (t := 31) hC dX4_digest_9 (by decide) (fun c4 => ?_) (fun c4 => ?_)
  · replace h := it_t c4 h
    replace h := ir_x h hg_6
    refine x_iconst (v := (0 : Int32)) hC dX4_digest_31 (by decide) ?_
    refine x_istore_n (i := 3) (l' := [(3, .int (0 : Int32)), (0, va_rf r0), (1, .long v1)]) hC dX4_digest_32 rfl (⟨fun _ => c_rf r0, ⟨fun q => absurd (show (1 : Nat) + 1 = 3 from q) (by decide), ⟨fun _ => rfl, trivial⟩⟩⟩) (by decide) rfl ?_
    refine x_sub (l' := [(0, va_rf r0), (1, .long v1), (3, .int (0 : Int32))]) [1, 2, 0] rfl ?_
    refine lp_sim (P := fun (t : (Int64 × Int32 × PH)) => PX Z 5 t.2.2 0 0 33 [(0, va_rf r0), (1, .long t.1), (3, .int t.2.1)] []) (G := fun r => r = y) ?_ h rfl
    clear h
    intro t x_33 h hg_33
    obtain ⟨v5, v6, S7⟩ := t
    show PX Z 5 S7 0 0 33 [(0, va_rf r0), (1, .long v5), (3, .int v6)] []
    unfold st_X4_digest_33 at h
    refine x_iload_n (i := 3) hC dX4_digest_33 rfl 2 rfl ?_
    refine x_iconst (v := (4 : Int32)) hC dX4_digest_34 (by decide) ?_
    refine x_icmp_ge (t := 61) hC dX4_digest_35 (by decide) (fun c8 => ?_) (fun c8 => ?_)
    · replace h := it_t c8 h
      replace h := ir_x h hg_33
      refine x_iconst (v := (0 : Int32)) hC dX4_digest_61 (by decide) ?_
      refine x_istore_n (i := 3) (l' := [(3, .int (0 : Int32)), (0, va_rf r0), (1, .long v5)]) hC dX4_digest_62 rfl (⟨fun _ => c_rf r0, ⟨fun q => absurd (show (1 : Nat) + 1 = 3 from q) (by decide), ⟨fun _ => rfl, trivial⟩⟩⟩) (by decide) rfl ?_
      refine x_sub (l' := [(0, va_rf r0), (1, .long v5), (3, .int (0 : Int32))]) [1, 2, 0] rfl ?_
      refine lp_sim (P := fun (t : (Int64 × Int32 × PH)) => PX Z 5 t.2.2 0 0 63 [(0, va_rf r0), (1, .long t.1), (3, .int t.2.1)] []) (G := fun r => r = y) ?_ h rfl
      clear h
      intro t x_63 h hg_63
      obtain ⟨v9, v10, S11⟩ := t
      show PX Z 5 S11 0 0 63 [(0, va_rf r0), (1, .long v9), (3, .int v10)] []
      unfold st_X4_digest_63 at h
      refine x_iload_n (i := 3) hC dX4_digest_63 rfl 2 rfl ?_
      refine x_bipush (v := (8 : Int32)) hC dX4_digest_64 (by decide) ?_
      refine x_icmp_ge (t := 106) hC dX4_digest_66 (by decide) (fun c12 => ?_) (fun c12 => ?_)
      · replace h := it_t c12 h
        replace h := ir_x h hg_63
        refine x_iconst (v := (0 : Int32)) hC dX4_digest_106 (by decide) ?_
        refine x_istore_n (i := 3) (l' := [(3, .int (0 : Int32)), (0, va_rf r0), (1, .long v9)]) hC dX4_digest_107 rfl (⟨fun _ => c_rf r0, ⟨fun q => absurd (show (1 : Nat) + 1 = 3 from q) (by decide), ⟨fun _ => rfl, trivial⟩⟩⟩) (by decide) rfl ?_
        refine x_sub (l' := [(0, va_rf r0), (1, .long v9), (3, .int (0 : Int32))]) [1, 2, 0] rfl ?_
        refine lp_sim (P := fun (t : (Int64 × Int32 × PH)) => PX Z 5 t.2.2 0 0 108 [(0, va_rf r0), (1, .long t.1), (3, .int t.2.1)] []) (G := fun r => r = y) ?_ h rfl
        clear h
        intro t x_108 h hg_108
        obtain ⟨v13, v14, S15⟩ := t
        show PX Z 5 S15 0 0 108 [(0, va_rf r0), (1, .long v13), (3, .int v14)] []
        unfold st_X4_digest_108 at h
        refine x_iload_n (i := 3) hC dX4_digest_108 rfl 2 rfl ?_
        refine x_bipush (v := (8 : Int32)) hC dX4_digest_109 (by decide) ?_
        refine x_icmp_ge (t := 138) hC dX4_digest_111 (by decide) (fun c16 => ?_) (fun c16 => ?_)
        · replace h := it_t c16 h
          replace h := ir_x h hg_108
          refine x_sub (l' := [(0, va_rf r0), (1, .long v13)]) [0, 1] rfl ?_
          exact J_138 _ _ h
        · replace h := it_f c16 h
          refine x_iload_n (i := 3) hC dX4_digest_114 rfl 2 rfl ?_
          refine x_aload_n (i := 0) hC dX4_digest_115 rfl 0 rfl ?_
          replace h := dr_el h
          obtain ⟨a93, ea94, ha95, h⟩ := h
          refine x_getR hC ea94 ha95 kf_4 0 (by decide) rfl q_175 dX4_digest_116 ?_
          replace h := dr_el h
          obtain ⟨a96, ea97, ha98, h⟩ := h
          refine x_getI hC ea97 ha98 kf_2 12 (by decide) rfl q_62 dX4_digest_119 ?_
          refine x_icmp_ge (t := 138) hC dX4_digest_122 (by decide) (fun c99 => ?_) (fun c99 => ?_)
          · replace h := it_t c99 h
            replace h := ir_x h hg_108
            refine x_sub (l' := [(0, va_rf r0), (1, .long v13)]) [0, 1] rfl ?_
            exact J_138 _ _ h
          · replace h := it_f c99 h
            refine x_aload_n (i := 0) hC dX4_digest_125 rfl 0 rfl ?_
            refine x_lload_n (i := 1) hC dX4_digest_126 rfl 1 rfl ?_
            refine x_iload_n (i := 3) hC dX4_digest_127 rfl 2 rfl ?_
            replace h := bd_el h
            obtain ⟨v100, S101, hb102, h⟩ := h
            refine x_callV hC (st := []) (mt_X4_hashWithPaper _ _ _ _ _ hb102) ea94 ha95 kf_4 q_344 q_346 qs_19 q_1 q_347 ⟨rfl, hy_X4_hashWithPaper⟩ ⟨Nat.le_of_ble_eq_true rfl, Nat.le_of_ble_eq_true rfl⟩ ⟨Nat.le_of_ble_eq_true rfl, Nat.le_of_ble_eq_true rfl⟩ rfl (Nat.le_of_ble_eq_true rfl) dX4_digest_128 (r_N ?_) r_NX
            show PX Z 5 S101 0 0 131 [(0, va_rf r0), (1, .long v13), (3, .int v14)] [.long v100]
            refine x_lstore_n (i := 1) (l' := [(1, .long v100), (0, va_rf r0), (3, .int v14)]) hC dX4_digest_131 rfl (⟨fun _ => c_rf r0, ⟨fun q => absurd (show (1 : Nat) + 1 = 1 from q) (by decide), ⟨fun _ => rfl, trivial⟩⟩⟩) (by decide) rfl ?_
            refine x_iinc (i := 3) (v := (v14 + (1 : Int32))) (l' := [(3, .int (v14 + (1 : Int32))), (1, .long v100), (0, va_rf r0)]) hC dX4_digest_132 2 rfl rfl (⟨fun q => absurd (show (1 : Nat) + 1 = 3 from q) (by decide), ⟨fun _ => c_rf r0, ⟨fun _ => rfl, trivial⟩⟩⟩) (by decide) rfl ?_
            refine x_goto (t := 108) hC dX4_digest_135 (by decide) ?_
            refine x_sub (l' := [(0, va_rf r0), (1, .long v100), (3, .int (v14 + (1 : Int32)))]) [2, 1, 0] rfl ?_
            have hb := bk_x h hg_108
            exact hb
      · replace h := it_f c12 h
        refine x_iconst (v := (0 : Int32)) hC dX4_digest_69 (by decide) ?_
        refine x_istore (i := 4) (l' := [(4, .int (0 : Int32)), (0, va_rf r0), (1, .long v9), (3, .int v10)]) hC dX4_digest_70 (⟨fun _ => c_rf r0, ⟨fun q => absurd (show (1 : Nat) + 1 = 4 from q) (by decide), ⟨fun _ => rfl, trivial⟩⟩⟩) (by decide) rfl ?_
        refine x_sub (l' := [(0, va_rf r0), (1, .long v9), (3, .int v10), (4, .int (0 : Int32))]) [1, 2, 3, 0] rfl ?_
        refine lp_sim (P := fun (t : (Int64 × Int32 × Int32 × PH)) => PX Z 5 t.2.2.2 0 0 72 [(0, va_rf r0), (1, .long t.1), (3, .int t.2.1), (4, .int t.2.2.1)] []) (G := fun r => r = x_63) ?_ h rfl
        clear h
        intro t x_72 h hg_72
        obtain ⟨v103, v104, v105, S106⟩ := t
        show PX Z 5 S106 0 0 72 [(0, va_rf r0), (1, .long v103), (3, .int v104), (4, .int v105)] []
        unfold st_X4_digest_72 at h
        refine x_iload (i := 4) hC dX4_digest_72 3 rfl ?_
        refine x_bipush (v := (9 : Int32)) hC dX4_digest_74 (by decide) ?_
        refine x_icmp_ge (t := 100) hC dX4_digest_76 (by decide) (fun c107 => ?_) (fun c107 => ?_)
        · replace h := it_t c107 h
          replace h := ir_x h hg_72
          refine x_iinc (i := 3) (v := (v104 + (1 : Int32))) (l' := [(3, .int (v104 + (1 : Int32))), (0, va_rf r0), (1, .long v103), (4, .int v105)]) hC dX4_digest_100 2 rfl rfl (⟨fun _ => c_rf r0, ⟨fun q => absurd (show (1 : Nat) + 1 = 3 from q) (by decide), ⟨fun _ => rfl, ⟨fun _ => rfl, trivial⟩⟩⟩⟩) (by decide) rfl ?_
          refine x_goto (t := 63) hC dX4_digest_103 (by decide) ?_
          refine x_sub (l' := [(0, va_rf r0), (1, .long v103), (3, .int (v104 + (1 : Int32)))]) [1, 2, 0] rfl ?_
          have hb := bk_x h hg_63
          exact hb
        · replace h := it_f c107 h
          refine x_ldc2 hC dX4_digest_79 q_297 ?_
          refine x_lload_n (i := 1) hC dX4_digest_82 rfl 1 rfl ?_
          refine x_lmul hC dX4_digest_83 ?_
          refine x_aload_n (i := 0) hC dX4_digest_84 rfl 0 rfl ?_
          refine x_iload_n (i := 3) hC dX4_digest_85 rfl 2 rfl ?_
          refine x_iload (i := 4) hC dX4_digest_86 3 rfl ?_
          replace h := dr_el h
          obtain ⟨a108, ea109, ha110, h⟩ := h
          replace h := bd_el h
          obtain ⟨v111, S112, hb113, h⟩ := h
          refine x_callV hC (st := [.long ((31 : Int64) * v103)]) (mt_X4_personProperty _ _ _ _ _ hb113) ea109 ha110 kf_4 q_328 q_330 qs_15 q_1 q_331 ⟨rfl, hy_X4_personProperty⟩ ⟨Nat.le_of_ble_eq_true rfl, Nat.le_of_ble_eq_true rfl⟩ ⟨Nat.le_of_ble_eq_true rfl, Nat.le_of_ble_eq_true rfl⟩ rfl (Nat.le_of_ble_eq_true rfl) dX4_digest_88 (r_N ?_) r_NX
          show PX Z 5 S112 0 0 91 [(0, va_rf r0), (1, .long v103), (3, .int v104), (4, .int v105)] [.int v111, .long ((31 : Int64) * v103)]
          refine x_i2l hC dX4_digest_91 ?_
          refine x_ladd hC dX4_digest_92 ?_
          replace h := le_el h
          obtain ⟨x114, hx115, h⟩ := h
          refine x_tJ hx115 ?_
          refine x_lstore_n (i := 1) (l' := [(1, .long x114), (0, va_rf r0), (3, .int v104), (4, .int v105)]) hC dX4_digest_93 rfl (⟨fun _ => c_rf r0, ⟨fun q => absurd (show (1 : Nat) + 1 = 1 from q) (by decide), ⟨fun _ => rfl, ⟨fun _ => rfl, trivial⟩⟩⟩⟩) (by decide) rfl ?_
          refine x_iinc (i := 4) (v := (v105 + (1 : Int32))) (l' := [(4, .int (v105 + (1 : Int32))), (1, .long x114), (0, va_rf r0), (3, .int v104)]) hC dX4_digest_94 3 rfl rfl (⟨fun q => absurd (show (1 : Nat) + 1 = 4 from q) (by decide), ⟨fun _ => c_rf r0, ⟨fun _ => rfl, ⟨fun _ => rfl, trivial⟩⟩⟩⟩) (by decide) rfl ?_
          refine x_goto (t := 72) hC dX4_digest_97 (by decide) ?_
          refine x_sub (l' := [(0, va_rf r0), (1, .long x114), (3, .int v104), (4, .int (v105 + (1 : Int32)))]) [2, 1, 3, 0] rfl ?_
          have hb := bk_x h hg_72
          exact hb
    · replace h := it_f c8 h
      refine x_ldc2 hC dX4_digest_38 q_297 ?_
      refine x_lload_n (i := 1) hC dX4_digest_41 rfl 1 rfl ?_
      refine x_lmul hC dX4_digest_42 ?_
      refine x_aload_n (i := 0) hC dX4_digest_43 rfl 0 rfl ?_
      replace h := dr_el h
      obtain ⟨a116, ea117, ha118, h⟩ := h
      refine x_getR hC ea117 ha118 kf_4 0 (by decide) rfl q_175 dX4_digest_44 ?_
      replace h := dr_el h
      obtain ⟨a119, ea120, ha121, h⟩ := h
      refine x_getR hC ea120 ha121 kf_2 11 (by decide) rfl q_60 dX4_digest_47 ?_
      refine x_iload_n (i := 3) hC dX4_digest_50 rfl 2 rfl ?_
      replace h := dr_el h
      obtain ⟨a122, ea123, ha124, h⟩ := h
      replace h := ck_el h
      obtain ⟨hc125, h⟩ := h
      refine x_iaload hC ea123 ha124 hc125 dX4_digest_51 ?_
      refine x_i2l hC dX4_digest_52 ?_
      refine x_ladd hC dX4_digest_53 ?_
      replace h := le_el h
      obtain ⟨x126, hx127, h⟩ := h
      refine x_tJ hx127 ?_
      refine x_lstore_n (i := 1) (l' := [(1, .long x126), (0, va_rf r0), (3, .int v6)]) hC dX4_digest_54 rfl (⟨fun _ => c_rf r0, ⟨fun q => absurd (show (1 : Nat) + 1 = 1 from q) (by decide), ⟨fun _ => rfl, trivial⟩⟩⟩) (by decide) rfl ?_
      refine x_iinc (i := 3) (v := (v6 + (1 : Int32))) (l' := [(3, .int (v6 + (1 : Int32))), (1, .long x126), (0, va_rf r0)]) hC dX4_digest_55 2 rfl rfl (⟨fun q => absurd (show (1 : Nat) + 1 = 3 from q) (by decide), ⟨fun _ => c_rf r0, ⟨fun _ => rfl, trivial⟩⟩⟩) (by decide) rfl ?_
      refine x_goto (t := 33) hC dX4_digest_58 (by decide) ?_
      refine x_sub (l' := [(0, va_rf r0), (1, .long x126), (3, .int (v6 + (1 : Int32)))]) [2, 1, 0] rfl ?_
      have hb := bk_x h hg_33
      exact hb
  · replace h := it_f c4 h
    refine x_ldc2 hC dX4_digest_12 q_297 ?_
    refine x_lload_n (i := 1) hC dX4_digest_15 rfl 1 rfl ?_
    refine x_lmul hC dX4_digest_16 ?_
    refine x_aload_n (i := 0) hC dX4_digest_17 rfl 0 rfl ?_
    refine x_iload_n (i := 3) hC dX4_digest_18 rfl 2 rfl ?_
    replace h := dr_el h
    obtain ⟨a128, ea129, ha130, h⟩ := h
    replace h := bd_el h
    obtain ⟨v131, S132, hb133, h⟩ := h
    refine x_callV hC (st := [.long ((31 : Int64) * v1)]) (mt_X4_number _ _ _ _ hb133) ea129 ha130 kf_4 q_298 q_300 qs_9 q_1 q_301 ⟨rfl, hy_X4_number⟩ ⟨Nat.le_of_ble_eq_true rfl, Nat.le_of_ble_eq_true rfl⟩ ⟨Nat.le_of_ble_eq_true rfl, Nat.le_of_ble_eq_true rfl⟩ rfl (Nat.le_of_ble_eq_true rfl) dX4_digest_19 (r_N ?_) r_NX
    show PX Z 5 S132 0 0 22 [(0, va_rf r0), (1, .long v1), (3, .int v2)] [.int v131, .long ((31 : Int64) * v1)]
    refine x_i2l hC dX4_digest_22 ?_
    refine x_ladd hC dX4_digest_23 ?_
    replace h := le_el h
    obtain ⟨x134, hx135, h⟩ := h
    refine x_tJ hx135 ?_
    refine x_lstore_n (i := 1) (l' := [(1, .long x134), (0, va_rf r0), (3, .int v2)]) hC dX4_digest_24 rfl (⟨fun _ => c_rf r0, ⟨fun q => absurd (show (1 : Nat) + 1 = 1 from q) (by decide), ⟨fun _ => rfl, trivial⟩⟩⟩) (by decide) rfl ?_
    refine x_iinc (i := 3) (v := (v2 + (1 : Int32))) (l' := [(3, .int (v2 + (1 : Int32))), (1, .long x134), (0, va_rf r0)]) hC dX4_digest_25 2 rfl rfl (⟨fun q => absurd (show (1 : Nat) + 1 = 3 from q) (by decide), ⟨fun _ => c_rf r0, ⟨fun _ => rfl, trivial⟩⟩⟩) (by decide) rfl ?_
    refine x_goto (t := 6) hC dX4_digest_28 (by decide) ?_
    refine x_sub (l' := [(0, va_rf r0), (1, .long x134), (3, .int (v2 + (1 : Int32)))]) [2, 1, 0] rfl ?_
    have hb := bk_x h hg_6
    exact hb
theorem dX5_init_0 : decode cX5_init 0 = .ok (.aload_n 0, 1) := by decide +kernel
theorem dX5_init_1 : decode cX5_init 1 = .ok (.invokespecial 1, 3) := by decide +kernel
theorem dX5_init_4 : decode cX5_init 4 = .ok (.aload_n 0, 1) := by decide +kernel
theorem dX5_init_5 : decode cX5_init 5 = .ok (.sipush 1449, 3) := by decide +kernel
theorem dX5_init_8 : decode cX5_init 8 = .ok (.newarray .int, 2) := by decide +kernel
theorem dX5_init_10 : decode cX5_init 10 = .ok (.putfield 7, 3) := by decide +kernel
theorem dX5_init_13 : decode cX5_init 13 = .ok (.aload_n 0, 1) := by decide +kernel
theorem dX5_init_14 : decode cX5_init 14 = .ok (.iconst 2, 1) := by decide +kernel
theorem dX5_init_15 : decode cX5_init 15 = .ok (.newarray .boolean, 2) := by decide +kernel
theorem dX5_init_17 : decode cX5_init 17 = .ok (.putfield 13, 3) := by decide +kernel
theorem dX5_init_20 : decode cX5_init 20 = .ok (.aload_n 0, 1) := by decide +kernel
theorem dX5_init_21 : decode cX5_init 21 = .ok (.bipush 60, 2) := by decide +kernel
theorem dX5_init_23 : decode cX5_init 23 = .ok (.newarray .int, 2) := by decide +kernel
theorem dX5_init_25 : decode cX5_init 25 = .ok (.putfield 17, 3) := by decide +kernel
theorem dX5_init_28 : decode cX5_init 28 = .ok (.aload_n 0, 1) := by decide +kernel
theorem dX5_init_29 : decode cX5_init 29 = .ok (.bipush 8, 2) := by decide +kernel
theorem dX5_init_31 : decode cX5_init 31 = .ok (.newarray .int, 2) := by decide +kernel
theorem dX5_init_33 : decode cX5_init 33 = .ok (.putfield 20, 3) := by decide +kernel
theorem dX5_init_36 : decode cX5_init 36 = .ok (.aload_n 0, 1) := by decide +kernel
theorem dX5_init_37 : decode cX5_init 37 = .ok (.getfield 7, 3) := by decide +kernel
theorem dX5_init_40 : decode cX5_init 40 = .ok (.iconst 0, 1) := by decide +kernel
theorem dX5_init_41 : decode cX5_init 41 = .ok (.bipush 100, 2) := by decide +kernel
theorem dX5_init_43 : decode cX5_init 43 = .ok (.iastore, 1) := by decide +kernel
theorem dX5_init_44 : decode cX5_init 44 = .ok (.aload_n 0, 1) := by decide +kernel
theorem dX5_init_45 : decode cX5_init 45 = .ok (.getfield 7, 3) := by decide +kernel
theorem dX5_init_48 : decode cX5_init 48 = .ok (.iconst 4, 1) := by decide +kernel
theorem dX5_init_49 : decode cX5_init 49 = .ok (.iconst 3, 1) := by decide +kernel
theorem dX5_init_50 : decode cX5_init 50 = .ok (.iastore, 1) := by decide +kernel
theorem dX5_init_51 : decode cX5_init 51 = .ok (.aload_n 0, 1) := by decide +kernel
theorem dX5_init_52 : decode cX5_init 52 = .ok (.getfield 7, 3) := by decide +kernel
theorem dX5_init_55 : decode cX5_init 55 = .ok (.iconst 5, 1) := by decide +kernel
theorem dX5_init_56 : decode cX5_init 56 = .ok (.iconst 1, 1) := by decide +kernel
theorem dX5_init_57 : decode cX5_init 57 = .ok (.iastore, 1) := by decide +kernel
theorem dX5_init_58 : decode cX5_init 58 = .ok (.aload_n 0, 1) := by decide +kernel
theorem dX5_init_59 : decode cX5_init 59 = .ok (.getfield 7, 3) := by decide +kernel
theorem dX5_init_62 : decode cX5_init 62 = .ok (.bipush 6, 2) := by decide +kernel
theorem dX5_init_64 : decode cX5_init 64 = .ok (.iconst 4, 1) := by decide +kernel
theorem dX5_init_65 : decode cX5_init 65 = .ok (.iastore, 1) := by decide +kernel
theorem dX5_init_66 : decode cX5_init 66 = .ok (.aload_n 0, 1) := by decide +kernel
theorem dX5_init_67 : decode cX5_init 67 = .ok (.getfield 7, 3) := by decide +kernel
theorem dX5_init_70 : decode cX5_init 70 = .ok (.bipush 7, 2) := by decide +kernel
theorem dX5_init_72 : decode cX5_init 72 = .ok (.iconst 1, 1) := by decide +kernel
theorem dX5_init_73 : decode cX5_init 73 = .ok (.iastore, 1) := by decide +kernel
theorem dX5_init_74 : decode cX5_init 74 = .ok (.iconst 0, 1) := by decide +kernel
theorem dX5_init_75 : decode cX5_init 75 = .ok (.istore_n 1, 1) := by decide +kernel
theorem dX5_init_76 : decode cX5_init 76 = .ok (.iload_n 1, 1) := by decide +kernel
theorem dX5_init_77 : decode cX5_init 77 = .ok (.bipush 8, 2) := by decide +kernel
theorem dX5_init_79 : decode cX5_init 79 = .ok (.if_icmp .ge 20, 3) := by decide +kernel
theorem dX5_init_82 : decode cX5_init 82 = .ok (.aload_n 0, 1) := by decide +kernel
theorem dX5_init_83 : decode cX5_init 83 = .ok (.getfield 7, 3) := by decide +kernel
theorem dX5_init_86 : decode cX5_init 86 = .ok (.bipush 17, 2) := by decide +kernel
theorem dX5_init_88 : decode cX5_init 88 = .ok (.iload_n 1, 1) := by decide +kernel
theorem dX5_init_89 : decode cX5_init 89 = .ok (.iadd, 1) := by decide +kernel
theorem dX5_init_90 : decode cX5_init 90 = .ok (.bipush 15, 2) := by decide +kernel
theorem dX5_init_92 : decode cX5_init 92 = .ok (.iastore, 1) := by decide +kernel
theorem dX5_init_93 : decode cX5_init 93 = .ok (.iinc 1 1, 3) := by decide +kernel
theorem dX5_init_96 : decode cX5_init 96 = .ok (.goto (-20), 3) := by decide +kernel
theorem dX5_init_99 : decode cX5_init 99 = .ok (.return_, 1) := by decide +kernel
set_option maxRecDepth 100000 in
set_option maxHeartbeats 4000000 in
theorem mt_X5_init (r0 : Option Nat) (S0 : PH) (Q : (Nat ⊕ Unit) → PH → Prop) (h : w_X5_init r0 S0 Q) : MT yX5_init (.code yX5_init cX5_init 2 (Option.none : Option FieldType)) 1 20 4 1519 [va_rf r0] S0 (oQ e_V Q) := by
  refine mt_of (own := RX5) (l0 := [(0, va_rf r0)]) rfl rfl (by cases r0 <;> exact Nat.le_of_ble_eq_true rfl) (by cases r0 <;> rfl) ?_
  intro Z hC hQ hE hN
  unfold w_X5_init at h
  refine x_aload_n (i := 0) hC dX5_init_0 rfl 0 rfl ?_
  obtain ⟨a1, ea2, ha3, h⟩ := h
  refine x_objInit hC ea2 q_862 q_obi q_obc (Nat.le_of_ble_eq_true rfl) ⟨Nat.le_of_ble_eq_true rfl, Nat.le_of_ble_eq_true rfl⟩ dX5_init_1 ?_
  refine x_aload_n (i := 0) hC dX5_init_4 rfl 0 rfl ?_
  refine x_sipush (v := (1449 : Int32)) hC dX5_init_5 (by decide) ?_
  refine x_newI (N' := 1449) hC q_106 (by decide) (by decide) (Nat.le_of_ble_eq_true rfl) (Nat.le_of_ble_eq_true rfl) (Nat.le_of_ble_eq_true rfl) dX5_init_8 (fun q4 hq5 => ?_)
  replace h := h q4 hq5
  obtain ⟨S6, hx7, h⟩ := wle_el h
  refine x_tS hx7 ?_
  obtain ⟨a8, ea9, ha10, h⟩ := h
  obtain ⟨S11, hx12, h⟩ := wle_el h
  refine x_putR hC ea9 ha10 kf_5 1 (by decide) rfl (Or.inl ⟨_, rfl⟩) q_864 (Or.inr ⟨rfl, hN rfl, rfl⟩) dX5_init_10 ?_
  refine x_tS hx12 ?_
  refine x_aload_n (i := 0) hC dX5_init_13 rfl 0 rfl ?_
  refine x_iconst (v := (2 : Int32)) hC dX5_init_14 (by decide) ?_
  refine x_newZ (N' := 2) hC q_903 (by decide) (by decide) (Nat.le_of_ble_eq_true rfl) (Nat.le_of_ble_eq_true rfl) (Nat.le_of_ble_eq_true rfl) dX5_init_15 (fun q13 hq14 => ?_)
  replace h := h q13 hq14
  obtain ⟨S15, hx16, h⟩ := wle_el h
  refine x_tS hx16 ?_
  obtain ⟨a17, ea18, ha19, h⟩ := h
  obtain ⟨S20, hx21, h⟩ := wle_el h
  refine x_putR hC ea18 ha19 kf_5 3 (by decide) rfl (Or.inl ⟨_, rfl⟩) q_866 (Or.inr ⟨rfl, hN rfl, rfl⟩) dX5_init_17 ?_
  refine x_tS hx21 ?_
  refine x_aload_n (i := 0) hC dX5_init_20 rfl 0 rfl ?_
  refine x_bipush (v := (60 : Int32)) hC dX5_init_21 (by decide) ?_
  refine x_newI (N' := 60) hC q_106 (by decide) (by decide) (Nat.le_of_ble_eq_true rfl) (Nat.le_of_ble_eq_true rfl) (Nat.le_of_ble_eq_true rfl) dX5_init_23 (fun q22 hq23 => ?_)
  replace h := h q22 hq23
  obtain ⟨S24, hx25, h⟩ := wle_el h
  refine x_tS hx25 ?_
  obtain ⟨a26, ea27, ha28, h⟩ := h
  obtain ⟨S29, hx30, h⟩ := wle_el h
  refine x_putR hC ea27 ha28 kf_5 4 (by decide) rfl (Or.inl ⟨_, rfl⟩) q_867 (Or.inr ⟨rfl, hN rfl, rfl⟩) dX5_init_25 ?_
  refine x_tS hx30 ?_
  refine x_aload_n (i := 0) hC dX5_init_28 rfl 0 rfl ?_
  refine x_bipush (v := (8 : Int32)) hC dX5_init_29 (by decide) ?_
  refine x_newI (N' := 8) hC q_106 (by decide) (by decide) (Nat.le_of_ble_eq_true rfl) (Nat.le_of_ble_eq_true rfl) (Nat.le_of_ble_eq_true rfl) dX5_init_31 (fun q31 hq32 => ?_)
  replace h := h q31 hq32
  obtain ⟨S33, hx34, h⟩ := wle_el h
  refine x_tS hx34 ?_
  obtain ⟨a35, ea36, ha37, h⟩ := h
  obtain ⟨S38, hx39, h⟩ := wle_el h
  refine x_putR hC ea36 ha37 kf_5 11 (by decide) rfl (Or.inl ⟨_, rfl⟩) q_874 (Or.inr ⟨rfl, hN rfl, rfl⟩) dX5_init_33 ?_
  refine x_tS hx39 ?_
  refine x_aload_n (i := 0) hC dX5_init_36 rfl 0 rfl ?_
  obtain ⟨a40, ea41, ha42, h⟩ := h
  refine x_getR hC ea41 ha42 kf_5 1 (by decide) rfl q_864 dX5_init_37 ?_
  refine x_iconst (v := (0 : Int32)) hC dX5_init_40 (by decide) ?_
  refine x_bipush (v := (100 : Int32)) hC dX5_init_41 (by decide) ?_
  obtain ⟨a43, ea44, ha45, h⟩ := h
  obtain ⟨hc46, h⟩ := h
  obtain ⟨S47, hx48, h⟩ := wle_el h
  refine x_iastore hC ea44 ha45 hc46 dX5_init_43 ?_
  refine x_tS hx48 ?_
  refine x_aload_n (i := 0) hC dX5_init_44 rfl 0 rfl ?_
  obtain ⟨a49, ea50, ha51, h⟩ := h
  refine x_getR hC ea50 ha51 kf_5 1 (by decide) rfl q_864 dX5_init_45 ?_
  refine x_iconst (v := (4 : Int32)) hC dX5_init_48 (by decide) ?_
  refine x_iconst (v := (3 : Int32)) hC dX5_init_49 (by decide) ?_
  obtain ⟨a52, ea53, ha54, h⟩ := h
  obtain ⟨hc55, h⟩ := h
  obtain ⟨S56, hx57, h⟩ := wle_el h
  refine x_iastore hC ea53 ha54 hc55 dX5_init_50 ?_
  refine x_tS hx57 ?_
  refine x_aload_n (i := 0) hC dX5_init_51 rfl 0 rfl ?_
  obtain ⟨a58, ea59, ha60, h⟩ := h
  refine x_getR hC ea59 ha60 kf_5 1 (by decide) rfl q_864 dX5_init_52 ?_
  refine x_iconst (v := (5 : Int32)) hC dX5_init_55 (by decide) ?_
  refine x_iconst (v := (1 : Int32)) hC dX5_init_56 (by decide) ?_
  obtain ⟨a61, ea62, ha63, h⟩ := h
  obtain ⟨hc64, h⟩ := h
  obtain ⟨S65, hx66, h⟩ := wle_el h
  refine x_iastore hC ea62 ha63 hc64 dX5_init_57 ?_
  refine x_tS hx66 ?_
  refine x_aload_n (i := 0) hC dX5_init_58 rfl 0 rfl ?_
  obtain ⟨a67, ea68, ha69, h⟩ := h
  refine x_getR hC ea68 ha69 kf_5 1 (by decide) rfl q_864 dX5_init_59 ?_
  refine x_bipush (v := (6 : Int32)) hC dX5_init_62 (by decide) ?_
  refine x_iconst (v := (4 : Int32)) hC dX5_init_64 (by decide) ?_
  obtain ⟨a70, ea71, ha72, h⟩ := h
  obtain ⟨hc73, h⟩ := h
  obtain ⟨S74, hx75, h⟩ := wle_el h
  refine x_iastore hC ea71 ha72 hc73 dX5_init_65 ?_
  refine x_tS hx75 ?_
  refine x_aload_n (i := 0) hC dX5_init_66 rfl 0 rfl ?_
  obtain ⟨a76, ea77, ha78, h⟩ := h
  refine x_getR hC ea77 ha78 kf_5 1 (by decide) rfl q_864 dX5_init_67 ?_
  refine x_bipush (v := (7 : Int32)) hC dX5_init_70 (by decide) ?_
  refine x_iconst (v := (1 : Int32)) hC dX5_init_72 (by decide) ?_
  obtain ⟨a79, ea80, ha81, h⟩ := h
  obtain ⟨hc82, h⟩ := h
  obtain ⟨S83, hx84, h⟩ := wle_el h
  refine x_iastore hC ea80 ha81 hc82 dX5_init_73 ?_
  refine x_tS hx84 ?_
  refine x_iconst (v := (0 : Int32)) hC dX5_init_74 (by decide) ?_
  refine x_istore_n (i := 1) (l' := [(1, .int (0 : Int32)), (0, va_rf r0)]) hC dX5_init_75 rfl (⟨fun _ => c_rf r0, trivial⟩) (by decide) rfl ?_
  refine x_sub (l' := [(0, va_rf r0), (1, .int (0 : Int32))]) [1, 0] rfl ?_
  refine wlp_sim (P := fun (t : (Int32 × PH)) => PX Z 2 t.2 4 1519 76 [(0, va_rf r0), (1, .int t.1)] []) ?_ h
  intro K_76 hK_76 t h
  obtain ⟨v85, S86⟩ := t
  show PX Z 2 S86 4 1519 76 [(0, va_rf r0), (1, .int v85)] []
  unfold wst_X5_init_76 at h
  refine x_iload_n (i := 1) hC dX5_init_76 rfl 1 rfl ?_
  refine x_bipush (v := (8 : Int32)) hC dX5_init_77 (by decide) ?_
  refine x_icmp_ge (t := 99) hC dX5_init_79 (by decide) (fun c87 => ?_) (fun c87 => ?_)
  · replace h := wit_t c87 h
    exact x_vret hC hQ (z_W (v := ()) h) (Nat.le_of_ble_eq_true rfl) (Nat.le_of_ble_eq_true rfl) dX5_init_99
  · replace h := wit_f c87 h
    refine x_aload_n (i := 0) hC dX5_init_82 rfl 0 rfl ?_
    obtain ⟨a88, ea89, ha90, h⟩ := h
    refine x_getR hC ea89 ha90 kf_5 1 (by decide) rfl q_864 dX5_init_83 ?_
    refine x_bipush (v := (17 : Int32)) hC dX5_init_86 (by decide) ?_
    refine x_iload_n (i := 1) hC dX5_init_88 rfl 1 rfl ?_
    refine x_iadd hC dX5_init_89 ?_
    refine x_bipush (v := (15 : Int32)) hC dX5_init_90 (by decide) ?_
    obtain ⟨a91, ea92, ha93, h⟩ := h
    obtain ⟨hc94, h⟩ := h
    obtain ⟨S95, hx96, h⟩ := wle_el h
    refine x_iastore hC ea92 ha93 hc94 dX5_init_92 ?_
    refine x_tS hx96 ?_
    refine x_iinc (i := 1) (v := (v85 + (1 : Int32))) (l' := [(1, .int (v85 + (1 : Int32))), (0, va_rf r0)]) hC dX5_init_93 1 rfl rfl (⟨fun _ => c_rf r0, ⟨fun _ => rfl, trivial⟩⟩) (by decide) rfl ?_
    refine x_goto (t := 76) hC dX5_init_96 (by decide) ?_
    refine x_sub (l' := [(0, va_rf r0), (1, .int (v85 + (1 : Int32)))]) [1, 0] rfl ?_
    exact hK_76 _ h
