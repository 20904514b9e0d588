/-! THE WALKS: each method does what it means -/
theorem dX5_bestReviewer_0 : decode cX5_bestReviewer 0 = .ok (.aload_n 0, 1) := by decide +kernel
theorem dX5_bestReviewer_1 : decode cX5_bestReviewer 1 = .ok (.aload_n 0, 1) := by decide +kernel
theorem dX5_bestReviewer_2 : decode cX5_bestReviewer 2 = .ok (.iload_n 1, 1) := by decide +kernel
theorem dX5_bestReviewer_3 : decode cX5_bestReviewer 3 = .ok (.invokevirtual 96, 3) := by decide +kernel
theorem dX5_bestReviewer_6 : decode cX5_bestReviewer 6 = .ok (.ifCond .eq 7, 3) := by decide +kernel
theorem dX5_bestReviewer_9 : decode cX5_bestReviewer 9 = .ok (.iconst 0, 1) := by decide +kernel
theorem dX5_bestReviewer_10 : decode cX5_bestReviewer 10 = .ok (.goto 4, 3) := by decide +kernel
theorem dX5_bestReviewer_13 : decode cX5_bestReviewer 13 = .ok (.iconst 1, 1) := by decide +kernel
theorem dX5_bestReviewer_14 : decode cX5_bestReviewer 14 = .ok (.invokevirtual 56, 3) := by decide +kernel
theorem dX5_bestReviewer_17 : decode cX5_bestReviewer 17 = .ok (.ifCond .eq 11, 3) := by decide +kernel
theorem dX5_bestReviewer_20 : decode cX5_bestReviewer 20 = .ok (.aload_n 0, 1) := by decide +kernel
theorem dX5_bestReviewer_21 : decode cX5_bestReviewer 21 = .ok (.iload_n 1, 1) := by decide +kernel
theorem dX5_bestReviewer_22 : decode cX5_bestReviewer 22 = .ok (.invokevirtual 193, 3) := by decide +kernel
theorem dX5_bestReviewer_25 : decode cX5_bestReviewer 25 = .ok (.goto 4, 3) := by decide +kernel
theorem dX5_bestReviewer_28 : decode cX5_bestReviewer 28 = .ok (.iconst 0, 1) := by decide +kernel
theorem dX5_bestReviewer_29 : decode cX5_bestReviewer 29 = .ok (.ireturn, 1) := by decide +kernel
set_option maxRecDepth 100000 in
set_option maxHeartbeats 4000000 in
theorem mt_X5_bestReviewer (r0 : Option Nat) (i1 : Int32) (S0 : PH) (y : Int32 × PH) (h : m_X5_bestReviewer r0 i1 S0 = some y) : MT yX5_bestReviewer (.code yX5_bestReviewer cX5_bestReviewer 2 (Option.some FieldType.int)) 6 138 0 0 [va_rf r0, .int i1] S0 (oQ e_I (qN y)) := by
  refine mt_of (own := RX5) (l0 := [(0, va_rf r0), (1, .int i1)]) rfl rfl (by cases r0 <;> exact Nat.le_of_ble_eq_true rfl) (by cases r0 <;> rfl) ?_
  intro Z hC hQ hE hN
  have J_14 : ∀ (v8 : Option Nat) (v9 : Int32) (S10 : PH), j_X5_bestReviewer_14 r0 i1 v8 v9 S10 = some y → PX Z 2 S10 0 0 14 [(0, va_rf r0), (1, .int i1)] [.int v9, va_rf v8] := by
    intro v8 v9 S10 h
    unfold j_X5_bestReviewer_14 at h
    replace h := dr_el h
    obtain ⟨a11, ea12, ha13, h⟩ := h
    replace h := bd_el h
    obtain ⟨v14, S15, hb16, h⟩ := h
    refine x_callV hC (st := []) (mt_X5_holds _ _ _ _ hb16) ea12 ha13 kf_5 q_915 q_917 qs_43 q_7 q_918 ⟨rfl, hy_X5_holds⟩ ⟨Nat.le_of_ble_eq_true rfl, Nat.le_of_ble_eq_true rfl⟩ ⟨Nat.le_of_ble_eq_true rfl, Nat.le_of_ble_eq_true rfl⟩ rfl (Nat.le_of_ble_eq_true rfl) dX5_bestReviewer_14 (r_N ?_) r_NX
    show PX Z 2 S15 0 0 17 [(0, va_rf r0), (1, .int i1)] [.int v14]
    refine x_if_eq (t := 28) hC dX5_bestReviewer_17 (by decide) (fun c17 => ?_) (fun c17 => ?_)
    · replace h := it_t c17 h
      refine x_iconst (v := (0 : Int32)) hC dX5_bestReviewer_28 (by decide) ?_
      exact x_iret hC hQ (z_N (Option.some.inj h)) (Nat.le_of_ble_eq_true rfl) (Nat.le_of_ble_eq_true rfl) dX5_bestReviewer_29
    · replace h := it_f c17 h
      refine x_aload_n (i := 0) hC dX5_bestReviewer_20 rfl 0 rfl ?_
      refine x_iload_n (i := 1) hC dX5_bestReviewer_21 rfl 1 rfl ?_
      replace h := dr_el h
      obtain ⟨a18, ea19, ha20, h⟩ := h
      replace h := bd_el h
      obtain ⟨v21, S22, hb23, h⟩ := h
      refine x_callV hC (st := []) (mt_X5_best _ _ _ _ hb23) ea19 ha20 kf_5 q_1187 q_1189 qs_83 q_7 q_1190 ⟨rfl, hy_X5_best⟩ ⟨Nat.le_of_ble_eq_true rfl, Nat.le_of_ble_eq_true rfl⟩ ⟨Nat.le_of_ble_eq_true rfl, Nat.le_of_ble_eq_true rfl⟩ rfl (Nat.le_of_ble_eq_true rfl) dX5_bestReviewer_22 (r_N ?_) r_NX
      show PX Z 2 S22 0 0 25 [(0, va_rf r0), (1, .int i1)] [.int v21]
      refine x_goto (t := 29) hC dX5_bestReviewer_25 (by decide) ?_
      exact x_iret hC hQ (z_N (Option.some.inj h)) (Nat.le_of_ble_eq_true rfl) (Nat.le_of_ble_eq_true rfl) dX5_bestReviewer_29
  unfold m_X5_bestReviewer at h
  refine x_aload_n (i := 0) hC dX5_bestReviewer_0 rfl 0 rfl ?_
  refine x_aload_n (i := 0) hC dX5_bestReviewer_1 rfl 0 rfl ?_
  refine x_iload_n (i := 1) hC dX5_bestReviewer_2 rfl 1 rfl ?_
  replace h := dr_el h
  obtain ⟨a1, ea2, ha3, h⟩ := h
  replace h := bd_el h
  obtain ⟨v4, S5, hb6, h⟩ := h
  refine x_callV hC (st := [va_rf r0]) (mt_X5_isPaper _ _ _ _ hb6) ea2 ha3 kf_5 q_969 q_971 qs_49 q_7 q_972 ⟨rfl, hy_X5_isPaper⟩ ⟨Nat.le_of_ble_eq_true rfl, Nat.le_of_ble_eq_true rfl⟩ ⟨Nat.le_of_ble_eq_true rfl, Nat.le_of_ble_eq_true rfl⟩ rfl (Nat.le_of_ble_eq_true rfl) dX5_bestReviewer_3 (r_N ?_) r_NX
  show PX Z 2 S5 0 0 6 [(0, va_rf r0), (1, .int i1)] [.int v4, va_rf r0]
  refine x_if_eq (t := 13) hC dX5_bestReviewer_6 (by decide) (fun c7 => ?_) (fun c7 => ?_)
  · replace h := it_t c7 h
    refine x_iconst (v := (1 : Int32)) hC dX5_bestReviewer_13 (by decide) ?_
    exact J_14 _ _ _ h
  · replace h := it_f c7 h
    refine x_iconst (v := (0 : Int32)) hC dX5_bestReviewer_9 (by decide) ?_
    refine x_goto (t := 14) hC dX5_bestReviewer_10 (by decide) ?_
    exact J_14 _ _ _ h
theorem dX5_able_0 : decode cX5_able 0 = .ok (.iconst 0, 1) := by decide +kernel
theorem dX5_able_1 : decode cX5_able 1 = .ok (.istore_n 2, 1) := by decide +kernel
theorem dX5_able_2 : decode cX5_able 2 = .ok (.iconst 0, 1) := by decide +kernel
theorem dX5_able_3 : decode cX5_able 3 = .ok (.istore_n 3, 1) := by decide +kernel
theorem dX5_able_4 : decode cX5_able 4 = .ok (.iload_n 3, 1) := by decide +kernel
theorem dX5_able_5 : decode cX5_able 5 = .ok (.bipush 8, 2) := by decide +kernel
theorem dX5_able_7 : decode cX5_able 7 = .ok (.if_icmp .ge 80, 3) := by decide +kernel
theorem dX5_able_10 : decode cX5_able 10 = .ok (.aload_n 0, 1) := by decide +kernel
theorem dX5_able_11 : decode cX5_able 11 = .ok (.iload_n 1, 1) := by decide +kernel
theorem dX5_able_12 : decode cX5_able 12 = .ok (.iconst 4, 1) := by decide +kernel
theorem dX5_able_13 : decode cX5_able 13 = .ok (.invokevirtual 31, 3) := by decide +kernel
theorem dX5_able_16 : decode cX5_able 16 = .ok (.ifCond .ne 47, 3) := by decide +kernel
theorem dX5_able_19 : decode cX5_able 19 = .ok (.aload_n 0, 1) := by decide +kernel
theorem dX5_able_20 : decode cX5_able 20 = .ok (.iload_n 3, 1) := by decide +kernel
theorem dX5_able_21 : decode cX5_able 21 = .ok (.iload_n 1, 1) := by decide +kernel
theorem dX5_able_22 : decode cX5_able 22 = .ok (.invokevirtual 35, 3) := by decide +kernel
theorem dX5_able_25 : decode cX5_able 25 = .ok (.iconst (-1), 1) := by decide +kernel
theorem dX5_able_26 : decode cX5_able 26 = .ok (.if_icmp .ne 37, 3) := by decide +kernel
theorem dX5_able_29 : decode cX5_able 29 = .ok (.aload_n 0, 1) := by decide +kernel
theorem dX5_able_30 : decode cX5_able 30 = .ok (.iload_n 3, 1) := by decide +kernel
theorem dX5_able_31 : decode cX5_able 31 = .ok (.iload_n 1, 1) := by decide +kernel
theorem dX5_able_32 : decode cX5_able 32 = .ok (.invokevirtual 87, 3) := by decide +kernel
theorem dX5_able_35 : decode cX5_able 35 = .ok (.ifCond .ne 28, 3) := by decide +kernel
theorem dX5_able_38 : decode cX5_able 38 = .ok (.aload_n 0, 1) := by decide +kernel
theorem dX5_able_39 : decode cX5_able 39 = .ok (.getfield 7, 3) := by decide +kernel
theorem dX5_able_42 : decode cX5_able 42 = .ok (.bipush 17, 2) := by decide +kernel
theorem dX5_able_44 : decode cX5_able 44 = .ok (.iload_n 3, 1) := by decide +kernel
theorem dX5_able_45 : decode cX5_able 45 = .ok (.iadd, 1) := by decide +kernel
theorem dX5_able_46 : decode cX5_able 46 = .ok (.iaload, 1) := by decide +kernel
theorem dX5_able_47 : decode cX5_able 47 = .ok (.aload_n 0, 1) := by decide +kernel
theorem dX5_able_48 : decode cX5_able 48 = .ok (.iload_n 1, 1) := by decide +kernel
theorem dX5_able_49 : decode cX5_able 49 = .ok (.iconst 0, 1) := by decide +kernel
theorem dX5_able_50 : decode cX5_able 50 = .ok (.invokevirtual 31, 3) := by decide +kernel
theorem dX5_able_53 : decode cX5_able 53 = .ok (.invokestatic 42, 3) := by decide +kernel
theorem dX5_able_56 : decode cX5_able 56 = .ok (.ifCond .eq 7, 3) := by decide +kernel
theorem dX5_able_59 : decode cX5_able 59 = .ok (.iconst 1, 1) := by decide +kernel
theorem dX5_able_60 : decode cX5_able 60 = .ok (.goto 4, 3) := by decide +kernel
theorem dX5_able_63 : decode cX5_able 63 = .ok (.iconst 0, 1) := by decide +kernel
theorem dX5_able_64 : decode cX5_able 64 = .ok (.istore 4, 2) := by decide +kernel
theorem dX5_able_66 : decode cX5_able 66 = .ok (.iload_n 2, 1) := by decide +kernel
theorem dX5_able_67 : decode cX5_able 67 = .ok (.iload 4, 2) := by decide +kernel
theorem dX5_able_69 : decode cX5_able 69 = .ok (.ifCond .eq 9, 3) := by decide +kernel
theorem dX5_able_72 : decode cX5_able 72 = .ok (.iconst 1, 1) := by decide +kernel
theorem dX5_able_73 : decode cX5_able 73 = .ok (.iload_n 3, 1) := by decide +kernel
theorem dX5_able_74 : decode cX5_able 74 = .ok (.ishl, 1) := by decide +kernel
theorem dX5_able_75 : decode cX5_able 75 = .ok (.goto 4, 3) := by decide +kernel
theorem dX5_able_78 : decode cX5_able 78 = .ok (.iconst 0, 1) := by decide +kernel
theorem dX5_able_79 : decode cX5_able 79 = .ok (.ior, 1) := by decide +kernel
theorem dX5_able_80 : decode cX5_able 80 = .ok (.istore_n 2, 1) := by decide +kernel
theorem dX5_able_81 : decode cX5_able 81 = .ok (.iinc 3 1, 3) := by decide +kernel
theorem dX5_able_84 : decode cX5_able 84 = .ok (.goto (-80), 3) := by decide +kernel
theorem dX5_able_87 : decode cX5_able 87 = .ok (.iload_n 2, 1) := by decide +kernel
theorem dX5_able_88 : decode cX5_able 88 = .ok (.ireturn, 1) := by decide +kernel
set_option maxRecDepth 100000 in
set_option maxHeartbeats 4000000 in
theorem mt_X5_able (r0 : Option Nat) (i1 : Int32) (S0 : PH) (y : Int32 × PH) (h : m_X5_able r0 i1 S0 = some y) : MT yX5_able (.code yX5_able cX5_able 5 (Option.some FieldType.int)) 3 68 0 0 [va_rf r0, .int i1] S0 (oQ e_I (qN y)) := by
  refine mt_of (own := RX5) (l0 := [(0, va_rf r0), (1, .int i1)]) rfl rfl (by cases r0 <;> exact Nat.le_of_ble_eq_true rfl) (by cases r0 <;> rfl) ?_
  intro Z hC hQ hE hN
  unfold m_X5_able at h
  refine x_iconst (v := (0 : Int32)) hC dX5_able_0 (by decide) ?_
  refine x_istore_n (i := 2) (l' := [(2, .int (0 : Int32)), (0, va_rf r0), (1, .int i1)]) hC dX5_able_1 rfl (⟨fun _ => c_rf r0, ⟨fun _ => rfl, trivial⟩⟩) (by decide) rfl ?_
  refine x_iconst (v := (0 : Int32)) hC dX5_able_2 (by decide) ?_
  refine x_istore_n (i := 3) (l' := [(3, .int (0 : Int32)), (2, .int (0 : Int32)), (0, va_rf r0), (1, .int i1)]) hC dX5_able_3 rfl (⟨fun _ => rfl, ⟨fun _ => c_rf r0, ⟨fun _ => rfl, trivial⟩⟩⟩) (by decide) rfl ?_
  refine x_sub (l' := [(0, va_rf r0), (1, .int i1), (2, .int (0 : Int32)), (3, .int (0 : Int32))]) [2, 3, 1, 0] rfl ?_
  refine lp_sim (P := fun (t : (Int32 × Int32 × PH)) => PX Z 5 t.2.2 0 0 4 [(0, va_rf r0), (1, .int i1), (2, .int t.1), (3, .int t.2.1)] []) (G := fun r => r = y) ?_ h rfl
  clear h
  intro t x_4 h hg_4
  obtain ⟨v1, v2, S3⟩ := t
  show PX Z 5 S3 0 0 4 [(0, va_rf r0), (1, .int i1), (2, .int v1), (3, .int v2)] []
  have J_64 : ∀ (v12 : Int32) (v13 : Int32) (v14 : Int32) (S15 : PH), j_X5_able_64 r0 i1 v12 v13 v14 S15 = some x_4 → PX Z 5 S15 0 0 64 [(0, va_rf r0), (1, .int i1), (2, .int v12), (3, .int v13)] [.int v14] := by
    intro v12 v13 v14 S15 h
    unfold j_X5_able_64 at h
    refine x_istore (i := 4) (l' := [(4, .int v14), (0, va_rf r0), (1, .int i1), (2, .int v12), (3, .int v13)]) hC dX5_able_64 (⟨fun _ => c_rf r0, ⟨fun _ => rfl, ⟨fun _ => rfl, ⟨fun _ => rfl, trivial⟩⟩⟩⟩) (by decide) rfl ?_
    refine x_iload_n (i := 2) hC dX5_able_66 rfl 3 rfl ?_
    refine x_iload (i := 4) hC dX5_able_67 0 rfl ?_
    refine x_if_eq (t := 78) hC dX5_able_69 (by decide) (fun c16 => ?_) (fun c16 => ?_)
    · replace h := it_t c16 h
      refine x_iconst (v := (0 : Int32)) hC dX5_able_78 (by decide) ?_
      refine x_ior hC dX5_able_79 ?_
      replace h := le_el h
      obtain ⟨x17, hx18, h⟩ := h
      refine x_tI hx18 ?_
      refine x_istore_n (i := 2) (l' := [(2, .int x17), (4, .int v14), (0, va_rf r0), (1, .int i1), (3, .int v13)]) hC dX5_able_80 rfl (⟨fun _ => rfl, ⟨fun _ => c_rf r0, ⟨fun _ => rfl, ⟨fun _ => rfl, ⟨fun _ => rfl, trivial⟩⟩⟩⟩⟩) (by decide) rfl ?_
      refine x_iinc (i := 3) (v := (v13 + (1 : Int32))) (l' := [(3, .int (v13 + (1 : Int32))), (2, .int x17), (4, .int v14), (0, va_rf r0), (1, .int i1)]) hC dX5_able_81 4 rfl rfl (⟨fun _ => rfl, ⟨fun _ => rfl, ⟨fun _ => c_rf r0, ⟨fun _ => rfl, ⟨fun _ => rfl, trivial⟩⟩⟩⟩⟩) (by decide) rfl ?_
      refine x_goto (t := 4) hC dX5_able_84 (by decide) ?_
      refine x_sub (l' := [(0, va_rf r0), (1, .int i1), (2, .int x17), (3, .int (v13 + (1 : Int32)))]) [3, 4, 1, 0] rfl ?_
      have hb := bk_x h hg_4
      exact hb
    · replace h := it_f c16 h
      refine x_iconst (v := (1 : Int32)) hC dX5_able_72 (by decide) ?_
      refine x_iload_n (i := 3) hC dX5_able_73 rfl 4 rfl ?_
      refine x_ishl hC dX5_able_74 ?_
      refine x_goto (t := 79) hC dX5_able_75 (by decide) ?_
      refine x_ior hC dX5_able_79 ?_
      replace h := le_el h
      obtain ⟨x19, hx20, h⟩ := h
      refine x_tI hx20 ?_
      refine x_istore_n (i := 2) (l' := [(2, .int x19), (4, .int v14), (0, va_rf r0), (1, .int i1), (3, .int v13)]) hC dX5_able_80 rfl (⟨fun _ => rfl, ⟨fun _ => c_rf r0, ⟨fun _ => rfl, ⟨fun _ => rfl, ⟨fun _ => rfl, trivial⟩⟩⟩⟩⟩) (by decide) rfl ?_
      refine x_iinc (i := 3) (v := (v13 + (1 : Int32))) (l' := [(3, .int (v13 + (1 : Int32))), (2, .int x19), (4, .int v14), (0, va_rf r0), (1, .int i1)]) hC dX5_able_81 4 rfl rfl (⟨fun _ => rfl, ⟨fun _ => rfl, ⟨fun _ => c_rf r0, ⟨fun _ => rfl, ⟨fun _ => rfl, trivial⟩⟩⟩⟩⟩) (by decide) rfl ?_
      refine x_goto (t := 4) hC dX5_able_84 (by decide) ?_
      refine x_sub (l' := [(0, va_rf r0), (1, .int i1), (2, .int x19), (3, .int (v13 + (1 : Int32)))]) [3, 4, 1, 0] rfl ?_
      have hb := bk_x h hg_4
      exact hb
  unfold st_X5_able_4 at h
  refine x_iload_n (i := 3) hC dX5_able_4 rfl 3 rfl ?_
  refine x_bipush (v := (8 : Int32)) hC dX5_able_5 (by decide) ?_
  refine x_icmp_ge (t := 87) hC dX5_able_7 (by decide) (fun c4 => ?_) (fun c4 => ?_)
  · replace h := it_t c4 h
    replace h := ir_x h hg_4
    refine x_iload_n (i := 2) hC dX5_able_87 rfl 2 rfl ?_
    exact x_iret hC hQ (z_N (Option.some.inj h)) (Nat.le_of_ble_eq_true rfl) (Nat.le_of_ble_eq_true rfl) dX5_able_88
  · replace h := it_f c4 h
    refine x_aload_n (i := 0) hC dX5_able_10 rfl 0 rfl ?_
    refine x_iload_n (i := 1) hC dX5_able_11 rfl 1 rfl ?_
    refine x_iconst (v := (4 : Int32)) hC dX5_able_12 (by decide) ?_
    replace h := dr_el h
    obtain ⟨a5, ea6, ha7, h⟩ := h
    replace h := bd_el h
    obtain ⟨v8, S9, hb10, h⟩ := h
    refine x_callV hC (st := []) (mt_X5_of _ _ _ _ _ hb10) ea6 ha7 kf_5 q_981 q_983 qs_52 q_7 q_984 ⟨rfl, hy_X5_of⟩ ⟨Nat.le_of_ble_eq_true rfl, Nat.le_of_ble_eq_true rfl⟩ ⟨Nat.le_of_ble_eq_true rfl, Nat.le_of_ble_eq_true rfl⟩ rfl (Nat.le_of_ble_eq_true rfl) dX5_able_13 (r_N ?_) r_NX
    show PX Z 5 S9 0 0 16 [(0, va_rf r0), (1, .int i1), (2, .int v1), (3, .int v2)] [.int v8]
    refine x_if_ne (t := 63) hC dX5_able_16 (by decide) (fun c11 => ?_) (fun c11 => ?_)
    · replace h := it_f c11 h
      refine x_iconst (v := (0 : Int32)) hC dX5_able_63 (by decide) ?_
      exact J_64 _ _ _ _ h
    · replace h := it_t c11 h
      refine x_aload_n (i := 0) hC dX5_able_19 rfl 0 rfl ?_
      refine x_iload_n (i := 3) hC dX5_able_20 rfl 3 rfl ?_
      refine x_iload_n (i := 1) hC dX5_able_21 rfl 1 rfl ?_
      replace h := dr_el h
      obtain ⟨a21, ea22, ha23, h⟩ := h
      replace h := bd_el h
      obtain ⟨v24, S25, hb26, h⟩ := h
      refine x_callV hC (st := []) (mt_X5_scoreOf _ _ _ _ _ hb26) ea22 ha23 kf_5 q_985 q_987 qs_53 q_7 q_988 ⟨rfl, hy_X5_scoreOf⟩ ⟨Nat.le_of_ble_eq_true rfl, Nat.le_of_ble_eq_true rfl⟩ ⟨Nat.le_of_ble_eq_true rfl, Nat.le_of_ble_eq_true rfl⟩ rfl (Nat.le_of_ble_eq_true rfl) dX5_able_22 (r_N ?_) r_NX
      show PX Z 5 S25 0 0 25 [(0, va_rf r0), (1, .int i1), (2, .int v1), (3, .int v2)] [.int v24]
      refine x_iconst (v := (-1 : Int32)) hC dX5_able_25 (by decide) ?_
      refine x_icmp_ne (t := 63) hC dX5_able_26 (by decide) (fun c27 => ?_) (fun c27 => ?_)
      · replace h := it_f c27 h
        refine x_iconst (v := (0 : Int32)) hC dX5_able_63 (by decide) ?_
        exact J_64 _ _ _ _ h
      · replace h := it_t c27 h
        refine x_aload_n (i := 0) hC dX5_able_29 rfl 0 rfl ?_
        refine x_iload_n (i := 3) hC dX5_able_30 rfl 3 rfl ?_
        refine x_iload_n (i := 1) hC dX5_able_31 rfl 1 rfl ?_
        replace h := dr_el h
        obtain ⟨a28, ea29, ha30, h⟩ := h
        replace h := bd_el h
        obtain ⟨v31, S32, hb33, h⟩ := h
        refine x_callV hC (st := []) (mt_X5_isInConflict _ _ _ _ _ hb33) ea29 ha30 kf_5 q_1000 q_1002 qs_56 q_7 q_1003 ⟨rfl, hy_X5_isInConflict⟩ ⟨Nat.le_of_ble_eq_true rfl, Nat.le_of_ble_eq_true rfl⟩ ⟨Nat.le_of_ble_eq_true rfl, Nat.le_of_ble_eq_true rfl⟩ rfl (Nat.le_of_ble_eq_true rfl) dX5_able_32 (r_N ?_) r_NX
        show PX Z 5 S32 0 0 35 [(0, va_rf r0), (1, .int i1), (2, .int v1), (3, .int v2)] [.int v31]
        refine x_if_ne (t := 63) hC dX5_able_35 (by decide) (fun c34 => ?_) (fun c34 => ?_)
        · replace h := it_f c34 h
          refine x_iconst (v := (0 : Int32)) hC dX5_able_63 (by decide) ?_
          exact J_64 _ _ _ _ h
        · replace h := it_t c34 h
          refine x_aload_n (i := 0) hC dX5_able_38 rfl 0 rfl ?_
          replace h := dr_el h
          obtain ⟨a35, ea36, ha37, h⟩ := h
          refine x_getR hC ea36 ha37 kf_5 1 (by decide) rfl q_864 dX5_able_39 ?_
          refine x_bipush (v := (17 : Int32)) hC dX5_able_42 (by decide) ?_
          refine x_iload_n (i := 3) hC dX5_able_44 rfl 3 rfl ?_
          refine x_iadd hC dX5_able_45 ?_
          replace h := dr_el h
          obtain ⟨a38, ea39, ha40, h⟩ := h
          replace h := ck_el h
          obtain ⟨hc41, h⟩ := h
          refine x_iaload hC ea39 ha40 hc41 dX5_able_46 ?_
          refine x_aload_n (i := 0) hC dX5_able_47 rfl 0 rfl ?_
          refine x_iload_n (i := 1) hC dX5_able_48 rfl 1 rfl ?_
          refine x_iconst (v := (0 : Int32)) hC dX5_able_49 (by decide) ?_
          replace h := bd_el h
          obtain ⟨v42, S43, hb44, h⟩ := h
          refine x_callV hC (st := [.int (p_I S32 a38 (Int32.toNatClampNeg ((17 : Int32) + v2)))]) (mt_X5_of _ _ _ _ _ hb44) ea36 ha37 kf_5 q_981 q_983 qs_52 q_7 q_984 ⟨rfl, hy_X5_of⟩ ⟨Nat.le_of_ble_eq_true rfl, Nat.le_of_ble_eq_true rfl⟩ ⟨Nat.le_of_ble_eq_true rfl, Nat.le_of_ble_eq_true rfl⟩ rfl (Nat.le_of_ble_eq_true rfl) dX5_able_50 (r_N ?_) r_NX
          show PX Z 5 S43 0 0 53 [(0, va_rf r0), (1, .int i1), (2, .int v1), (3, .int v2)] [.int v42, .int (p_I S32 a38 (Int32.toNatClampNeg ((17 : Int32) + v2)))]
          replace h := bd_el h
          obtain ⟨v45, S46, hb47, h⟩ := h
          refine x_callS hC (st := []) (mt_X5_has _ _ _ _ hb47) q_1008 q_1009 q_7 q_1010 hy_X5_has ⟨Nat.le_of_ble_eq_true rfl, Nat.le_of_ble_eq_true rfl⟩ ⟨Nat.le_of_ble_eq_true rfl, Nat.le_of_ble_eq_true rfl⟩ rfl (Nat.le_of_ble_eq_true rfl) dX5_able_53 (r_N ?_) r_NX
          show PX Z 5 S46 0 0 56 [(0, va_rf r0), (1, .int i1), (2, .int v1), (3, .int v2)] [.int v45]
          refine x_if_eq (t := 63) hC dX5_able_56 (by decide) (fun c48 => ?_) (fun c48 => ?_)
          · replace h := it_t c48 h
            refine x_iconst (v := (0 : Int32)) hC dX5_able_63 (by decide) ?_
            exact J_64 _ _ _ _ h
          · replace h := it_f c48 h
            refine x_iconst (v := (1 : Int32)) hC dX5_able_59 (by decide) ?_
            refine x_goto (t := 64) hC dX5_able_60 (by decide) ?_
            exact J_64 _ _ _ _ h
theorem dX5_mostWithout_0 : decode cX5_mostWithout 0 = .ok (.iconst 0, 1) := by decide +kernel
theorem dX5_mostWithout_1 : decode cX5_mostWithout 1 = .ok (.istore_n 2, 1) := by decide +kernel
theorem dX5_mostWithout_2 : decode cX5_mostWithout 2 = .ok (.iload_n 2, 1) := by decide +kernel
theorem dX5_mostWithout_3 : decode cX5_mostWithout 3 = .ok (.bipush 8, 2) := by decide +kernel
theorem dX5_mostWithout_5 : decode cX5_mostWithout 5 = .ok (.if_icmp .ge 35, 3) := by decide +kernel
theorem dX5_mostWithout_8 : decode cX5_mostWithout 8 = .ok (.aload_n 0, 1) := by decide +kernel
theorem dX5_mostWithout_9 : decode cX5_mostWithout 9 = .ok (.getfield 20, 3) := by decide +kernel
theorem dX5_mostWithout_12 : decode cX5_mostWithout 12 = .ok (.iload_n 2, 1) := by decide +kernel
theorem dX5_mostWithout_13 : decode cX5_mostWithout 13 = .ok (.iload_n 2, 1) := by decide +kernel
theorem dX5_mostWithout_14 : decode cX5_mostWithout 14 = .ok (.aload_n 0, 1) := by decide +kernel
theorem dX5_mostWithout_15 : decode cX5_mostWithout 15 = .ok (.getfield 7, 3) := by decide +kernel
theorem dX5_mostWithout_18 : decode cX5_mostWithout 18 = .ok (.bipush 8, 2) := by decide +kernel
theorem dX5_mostWithout_20 : decode cX5_mostWithout 20 = .ok (.iaload, 1) := by decide +kernel
theorem dX5_mostWithout_21 : decode cX5_mostWithout 21 = .ok (.if_icmp .ge 11, 3) := by decide +kernel
theorem dX5_mostWithout_24 : decode cX5_mostWithout 24 = .ok (.aload_n 0, 1) := by decide +kernel
theorem dX5_mostWithout_25 : decode cX5_mostWithout 25 = .ok (.iload_n 2, 1) := by decide +kernel
theorem dX5_mostWithout_26 : decode cX5_mostWithout 26 = .ok (.invokevirtual 196, 3) := by decide +kernel
theorem dX5_mostWithout_29 : decode cX5_mostWithout 29 = .ok (.goto 4, 3) := by decide +kernel
theorem dX5_mostWithout_32 : decode cX5_mostWithout 32 = .ok (.iconst 0, 1) := by decide +kernel
theorem dX5_mostWithout_33 : decode cX5_mostWithout 33 = .ok (.iastore, 1) := by decide +kernel
theorem dX5_mostWithout_34 : decode cX5_mostWithout 34 = .ok (.iinc 2 1, 3) := by decide +kernel
theorem dX5_mostWithout_37 : decode cX5_mostWithout 37 = .ok (.goto (-35), 3) := by decide +kernel
theorem dX5_mostWithout_40 : decode cX5_mostWithout 40 = .ok (.sipush 1000, 3) := by decide +kernel
theorem dX5_mostWithout_43 : decode cX5_mostWithout 43 = .ok (.istore_n 2, 1) := by decide +kernel
theorem dX5_mostWithout_44 : decode cX5_mostWithout 44 = .ok (.iconst 0, 1) := by decide +kernel
theorem dX5_mostWithout_45 : decode cX5_mostWithout 45 = .ok (.istore_n 3, 1) := by decide +kernel
theorem dX5_mostWithout_46 : decode cX5_mostWithout 46 = .ok (.iload_n 3, 1) := by decide +kernel
theorem dX5_mostWithout_47 : decode cX5_mostWithout 47 = .ok (.sipush 256, 3) := by decide +kernel
theorem dX5_mostWithout_50 : decode cX5_mostWithout 50 = .ok (.if_icmp .ge 180, 3) := by decide +kernel
theorem dX5_mostWithout_53 : decode cX5_mostWithout 53 = .ok (.iconst 0, 1) := by decide +kernel
theorem dX5_mostWithout_54 : decode cX5_mostWithout 54 = .ok (.istore 4, 2) := by decide +kernel
theorem dX5_mostWithout_56 : decode cX5_mostWithout 56 = .ok (.iconst 0, 1) := by decide +kernel
theorem dX5_mostWithout_57 : decode cX5_mostWithout 57 = .ok (.istore 5, 2) := by decide +kernel
theorem dX5_mostWithout_59 : decode cX5_mostWithout 59 = .ok (.iload 5, 2) := by decide +kernel
theorem dX5_mostWithout_61 : decode cX5_mostWithout 61 = .ok (.bipush 8, 2) := by decide +kernel
theorem dX5_mostWithout_63 : decode cX5_mostWithout 63 = .ok (.if_icmp .ge 45, 3) := by decide +kernel
theorem dX5_mostWithout_66 : decode cX5_mostWithout 66 = .ok (.iload 4, 2) := by decide +kernel
theorem dX5_mostWithout_68 : decode cX5_mostWithout 68 = .ok (.iload_n 3, 1) := by decide +kernel
theorem dX5_mostWithout_69 : decode cX5_mostWithout 69 = .ok (.iload 5, 2) := by decide +kernel
theorem dX5_mostWithout_71 : decode cX5_mostWithout 71 = .ok (.invokestatic 42, 3) := by decide +kernel
theorem dX5_mostWithout_74 : decode cX5_mostWithout 74 = .ok (.ifCond .eq 24, 3) := by decide +kernel
theorem dX5_mostWithout_77 : decode cX5_mostWithout 77 = .ok (.iload 5, 2) := by decide +kernel
theorem dX5_mostWithout_79 : decode cX5_mostWithout 79 = .ok (.iload_n 1, 1) := by decide +kernel
theorem dX5_mostWithout_80 : decode cX5_mostWithout 80 = .ok (.if_icmp .eq 18, 3) := by decide +kernel
theorem dX5_mostWithout_83 : decode cX5_mostWithout 83 = .ok (.aload_n 0, 1) := by decide +kernel
theorem dX5_mostWithout_84 : decode cX5_mostWithout 84 = .ok (.getfield 7, 3) := by decide +kernel
theorem dX5_mostWithout_87 : decode cX5_mostWithout 87 = .ok (.bipush 9, 2) := by decide +kernel
theorem dX5_mostWithout_89 : decode cX5_mostWithout 89 = .ok (.iload 5, 2) := by decide +kernel
theorem dX5_mostWithout_91 : decode cX5_mostWithout 91 = .ok (.iadd, 1) := by decide +kernel
theorem dX5_mostWithout_92 : decode cX5_mostWithout 92 = .ok (.iaload, 1) := by decide +kernel
theorem dX5_mostWithout_93 : decode cX5_mostWithout 93 = .ok (.iconst 2, 1) := by decide +kernel
theorem dX5_mostWithout_94 : decode cX5_mostWithout 94 = .ok (.idiv, 1) := by decide +kernel
theorem dX5_mostWithout_95 : decode cX5_mostWithout 95 = .ok (.goto 4, 3) := by decide +kernel
theorem dX5_mostWithout_98 : decode cX5_mostWithout 98 = .ok (.iconst 0, 1) := by decide +kernel
theorem dX5_mostWithout_99 : decode cX5_mostWithout 99 = .ok (.iadd, 1) := by decide +kernel
theorem dX5_mostWithout_100 : decode cX5_mostWithout 100 = .ok (.istore 4, 2) := by decide +kernel
theorem dX5_mostWithout_102 : decode cX5_mostWithout 102 = .ok (.iinc 5 1, 3) := by decide +kernel
theorem dX5_mostWithout_105 : decode cX5_mostWithout 105 = .ok (.goto (-46), 3) := by decide +kernel
theorem dX5_mostWithout_108 : decode cX5_mostWithout 108 = .ok (.sipush 255, 3) := by decide +kernel
theorem dX5_mostWithout_111 : decode cX5_mostWithout 111 = .ok (.iload_n 3, 1) := by decide +kernel
theorem dX5_mostWithout_112 : decode cX5_mostWithout 112 = .ok (.iload_n 1, 1) := by decide +kernel
theorem dX5_mostWithout_113 : decode cX5_mostWithout 113 = .ok (.iconst (-1), 1) := by decide +kernel
theorem dX5_mostWithout_114 : decode cX5_mostWithout 114 = .ok (.if_icmp .ne 7, 3) := by decide +kernel
theorem dX5_mostWithout_117 : decode cX5_mostWithout 117 = .ok (.iconst 0, 1) := by decide +kernel
theorem dX5_mostWithout_118 : decode cX5_mostWithout 118 = .ok (.goto 6, 3) := by decide +kernel
theorem dX5_mostWithout_121 : decode cX5_mostWithout 121 = .ok (.iconst 1, 1) := by decide +kernel
theorem dX5_mostWithout_122 : decode cX5_mostWithout 122 = .ok (.iload_n 1, 1) := by decide +kernel
theorem dX5_mostWithout_123 : decode cX5_mostWithout 123 = .ok (.ishl, 1) := by decide +kernel
theorem dX5_mostWithout_124 : decode cX5_mostWithout 124 = .ok (.ior, 1) := by decide +kernel
theorem dX5_mostWithout_125 : decode cX5_mostWithout 125 = .ok (.isub, 1) := by decide +kernel
theorem dX5_mostWithout_126 : decode cX5_mostWithout 126 = .ok (.istore 5, 2) := by decide +kernel
theorem dX5_mostWithout_128 : decode cX5_mostWithout 128 = .ok (.iconst 0, 1) := by decide +kernel
theorem dX5_mostWithout_129 : decode cX5_mostWithout 129 = .ok (.istore 6, 2) := by decide +kernel
theorem dX5_mostWithout_131 : decode cX5_mostWithout 131 = .ok (.iload 6, 2) := by decide +kernel
theorem dX5_mostWithout_133 : decode cX5_mostWithout 133 = .ok (.aload_n 0, 1) := by decide +kernel
theorem dX5_mostWithout_134 : decode cX5_mostWithout 134 = .ok (.getfield 7, 3) := by decide +kernel
theorem dX5_mostWithout_137 : decode cX5_mostWithout 137 = .ok (.bipush 8, 2) := by decide +kernel
theorem dX5_mostWithout_139 : decode cX5_mostWithout 139 = .ok (.iaload, 1) := by decide +kernel
theorem dX5_mostWithout_140 : decode cX5_mostWithout 140 = .ok (.if_icmp .ge 71, 3) := by decide +kernel
theorem dX5_mostWithout_143 : decode cX5_mostWithout 143 = .ok (.aload_n 0, 1) := by decide +kernel
theorem dX5_mostWithout_144 : decode cX5_mostWithout 144 = .ok (.getfield 7, 3) := by decide +kernel
theorem dX5_mostWithout_147 : decode cX5_mostWithout 147 = .ok (.iconst 4, 1) := by decide +kernel
theorem dX5_mostWithout_148 : decode cX5_mostWithout 148 = .ok (.iaload, 1) := by decide +kernel
theorem dX5_mostWithout_149 : decode cX5_mostWithout 149 = .ok (.aload_n 0, 1) := by decide +kernel
theorem dX5_mostWithout_150 : decode cX5_mostWithout 150 = .ok (.iload 6, 2) := by decide +kernel
theorem dX5_mostWithout_152 : decode cX5_mostWithout 152 = .ok (.iconst 0, 1) := by decide +kernel
theorem dX5_mostWithout_153 : decode cX5_mostWithout 153 = .ok (.invokevirtual 80, 3) := by decide +kernel
theorem dX5_mostWithout_156 : decode cX5_mostWithout 156 = .ok (.invokestatic 84, 3) := by decide +kernel
theorem dX5_mostWithout_159 : decode cX5_mostWithout 159 = .ok (.isub, 1) := by decide +kernel
theorem dX5_mostWithout_160 : decode cX5_mostWithout 160 = .ok (.istore 7, 2) := by decide +kernel
theorem dX5_mostWithout_162 : decode cX5_mostWithout 162 = .ok (.aload_n 0, 1) := by decide +kernel
theorem dX5_mostWithout_163 : decode cX5_mostWithout 163 = .ok (.getfield 20, 3) := by decide +kernel
theorem dX5_mostWithout_166 : decode cX5_mostWithout 166 = .ok (.iload 6, 2) := by decide +kernel
theorem dX5_mostWithout_168 : decode cX5_mostWithout 168 = .ok (.iaload, 1) := by decide +kernel
theorem dX5_mostWithout_169 : decode cX5_mostWithout 169 = .ok (.iload 5, 2) := by decide +kernel
theorem dX5_mostWithout_171 : decode cX5_mostWithout 171 = .ok (.iand, 1) := by decide +kernel
theorem dX5_mostWithout_172 : decode cX5_mostWithout 172 = .ok (.invokestatic 84, 3) := by decide +kernel
theorem dX5_mostWithout_175 : decode cX5_mostWithout 175 = .ok (.istore 8, 2) := by decide +kernel
theorem dX5_mostWithout_177 : decode cX5_mostWithout 177 = .ok (.iload 4, 2) := by decide +kernel
theorem dX5_mostWithout_179 : decode cX5_mostWithout 179 = .ok (.iload 7, 2) := by decide +kernel
theorem dX5_mostWithout_181 : decode cX5_mostWithout 181 = .ok (.ifCond .ge 7, 3) := by decide +kernel
theorem dX5_mostWithout_184 : decode cX5_mostWithout 184 = .ok (.iconst 0, 1) := by decide +kernel
theorem dX5_mostWithout_185 : decode cX5_mostWithout 185 = .ok (.goto 17, 3) := by decide +kernel
theorem dX5_mostWithout_188 : decode cX5_mostWithout 188 = .ok (.iload 7, 2) := by decide +kernel
theorem dX5_mostWithout_190 : decode cX5_mostWithout 190 = .ok (.iload 8, 2) := by decide +kernel
theorem dX5_mostWithout_192 : decode cX5_mostWithout 192 = .ok (.if_icmp .ge 8, 3) := by decide +kernel
theorem dX5_mostWithout_195 : decode cX5_mostWithout 195 = .ok (.iload 7, 2) := by decide +kernel
theorem dX5_mostWithout_197 : decode cX5_mostWithout 197 = .ok (.goto 5, 3) := by decide +kernel
theorem dX5_mostWithout_200 : decode cX5_mostWithout 200 = .ok (.iload 8, 2) := by decide +kernel
theorem dX5_mostWithout_202 : decode cX5_mostWithout 202 = .ok (.iadd, 1) := by decide +kernel
theorem dX5_mostWithout_203 : decode cX5_mostWithout 203 = .ok (.istore 4, 2) := by decide +kernel
theorem dX5_mostWithout_205 : decode cX5_mostWithout 205 = .ok (.iinc 6 1, 3) := by decide +kernel
theorem dX5_mostWithout_208 : decode cX5_mostWithout 208 = .ok (.goto (-77), 3) := by decide +kernel
theorem dX5_mostWithout_211 : decode cX5_mostWithout 211 = .ok (.iload 4, 2) := by decide +kernel
theorem dX5_mostWithout_213 : decode cX5_mostWithout 213 = .ok (.iload_n 2, 1) := by decide +kernel
theorem dX5_mostWithout_214 : decode cX5_mostWithout 214 = .ok (.if_icmp .ge 8, 3) := by decide +kernel
theorem dX5_mostWithout_217 : decode cX5_mostWithout 217 = .ok (.iload 4, 2) := by decide +kernel
theorem dX5_mostWithout_219 : decode cX5_mostWithout 219 = .ok (.goto 4, 3) := by decide +kernel
theorem dX5_mostWithout_222 : decode cX5_mostWithout 222 = .ok (.iload_n 2, 1) := by decide +kernel
theorem dX5_mostWithout_223 : decode cX5_mostWithout 223 = .ok (.istore_n 2, 1) := by decide +kernel
theorem dX5_mostWithout_224 : decode cX5_mostWithout 224 = .ok (.iinc 3 1, 3) := by decide +kernel
theorem dX5_mostWithout_227 : decode cX5_mostWithout 227 = .ok (.goto (-181), 3) := by decide +kernel
theorem dX5_mostWithout_230 : decode cX5_mostWithout 230 = .ok (.iload_n 2, 1) := by decide +kernel
theorem dX5_mostWithout_231 : decode cX5_mostWithout 231 = .ok (.ireturn, 1) := by decide +kernel
set_option maxRecDepth 100000 in
set_option maxHeartbeats 4000000 in
theorem mt_X5_mostWithout (r0 : Option Nat) (i1 : Int32) (S0 : PH) (y : Int32 × PH) (h : m_X5_mostWithout r0 i1 S0 = some y) : MT yX5_mostWithout (.code yX5_mostWithout cX5_mostWithout 9 (Option.some FieldType.int)) 4 92 0 0 [va_rf r0, .int i1] S0 (oQ e_I (qN y)) := by
  refine mt_of (own := RX5) (l0 := [(0, va_rf r0), (1, .int i1)]) rfl rfl (by cases r0 <;> exact Nat.le_of_ble_eq_true rfl) (by cases r0 <;> rfl) ?_
  intro Z hC hQ hE hN
  unfold m_X5_mostWithout at h
  refine x_iconst (v := (0 : Int32)) hC dX5_mostWithout_0 (by decide) ?_
  refine x_istore_n (i := 2) (l' := [(2, .int (0 : Int32)), (0, va_rf r0), (1, .int i1)]) hC dX5_mostWithout_1 rfl (⟨fun _ => c_rf r0, ⟨fun _ => rfl, trivial⟩⟩) (by decide) rfl ?_
  refine x_sub (l' := [(0, va_rf r0), (1, .int i1), (2, .int (0 : Int32))]) [1, 2, 0] rfl ?_
  refine lp_sim (P := fun (t : (Int32 × PH)) => PX Z 9 t.2 0 0 2 [(0, va_rf r0), (1, .int i1), (2, .int t.1)] []) (G := fun r => r = y) ?_ h rfl
  clear h
  intro t x_2 h hg_2
  obtain ⟨v1, S2⟩ := t
  show PX Z 9 S2 0 0 2 [(0, va_rf r0), (1, .int i1), (2, .int v1)] []
  have J_33 : ∀ (v129 : Int32) (v130 : Option Nat) (v131 : Int32) (v132 : Int32) (S133 : PH), j_X5_mostWithout_33 r0 i1 v129 v130 v131 v132 S133 = some x_2 → PX Z 9 S133 0 0 33 [(0, va_rf r0), (1, .int i1), (2, .int v129)] [.int v132, .int v131, va_rf v130] := by
    intro v129 v130 v131 v132 S133 h
    unfold j_X5_mostWithout_33 at h
    replace h := dr_el h
    obtain ⟨a134, ea135, ha136, h⟩ := h
    replace h := ck_el h
    obtain ⟨hc137, h⟩ := h
    replace h := le_el h
    obtain ⟨S138, hx139, h⟩ := h
    refine x_iastore hC ea135 ha136 hc137 dX5_mostWithout_33 ?_
    refine x_tS hx139 ?_
    refine x_iinc (i := 2) (v := (v129 + (1 : Int32))) (l' := [(2, .int (v129 + (1 : Int32))), (0, va_rf r0), (1, .int i1)]) hC dX5_mostWithout_34 2 rfl rfl (⟨fun _ => c_rf r0, ⟨fun _ => rfl, ⟨fun _ => rfl, trivial⟩⟩⟩) (by decide) rfl ?_
    refine x_goto (t := 2) hC dX5_mostWithout_37 (by decide) ?_
    refine x_sub (l' := [(0, va_rf r0), (1, .int i1), (2, .int (v129 + (1 : Int32)))]) [1, 2, 0] rfl ?_
    have hb := bk_x h hg_2
    exact hb
  unfold st_X5_mostWithout_2 at h
  refine x_iload_n (i := 2) hC dX5_mostWithout_2 rfl 2 rfl ?_
  refine x_bipush (v := (8 : Int32)) hC dX5_mostWithout_3 (by decide) ?_
  refine x_icmp_ge (t := 40) hC dX5_mostWithout_5 (by decide) (fun c3 => ?_) (fun c3 => ?_)
  · replace h := it_t c3 h
    replace h := ir_x h hg_2
    refine x_sipush (v := (1000 : Int32)) hC dX5_mostWithout_40 (by decide) ?_
    refine x_istore_n (i := 2) (l' := [(2, .int (1000 : Int32)), (0, va_rf r0), (1, .int i1)]) hC dX5_mostWithout_43 rfl (⟨fun _ => c_rf r0, ⟨fun _ => rfl, ⟨fun _ => rfl, trivial⟩⟩⟩) (by decide) rfl ?_
    refine x_iconst (v := (0 : Int32)) hC dX5_mostWithout_44 (by decide) ?_
    refine x_istore_n (i := 3) (l' := [(3, .int (0 : Int32)), (2, .int (1000 : Int32)), (0, va_rf r0), (1, .int i1)]) hC dX5_mostWithout_45 rfl (⟨fun _ => rfl, ⟨fun _ => c_rf r0, ⟨fun _ => rfl, trivial⟩⟩⟩) (by decide) rfl ?_
    refine x_sub (l' := [(0, va_rf r0), (1, .int i1), (2, .int (1000 : Int32)), (3, .int (0 : Int32))]) [2, 3, 1, 0] rfl ?_
    refine lp_sim (P := fun (t : (Int32 × Int32 × PH)) => PX Z 9 t.2.2 0 0 46 [(0, va_rf r0), (1, .int i1), (2, .int t.1), (3, .int t.2.1)] []) (G := fun r => r = y) ?_ h rfl
    clear h
    intro t x_46 h hg_46
    obtain ⟨v4, v5, S6⟩ := t
    show PX Z 9 S6 0 0 46 [(0, va_rf r0), (1, .int i1), (2, .int v4), (3, .int v5)] []
    unfold st_X5_mostWithout_46 at h
    refine x_iload_n (i := 3) hC dX5_mostWithout_46 rfl 3 rfl ?_
    refine x_sipush (v := (256 : Int32)) hC dX5_mostWithout_47 (by decide) ?_
    refine x_icmp_ge (t := 230) hC dX5_mostWithout_50 (by decide) (fun c7 => ?_) (fun c7 => ?_)
    · replace h := it_t c7 h
      replace h := ir_x h hg_46
      refine x_iload_n (i := 2) hC dX5_mostWithout_230 rfl 2 rfl ?_
      exact x_iret hC hQ (z_N (Option.some.inj h)) (Nat.le_of_ble_eq_true rfl) (Nat.le_of_ble_eq_true rfl) dX5_mostWithout_231
    · replace h := it_f c7 h
      refine x_iconst (v := (0 : Int32)) hC dX5_mostWithout_53 (by decide) ?_
      refine x_istore (i := 4) (l' := [(4, .int (0 : Int32)), (0, va_rf r0), (1, .int i1), (2, .int v4), (3, .int v5)]) hC dX5_mostWithout_54 (⟨fun _ => c_rf r0, ⟨fun _ => rfl, ⟨fun _ => rfl, ⟨fun _ => rfl, trivial⟩⟩⟩⟩) (by decide) rfl ?_
      refine x_iconst (v := (0 : Int32)) hC dX5_mostWithout_56 (by decide) ?_
      refine x_istore (i := 5) (l' := [(5, .int (0 : Int32)), (4, .int (0 : Int32)), (0, va_rf r0), (1, .int i1), (2, .int v4), (3, .int v5)]) hC dX5_mostWithout_57 (⟨fun _ => rfl, ⟨fun _ => c_rf r0, ⟨fun _ => rfl, ⟨fun _ => rfl, ⟨fun _ => rfl, trivial⟩⟩⟩⟩⟩) (by decide) rfl ?_
      refine x_sub (l' := [(0, va_rf r0), (1, .int i1), (2, .int v4), (3, .int v5), (4, .int (0 : Int32)), (5, .int (0 : Int32))]) [2, 3, 4, 5, 1, 0] rfl ?_
      refine lp_sim (P := fun (t : (Int32 × Int32 × Int32 × Int32 × PH)) => PX Z 9 t.2.2.2.2 0 0 59 [(0, va_rf r0), (1, .int i1), (2, .int t.1), (3, .int t.2.1), (4, .int t.2.2.1), (5, .int t.2.2.2.1)] []) (G := fun r => r = x_46) ?_ h rfl
      clear h
      intro t x_59 h hg_59
      obtain ⟨v8, v9, v10, v11, S12⟩ := t
      show PX Z 9 S12 0 0 59 [(0, va_rf r0), (1, .int i1), (2, .int v8), (3, .int v9), (4, .int v10), (5, .int v11)] []
      unfold st_X5_mostWithout_59 at h
      refine x_iload (i := 5) hC dX5_mostWithout_59 5 rfl ?_
      refine x_bipush (v := (8 : Int32)) hC dX5_mostWithout_61 (by decide) ?_
      refine x_icmp_ge (t := 108) hC dX5_mostWithout_63 (by decide) (fun c13 => ?_) (fun c13 => ?_)
      · replace h := it_t c13 h
        replace h := ir_x h hg_59
        refine x_sipush (v := (255 : Int32)) hC dX5_mostWithout_108 (by decide) ?_
        refine x_iload_n (i := 3) hC dX5_mostWithout_111 rfl 3 rfl ?_
        refine x_iload_n (i := 1) hC dX5_mostWithout_112 rfl 1 rfl ?_
        refine x_iconst (v := (-1 : Int32)) hC dX5_mostWithout_113 (by decide) ?_
        refine x_icmp_ne (t := 121) hC dX5_mostWithout_114 (by decide) (fun c14 => ?_) (fun c14 => ?_)
        · replace h := it_f c14 h
          refine x_iconst (v := (1 : Int32)) hC dX5_mostWithout_121 (by decide) ?_
          refine x_iload_n (i := 1) hC dX5_mostWithout_122 rfl 1 rfl ?_
          refine x_ishl hC dX5_mostWithout_123 ?_
          refine x_ior hC dX5_mostWithout_124 ?_
          refine x_isub hC dX5_mostWithout_125 ?_
          replace h := le_el h
          obtain ⟨x15, hx16, h⟩ := h
          refine x_tI hx16 ?_
          refine x_istore (i := 5) (l' := [(5, .int x15), (0, va_rf r0), (1, .int i1), (2, .int v8), (3, .int v9), (4, .int v10)]) hC dX5_mostWithout_126 (⟨fun _ => c_rf r0, ⟨fun _ => rfl, ⟨fun _ => rfl, ⟨fun _ => rfl, ⟨fun _ => rfl, ⟨fun _ => rfl, trivial⟩⟩⟩⟩⟩⟩) (by decide) rfl ?_
          refine x_iconst (v := (0 : Int32)) hC dX5_mostWithout_128 (by decide) ?_
          refine x_istore (i := 6) (l' := [(6, .int (0 : Int32)), (5, .int x15), (0, va_rf r0), (1, .int i1), (2, .int v8), (3, .int v9), (4, .int v10)]) hC dX5_mostWithout_129 (⟨fun _ => rfl, ⟨fun _ => c_rf r0, ⟨fun _ => rfl, ⟨fun _ => rfl, ⟨fun _ => rfl, ⟨fun _ => rfl, trivial⟩⟩⟩⟩⟩⟩) (by decide) rfl ?_
          refine x_sub (l' := [(0, va_rf r0), (1, .int i1), (2, .int v8), (3, .int v9), (4, .int v10), (5, .int x15), (6, .int (0 : Int32))]) [2, 3, 4, 5, 6, 1, 0] rfl ?_
          refine lp_sim (P := fun (t : (Int32 × Int32 × Int32 × Int32 × Int32 × PH)) => PX Z 9 t.2.2.2.2.2 0 0 131 [(0, va_rf r0), (1, .int i1), (2, .int t.1), (3, .int t.2.1), (4, .int t.2.2.1), (5, .int t.2.2.2.1), (6, .int t.2.2.2.2.1)] []) (G := fun r => r = x_46) ?_ h rfl
          clear h
          intro t x_131 h hg_131
          obtain ⟨v17, v18, v19, v20, v21, S22⟩ := t
          show PX Z 9 S22 0 0 131 [(0, va_rf r0), (1, .int i1), (2, .int v17), (3, .int v18), (4, .int v19), (5, .int v20), (6, .int v21)] []
          unfold st_X5_mostWithout_131 at h
          refine x_iload (i := 6) hC dX5_mostWithout_131 6 rfl ?_
          refine x_aload_n (i := 0) hC dX5_mostWithout_133 rfl 0 rfl ?_
          replace h := dr_el h
          obtain ⟨a23, ea24, ha25, h⟩ := h
          refine x_getR hC ea24 ha25 kf_5 1 (by decide) rfl q_864 dX5_mostWithout_134 ?_
          refine x_bipush (v := (8 : Int32)) hC dX5_mostWithout_137 (by decide) ?_
          replace h := dr_el h
          obtain ⟨a26, ea27, ha28, h⟩ := h
          replace h := ck_el h
          obtain ⟨hc29, h⟩ := h
          refine x_iaload hC ea27 ha28 hc29 dX5_mostWithout_139 ?_
          refine x_tI (b := (p_I S22 a26 8)) rfl ?_
          refine x_icmp_ge (t := 211) hC dX5_mostWithout_140 (by decide) (fun c30 => ?_) (fun c30 => ?_)
          · replace h := it_t c30 h
            replace h := ir_x h hg_131
            refine x_iload (i := 4) hC dX5_mostWithout_211 4 rfl ?_
            refine x_iload_n (i := 2) hC dX5_mostWithout_213 rfl 2 rfl ?_
            refine x_icmp_ge (t := 222) hC dX5_mostWithout_214 (by decide) (fun c31 => ?_) (fun c31 => ?_)
            · replace h := it_t c31 h
              refine x_iload_n (i := 2) hC dX5_mostWithout_222 rfl 2 rfl ?_
              refine x_istore_n (i := 2) (l' := [(2, .int v17), (0, va_rf r0), (1, .int i1), (3, .int v18), (4, .int v19), (5, .int v20), (6, .int v21)]) hC dX5_mostWithout_223 rfl (⟨fun _ => c_rf r0, ⟨fun _ => rfl, ⟨fun _ => rfl, ⟨fun _ => rfl, ⟨fun _ => rfl, ⟨fun _ => rfl, ⟨fun _ => rfl, trivial⟩⟩⟩⟩⟩⟩⟩) (by decide) rfl ?_
              refine x_iinc (i := 3) (v := (v18 + (1 : Int32))) (l' := [(3, .int (v18 + (1 : Int32))), (2, .int v17), (0, va_rf r0), (1, .int i1), (4, .int v19), (5, .int v20), (6, .int v21)]) hC dX5_mostWithout_224 3 rfl rfl (⟨fun _ => rfl, ⟨fun _ => c_rf r0, ⟨fun _ => rfl, ⟨fun _ => rfl, ⟨fun _ => rfl, ⟨fun _ => rfl, ⟨fun _ => rfl, trivial⟩⟩⟩⟩⟩⟩⟩) (by decide) rfl ?_
              refine x_goto (t := 46) hC dX5_mostWithout_227 (by decide) ?_
              refine x_sub (l' := [(0, va_rf r0), (1, .int i1), (2, .int v17), (3, .int (v18 + (1 : Int32)))]) [2, 3, 1, 0] rfl ?_
              have hb := bk_x h hg_46
              exact hb
            · replace h := it_f c31 h
              refine x_iload (i := 4) hC dX5_mostWithout_217 4 rfl ?_
              refine x_goto (t := 223) hC dX5_mostWithout_219 (by decide) ?_
              refine x_istore_n (i := 2) (l' := [(2, .int v19), (0, va_rf r0), (1, .int i1), (3, .int v18), (4, .int v19), (5, .int v20), (6, .int v21)]) hC dX5_mostWithout_223 rfl (⟨fun _ => c_rf r0, ⟨fun _ => rfl, ⟨fun _ => rfl, ⟨fun _ => rfl, ⟨fun _ => rfl, ⟨fun _ => rfl, ⟨fun _ => rfl, trivial⟩⟩⟩⟩⟩⟩⟩) (by decide) rfl ?_
              refine x_iinc (i := 3) (v := (v18 + (1 : Int32))) (l' := [(3, .int (v18 + (1 : Int32))), (2, .int v19), (0, va_rf r0), (1, .int i1), (4, .int v19), (5, .int v20), (6, .int v21)]) hC dX5_mostWithout_224 3 rfl rfl (⟨fun _ => rfl, ⟨fun _ => c_rf r0, ⟨fun _ => rfl, ⟨fun _ => rfl, ⟨fun _ => rfl, ⟨fun _ => rfl, ⟨fun _ => rfl, trivial⟩⟩⟩⟩⟩⟩⟩) (by decide) rfl ?_
              refine x_goto (t := 46) hC dX5_mostWithout_227 (by decide) ?_
              refine x_sub (l' := [(0, va_rf r0), (1, .int i1), (2, .int v19), (3, .int (v18 + (1 : Int32)))]) [2, 3, 1, 0] rfl ?_
              have hb := bk_x h hg_46
              exact hb
          · replace h := it_f c30 h
            refine x_aload_n (i := 0) hC dX5_mostWithout_143 rfl 0 rfl ?_
            refine x_getR hC ea24 ha25 kf_5 1 (by decide) rfl q_864 dX5_mostWithout_144 ?_
            refine x_iconst (v := (4 : Int32)) hC dX5_mostWithout_147 (by decide) ?_
            replace h := ck_el h
            obtain ⟨hc32, h⟩ := h
            refine x_iaload hC ea27 ha28 hc32 dX5_mostWithout_148 ?_
            refine x_tI (b := (p_I S22 a26 4)) rfl ?_
            refine x_aload_n (i := 0) hC dX5_mostWithout_149 rfl 0 rfl ?_
            refine x_iload (i := 6) hC dX5_mostWithout_150 6 rfl ?_
            refine x_iconst (v := (0 : Int32)) hC dX5_mostWithout_152 (by decide) ?_
            replace h := bd_el h
            obtain ⟨v33, S34, hb35, h⟩ := h
            refine x_callV hC (st := [.int (p_I S22 a26 4)]) (mt_X5_reviewers _ _ _ _ _ hb35) ea24 ha25 kf_5 q_989 q_991 qs_54 q_7 q_992 ⟨rfl, hy_X5_reviewers⟩ ⟨Nat.le_of_ble_eq_true rfl, Nat.le_of_ble_eq_true rfl⟩ ⟨Nat.le_of_ble_eq_true rfl, Nat.le_of_ble_eq_true rfl⟩ rfl (Nat.le_of_ble_eq_true rfl) dX5_mostWithout_153 (r_N ?_) r_NX
            show PX Z 9 S34 0 0 156 [(0, va_rf r0), (1, .int i1), (2, .int v17), (3, .int v18), (4, .int v19), (5, .int v20), (6, .int v21)] [.int v33, .int (p_I S22 a26 4)]
            replace h := bd_el h
            obtain ⟨v36, S37, hb38, h⟩ := h
            refine x_callS hC (st := [.int (p_I S22 a26 4)]) (mt_X5_ones _ _ _ hb38) q_997 q_998 q_7 q_999 hy_X5_ones ⟨Nat.le_of_ble_eq_true rfl, Nat.le_of_ble_eq_true rfl⟩ ⟨Nat.le_of_ble_eq_true rfl, Nat.le_of_ble_eq_true rfl⟩ rfl (Nat.le_of_ble_eq_true rfl) dX5_mostWithout_156 (r_N ?_) r_NX
            show PX Z 9 S37 0 0 159 [(0, va_rf r0), (1, .int i1), (2, .int v17), (3, .int v18), (4, .int v19), (5, .int v20), (6, .int v21)] [.int v36, .int (p_I S22 a26 4)]
            refine x_isub hC dX5_mostWithout_159 ?_
            replace h := le_el h
            obtain ⟨x39, hx40, h⟩ := h
            refine x_tI hx40 ?_
            refine x_istore (i := 7) (l' := [(7, .int x39), (0, va_rf r0), (1, .int i1), (2, .int v17), (3, .int v18), (4, .int v19), (5, .int v20), (6, .int v21)]) hC dX5_mostWithout_160 (⟨fun _ => c_rf r0, ⟨fun _ => rfl, ⟨fun _ => rfl, ⟨fun _ => rfl, ⟨fun _ => rfl, ⟨fun _ => rfl, ⟨fun _ => rfl, trivial⟩⟩⟩⟩⟩⟩⟩) (by decide) rfl ?_
            refine x_aload_n (i := 0) hC dX5_mostWithout_162 rfl 1 rfl ?_
            replace h := dr_el h
            obtain ⟨a41, ea42, ha43, h⟩ := h
            refine x_getR hC ea42 ha43 kf_5 11 (by decide) rfl q_874 dX5_mostWithout_163 ?_
            refine x_iload (i := 6) hC dX5_mostWithout_166 7 rfl ?_
            replace h := dr_el h
            obtain ⟨a44, ea45, ha46, h⟩ := h
            replace h := ck_el h
            obtain ⟨hc47, h⟩ := h
            refine x_iaload hC ea45 ha46 hc47 dX5_mostWithout_168 ?_
            refine x_iload (i := 5) hC dX5_mostWithout_169 6 rfl ?_
            refine x_iand hC dX5_mostWithout_171 ?_
            replace h := bd_el h
            obtain ⟨v48, S49, hb50, h⟩ := h
            refine x_callS hC (st := []) (mt_X5_ones _ _ _ hb50) q_997 q_998 q_7 q_999 hy_X5_ones ⟨Nat.le_of_ble_eq_true rfl, Nat.le_of_ble_eq_true rfl⟩ ⟨Nat.le_of_ble_eq_true rfl, Nat.le_of_ble_eq_true rfl⟩ rfl (Nat.le_of_ble_eq_true rfl) dX5_mostWithout_172 (r_N ?_) r_NX
            show PX Z 9 S49 0 0 175 [(7, .int x39), (0, va_rf r0), (1, .int i1), (2, .int v17), (3, .int v18), (4, .int v19), (5, .int v20), (6, .int v21)] [.int v48]
            refine x_istore (i := 8) (l' := [(8, .int v48), (7, .int x39), (0, va_rf r0), (1, .int i1), (2, .int v17), (3, .int v18), (4, .int v19), (5, .int v20), (6, .int v21)]) hC dX5_mostWithout_175 (⟨fun _ => rfl, ⟨fun _ => c_rf r0, ⟨fun _ => rfl, ⟨fun _ => rfl, ⟨fun _ => rfl, ⟨fun _ => rfl, ⟨fun _ => rfl, ⟨fun _ => rfl, trivial⟩⟩⟩⟩⟩⟩⟩⟩) (by decide) rfl ?_
            refine x_iload (i := 4) hC dX5_mostWithout_177 6 rfl ?_
            refine x_iload (i := 7) hC dX5_mostWithout_179 1 rfl ?_
            refine x_if_ge (t := 188) hC dX5_mostWithout_181 (by decide) (fun c51 => ?_) (fun c51 => ?_)
            · replace h := it_t c51 h
              refine x_iload (i := 7) hC dX5_mostWithout_188 1 rfl ?_
              refine x_iload (i := 8) hC dX5_mostWithout_190 0 rfl ?_
              refine x_icmp_ge (t := 200) hC dX5_mostWithout_192 (by decide) (fun c52 => ?_) (fun c52 => ?_)
              · replace h := it_t c52 h
                refine x_iload (i := 8) hC dX5_mostWithout_200 0 rfl ?_
                refine x_iadd hC dX5_mostWithout_202 ?_
                replace h := le_el h
                obtain ⟨x53, hx54, h⟩ := h
                refine x_tI hx54 ?_
                refine x_istore (i := 4) (l' := [(4, .int x53), (8, .int v48), (7, .int x39), (0, va_rf r0), (1, .int i1), (2, .int v17), (3, .int v18), (5, .int v20), (6, .int v21)]) hC dX5_mostWithout_203 (⟨fun _ => rfl, ⟨fun _ => rfl, ⟨fun _ => c_rf r0, ⟨fun _ => rfl, ⟨fun _ => rfl, ⟨fun _ => rfl, ⟨fun _ => rfl, ⟨fun _ => rfl, ⟨fun _ => rfl, trivial⟩⟩⟩⟩⟩⟩⟩⟩⟩) (by decide) rfl ?_
                refine x_iinc (i := 6) (v := (v21 + (1 : Int32))) (l' := [(6, .int (v21 + (1 : Int32))), (4, .int x53), (8, .int v48), (7, .int x39), (0, va_rf r0), (1, .int i1), (2, .int v17), (3, .int v18), (5, .int v20)]) hC dX5_mostWithout_205 8 rfl rfl (⟨fun _ => rfl, ⟨fun _ => rfl, ⟨fun _ => rfl, ⟨fun _ => c_rf r0, ⟨fun _ => rfl, ⟨fun _ => rfl, ⟨fun _ => rfl, ⟨fun _ => rfl, ⟨fun _ => rfl, trivial⟩⟩⟩⟩⟩⟩⟩⟩⟩) (by decide) rfl ?_
                refine x_goto (t := 131) hC dX5_mostWithout_208 (by decide) ?_
                refine x_sub (l' := [(0, va_rf r0), (1, .int i1), (2, .int v17), (3, .int v18), (4, .int x53), (5, .int v20), (6, .int (v21 + (1 : Int32)))]) [4, 5, 6, 7, 1, 8, 0] rfl ?_
                have hb := bk_x h hg_131
                exact hb
              · replace h := it_f c52 h
                refine x_iload (i := 7) hC dX5_mostWithout_195 1 rfl ?_
                refine x_goto (t := 202) hC dX5_mostWithout_197 (by decide) ?_
                refine x_iadd hC dX5_mostWithout_202 ?_
                replace h := le_el h
                obtain ⟨x55, hx56, h⟩ := h
                refine x_tI hx56 ?_
                refine x_istore (i := 4) (l' := [(4, .int x55), (8, .int v48), (7, .int x39), (0, va_rf r0), (1, .int i1), (2, .int v17), (3, .int v18), (5, .int v20), (6, .int v21)]) hC dX5_mostWithout_203 (⟨fun _ => rfl, ⟨fun _ => rfl, ⟨fun _ => c_rf r0, ⟨fun _ => rfl, ⟨fun _ => rfl, ⟨fun _ => rfl, ⟨fun _ => rfl, ⟨fun _ => rfl, ⟨fun _ => rfl, trivial⟩⟩⟩⟩⟩⟩⟩⟩⟩) (by decide) rfl ?_
                refine x_iinc (i := 6) (v := (v21 + (1 : Int32))) (l' := [(6, .int (v21 + (1 : Int32))), (4, .int x55), (8, .int v48), (7, .int x39), (0, va_rf r0), (1, .int i1), (2, .int v17), (3, .int v18), (5, .int v20)]) hC dX5_mostWithout_205 8 rfl rfl (⟨fun _ => rfl, ⟨fun _ => rfl, ⟨fun _ => rfl, ⟨fun _ => c_rf r0, ⟨fun _ => rfl, ⟨fun _ => rfl, ⟨fun _ => rfl, ⟨fun _ => rfl, ⟨fun _ => rfl, trivial⟩⟩⟩⟩⟩⟩⟩⟩⟩) (by decide) rfl ?_
                refine x_goto (t := 131) hC dX5_mostWithout_208 (by decide) ?_
                refine x_sub (l' := [(0, va_rf r0), (1, .int i1), (2, .int v17), (3, .int v18), (4, .int x55), (5, .int v20), (6, .int (v21 + (1 : Int32)))]) [4, 5, 6, 7, 1, 8, 0] rfl ?_
                have hb := bk_x h hg_131
                exact hb
            · replace h := it_f c51 h
              refine x_iconst (v := (0 : Int32)) hC dX5_mostWithout_184 (by decide) ?_
              refine x_goto (t := 202) hC dX5_mostWithout_185 (by decide) ?_
              refine x_iadd hC dX5_mostWithout_202 ?_
              replace h := le_el h
              obtain ⟨x57, hx58, h⟩ := h
              refine x_tI hx58 ?_
              refine x_istore (i := 4) (l' := [(4, .int x57), (8, .int v48), (7, .int x39), (0, va_rf r0), (1, .int i1), (2, .int v17), (3, .int v18), (5, .int v20), (6, .int v21)]) hC dX5_mostWithout_203 (⟨fun _ => rfl, ⟨fun _ => rfl, ⟨fun _ => c_rf r0, ⟨fun _ => rfl, ⟨fun _ => rfl, ⟨fun _ => rfl, ⟨fun _ => rfl, ⟨fun _ => rfl, ⟨fun _ => rfl, trivial⟩⟩⟩⟩⟩⟩⟩⟩⟩) (by decide) rfl ?_
              refine x_iinc (i := 6) (v := (v21 + (1 : Int32))) (l' := [(6, .int (v21 + (1 : Int32))), (4, .int x57), (8, .int v48), (7, .int x39), (0, va_rf r0), (1, .int i1), (2, .int v17), (3, .int v18), (5, .int v20)]) hC dX5_mostWithout_205 8 rfl rfl (⟨fun _ => rfl, ⟨fun _ => rfl, ⟨fun _ => rfl, ⟨fun _ => c_rf r0, ⟨fun _ => rfl, ⟨fun _ => rfl, ⟨fun _ => rfl, ⟨fun _ => rfl, ⟨fun _ => rfl, trivial⟩⟩⟩⟩⟩⟩⟩⟩⟩) (by decide) rfl ?_
              refine x_goto (t := 131) hC dX5_mostWithout_208 (by decide) ?_
              refine x_sub (l' := [(0, va_rf r0), (1, .int i1), (2, .int v17), (3, .int v18), (4, .int x57), (5, .int v20), (6, .int (v21 + (1 : Int32)))]) [4, 5, 6, 7, 1, 8, 0] rfl ?_
              have hb := bk_x h hg_131
              exact hb
        · replace h := it_t c14 h
          refine x_iconst (v := (0 : Int32)) hC dX5_mostWithout_117 (by decide) ?_
          refine x_goto (t := 124) hC dX5_mostWithout_118 (by decide) ?_
          refine x_ior hC dX5_mostWithout_124 ?_
          refine x_isub hC dX5_mostWithout_125 ?_
          replace h := le_el h
          obtain ⟨x59, hx60, h⟩ := h
          refine x_tI hx60 ?_
          refine x_istore (i := 5) (l' := [(5, .int x59), (0, va_rf r0), (1, .int i1), (2, .int v8), (3, .int v9), (4, .int v10)]) hC dX5_mostWithout_126 (⟨fun _ => c_rf r0, ⟨fun _ => rfl, ⟨fun _ => rfl, ⟨fun _ => rfl, ⟨fun _ => rfl, ⟨fun _ => rfl, trivial⟩⟩⟩⟩⟩⟩) (by decide) rfl ?_
          refine x_iconst (v := (0 : Int32)) hC dX5_mostWithout_128 (by decide) ?_
          refine x_istore (i := 6) (l' := [(6, .int (0 : Int32)), (5, .int x59), (0, va_rf r0), (1, .int i1), (2, .int v8), (3, .int v9), (4, .int v10)]) hC dX5_mostWithout_129 (⟨fun _ => rfl, ⟨fun _ => c_rf r0, ⟨fun _ => rfl, ⟨fun _ => rfl, ⟨fun _ => rfl, ⟨fun _ => rfl, trivial⟩⟩⟩⟩⟩⟩) (by decide) rfl ?_
          refine x_sub (l' := [(0, va_rf r0), (1, .int i1), (2, .int v8), (3, .int v9), (4, .int v10), (5, .int x59), (6, .int (0 : Int32))]) [2, 3, 4, 5, 6, 1, 0] rfl ?_
          refine lp_sim (P := fun (t : (Int32 × Int32 × Int32 × Int32 × Int32 × PH)) => PX Z 9 t.2.2.2.2.2 0 0 131 [(0, va_rf r0), (1, .int i1), (2, .int t.1), (3, .int t.2.1), (4, .int t.2.2.1), (5, .int t.2.2.2.1), (6, .int t.2.2.2.2.1)] []) (G := fun r => r = x_46) ?_ h rfl
          clear h
          intro t x_131 h hg_131
          obtain ⟨v61, v62, v63, v64, v65, S66⟩ := t
          show PX Z 9 S66 0 0 131 [(0, va_rf r0), (1, .int i1), (2, .int v61), (3, .int v62), (4, .int v63), (5, .int v64), (6, .int v65)] []
          unfold st_X5_mostWithout_131 at h
          refine x_iload (i := 6) hC dX5_mostWithout_131 6 rfl ?_
          refine x_aload_n (i := 0) hC dX5_mostWithout_133 rfl 0 rfl ?_
          replace h := dr_el h
          obtain ⟨a67, ea68, ha69, h⟩ := h
          refine x_getR hC ea68 ha69 kf_5 1 (by decide) rfl q_864 dX5_mostWithout_134 ?_
          refine x_bipush (v := (8 : Int32)) hC dX5_mostWithout_137 (by decide) ?_
          replace h := dr_el h
          obtain ⟨a70, ea71, ha72, h⟩ := h
          replace h := ck_el h
          obtain ⟨hc73, h⟩ := h
          refine x_iaload hC ea71 ha72 hc73 dX5_mostWithout_139 ?_
          refine x_tI (b := (p_I S66 a70 8)) rfl ?_
          refine x_icmp_ge (t := 211) hC dX5_mostWithout_140 (by decide) (fun c74 => ?_) (fun c74 => ?_)
          · replace h := it_t c74 h
            replace h := ir_x h hg_131
            refine x_iload (i := 4) hC dX5_mostWithout_211 4 rfl ?_
            refine x_iload_n (i := 2) hC dX5_mostWithout_213 rfl 2 rfl ?_
            refine x_icmp_ge (t := 222) hC dX5_mostWithout_214 (by decide) (fun c75 => ?_) (fun c75 => ?_)
            · replace h := it_t c75 h
              refine x_iload_n (i := 2) hC dX5_mostWithout_222 rfl 2 rfl ?_
              refine x_istore_n (i := 2) (l' := [(2, .int v61), (0, va_rf r0), (1, .int i1), (3, .int v62), (4, .int v63), (5, .int v64), (6, .int v65)]) hC dX5_mostWithout_223 rfl (⟨fun _ => c_rf r0, ⟨fun _ => rfl, ⟨fun _ => rfl, ⟨fun _ => rfl, ⟨fun _ => rfl, ⟨fun _ => rfl, ⟨fun _ => rfl, trivial⟩⟩⟩⟩⟩⟩⟩) (by decide) rfl ?_
              refine x_iinc (i := 3) (v := (v62 + (1 : Int32))) (l' := [(3, .int (v62 + (1 : Int32))), (2, .int v61), (0, va_rf r0), (1, .int i1), (4, .int v63), (5, .int v64), (6, .int v65)]) hC dX5_mostWithout_224 3 rfl rfl (⟨fun _ => rfl, ⟨fun _ => c_rf r0, ⟨fun _ => rfl, ⟨fun _ => rfl, ⟨fun _ => rfl, ⟨fun _ => rfl, ⟨fun _ => rfl, trivial⟩⟩⟩⟩⟩⟩⟩) (by decide) rfl ?_
              refine x_goto (t := 46) hC dX5_mostWithout_227 (by decide) ?_
              refine x_sub (l' := [(0, va_rf r0), (1, .int i1), (2, .int v61), (3, .int (v62 + (1 : Int32)))]) [2, 3, 1, 0] rfl ?_
              have hb := bk_x h hg_46
              exact hb
            · replace h := it_f c75 h
              refine x_iload (i := 4) hC dX5_mostWithout_217 4 rfl ?_
              refine x_goto (t := 223) hC dX5_mostWithout_219 (by decide) ?_
              refine x_istore_n (i := 2) (l' := [(2, .int v63), (0, va_rf r0), (1, .int i1), (3, .int v62), (4, .int v63), (5, .int v64), (6, .int v65)]) hC dX5_mostWithout_223 rfl (⟨fun _ => c_rf r0, ⟨fun _ => rfl, ⟨fun _ => rfl, ⟨fun _ => rfl, ⟨fun _ => rfl, ⟨fun _ => rfl, ⟨fun _ => rfl, trivial⟩⟩⟩⟩⟩⟩⟩) (by decide) rfl ?_
              refine x_iinc (i := 3) (v := (v62 + (1 : Int32))) (l' := [(3, .int (v62 + (1 : Int32))), (2, .int v63), (0, va_rf r0), (1, .int i1), (4, .int v63), (5, .int v64), (6, .int v65)]) hC dX5_mostWithout_224 3 rfl rfl (⟨fun _ => rfl, ⟨fun _ => c_rf r0, ⟨fun _ => rfl, ⟨fun _ => rfl, ⟨fun _ => rfl, ⟨fun _ => rfl, ⟨fun _ => rfl, trivial⟩⟩⟩⟩⟩⟩⟩) (by decide) rfl ?_
              refine x_goto (t := 46) hC dX5_mostWithout_227 (by decide) ?_
              refine x_sub (l' := [(0, va_rf r0), (1, .int i1), (2, .int v63), (3, .int (v62 + (1 : Int32)))]) [2, 3, 1, 0] rfl ?_
              have hb := bk_x h hg_46
              exact hb
          · replace h := it_f c74 h
            refine x_aload_n (i := 0) hC dX5_mostWithout_143 rfl 0 rfl ?_
            refine x_getR hC ea68 ha69 kf_5 1 (by decide) rfl q_864 dX5_mostWithout_144 ?_
            refine x_iconst (v := (4 : Int32)) hC dX5_mostWithout_147 (by decide) ?_
            replace h := ck_el h
            obtain ⟨hc76, h⟩ := h
            refine x_iaload hC ea71 ha72 hc76 dX5_mostWithout_148 ?_
            refine x_tI (b := (p_I S66 a70 4)) rfl ?_
            refine x_aload_n (i := 0) hC dX5_mostWithout_149 rfl 0 rfl ?_
            refine x_iload (i := 6) hC dX5_mostWithout_150 6 rfl ?_
            refine x_iconst (v := (0 : Int32)) hC dX5_mostWithout_152 (by decide) ?_
            replace h := bd_el h
            obtain ⟨v77, S78, hb79, h⟩ := h
            refine x_callV hC (st := [.int (p_I S66 a70 4)]) (mt_X5_reviewers _ _ _ _ _ hb79) ea68 ha69 kf_5 q_989 q_991 qs_54 q_7 q_992 ⟨rfl, hy_X5_reviewers⟩ ⟨Nat.le_of_ble_eq_true rfl, Nat.le_of_ble_eq_true rfl⟩ ⟨Nat.le_of_ble_eq_true rfl, Nat.le_of_ble_eq_true rfl⟩ rfl (Nat.le_of_ble_eq_true rfl) dX5_mostWithout_153 (r_N ?_) r_NX
            show PX Z 9 S78 0 0 156 [(0, va_rf r0), (1, .int i1), (2, .int v61), (3, .int v62), (4, .int v63), (5, .int v64), (6, .int v65)] [.int v77, .int (p_I S66 a70 4)]
            replace h := bd_el h
            obtain ⟨v80, S81, hb82, h⟩ := h
            refine x_callS hC (st := [.int (p_I S66 a70 4)]) (mt_X5_ones _ _ _ hb82) q_997 q_998 q_7 q_999 hy_X5_ones ⟨Nat.le_of_ble_eq_true rfl, Nat.le_of_ble_eq_true rfl⟩ ⟨Nat.le_of_ble_eq_true rfl, Nat.le_of_ble_eq_true rfl⟩ rfl (Nat.le_of_ble_eq_true rfl) dX5_mostWithout_156 (r_N ?_) r_NX
            show PX Z 9 S81 0 0 159 [(0, va_rf r0), (1, .int i1), (2, .int v61), (3, .int v62), (4, .int v63), (5, .int v64), (6, .int v65)] [.int v80, .int (p_I S66 a70 4)]
            refine x_isub hC dX5_mostWithout_159 ?_
            replace h := le_el h
            obtain ⟨x83, hx84, h⟩ := h
            refine x_tI hx84 ?_
            refine x_istore (i := 7) (l' := [(7, .int x83), (0, va_rf r0), (1, .int i1), (2, .int v61), (3, .int v62), (4, .int v63), (5, .int v64), (6, .int v65)]) hC dX5_mostWithout_160 (⟨fun _ => c_rf r0, ⟨fun _ => rfl, ⟨fun _ => rfl, ⟨fun _ => rfl, ⟨fun _ => rfl, ⟨fun _ => rfl, ⟨fun _ => rfl, trivial⟩⟩⟩⟩⟩⟩⟩) (by decide) rfl ?_
            refine x_aload_n (i := 0) hC dX5_mostWithout_162 rfl 1 rfl ?_
            replace h := dr_el h
            obtain ⟨a85, ea86, ha87, h⟩ := h
            refine x_getR hC ea86 ha87 kf_5 11 (by decide) rfl q_874 dX5_mostWithout_163 ?_
            refine x_iload (i := 6) hC dX5_mostWithout_166 7 rfl ?_
            replace h := dr_el h
            obtain ⟨a88, ea89, ha90, h⟩ := h
            replace h := ck_el h
            obtain ⟨hc91, h⟩ := h
            refine x_iaload hC ea89 ha90 hc91 dX5_mostWithout_168 ?_
            refine x_iload (i := 5) hC dX5_mostWithout_169 6 rfl ?_
            refine x_iand hC dX5_mostWithout_171 ?_
            replace h := bd_el h
            obtain ⟨v92, S93, hb94, h⟩ := h
            refine x_callS hC (st := []) (mt_X5_ones _ _ _ hb94) q_997 q_998 q_7 q_999 hy_X5_ones ⟨Nat.le_of_ble_eq_true rfl, Nat.le_of_ble_eq_true rfl⟩ ⟨Nat.le_of_ble_eq_true rfl, Nat.le_of_ble_eq_true rfl⟩ rfl (Nat.le_of_ble_eq_true rfl) dX5_mostWithout_172 (r_N ?_) r_NX
            show PX Z 9 S93 0 0 175 [(7, .int x83), (0, va_rf r0), (1, .int i1), (2, .int v61), (3, .int v62), (4, .int v63), (5, .int v64), (6, .int v65)] [.int v92]
            refine x_istore (i := 8) (l' := [(8, .int v92), (7, .int x83), (0, va_rf r0), (1, .int i1), (2, .int v61), (3, .int v62), (4, .int v63), (5, .int v64), (6, .int v65)]) hC dX5_mostWithout_175 (⟨fun _ => rfl, ⟨fun _ => c_rf r0, ⟨fun _ => rfl, ⟨fun _ => rfl, ⟨fun _ => rfl, ⟨fun _ => rfl, ⟨fun _ => rfl, ⟨fun _ => rfl, trivial⟩⟩⟩⟩⟩⟩⟩⟩) (by decide) rfl ?_
            refine x_iload (i := 4) hC dX5_mostWithout_177 6 rfl ?_
            refine x_iload (i := 7) hC dX5_mostWithout_179 1 rfl ?_
            refine x_if_ge (t := 188) hC dX5_mostWithout_181 (by decide) (fun c95 => ?_) (fun c95 => ?_)
            · replace h := it_t c95 h
              refine x_iload (i := 7) hC dX5_mostWithout_188 1 rfl ?_
              refine x_iload (i := 8) hC dX5_mostWithout_190 0 rfl ?_
              refine x_icmp_ge (t := 200) hC dX5_mostWithout_192 (by decide) (fun c96 => ?_) (fun c96 => ?_)
              · replace h := it_t c96 h
                refine x_iload (i := 8) hC dX5_mostWithout_200 0 rfl ?_
                refine x_iadd hC dX5_mostWithout_202 ?_
                replace h := le_el h
                obtain ⟨x97, hx98, h⟩ := h
                refine x_tI hx98 ?_
                refine x_istore (i := 4) (l' := [(4, .int x97), (8, .int v92), (7, .int x83), (0, va_rf r0), (1, .int i1), (2, .int v61), (3, .int v62), (5, .int v64), (6, .int v65)]) hC dX5_mostWithout_203 (⟨fun _ => rfl, ⟨fun _ => rfl, ⟨fun _ => c_rf r0, ⟨fun _ => rfl, ⟨fun _ => rfl, ⟨fun _ => rfl, ⟨fun _ => rfl, ⟨fun _ => rfl, ⟨fun _ => rfl, trivial⟩⟩⟩⟩⟩⟩⟩⟩⟩) (by decide) rfl ?_
                refine x_iinc (i := 6) (v := (v65 + (1 : Int32))) (l' := [(6, .int (v65 + (1 : Int32))), (4, .int x97), (8, .int v92), (7, .int x83), (0, va_rf r0), (1, .int i1), (2, .int v61), (3, .int v62), (5, .int v64)]) hC dX5_mostWithout_205 8 rfl rfl (⟨fun _ => rfl, ⟨fun _ => rfl, ⟨fun _ => rfl, ⟨fun _ => c_rf r0, ⟨fun _ => rfl, ⟨fun _ => rfl, ⟨fun _ => rfl, ⟨fun _ => rfl, ⟨fun _ => rfl, trivial⟩⟩⟩⟩⟩⟩⟩⟩⟩) (by decide) rfl ?_
                refine x_goto (t := 131) hC dX5_mostWithout_208 (by decide) ?_
                refine x_sub (l' := [(0, va_rf r0), (1, .int i1), (2, .int v61), (3, .int v62), (4, .int x97), (5, .int v64), (6, .int (v65 + (1 : Int32)))]) [4, 5, 6, 7, 1, 8, 0] rfl ?_
                have hb := bk_x h hg_131
                exact hb
              · replace h := it_f c96 h
                refine x_iload (i := 7) hC dX5_mostWithout_195 1 rfl ?_
                refine x_goto (t := 202) hC dX5_mostWithout_197 (by decide) ?_
                refine x_iadd hC dX5_mostWithout_202 ?_
                replace h := le_el h
                obtain ⟨x99, hx100, h⟩ := h
                refine x_tI hx100 ?_
                refine x_istore (i := 4) (l' := [(4, .int x99), (8, .int v92), (7, .int x83), (0, va_rf r0), (1, .int i1), (2, .int v61), (3, .int v62), (5, .int v64), (6, .int v65)]) hC dX5_mostWithout_203 (⟨fun _ => rfl, ⟨fun _ => rfl, ⟨fun _ => c_rf r0, ⟨fun _ => rfl, ⟨fun _ => rfl, ⟨fun _ => rfl, ⟨fun _ => rfl, ⟨fun _ => rfl, ⟨fun _ => rfl, trivial⟩⟩⟩⟩⟩⟩⟩⟩⟩) (by decide) rfl ?_
                refine x_iinc (i := 6) (v := (v65 + (1 : Int32))) (l' := [(6, .int (v65 + (1 : Int32))), (4, .int x99), (8, .int v92), (7, .int x83), (0, va_rf r0), (1, .int i1), (2, .int v61), (3, .int v62), (5, .int v64)]) hC dX5_mostWithout_205 8 rfl rfl (⟨fun _ => rfl, ⟨fun _ => rfl, ⟨fun _ => rfl, ⟨fun _ => c_rf r0, ⟨fun _ => rfl, ⟨fun _ => rfl, ⟨fun _ => rfl, ⟨fun _ => rfl, ⟨fun _ => rfl, trivial⟩⟩⟩⟩⟩⟩⟩⟩⟩) (by decide) rfl ?_
                refine x_goto (t := 131) hC dX5_mostWithout_208 (by decide) ?_
                refine x_sub (l' := [(0, va_rf r0), (1, .int i1), (2, .int v61), (3, .int v62), (4, .int x99), (5, .int v64), (6, .int (v65 + (1 : Int32)))]) [4, 5, 6, 7, 1, 8, 0] rfl ?_
                have hb := bk_x h hg_131
                exact hb
            · replace h := it_f c95 h
              refine x_iconst (v := (0 : Int32)) hC dX5_mostWithout_184 (by decide) ?_
              refine x_goto (t := 202) hC dX5_mostWithout_185 (by decide) ?_
              refine x_iadd hC dX5_mostWithout_202 ?_
              replace h := le_el h
              obtain ⟨x101, hx102, h⟩ := h
              refine x_tI hx102 ?_
              refine x_istore (i := 4) (l' := [(4, .int x101), (8, .int v92), (7, .int x83), (0, va_rf r0), (1, .int i1), (2, .int v61), (3, .int v62), (5, .int v64), (6, .int v65)]) hC dX5_mostWithout_203 (⟨fun _ => rfl, ⟨fun _ => rfl, ⟨fun _ => c_rf r0, ⟨fun _ => rfl, ⟨fun _ => rfl, ⟨fun _ => rfl, ⟨fun _ => rfl, ⟨fun _ => rfl, ⟨fun _ => rfl, trivial⟩⟩⟩⟩⟩⟩⟩⟩⟩) (by decide) rfl ?_
              refine x_iinc (i := 6) (v := (v65 + (1 : Int32))) (l' := [(6, .int (v65 + (1 : Int32))), (4, .int x101), (8, .int v92), (7, .int x83), (0, va_rf r0), (1, .int i1), (2, .int v61), (3, .int v62), (5, .int v64)]) hC dX5_mostWithout_205 8 rfl rfl (⟨fun _ => rfl, ⟨fun _ => rfl, ⟨fun _ => rfl, ⟨fun _ => c_rf r0, ⟨fun _ => rfl, ⟨fun _ => rfl, ⟨fun _ => rfl, ⟨fun _ => rfl, ⟨fun _ => rfl, trivial⟩⟩⟩⟩⟩⟩⟩⟩⟩) (by decide) rfl ?_
              refine x_goto (t := 131) hC dX5_mostWithout_208 (by decide) ?_
              refine x_sub (l' := [(0, va_rf r0), (1, .int i1), (2, .int v61), (3, .int v62), (4, .int x101), (5, .int v64), (6, .int (v65 + (1 : Int32)))]) [4, 5, 6, 7, 1, 8, 0] rfl ?_
              have hb := bk_x h hg_131
              exact hb
      · replace h := it_f c13 h
        refine x_iload (i := 4) hC dX5_mostWithout_66 4 rfl ?_
        refine x_iload_n (i := 3) hC dX5_mostWithout_68 rfl 3 rfl ?_
        refine x_iload (i := 5) hC dX5_mostWithout_69 5 rfl ?_
        replace h := bd_el h
        obtain ⟨v103, S104, hb105, h⟩ := h
        refine x_callS hC (st := [.int v10]) (mt_X5_has _ _ _ _ hb105) q_1008 q_1009 q_7 q_1010 hy_X5_has ⟨Nat.le_of_ble_eq_true rfl, Nat.le_of_ble_eq_true rfl⟩ ⟨Nat.le_of_ble_eq_true rfl, Nat.le_of_ble_eq_true rfl⟩ rfl (Nat.le_of_ble_eq_true rfl) dX5_mostWithout_71 (r_N ?_) r_NX
        show PX Z 9 S104 0 0 74 [(0, va_rf r0), (1, .int i1), (2, .int v8), (3, .int v9), (4, .int v10), (5, .int v11)] [.int v103, .int v10]
        refine x_if_eq (t := 98) hC dX5_mostWithout_74 (by decide) (fun c106 => ?_) (fun c106 => ?_)
        · replace h := it_t c106 h
          refine x_iconst (v := (0 : Int32)) hC dX5_mostWithout_98 (by decide) ?_
          refine x_iadd hC dX5_mostWithout_99 ?_
          replace h := le_el h
          obtain ⟨x107, hx108, h⟩ := h
          refine x_tI hx108 ?_
          refine x_istore (i := 4) (l' := [(4, .int x107), (0, va_rf r0), (1, .int i1), (2, .int v8), (3, .int v9), (5, .int v11)]) hC dX5_mostWithout_100 (⟨fun _ => c_rf r0, ⟨fun _ => rfl, ⟨fun _ => rfl, ⟨fun _ => rfl, ⟨fun _ => rfl, ⟨fun _ => rfl, trivial⟩⟩⟩⟩⟩⟩) (by decide) rfl ?_
          refine x_iinc (i := 5) (v := (v11 + (1 : Int32))) (l' := [(5, .int (v11 + (1 : Int32))), (4, .int x107), (0, va_rf r0), (1, .int i1), (2, .int v8), (3, .int v9)]) hC dX5_mostWithout_102 5 rfl rfl (⟨fun _ => rfl, ⟨fun _ => c_rf r0, ⟨fun _ => rfl, ⟨fun _ => rfl, ⟨fun _ => rfl, ⟨fun _ => rfl, trivial⟩⟩⟩⟩⟩⟩) (by decide) rfl ?_
          refine x_goto (t := 59) hC dX5_mostWithout_105 (by decide) ?_
          refine x_sub (l' := [(0, va_rf r0), (1, .int i1), (2, .int v8), (3, .int v9), (4, .int x107), (5, .int (v11 + (1 : Int32)))]) [2, 3, 4, 5, 1, 0] rfl ?_
          have hb := bk_x h hg_59
          exact hb
        · replace h := it_f c106 h
          refine x_iload (i := 5) hC dX5_mostWithout_77 5 rfl ?_
          refine x_iload_n (i := 1) hC dX5_mostWithout_79 rfl 1 rfl ?_
          refine x_icmp_eq (t := 98) hC dX5_mostWithout_80 (by decide) (fun c109 => ?_) (fun c109 => ?_)
          · replace h := it_t c109 h
            refine x_iconst (v := (0 : Int32)) hC dX5_mostWithout_98 (by decide) ?_
            refine x_iadd hC dX5_mostWithout_99 ?_
            replace h := le_el h
            obtain ⟨x110, hx111, h⟩ := h
            refine x_tI hx111 ?_
            refine x_istore (i := 4) (l' := [(4, .int x110), (0, va_rf r0), (1, .int i1), (2, .int v8), (3, .int v9), (5, .int v11)]) hC dX5_mostWithout_100 (⟨fun _ => c_rf r0, ⟨fun _ => rfl, ⟨fun _ => rfl, ⟨fun _ => rfl, ⟨fun _ => rfl, ⟨fun _ => rfl, trivial⟩⟩⟩⟩⟩⟩) (by decide) rfl ?_
            refine x_iinc (i := 5) (v := (v11 + (1 : Int32))) (l' := [(5, .int (v11 + (1 : Int32))), (4, .int x110), (0, va_rf r0), (1, .int i1), (2, .int v8), (3, .int v9)]) hC dX5_mostWithout_102 5 rfl rfl (⟨fun _ => rfl, ⟨fun _ => c_rf r0, ⟨fun _ => rfl, ⟨fun _ => rfl, ⟨fun _ => rfl, ⟨fun _ => rfl, trivial⟩⟩⟩⟩⟩⟩) (by decide) rfl ?_
            refine x_goto (t := 59) hC dX5_mostWithout_105 (by decide) ?_
            refine x_sub (l' := [(0, va_rf r0), (1, .int i1), (2, .int v8), (3, .int v9), (4, .int x110), (5, .int (v11 + (1 : Int32)))]) [2, 3, 4, 5, 1, 0] rfl ?_
            have hb := bk_x h hg_59
            exact hb
          · replace h := it_f c109 h
            refine x_aload_n (i := 0) hC dX5_mostWithout_83 rfl 0 rfl ?_
            replace h := dr_el h
            obtain ⟨a112, ea113, ha114, h⟩ := h
            refine x_getR hC ea113 ha114 kf_5 1 (by decide) rfl q_864 dX5_mostWithout_84 ?_
            refine x_bipush (v := (9 : Int32)) hC dX5_mostWithout_87 (by decide) ?_
            refine x_iload (i := 5) hC dX5_mostWithout_89 5 rfl ?_
            refine x_iadd hC dX5_mostWithout_91 ?_
            replace h := dr_el h
            obtain ⟨a115, ea116, ha117, h⟩ := h
            replace h := ck_el h
            obtain ⟨hc118, h⟩ := h
            refine x_iaload hC ea116 ha117 hc118 dX5_mostWithout_92 ?_
            refine x_iconst (v := (2 : Int32)) hC dX5_mostWithout_93 (by decide) ?_
            refine x_idiv hC dX5_mostWithout_94 (by decide) ?_
            refine x_goto (t := 99) hC dX5_mostWithout_95 (by decide) ?_
            refine x_iadd hC dX5_mostWithout_99 ?_
            replace h := le_el h
            obtain ⟨x119, hx120, h⟩ := h
            refine x_tI hx120 ?_
            refine x_istore (i := 4) (l' := [(4, .int x119), (0, va_rf r0), (1, .int i1), (2, .int v8), (3, .int v9), (5, .int v11)]) hC dX5_mostWithout_100 (⟨fun _ => c_rf r0, ⟨fun _ => rfl, ⟨fun _ => rfl, ⟨fun _ => rfl, ⟨fun _ => rfl, ⟨fun _ => rfl, trivial⟩⟩⟩⟩⟩⟩) (by decide) rfl ?_
            refine x_iinc (i := 5) (v := (v11 + (1 : Int32))) (l' := [(5, .int (v11 + (1 : Int32))), (4, .int x119), (0, va_rf r0), (1, .int i1), (2, .int v8), (3, .int v9)]) hC dX5_mostWithout_102 5 rfl rfl (⟨fun _ => rfl, ⟨fun _ => c_rf r0, ⟨fun _ => rfl, ⟨fun _ => rfl, ⟨fun _ => rfl, ⟨fun _ => rfl, trivial⟩⟩⟩⟩⟩⟩) (by decide) rfl ?_
            refine x_goto (t := 59) hC dX5_mostWithout_105 (by decide) ?_
            refine x_sub (l' := [(0, va_rf r0), (1, .int i1), (2, .int v8), (3, .int v9), (4, .int x119), (5, .int (v11 + (1 : Int32)))]) [2, 3, 4, 5, 1, 0] rfl ?_
            have hb := bk_x h hg_59
            exact hb
  · replace h := it_f c3 h
    refine x_aload_n (i := 0) hC dX5_mostWithout_8 rfl 0 rfl ?_
    replace h := dr_el h
    obtain ⟨a121, ea122, ha123, h⟩ := h
    refine x_getR hC ea122 ha123 kf_5 11 (by decide) rfl q_874 dX5_mostWithout_9 ?_
    refine x_iload_n (i := 2) hC dX5_mostWithout_12 rfl 2 rfl ?_
    refine x_iload_n (i := 2) hC dX5_mostWithout_13 rfl 2 rfl ?_
    refine x_aload_n (i := 0) hC dX5_mostWithout_14 rfl 0 rfl ?_
    refine x_getR hC ea122 ha123 kf_5 1 (by decide) rfl q_864 dX5_mostWithout_15 ?_
    refine x_bipush (v := (8 : Int32)) hC dX5_mostWithout_18 (by decide) ?_
    replace h := dr_el h
    obtain ⟨a124, ea125, ha126, h⟩ := h
    replace h := ck_el h
    obtain ⟨hc127, h⟩ := h
    refine x_iaload hC ea125 ha126 hc127 dX5_mostWithout_20 ?_
    refine x_tI (b := (p_I S2 a124 8)) rfl ?_
    refine x_icmp_ge (t := 32) hC dX5_mostWithout_21 (by decide) (fun c128 => ?_) (fun c128 => ?_)
    · replace h := it_t c128 h
      refine x_iconst (v := (0 : Int32)) hC dX5_mostWithout_32 (by decide) ?_
      exact J_33 _ _ _ _ _ h
    · replace h := it_f c128 h
      refine x_aload_n (i := 0) hC dX5_mostWithout_24 rfl 0 rfl ?_
      refine x_iload_n (i := 2) hC dX5_mostWithout_25 rfl 2 rfl ?_
      replace h := bd_el h
      obtain ⟨v140, S141, hb142, h⟩ := h
      refine x_callV hC (st := [.int v1, va_rf (p_R S2 a121 11)]) (mt_X5_able _ _ _ _ hb142) ea122 ha123 kf_5 q_1199 q_1201 qs_85 q_7 q_1202 ⟨rfl, hy_X5_able⟩ ⟨Nat.le_of_ble_eq_true rfl, Nat.le_of_ble_eq_true rfl⟩ ⟨Nat.le_of_ble_eq_true rfl, Nat.le_of_ble_eq_true rfl⟩ rfl (Nat.le_of_ble_eq_true rfl) dX5_mostWithout_26 (r_N ?_) r_NX
      show PX Z 9 S141 0 0 29 [(0, va_rf r0), (1, .int i1), (2, .int v1)] [.int v140, .int v1, va_rf (p_R S2 a121 11)]
      refine x_goto (t := 33) hC dX5_mostWithout_29 (by decide) ?_
      exact J_33 _ _ _ _ _ h
theorem dX5_most_0 : decode cX5_most 0 = .ok (.aload_n 0, 1) := by decide +kernel
theorem dX5_most_1 : decode cX5_most 1 = .ok (.iload_n 1, 1) := by decide +kernel
theorem dX5_most_2 : decode cX5_most 2 = .ok (.iconst 0, 1) := by decide +kernel
theorem dX5_most_3 : decode cX5_most 3 = .ok (.iconst 1, 1) := by decide +kernel
theorem dX5_most_4 : decode cX5_most 4 = .ok (.invokestatic 27, 3) := by decide +kernel
theorem dX5_most_7 : decode cX5_most 7 = .ok (.ifCond .eq 7, 3) := by decide +kernel
theorem dX5_most_10 : decode cX5_most 10 = .ok (.iconst 0, 1) := by decide +kernel
theorem dX5_most_11 : decode cX5_most 11 = .ok (.goto 4, 3) := by decide +kernel
theorem dX5_most_14 : decode cX5_most 14 = .ok (.iconst 1, 1) := by decide +kernel
theorem dX5_most_15 : decode cX5_most 15 = .ok (.invokevirtual 56, 3) := by decide +kernel
theorem dX5_most_18 : decode cX5_most 18 = .ok (.ifCond .eq 11, 3) := by decide +kernel
theorem dX5_most_21 : decode cX5_most 21 = .ok (.aload_n 0, 1) := by decide +kernel
theorem dX5_most_22 : decode cX5_most 22 = .ok (.iconst (-1), 1) := by decide +kernel
theorem dX5_most_23 : decode cX5_most 23 = .ok (.invokevirtual 199, 3) := by decide +kernel
theorem dX5_most_26 : decode cX5_most 26 = .ok (.goto 4, 3) := by decide +kernel
theorem dX5_most_29 : decode cX5_most 29 = .ok (.iconst 0, 1) := by decide +kernel
theorem dX5_most_30 : decode cX5_most 30 = .ok (.ireturn, 1) := by decide +kernel
set_option maxRecDepth 100000 in
set_option maxHeartbeats 4000000 in
theorem mt_X5_most (r0 : Option Nat) (i1 : Int32) (S0 : PH) (y : Int32 × PH) (h : m_X5_most r0 i1 S0 = some y) : MT yX5_most (.code yX5_most cX5_most 2 (Option.some FieldType.int)) 5 120 0 0 [va_rf r0, .int i1] S0 (oQ e_I (qN y)) := by
  refine mt_of (own := RX5) (l0 := [(0, va_rf r0), (1, .int i1)]) rfl rfl (by cases r0 <;> exact Nat.le_of_ble_eq_true rfl) (by cases r0 <;> rfl) ?_
  intro Z hC hQ hE hN
  have J_15 : ∀ (v5 : Option Nat) (v6 : Int32) (S7 : PH), j_X5_most_15 r0 i1 v5 v6 S7 = some y → PX Z 2 S7 0 0 15 [(0, va_rf r0), (1, .int i1)] [.int v6, va_rf v5] := by
    intro v5 v6 S7 h
    unfold j_X5_most_15 at h
    replace h := dr_el h
    obtain ⟨a8, ea9, ha10, h⟩ := h
    replace h := bd_el h
    obtain ⟨v11, S12, hb13, h⟩ := h
    refine x_callV hC (st := []) (mt_X5_holds _ _ _ _ hb13) ea9 ha10 kf_5 q_915 q_917 qs_43 q_7 q_918 ⟨rfl, hy_X5_holds⟩ ⟨Nat.le_of_ble_eq_true rfl, Nat.le_of_ble_eq_true rfl⟩ ⟨Nat.le_of_ble_eq_true rfl, Nat.le_of_ble_eq_true rfl⟩ rfl (Nat.le_of_ble_eq_true rfl) dX5_most_15 (r_N ?_) r_NX
    show PX Z 2 S12 0 0 18 [(0, va_rf r0), (1, .int i1)] [.int v11]
    refine x_if_eq (t := 29) hC dX5_most_18 (by decide) (fun c14 => ?_) (fun c14 => ?_)
    · replace h := it_t c14 h
      refine x_iconst (v := (0 : Int32)) hC dX5_most_29 (by decide) ?_
      exact x_iret hC hQ (z_N (Option.some.inj h)) (Nat.le_of_ble_eq_true rfl) (Nat.le_of_ble_eq_true rfl) dX5_most_30
    · replace h := it_f c14 h
      refine x_aload_n (i := 0) hC dX5_most_21 rfl 0 rfl ?_
      refine x_iconst (v := (-1 : Int32)) hC dX5_most_22 (by decide) ?_
      replace h := dr_el h
      obtain ⟨a15, ea16, ha17, h⟩ := h
      replace h := bd_el h
      obtain ⟨v18, S19, hb20, h⟩ := h
      refine x_callV hC (st := []) (mt_X5_mostWithout _ _ _ _ hb20) ea16 ha17 kf_5 q_1195 q_1197 qs_84 q_7 q_1198 ⟨rfl, hy_X5_mostWithout⟩ ⟨Nat.le_of_ble_eq_true rfl, Nat.le_of_ble_eq_true rfl⟩ ⟨Nat.le_of_ble_eq_true rfl, Nat.le_of_ble_eq_true rfl⟩ rfl (Nat.le_of_ble_eq_true rfl) dX5_most_23 (r_N ?_) r_NX
      show PX Z 2 S19 0 0 26 [(0, va_rf r0), (1, .int i1)] [.int v18]
      refine x_goto (t := 30) hC dX5_most_26 (by decide) ?_
      exact x_iret hC hQ (z_N (Option.some.inj h)) (Nat.le_of_ble_eq_true rfl) (Nat.le_of_ble_eq_true rfl) dX5_most_30
  unfold m_X5_most at h
  refine x_aload_n (i := 0) hC dX5_most_0 rfl 0 rfl ?_
  refine x_iload_n (i := 1) hC dX5_most_1 rfl 1 rfl ?_
  refine x_iconst (v := (0 : Int32)) hC dX5_most_2 (by decide) ?_
  refine x_iconst (v := (1 : Int32)) hC dX5_most_3 (by decide) ?_
  replace h := bd_el h
  obtain ⟨v1, S2, hb3, h⟩ := h
  refine x_callS hC (st := [va_rf r0]) (mt_X5_in _ _ _ _ _ hb3) q_912 q_913 q_7 q_914 hy_X5_in ⟨Nat.le_of_ble_eq_true rfl, Nat.le_of_ble_eq_true rfl⟩ ⟨Nat.le_of_ble_eq_true rfl, Nat.le_of_ble_eq_true rfl⟩ rfl (Nat.le_of_ble_eq_true rfl) dX5_most_4 (r_N ?_) r_NX
  show PX Z 2 S2 0 0 7 [(0, va_rf r0), (1, .int i1)] [.int v1, va_rf r0]
  refine x_if_eq (t := 14) hC dX5_most_7 (by decide) (fun c4 => ?_) (fun c4 => ?_)
  · replace h := it_t c4 h
    refine x_iconst (v := (1 : Int32)) hC dX5_most_14 (by decide) ?_
    exact J_15 _ _ _ h
  · replace h := it_f c4 h
    refine x_iconst (v := (0 : Int32)) hC dX5_most_10 (by decide) ?_
    refine x_goto (t := 15) hC dX5_most_11 (by decide) ?_
    exact J_15 _ _ _ h
theorem dX5_neededOne_0 : decode cX5_neededOne 0 = .ok (.iconst 0, 1) := by decide +kernel
theorem dX5_neededOne_1 : decode cX5_neededOne 1 = .ok (.istore_n 1, 1) := by decide +kernel
theorem dX5_neededOne_2 : decode cX5_neededOne 2 = .ok (.aload_n 0, 1) := by decide +kernel
theorem dX5_neededOne_3 : decode cX5_neededOne 3 = .ok (.iconst 0, 1) := by decide +kernel
theorem dX5_neededOne_4 : decode cX5_neededOne 4 = .ok (.invokevirtual 199, 3) := by decide +kernel
theorem dX5_neededOne_7 : decode cX5_neededOne 7 = .ok (.istore_n 2, 1) := by decide +kernel
theorem dX5_neededOne_8 : decode cX5_neededOne 8 = .ok (.iconst 1, 1) := by decide +kernel
theorem dX5_neededOne_9 : decode cX5_neededOne 9 = .ok (.istore_n 3, 1) := by decide +kernel
theorem dX5_neededOne_10 : decode cX5_neededOne 10 = .ok (.iload_n 3, 1) := by decide +kernel
theorem dX5_neededOne_11 : decode cX5_neededOne 11 = .ok (.bipush 8, 2) := by decide +kernel
theorem dX5_neededOne_13 : decode cX5_neededOne 13 = .ok (.if_icmp .ge 41, 3) := by decide +kernel
theorem dX5_neededOne_16 : decode cX5_neededOne 16 = .ok (.aload_n 0, 1) := by decide +kernel
theorem dX5_neededOne_17 : decode cX5_neededOne 17 = .ok (.iload_n 3, 1) := by decide +kernel
theorem dX5_neededOne_18 : decode cX5_neededOne 18 = .ok (.invokevirtual 199, 3) := by decide +kernel
theorem dX5_neededOne_21 : decode cX5_neededOne 21 = .ok (.istore 4, 2) := by decide +kernel
theorem dX5_neededOne_23 : decode cX5_neededOne 23 = .ok (.iload 4, 2) := by decide +kernel
theorem dX5_neededOne_25 : decode cX5_neededOne 25 = .ok (.iload_n 2, 1) := by decide +kernel
theorem dX5_neededOne_26 : decode cX5_neededOne 26 = .ok (.if_icmp .ge 7, 3) := by decide +kernel
theorem dX5_neededOne_29 : decode cX5_neededOne 29 = .ok (.iload_n 3, 1) := by decide +kernel
theorem dX5_neededOne_30 : decode cX5_neededOne 30 = .ok (.goto 4, 3) := by decide +kernel
theorem dX5_neededOne_33 : decode cX5_neededOne 33 = .ok (.iload_n 1, 1) := by decide +kernel
theorem dX5_neededOne_34 : decode cX5_neededOne 34 = .ok (.istore_n 1, 1) := by decide +kernel
theorem dX5_neededOne_35 : decode cX5_neededOne 35 = .ok (.iload 4, 2) := by decide +kernel
theorem dX5_neededOne_37 : decode cX5_neededOne 37 = .ok (.iload_n 2, 1) := by decide +kernel
theorem dX5_neededOne_38 : decode cX5_neededOne 38 = .ok (.if_icmp .ge 8, 3) := by decide +kernel
theorem dX5_neededOne_41 : decode cX5_neededOne 41 = .ok (.iload 4, 2) := by decide +kernel
theorem dX5_neededOne_43 : decode cX5_neededOne 43 = .ok (.goto 4, 3) := by decide +kernel
theorem dX5_neededOne_46 : decode cX5_neededOne 46 = .ok (.iload_n 2, 1) := by decide +kernel
theorem dX5_neededOne_47 : decode cX5_neededOne 47 = .ok (.istore_n 2, 1) := by decide +kernel
theorem dX5_neededOne_48 : decode cX5_neededOne 48 = .ok (.iinc 3 1, 3) := by decide +kernel
theorem dX5_neededOne_51 : decode cX5_neededOne 51 = .ok (.goto (-41), 3) := by decide +kernel
theorem dX5_neededOne_54 : decode cX5_neededOne 54 = .ok (.iload_n 1, 1) := by decide +kernel
theorem dX5_neededOne_55 : decode cX5_neededOne 55 = .ok (.ireturn, 1) := by decide +kernel
set_option maxRecDepth 100000 in
set_option maxHeartbeats 4000000 in
theorem mt_X5_neededOne (r0 : Option Nat) (S0 : PH) (y : Int32 × PH) (h : m_X5_neededOne r0 S0 = some y) : MT yX5_neededOne (.code yX5_neededOne cX5_neededOne 5 (Option.some FieldType.int)) 5 120 0 0 [va_rf r0] S0 (oQ e_I (qN y)) := by
  refine mt_of (own := RX5) (l0 := [(0, va_rf r0)]) rfl rfl (by cases r0 <;> exact Nat.le_of_ble_eq_true rfl) (by cases r0 <;> rfl) ?_
  intro Z hC hQ hE hN
  unfold m_X5_neededOne at h
  refine x_iconst (v := (0 : Int32)) hC dX5_neededOne_0 (by decide) ?_
  refine x_istore_n (i := 1) (l' := [(1, .int (0 : Int32)), (0, va_rf r0)]) hC dX5_neededOne_1 rfl (⟨fun _ => c_rf r0, trivial⟩) (by decide) rfl ?_
  refine x_aload_n (i := 0) hC dX5_neededOne_2 rfl 1 rfl ?_
  refine x_iconst (v := (0 : Int32)) hC dX5_neededOne_3 (by decide) ?_
  replace h := dr_el h
  obtain ⟨a1, ea2, ha3, h⟩ := h
  replace h := bd_el h
  obtain ⟨v4, S5, hb6, h⟩ := h
  refine x_callV hC (st := []) (mt_X5_mostWithout _ _ _ _ hb6) ea2 ha3 kf_5 q_1195 q_1197 qs_84 q_7 q_1198 ⟨rfl, hy_X5_mostWithout⟩ ⟨Nat.le_of_ble_eq_true rfl, Nat.le_of_ble_eq_true rfl⟩ ⟨Nat.le_of_ble_eq_true rfl, Nat.le_of_ble_eq_true rfl⟩ rfl (Nat.le_of_ble_eq_true rfl) dX5_neededOne_4 (r_N ?_) r_NX
  show PX Z 5 S5 0 0 7 [(1, .int (0 : Int32)), (0, va_rf r0)] [.int v4]
  refine x_istore_n (i := 2) (l' := [(2, .int v4), (1, .int (0 : Int32)), (0, va_rf r0)]) hC dX5_neededOne_7 rfl (⟨fun _ => rfl, ⟨fun _ => c_rf r0, trivial⟩⟩) (by decide) rfl ?_
  refine x_iconst (v := (1 : Int32)) hC dX5_neededOne_8 (by decide) ?_
  refine x_istore_n (i := 3) (l' := [(3, .int (1 : Int32)), (2, .int v4), (1, .int (0 : Int32)), (0, va_rf r0)]) hC dX5_neededOne_9 rfl (⟨fun _ => rfl, ⟨fun _ => rfl, ⟨fun _ => c_rf r0, trivial⟩⟩⟩) (by decide) rfl ?_
  refine x_sub (l' := [(0, va_rf r0), (1, .int (0 : Int32)), (2, .int v4), (3, .int (1 : Int32))]) [3, 2, 1, 0] rfl ?_
  refine lp_sim (P := fun (t : (Int32 × Int32 × Int32 × PH)) => PX Z 5 t.2.2.2 0 0 10 [(0, va_rf r0), (1, .int t.1), (2, .int t.2.1), (3, .int t.2.2.1)] []) (G := fun r => r = y) ?_ h rfl
  clear h
  intro t x_10 h hg_10
  obtain ⟨v7, v8, v9, S10⟩ := t
  show PX Z 5 S10 0 0 10 [(0, va_rf r0), (1, .int v7), (2, .int v8), (3, .int v9)] []
  have J_34 : ∀ (v19 : Int32) (v20 : Int32) (v21 : Int32) (v22 : Int32) (S23 : PH), j_X5_neededOne_34 r0 v19 v20 v21 v22 S23 = some x_10 → PX Z 5 S23 0 0 34 [(0, va_rf r0), (2, .int v19), (3, .int v20), (4, .int v21)] [.int v22] := by
    intro v19 v20 v21 v22 S23 h
    unfold j_X5_neededOne_34 at h
    refine x_istore_n (i := 1) (l' := [(1, .int v22), (0, va_rf r0), (2, .int v19), (3, .int v20), (4, .int v21)]) hC dX5_neededOne_34 rfl (⟨fun _ => c_rf r0, ⟨fun _ => rfl, ⟨fun _ => rfl, ⟨fun _ => rfl, trivial⟩⟩⟩⟩) (by decide) rfl ?_
    refine x_iload (i := 4) hC dX5_neededOne_35 4 rfl ?_
    refine x_iload_n (i := 2) hC dX5_neededOne_37 rfl 2 rfl ?_
    refine x_icmp_ge (t := 46) hC dX5_neededOne_38 (by decide) (fun c24 => ?_) (fun c24 => ?_)
    · replace h := it_t c24 h
      refine x_iload_n (i := 2) hC dX5_neededOne_46 rfl 2 rfl ?_
      refine x_istore_n (i := 2) (l' := [(2, .int v19), (1, .int v22), (0, va_rf r0), (3, .int v20), (4, .int v21)]) hC dX5_neededOne_47 rfl (⟨fun _ => rfl, ⟨fun _ => c_rf r0, ⟨fun _ => rfl, ⟨fun _ => rfl, ⟨fun _ => rfl, trivial⟩⟩⟩⟩⟩) (by decide) rfl ?_
      refine x_iinc (i := 3) (v := (v20 + (1 : Int32))) (l' := [(3, .int (v20 + (1 : Int32))), (2, .int v19), (1, .int v22), (0, va_rf r0), (4, .int v21)]) hC dX5_neededOne_48 3 rfl rfl (⟨fun _ => rfl, ⟨fun _ => rfl, ⟨fun _ => c_rf r0, ⟨fun _ => rfl, ⟨fun _ => rfl, trivial⟩⟩⟩⟩⟩) (by decide) rfl ?_
      refine x_goto (t := 10) hC dX5_neededOne_51 (by decide) ?_
      refine x_sub (l' := [(0, va_rf r0), (1, .int v22), (2, .int v19), (3, .int (v20 + (1 : Int32)))]) [3, 2, 1, 0] rfl ?_
      have hb := bk_x h hg_10
      exact hb
    · replace h := it_f c24 h
      refine x_iload (i := 4) hC dX5_neededOne_41 4 rfl ?_
      refine x_goto (t := 47) hC dX5_neededOne_43 (by decide) ?_
      refine x_istore_n (i := 2) (l' := [(2, .int v21), (1, .int v22), (0, va_rf r0), (3, .int v20), (4, .int v21)]) hC dX5_neededOne_47 rfl (⟨fun _ => rfl, ⟨fun _ => c_rf r0, ⟨fun _ => rfl, ⟨fun _ => rfl, ⟨fun _ => rfl, trivial⟩⟩⟩⟩⟩) (by decide) rfl ?_
      refine x_iinc (i := 3) (v := (v20 + (1 : Int32))) (l' := [(3, .int (v20 + (1 : Int32))), (2, .int v21), (1, .int v22), (0, va_rf r0), (4, .int v21)]) hC dX5_neededOne_48 3 rfl rfl (⟨fun _ => rfl, ⟨fun _ => rfl, ⟨fun _ => c_rf r0, ⟨fun _ => rfl, ⟨fun _ => rfl, trivial⟩⟩⟩⟩⟩) (by decide) rfl ?_
      refine x_goto (t := 10) hC dX5_neededOne_51 (by decide) ?_
      refine x_sub (l' := [(0, va_rf r0), (1, .int v22), (2, .int v21), (3, .int (v20 + (1 : Int32)))]) [3, 2, 1, 0] rfl ?_
      have hb := bk_x h hg_10
      exact hb
  unfold st_X5_neededOne_10 at h
  refine x_iload_n (i := 3) hC dX5_neededOne_10 rfl 3 rfl ?_
  refine x_bipush (v := (8 : Int32)) hC dX5_neededOne_11 (by decide) ?_
  refine x_icmp_ge (t := 54) hC dX5_neededOne_13 (by decide) (fun c11 => ?_) (fun c11 => ?_)
  · replace h := it_t c11 h
    replace h := ir_x h hg_10
    refine x_iload_n (i := 1) hC dX5_neededOne_54 rfl 1 rfl ?_
    exact x_iret hC hQ (z_N (Option.some.inj h)) (Nat.le_of_ble_eq_true rfl) (Nat.le_of_ble_eq_true rfl) dX5_neededOne_55
  · replace h := it_f c11 h
    refine x_aload_n (i := 0) hC dX5_neededOne_16 rfl 0 rfl ?_
    refine x_iload_n (i := 3) hC dX5_neededOne_17 rfl 3 rfl ?_
    replace h := dr_el h
    obtain ⟨a12, ea13, ha14, h⟩ := h
    replace h := bd_el h
    obtain ⟨v15, S16, hb17, h⟩ := h
    refine x_callV hC (st := []) (mt_X5_mostWithout _ _ _ _ hb17) ea13 ha14 kf_5 q_1195 q_1197 qs_84 q_7 q_1198 ⟨rfl, hy_X5_mostWithout⟩ ⟨Nat.le_of_ble_eq_true rfl, Nat.le_of_ble_eq_true rfl⟩ ⟨Nat.le_of_ble_eq_true rfl, Nat.le_of_ble_eq_true rfl⟩ rfl (Nat.le_of_ble_eq_true rfl) dX5_neededOne_18 (r_N ?_) r_NX
    show PX Z 5 S16 0 0 21 [(0, va_rf r0), (1, .int v7), (2, .int v8), (3, .int v9)] [.int v15]
    refine x_istore (i := 4) (l' := [(4, .int v15), (0, va_rf r0), (1, .int v7), (2, .int v8), (3, .int v9)]) hC dX5_neededOne_21 (⟨fun _ => c_rf r0, ⟨fun _ => rfl, ⟨fun _ => rfl, ⟨fun _ => rfl, trivial⟩⟩⟩⟩) (by decide) rfl ?_
    refine x_iload (i := 4) hC dX5_neededOne_23 0 rfl ?_
    refine x_iload_n (i := 2) hC dX5_neededOne_25 rfl 3 rfl ?_
    refine x_icmp_ge (t := 33) hC dX5_neededOne_26 (by decide) (fun c18 => ?_) (fun c18 => ?_)
    · replace h := it_t c18 h
      refine x_iload_n (i := 1) hC dX5_neededOne_33 rfl 2 rfl ?_
      refine x_sub (l' := [(0, va_rf r0), (2, .int v8), (3, .int v9), (4, .int v15)]) [1, 3, 4, 0] rfl ?_
      exact J_34 _ _ _ _ _ h
    · replace h := it_f c18 h
      refine x_iload_n (i := 3) hC dX5_neededOne_29 rfl 4 rfl ?_
      refine x_goto (t := 34) hC dX5_neededOne_30 (by decide) ?_
      refine x_sub (l' := [(0, va_rf r0), (2, .int v8), (3, .int v9), (4, .int v15)]) [1, 3, 4, 0] rfl ?_
      exact J_34 _ _ _ _ _ h
theorem dX5_needed_0 : decode cX5_needed 0 = .ok (.aload_n 0, 1) := by decide +kernel
theorem dX5_needed_1 : decode cX5_needed 1 = .ok (.iconst 0, 1) := by decide +kernel
theorem dX5_needed_2 : decode cX5_needed 2 = .ok (.putfield 23, 3) := by decide +kernel
theorem dX5_needed_5 : decode cX5_needed 5 = .ok (.aload_n 0, 1) := by decide +kernel
theorem dX5_needed_6 : decode cX5_needed 6 = .ok (.invokevirtual 202, 3) := by decide +kernel
theorem dX5_needed_9 : decode cX5_needed 9 = .ok (.ireturn, 1) := by decide +kernel
set_option maxRecDepth 100000 in
set_option maxHeartbeats 4000000 in
theorem mt_X5_needed (r0 : Option Nat) (S0 : PH) (y : Int32 × PH) (h : m_X5_needed r0 S0 = some y) : MT yX5_needed (.code yX5_needed cX5_needed 1 (Option.some FieldType.int)) 6 144 0 0 [va_rf r0] S0 (oQ e_I (qN y)) := by
  refine mt_of (own := RX5) (l0 := [(0, va_rf r0)]) rfl rfl (by cases r0 <;> exact Nat.le_of_ble_eq_true rfl) (by cases r0 <;> rfl) ?_
  intro Z hC hQ hE hN
  unfold m_X5_needed at h
  refine x_aload_n (i := 0) hC dX5_needed_0 rfl 0 rfl ?_
  refine x_iconst (v := (0 : Int32)) hC dX5_needed_1 (by decide) ?_
  replace h := dr_el h
  obtain ⟨a1, ea2, ha3, h⟩ := h
  replace h := le_el h
  obtain ⟨S4, hx5, h⟩ := h
  refine x_putI hC ea2 ha3 kf_5 0 (by decide) rfl rfl q_863 (Or.inl rfl) dX5_needed_2 ?_
  refine x_tS hx5 ?_
  refine x_aload_n (i := 0) hC dX5_needed_5 rfl 0 rfl ?_
  replace h := dr_el h
  obtain ⟨a6, ea7, ha8, h⟩ := h
  replace h := bd_el h
  obtain ⟨v9, S10, hb11, h⟩ := h
  refine x_callV hC (st := []) (mt_X5_neededOne _ _ _ hb11) ea7 ha8 kf_5 q_1207 q_1209 qs_86 q_7 q_1210 ⟨rfl, hy_X5_neededOne⟩ ⟨Nat.le_of_ble_eq_true rfl, Nat.le_of_ble_eq_true rfl⟩ ⟨Nat.le_of_ble_eq_true rfl, Nat.le_of_ble_eq_true rfl⟩ rfl (Nat.le_of_ble_eq_true rfl) dX5_needed_6 (r_N ?_) r_NX
  show PX Z 1 S10 0 0 9 [(0, va_rf r0)] [.int v9]
  exact x_iret hC hQ (z_N (Option.some.inj h)) (Nat.le_of_ble_eq_true rfl) (Nat.le_of_ble_eq_true rfl) dX5_needed_9
theorem dX5_talked_0 : decode cX5_talked 0 = .ok (.iconst 0, 1) := by decide +kernel
theorem dX5_talked_1 : decode cX5_talked 1 = .ok (.istore_n 2, 1) := by decide +kernel
theorem dX5_talked_2 : decode cX5_talked 2 = .ok (.iconst 0, 1) := by decide +kernel
theorem dX5_talked_3 : decode cX5_talked 3 = .ok (.istore_n 3, 1) := by decide +kernel
theorem dX5_talked_4 : decode cX5_talked 4 = .ok (.iload_n 3, 1) := by decide +kernel
theorem dX5_talked_5 : decode cX5_talked 5 = .ok (.iload_n 1, 1) := by decide +kernel
theorem dX5_talked_6 : decode cX5_talked 6 = .ok (.if_icmp .ge 18, 3) := by decide +kernel
theorem dX5_talked_9 : decode cX5_talked 9 = .ok (.iload_n 2, 1) := by decide +kernel
theorem dX5_talked_10 : decode cX5_talked 10 = .ok (.aload_n 0, 1) := by decide +kernel
theorem dX5_talked_11 : decode cX5_talked 11 = .ok (.getfield 20, 3) := by decide +kernel
theorem dX5_talked_14 : decode cX5_talked 14 = .ok (.iload_n 3, 1) := by decide +kernel
theorem dX5_talked_15 : decode cX5_talked 15 = .ok (.iaload, 1) := by decide +kernel
theorem dX5_talked_16 : decode cX5_talked 16 = .ok (.iadd, 1) := by decide +kernel
theorem dX5_talked_17 : decode cX5_talked 17 = .ok (.istore_n 2, 1) := by decide +kernel
theorem dX5_talked_18 : decode cX5_talked 18 = .ok (.iinc 3 1, 3) := by decide +kernel
theorem dX5_talked_21 : decode cX5_talked 21 = .ok (.goto (-17), 3) := by decide +kernel
theorem dX5_talked_24 : decode cX5_talked 24 = .ok (.iload_n 2, 1) := by decide +kernel
theorem dX5_talked_25 : decode cX5_talked 25 = .ok (.iload_n 1, 1) := by decide +kernel
theorem dX5_talked_26 : decode cX5_talked 26 = .ok (.idiv, 1) := by decide +kernel
theorem dX5_talked_27 : decode cX5_talked 27 = .ok (.istore_n 3, 1) := by decide +kernel
theorem dX5_talked_28 : decode cX5_talked 28 = .ok (.iconst 0, 1) := by decide +kernel
theorem dX5_talked_29 : decode cX5_talked 29 = .ok (.istore 4, 2) := by decide +kernel
theorem dX5_talked_31 : decode cX5_talked 31 = .ok (.iload 4, 2) := by decide +kernel
theorem dX5_talked_33 : decode cX5_talked 33 = .ok (.iload_n 1, 1) := by decide +kernel
theorem dX5_talked_34 : decode cX5_talked 34 = .ok (.if_icmp .ge 50, 3) := by decide +kernel
theorem dX5_talked_37 : decode cX5_talked 37 = .ok (.aload_n 0, 1) := by decide +kernel
theorem dX5_talked_38 : decode cX5_talked 38 = .ok (.getfield 20, 3) := by decide +kernel
theorem dX5_talked_41 : decode cX5_talked 41 = .ok (.iload 4, 2) := by decide +kernel
theorem dX5_talked_43 : decode cX5_talked 43 = .ok (.dup2, 1) := by decide +kernel
theorem dX5_talked_44 : decode cX5_talked 44 = .ok (.iaload, 1) := by decide +kernel
theorem dX5_talked_45 : decode cX5_talked 45 = .ok (.aload_n 0, 1) := by decide +kernel
theorem dX5_talked_46 : decode cX5_talked 46 = .ok (.getfield 20, 3) := by decide +kernel
theorem dX5_talked_49 : decode cX5_talked 49 = .ok (.iload 4, 2) := by decide +kernel
theorem dX5_talked_51 : decode cX5_talked 51 = .ok (.iaload, 1) := by decide +kernel
theorem dX5_talked_52 : decode cX5_talked 52 = .ok (.iload_n 3, 1) := by decide +kernel
theorem dX5_talked_53 : decode cX5_talked 53 = .ok (.if_icmp .ge 7, 3) := by decide +kernel
theorem dX5_talked_56 : decode cX5_talked 56 = .ok (.iconst 1, 1) := by decide +kernel
theorem dX5_talked_57 : decode cX5_talked 57 = .ok (.goto 19, 3) := by decide +kernel
theorem dX5_talked_60 : decode cX5_talked 60 = .ok (.aload_n 0, 1) := by decide +kernel
theorem dX5_talked_61 : decode cX5_talked 61 = .ok (.getfield 20, 3) := by decide +kernel
theorem dX5_talked_64 : decode cX5_talked 64 = .ok (.iload 4, 2) := by decide +kernel
theorem dX5_talked_66 : decode cX5_talked 66 = .ok (.iaload, 1) := by decide +kernel
theorem dX5_talked_67 : decode cX5_talked 67 = .ok (.iload_n 3, 1) := by decide +kernel
theorem dX5_talked_68 : decode cX5_talked 68 = .ok (.if_icmp .le 7, 3) := by decide +kernel
theorem dX5_talked_71 : decode cX5_talked 71 = .ok (.iconst (-1), 1) := by decide +kernel
theorem dX5_talked_72 : decode cX5_talked 72 = .ok (.goto 4, 3) := by decide +kernel
theorem dX5_talked_75 : decode cX5_talked 75 = .ok (.iconst 0, 1) := by decide +kernel
theorem dX5_talked_76 : decode cX5_talked 76 = .ok (.iadd, 1) := by decide +kernel
theorem dX5_talked_77 : decode cX5_talked 77 = .ok (.iastore, 1) := by decide +kernel
theorem dX5_talked_78 : decode cX5_talked 78 = .ok (.iinc 4 1, 3) := by decide +kernel
theorem dX5_talked_81 : decode cX5_talked 81 = .ok (.goto (-50), 3) := by decide +kernel
theorem dX5_talked_84 : decode cX5_talked 84 = .ok (.iconst 0, 1) := by decide +kernel
theorem dX5_talked_85 : decode cX5_talked 85 = .ok (.istore 4, 2) := by decide +kernel
theorem dX5_talked_87 : decode cX5_talked 87 = .ok (.iconst 0, 1) := by decide +kernel
theorem dX5_talked_88 : decode cX5_talked 88 = .ok (.istore 5, 2) := by decide +kernel
theorem dX5_talked_90 : decode cX5_talked 90 = .ok (.iload 5, 2) := by decide +kernel
theorem dX5_talked_92 : decode cX5_talked 92 = .ok (.iload_n 1, 1) := by decide +kernel
theorem dX5_talked_93 : decode cX5_talked 93 = .ok (.iload_n 1, 1) := by decide +kernel
theorem dX5_talked_94 : decode cX5_talked 94 = .ok (.imul, 1) := by decide +kernel
theorem dX5_talked_95 : decode cX5_talked 95 = .ok (.if_icmp .ge 46, 3) := by decide +kernel
theorem dX5_talked_98 : decode cX5_talked 98 = .ok (.aload_n 0, 1) := by decide +kernel
theorem dX5_talked_99 : decode cX5_talked 99 = .ok (.getfield 20, 3) := by decide +kernel
theorem dX5_talked_102 : decode cX5_talked 102 = .ok (.iload 5, 2) := by decide +kernel
theorem dX5_talked_104 : decode cX5_talked 104 = .ok (.iload_n 1, 1) := by decide +kernel
theorem dX5_talked_105 : decode cX5_talked 105 = .ok (.idiv, 1) := by decide +kernel
theorem dX5_talked_106 : decode cX5_talked 106 = .ok (.iaload, 1) := by decide +kernel
theorem dX5_talked_107 : decode cX5_talked 107 = .ok (.aload_n 0, 1) := by decide +kernel
theorem dX5_talked_108 : decode cX5_talked 108 = .ok (.getfield 20, 3) := by decide +kernel
theorem dX5_talked_111 : decode cX5_talked 111 = .ok (.iload 5, 2) := by decide +kernel
theorem dX5_talked_113 : decode cX5_talked 113 = .ok (.iload_n 1, 1) := by decide +kernel
theorem dX5_talked_114 : decode cX5_talked 114 = .ok (.irem, 1) := by decide +kernel
theorem dX5_talked_115 : decode cX5_talked 115 = .ok (.iaload, 1) := by decide +kernel
theorem dX5_talked_116 : decode cX5_talked 116 = .ok (.isub, 1) := by decide +kernel
theorem dX5_talked_117 : decode cX5_talked 117 = .ok (.istore 6, 2) := by decide +kernel
theorem dX5_talked_119 : decode cX5_talked 119 = .ok (.iload 6, 2) := by decide +kernel
theorem dX5_talked_121 : decode cX5_talked 121 = .ok (.iload 4, 2) := by decide +kernel
theorem dX5_talked_123 : decode cX5_talked 123 = .ok (.if_icmp .le 8, 3) := by decide +kernel
theorem dX5_talked_126 : decode cX5_talked 126 = .ok (.iload 6, 2) := by decide +kernel
theorem dX5_talked_128 : decode cX5_talked 128 = .ok (.goto 5, 3) := by decide +kernel
theorem dX5_talked_131 : decode cX5_talked 131 = .ok (.iload 4, 2) := by decide +kernel
theorem dX5_talked_133 : decode cX5_talked 133 = .ok (.istore 4, 2) := by decide +kernel
theorem dX5_talked_135 : decode cX5_talked 135 = .ok (.iinc 5 1, 3) := by decide +kernel
theorem dX5_talked_138 : decode cX5_talked 138 = .ok (.goto (-48), 3) := by decide +kernel
theorem dX5_talked_141 : decode cX5_talked 141 = .ok (.iload 4, 2) := by decide +kernel
theorem dX5_talked_143 : decode cX5_talked 143 = .ok (.ireturn, 1) := by decide +kernel
set_option maxRecDepth 100000 in
set_option maxHeartbeats 4000000 in
theorem mt_X5_talked (r0 : Option Nat) (i1 : Int32) (S0 : PH) (y : Int32 × PH) (h : m_X5_talked r0 i1 S0 = some y) : MT yX5_talked (.code yX5_talked cX5_talked 7 (Option.some FieldType.int)) 0 0 0 0 [va_rf r0, .int i1] S0 (oQ e_I (qN y)) := by
  refine mt_of (own := RX5) (l0 := [(0, va_rf r0), (1, .int i1)]) rfl rfl (by cases r0 <;> exact Nat.le_of_ble_eq_true rfl) (by cases r0 <;> rfl) ?_
  intro Z hC hQ hE hN
  unfold m_X5_talked at h
  refine x_iconst (v := (0 : Int32)) hC dX5_talked_0 (by decide) ?_
  refine x_istore_n (i := 2) (l' := [(2, .int (0 : Int32)), (0, va_rf r0), (1, .int i1)]) hC dX5_talked_1 rfl (⟨fun _ => c_rf r0, ⟨fun _ => rfl, trivial⟩⟩) (by decide) rfl ?_
  refine x_iconst (v := (0 : Int32)) hC dX5_talked_2 (by decide) ?_
  refine x_istore_n (i := 3) (l' := [(3, .int (0 : Int32)), (2, .int (0 : Int32)), (0, va_rf r0), (1, .int i1)]) hC dX5_talked_3 rfl (⟨fun _ => rfl, ⟨fun _ => c_rf r0, ⟨fun _ => rfl, trivial⟩⟩⟩) (by decide) rfl ?_
  refine x_sub (l' := [(0, va_rf r0), (1, .int i1), (2, .int (0 : Int32)), (3, .int (0 : Int32))]) [2, 3, 1, 0] rfl ?_
  refine lp_sim (P := fun (t : (Int32 × Int32 × PH)) => PX Z 7 t.2.2 0 0 4 [(0, va_rf r0), (1, .int i1), (2, .int t.1), (3, .int t.2.1)] []) (G := fun r => r = y) ?_ h rfl
  clear h
  intro t x_4 h hg_4
  obtain ⟨v1, v2, S3⟩ := t
  show PX Z 7 S3 0 0 4 [(0, va_rf r0), (1, .int i1), (2, .int v1), (3, .int v2)] []
  unfold st_X5_talked_4 at h
  refine x_iload_n (i := 3) hC dX5_talked_4 rfl 3 rfl ?_
  refine x_iload_n (i := 1) hC dX5_talked_5 rfl 1 rfl ?_
  refine x_icmp_ge (t := 24) hC dX5_talked_6 (by decide) (fun c4 => ?_) (fun c4 => ?_)
  · replace h := it_t c4 h
    replace h := ir_x h hg_4
    refine x_iload_n (i := 2) hC dX5_talked_24 rfl 2 rfl ?_
    refine x_iload_n (i := 1) hC dX5_talked_25 rfl 1 rfl ?_
    replace h := ck_el h
    obtain ⟨hc5, h⟩ := h
    refine x_idiv hC dX5_talked_26 (of_decide_eq_true hc5) ?_
    replace h := le_el h
    obtain ⟨x6, hx7, h⟩ := h
    refine x_tI hx7 ?_
    refine x_istore_n (i := 3) (l' := [(3, .int x6), (0, va_rf r0), (1, .int i1), (2, .int v1)]) hC dX5_talked_27 rfl (⟨fun _ => c_rf r0, ⟨fun _ => rfl, ⟨fun _ => rfl, ⟨fun _ => rfl, trivial⟩⟩⟩⟩) (by decide) rfl ?_
    refine x_iconst (v := (0 : Int32)) hC dX5_talked_28 (by decide) ?_
    refine x_istore (i := 4) (l' := [(4, .int (0 : Int32)), (3, .int x6), (0, va_rf r0), (1, .int i1), (2, .int v1)]) hC dX5_talked_29 (⟨fun _ => rfl, ⟨fun _ => c_rf r0, ⟨fun _ => rfl, ⟨fun _ => rfl, trivial⟩⟩⟩⟩) (by decide) rfl ?_
    refine x_sub (l' := [(0, va_rf r0), (1, .int i1), (3, .int x6), (4, .int (0 : Int32))]) [2, 3, 1, 0] rfl ?_
    refine lp_sim (P := fun (t : (Int32 × Int32 × PH)) => PX Z 7 t.2.2 0 0 31 [(0, va_rf r0), (1, .int i1), (3, .int t.1), (4, .int t.2.1)] []) (G := fun r => r = y) ?_ h rfl
    clear h
    intro t x_31 h hg_31
    obtain ⟨v8, v9, S10⟩ := t
    show PX Z 7 S10 0 0 31 [(0, va_rf r0), (1, .int i1), (3, .int v8), (4, .int v9)] []
    have J_76 : ∀ (v40 : Int32) (v41 : Int32) (v42 : Option Nat) (v43 : Int32) (v44 : Int32) (v45 : Int32) (S46 : PH), j_X5_talked_76 r0 i1 v40 v41 v42 v43 v44 v45 S46 = some x_31 → PX Z 7 S46 0 0 76 [(0, va_rf r0), (1, .int i1), (3, .int v40), (4, .int v41)] [.int v45, .int v44, .int v43, va_rf v42] := by
      intro v40 v41 v42 v43 v44 v45 S46 h
      unfold j_X5_talked_76 at h
      refine x_iadd hC dX5_talked_76 ?_
      replace h := dr_el h
      obtain ⟨a47, ea48, ha49, h⟩ := h
      replace h := ck_el h
      obtain ⟨hc50, h⟩ := h
      replace h := le_el h
      obtain ⟨S51, hx52, h⟩ := h
      refine x_iastore hC ea48 ha49 hc50 dX5_talked_77 ?_
      refine x_tS hx52 ?_
      refine x_iinc (i := 4) (v := (v41 + (1 : Int32))) (l' := [(4, .int (v41 + (1 : Int32))), (0, va_rf r0), (1, .int i1), (3, .int v40)]) hC dX5_talked_78 3 rfl rfl (⟨fun _ => c_rf r0, ⟨fun _ => rfl, ⟨fun _ => rfl, ⟨fun _ => rfl, trivial⟩⟩⟩⟩) (by decide) rfl ?_
      refine x_goto (t := 31) hC dX5_talked_81 (by decide) ?_
      refine x_sub (l' := [(0, va_rf r0), (1, .int i1), (3, .int v40), (4, .int (v41 + (1 : Int32)))]) [1, 2, 3, 0] rfl ?_
      have hb := bk_x h hg_31
      exact hb
    unfold st_X5_talked_31 at h
    refine x_iload (i := 4) hC dX5_talked_31 3 rfl ?_
    refine x_iload_n (i := 1) hC dX5_talked_33 rfl 1 rfl ?_
    refine x_icmp_ge (t := 84) hC dX5_talked_34 (by decide) (fun c11 => ?_) (fun c11 => ?_)
    · replace h := it_t c11 h
      replace h := ir_x h hg_31
      refine x_iconst (v := (0 : Int32)) hC dX5_talked_84 (by decide) ?_
      refine x_istore (i := 4) (l' := [(4, .int (0 : Int32)), (0, va_rf r0), (1, .int i1), (3, .int v8)]) hC dX5_talked_85 (⟨fun _ => c_rf r0, ⟨fun _ => rfl, ⟨fun _ => rfl, ⟨fun _ => rfl, trivial⟩⟩⟩⟩) (by decide) rfl ?_
      refine x_iconst (v := (0 : Int32)) hC dX5_talked_87 (by decide) ?_
      refine x_istore (i := 5) (l' := [(5, .int (0 : Int32)), (4, .int (0 : Int32)), (0, va_rf r0), (1, .int i1), (3, .int v8)]) hC dX5_talked_88 (⟨fun _ => rfl, ⟨fun _ => c_rf r0, ⟨fun _ => rfl, ⟨fun _ => rfl, trivial⟩⟩⟩⟩) (by decide) rfl ?_
      refine x_sub (l' := [(0, va_rf r0), (1, .int i1), (4, .int (0 : Int32)), (5, .int (0 : Int32))]) [2, 3, 1, 0] rfl ?_
      refine lp_sim (P := fun (t : (Int32 × Int32 × PH)) => PX Z 7 t.2.2 0 0 90 [(0, va_rf r0), (1, .int i1), (4, .int t.1), (5, .int t.2.1)] []) (G := fun r => r = y) ?_ h rfl
      clear h
      intro t x_90 h hg_90
      obtain ⟨v12, v13, S14⟩ := t
      show PX Z 7 S14 0 0 90 [(0, va_rf r0), (1, .int i1), (4, .int v12), (5, .int v13)] []
      unfold st_X5_talked_90 at h
      refine x_iload (i := 5) hC dX5_talked_90 3 rfl ?_
      refine x_iload_n (i := 1) hC dX5_talked_92 rfl 1 rfl ?_
      refine x_iload_n (i := 1) hC dX5_talked_93 rfl 1 rfl ?_
      refine x_imul hC dX5_talked_94 ?_
      refine x_icmp_ge (t := 141) hC dX5_talked_95 (by decide) (fun c15 => ?_) (fun c15 => ?_)
      · replace h := it_t c15 h
        replace h := ir_x h hg_90
        refine x_iload (i := 4) hC dX5_talked_141 2 rfl ?_
        exact x_iret hC hQ (z_N (Option.some.inj h)) (Nat.le_of_ble_eq_true rfl) (Nat.le_of_ble_eq_true rfl) dX5_talked_143
      · replace h := it_f c15 h
        refine x_aload_n (i := 0) hC dX5_talked_98 rfl 0 rfl ?_
        replace h := dr_el h
        obtain ⟨a16, ea17, ha18, h⟩ := h
        refine x_getR hC ea17 ha18 kf_5 11 (by decide) rfl q_874 dX5_talked_99 ?_
        refine x_iload (i := 5) hC dX5_talked_102 3 rfl ?_
        refine x_iload_n (i := 1) hC dX5_talked_104 rfl 1 rfl ?_
        replace h := ck_el h
        obtain ⟨hc19, h⟩ := h
        refine x_idiv hC dX5_talked_105 (of_decide_eq_true hc19) ?_
        replace h := dr_el h
        obtain ⟨a20, ea21, ha22, h⟩ := h
        replace h := ck_el h
        obtain ⟨hc23, h⟩ := h
        refine x_iaload hC ea21 ha22 hc23 dX5_talked_106 ?_
        refine x_aload_n (i := 0) hC dX5_talked_107 rfl 0 rfl ?_
        refine x_getR hC ea17 ha18 kf_5 11 (by decide) rfl q_874 dX5_talked_108 ?_
        refine x_iload (i := 5) hC dX5_talked_111 3 rfl ?_
        refine x_iload_n (i := 1) hC dX5_talked_113 rfl 1 rfl ?_
        replace h := ck_el h
        obtain ⟨hc24, h⟩ := h
        refine x_irem hC dX5_talked_114 (of_decide_eq_true hc24) ?_
        replace h := ck_el h
        obtain ⟨hc25, h⟩ := h
        refine x_iaload hC ea21 ha22 hc25 dX5_talked_115 ?_
        refine x_isub hC dX5_talked_116 ?_
        replace h := le_el h
        obtain ⟨x26, hx27, h⟩ := h
        refine x_tI hx27 ?_
        refine x_istore (i := 6) (l' := [(6, .int x26), (0, va_rf r0), (1, .int i1), (4, .int v12), (5, .int v13)]) hC dX5_talked_117 (⟨fun _ => c_rf r0, ⟨fun _ => rfl, ⟨fun _ => rfl, ⟨fun _ => rfl, trivial⟩⟩⟩⟩) (by decide) rfl ?_
        refine x_iload (i := 6) hC dX5_talked_119 0 rfl ?_
        refine x_iload (i := 4) hC dX5_talked_121 3 rfl ?_
        refine x_icmp_le (t := 131) hC dX5_talked_123 (by decide) (fun c28 => ?_) (fun c28 => ?_)
        · replace h := it_t c28 h
          refine x_iload (i := 4) hC dX5_talked_131 3 rfl ?_
          refine x_istore (i := 4) (l' := [(4, .int v12), (6, .int x26), (0, va_rf r0), (1, .int i1), (5, .int v13)]) hC dX5_talked_133 (⟨fun _ => rfl, ⟨fun _ => c_rf r0, ⟨fun _ => rfl, ⟨fun _ => rfl, ⟨fun _ => rfl, trivial⟩⟩⟩⟩⟩) (by decide) rfl ?_
          refine x_iinc (i := 5) (v := (v13 + (1 : Int32))) (l' := [(5, .int (v13 + (1 : Int32))), (4, .int v12), (6, .int x26), (0, va_rf r0), (1, .int i1)]) hC dX5_talked_135 4 rfl rfl (⟨fun _ => rfl, ⟨fun _ => rfl, ⟨fun _ => c_rf r0, ⟨fun _ => rfl, ⟨fun _ => rfl, trivial⟩⟩⟩⟩⟩) (by decide) rfl ?_
          refine x_goto (t := 90) hC dX5_talked_138 (by decide) ?_
          refine x_sub (l' := [(0, va_rf r0), (1, .int i1), (4, .int v12), (5, .int (v13 + (1 : Int32)))]) [3, 4, 1, 0] rfl ?_
          have hb := bk_x h hg_90
          exact hb
        · replace h := it_f c28 h
          refine x_iload (i := 6) hC dX5_talked_126 0 rfl ?_
          refine x_goto (t := 133) hC dX5_talked_128 (by decide) ?_
          refine x_istore (i := 4) (l' := [(4, .int x26), (6, .int x26), (0, va_rf r0), (1, .int i1), (5, .int v13)]) hC dX5_talked_133 (⟨fun _ => rfl, ⟨fun _ => c_rf r0, ⟨fun _ => rfl, ⟨fun _ => rfl, ⟨fun _ => rfl, trivial⟩⟩⟩⟩⟩) (by decide) rfl ?_
          refine x_iinc (i := 5) (v := (v13 + (1 : Int32))) (l' := [(5, .int (v13 + (1 : Int32))), (4, .int x26), (6, .int x26), (0, va_rf r0), (1, .int i1)]) hC dX5_talked_135 4 rfl rfl (⟨fun _ => rfl, ⟨fun _ => rfl, ⟨fun _ => c_rf r0, ⟨fun _ => rfl, ⟨fun _ => rfl, trivial⟩⟩⟩⟩⟩) (by decide) rfl ?_
          refine x_goto (t := 90) hC dX5_talked_138 (by decide) ?_
          refine x_sub (l' := [(0, va_rf r0), (1, .int i1), (4, .int x26), (5, .int (v13 + (1 : Int32)))]) [3, 4, 1, 0] rfl ?_
          have hb := bk_x h hg_90
          exact hb
    · replace h := it_f c11 h
      refine x_aload_n (i := 0) hC dX5_talked_37 rfl 0 rfl ?_
      replace h := dr_el h
      obtain ⟨a29, ea30, ha31, h⟩ := h
      refine x_getR hC ea30 ha31 kf_5 11 (by decide) rfl q_874 dX5_talked_38 ?_
      refine x_iload (i := 4) hC dX5_talked_41 3 rfl ?_
      refine x_dup2 hC dX5_talked_43 rfl (c_rf (p_R S10 a29 11)) ?_
      replace h := dr_el h
      obtain ⟨a32, ea33, ha34, h⟩ := h
      replace h := ck_el h
      obtain ⟨hc35, h⟩ := h
      refine x_iaload hC ea33 ha34 hc35 dX5_talked_44 ?_
      refine x_aload_n (i := 0) hC dX5_talked_45 rfl 0 rfl ?_
      refine x_getR hC ea30 ha31 kf_5 11 (by decide) rfl q_874 dX5_talked_46 ?_
      refine x_iload (i := 4) hC dX5_talked_49 3 rfl ?_
      replace h := ck_el h
      obtain ⟨hc36, h⟩ := h
      refine x_iaload hC ea33 ha34 hc36 dX5_talked_51 ?_
      refine x_iload_n (i := 3) hC dX5_talked_52 rfl 2 rfl ?_
      refine x_icmp_ge (t := 60) hC dX5_talked_53 (by decide) (fun c37 => ?_) (fun c37 => ?_)
      · replace h := it_t c37 h
        refine x_aload_n (i := 0) hC dX5_talked_60 rfl 0 rfl ?_
        refine x_getR hC ea30 ha31 kf_5 11 (by decide) rfl q_874 dX5_talked_61 ?_
        refine x_iload (i := 4) hC dX5_talked_64 3 rfl ?_
        replace h := ck_el h
        obtain ⟨hc38, h⟩ := h
        refine x_iaload hC ea33 ha34 hc38 dX5_talked_66 ?_
        refine x_iload_n (i := 3) hC dX5_talked_67 rfl 2 rfl ?_
        refine x_icmp_le (t := 75) hC dX5_talked_68 (by decide) (fun c39 => ?_) (fun c39 => ?_)
        · replace h := it_t c39 h
          refine x_iconst (v := (0 : Int32)) hC dX5_talked_75 (by decide) ?_
          exact J_76 _ _ _ _ _ _ _ h
        · replace h := it_f c39 h
          refine x_iconst (v := (-1 : Int32)) hC dX5_talked_71 (by decide) ?_
          refine x_goto (t := 76) hC dX5_talked_72 (by decide) ?_
          exact J_76 _ _ _ _ _ _ _ h
      · replace h := it_f c37 h
        refine x_iconst (v := (1 : Int32)) hC dX5_talked_56 (by decide) ?_
        refine x_goto (t := 76) hC dX5_talked_57 (by decide) ?_
        exact J_76 _ _ _ _ _ _ _ h
  · replace h := it_f c4 h
    refine x_iload_n (i := 2) hC dX5_talked_9 rfl 2 rfl ?_
    refine x_aload_n (i := 0) hC dX5_talked_10 rfl 0 rfl ?_
    replace h := dr_el h
    obtain ⟨a53, ea54, ha55, h⟩ := h
    refine x_getR hC ea54 ha55 kf_5 11 (by decide) rfl q_874 dX5_talked_11 ?_
    refine x_iload_n (i := 3) hC dX5_talked_14 rfl 3 rfl ?_
    replace h := dr_el h
    obtain ⟨a56, ea57, ha58, h⟩ := h
    replace h := ck_el h
    obtain ⟨hc59, h⟩ := h
    refine x_iaload hC ea57 ha58 hc59 dX5_talked_15 ?_
    refine x_iadd hC dX5_talked_16 ?_
    replace h := le_el h
    obtain ⟨x60, hx61, h⟩ := h
    refine x_tI hx61 ?_
    refine x_istore_n (i := 2) (l' := [(2, .int x60), (0, va_rf r0), (1, .int i1), (3, .int v2)]) hC dX5_talked_17 rfl (⟨fun _ => c_rf r0, ⟨fun _ => rfl, ⟨fun _ => rfl, ⟨fun _ => rfl, trivial⟩⟩⟩⟩) (by decide) rfl ?_
    refine x_iinc (i := 3) (v := (v2 + (1 : Int32))) (l' := [(3, .int (v2 + (1 : Int32))), (2, .int x60), (0, va_rf r0), (1, .int i1)]) hC dX5_talked_18 3 rfl rfl (⟨fun _ => rfl, ⟨fun _ => c_rf r0, ⟨fun _ => rfl, ⟨fun _ => rfl, trivial⟩⟩⟩⟩) (by decide) rfl ?_
    refine x_goto (t := 4) hC dX5_talked_21 (by decide) ?_
    refine x_sub (l' := [(0, va_rf r0), (1, .int i1), (2, .int x60), (3, .int (v2 + (1 : Int32)))]) [2, 3, 1, 0] rfl ?_
    have hb := bk_x h hg_4
    exact hb
theorem dX5_rounds_0 : decode cX5_rounds 0 = .ok (.iconst 0, 1) := by decide +kernel
theorem dX5_rounds_1 : decode cX5_rounds 1 = .ok (.istore_n 2, 1) := by decide +kernel
theorem dX5_rounds_2 : decode cX5_rounds 2 = .ok (.iconst 0, 1) := by decide +kernel
theorem dX5_rounds_3 : decode cX5_rounds 3 = .ok (.istore_n 3, 1) := by decide +kernel
theorem dX5_rounds_4 : decode cX5_rounds 4 = .ok (.iload_n 3, 1) := by decide +kernel
theorem dX5_rounds_5 : decode cX5_rounds 5 = .ok (.bipush 8, 2) := by decide +kernel
theorem dX5_rounds_7 : decode cX5_rounds 7 = .ok (.if_icmp .ge 33, 3) := by decide +kernel
theorem dX5_rounds_10 : decode cX5_rounds 10 = .ok (.aload_n 0, 1) := by decide +kernel
theorem dX5_rounds_11 : decode cX5_rounds 11 = .ok (.iload_n 3, 1) := by decide +kernel
theorem dX5_rounds_12 : decode cX5_rounds 12 = .ok (.iload_n 1, 1) := by decide +kernel
theorem dX5_rounds_13 : decode cX5_rounds 13 = .ok (.invokevirtual 38, 3) := by decide +kernel
theorem dX5_rounds_16 : decode cX5_rounds 16 = .ok (.ifCond .eq 18, 3) := by decide +kernel
theorem dX5_rounds_19 : decode cX5_rounds 19 = .ok (.aload_n 0, 1) := by decide +kernel
theorem dX5_rounds_20 : decode cX5_rounds 20 = .ok (.getfield 20, 3) := by decide +kernel
theorem dX5_rounds_23 : decode cX5_rounds 23 = .ok (.iload_n 2, 1) := by decide +kernel
theorem dX5_rounds_24 : decode cX5_rounds 24 = .ok (.aload_n 0, 1) := by decide +kernel
theorem dX5_rounds_25 : decode cX5_rounds 25 = .ok (.iload_n 3, 1) := by decide +kernel
theorem dX5_rounds_26 : decode cX5_rounds 26 = .ok (.iload_n 1, 1) := by decide +kernel
theorem dX5_rounds_27 : decode cX5_rounds 27 = .ok (.invokevirtual 35, 3) := by decide +kernel
theorem dX5_rounds_30 : decode cX5_rounds 30 = .ok (.iastore, 1) := by decide +kernel
theorem dX5_rounds_31 : decode cX5_rounds 31 = .ok (.iinc 2 1, 3) := by decide +kernel
theorem dX5_rounds_34 : decode cX5_rounds 34 = .ok (.iinc 3 1, 3) := by decide +kernel
theorem dX5_rounds_37 : decode cX5_rounds 37 = .ok (.goto (-33), 3) := by decide +kernel
theorem dX5_rounds_40 : decode cX5_rounds 40 = .ok (.iconst 0, 1) := by decide +kernel
theorem dX5_rounds_41 : decode cX5_rounds 41 = .ok (.istore_n 3, 1) := by decide +kernel
theorem dX5_rounds_42 : decode cX5_rounds 42 = .ok (.aload_n 0, 1) := by decide +kernel
theorem dX5_rounds_43 : decode cX5_rounds 43 = .ok (.iload_n 1, 1) := by decide +kernel
theorem dX5_rounds_44 : decode cX5_rounds 44 = .ok (.invokevirtual 175, 3) := by decide +kernel
theorem dX5_rounds_47 : decode cX5_rounds 47 = .ok (.istore 4, 2) := by decide +kernel
theorem dX5_rounds_49 : decode cX5_rounds 49 = .ok (.iload 4, 2) := by decide +kernel
theorem dX5_rounds_51 : decode cX5_rounds 51 = .ok (.iconst 1, 1) := by decide +kernel
theorem dX5_rounds_52 : decode cX5_rounds 52 = .ok (.if_icmp .le 22, 3) := by decide +kernel
theorem dX5_rounds_55 : decode cX5_rounds 55 = .ok (.iload_n 3, 1) := by decide +kernel
theorem dX5_rounds_56 : decode cX5_rounds 56 = .ok (.bipush 20, 2) := by decide +kernel
theorem dX5_rounds_58 : decode cX5_rounds 58 = .ok (.if_icmp .gt 16, 3) := by decide +kernel
theorem dX5_rounds_61 : decode cX5_rounds 61 = .ok (.aload_n 0, 1) := by decide +kernel
theorem dX5_rounds_62 : decode cX5_rounds 62 = .ok (.iload_n 2, 1) := by decide +kernel
theorem dX5_rounds_63 : decode cX5_rounds 63 = .ok (.invokevirtual 205, 3) := by decide +kernel
theorem dX5_rounds_66 : decode cX5_rounds 66 = .ok (.istore 4, 2) := by decide +kernel
theorem dX5_rounds_68 : decode cX5_rounds 68 = .ok (.iinc 3 1, 3) := by decide +kernel
theorem dX5_rounds_71 : decode cX5_rounds 71 = .ok (.goto (-22), 3) := by decide +kernel
theorem dX5_rounds_74 : decode cX5_rounds 74 = .ok (.iload_n 3, 1) := by decide +kernel
theorem dX5_rounds_75 : decode cX5_rounds 75 = .ok (.bipush 20, 2) := by decide +kernel
theorem dX5_rounds_77 : decode cX5_rounds 77 = .ok (.if_icmp .le 7, 3) := by decide +kernel
theorem dX5_rounds_80 : decode cX5_rounds 80 = .ok (.iconst (-1), 1) := by decide +kernel
theorem dX5_rounds_81 : decode cX5_rounds 81 = .ok (.goto 4, 3) := by decide +kernel
theorem dX5_rounds_84 : decode cX5_rounds 84 = .ok (.iload_n 3, 1) := by decide +kernel
theorem dX5_rounds_85 : decode cX5_rounds 85 = .ok (.ireturn, 1) := by decide +kernel
set_option maxRecDepth 100000 in
set_option maxHeartbeats 4000000 in
theorem mt_X5_rounds (r0 : Option Nat) (i1 : Int32) (S0 : PH) (y : Int32 × PH) (h : m_X5_rounds r0 i1 S0 = some y) : MT yX5_rounds (.code yX5_rounds cX5_rounds 5 (Option.some FieldType.int)) 4 91 0 0 [va_rf r0, .int i1] S0 (oQ e_I (qN y)) := by
  refine mt_of (own := RX5) (l0 := [(0, va_rf r0), (1, .int i1)]) rfl rfl (by cases r0 <;> exact Nat.le_of_ble_eq_true rfl) (by cases r0 <;> rfl) ?_
  intro Z hC hQ hE hN
  have J_74 : ∀ (v16 : Int32) (S17 : PH), j_X5_rounds_74 r0 i1 v16 S17 = some y → PX Z 5 S17 0 0 74 [(0, va_rf r0), (1, .int i1), (3, .int v16)] [] := by
    intro v16 S17 h
    unfold j_X5_rounds_74 at h
    refine x_iload_n (i := 3) hC dX5_rounds_74 rfl 2 rfl ?_
    refine x_bipush (v := (20 : Int32)) hC dX5_rounds_75 (by decide) ?_
    refine x_icmp_le (t := 84) hC dX5_rounds_77 (by decide) (fun c18 => ?_) (fun c18 => ?_)
    · replace h := it_t c18 h
      refine x_iload_n (i := 3) hC dX5_rounds_84 rfl 2 rfl ?_
      exact x_iret hC hQ (z_N (Option.some.inj h)) (Nat.le_of_ble_eq_true rfl) (Nat.le_of_ble_eq_true rfl) dX5_rounds_85
    · replace h := it_f c18 h
      refine x_iconst (v := (-1 : Int32)) hC dX5_rounds_80 (by decide) ?_
      refine x_goto (t := 85) hC dX5_rounds_81 (by decide) ?_
      exact x_iret hC hQ (z_N (Option.some.inj h)) (Nat.le_of_ble_eq_true rfl) (Nat.le_of_ble_eq_true rfl) dX5_rounds_85
  unfold m_X5_rounds at h
  refine x_iconst (v := (0 : Int32)) hC dX5_rounds_0 (by decide) ?_
  refine x_istore_n (i := 2) (l' := [(2, .int (0 : Int32)), (0, va_rf r0), (1, .int i1)]) hC dX5_rounds_1 rfl (⟨fun _ => c_rf r0, ⟨fun _ => rfl, trivial⟩⟩) (by decide) rfl ?_
  refine x_iconst (v := (0 : Int32)) hC dX5_rounds_2 (by decide) ?_
  refine x_istore_n (i := 3) (l' := [(3, .int (0 : Int32)), (2, .int (0 : Int32)), (0, va_rf r0), (1, .int i1)]) hC dX5_rounds_3 rfl (⟨fun _ => rfl, ⟨fun _ => c_rf r0, ⟨fun _ => rfl, trivial⟩⟩⟩) (by decide) rfl ?_
  refine x_sub (l' := [(0, va_rf r0), (1, .int i1), (2, .int (0 : Int32)), (3, .int (0 : Int32))]) [2, 3, 1, 0] rfl ?_
  refine lp_sim (P := fun (t : (Int32 × Int32 × PH)) => PX Z 5 t.2.2 0 0 4 [(0, va_rf r0), (1, .int i1), (2, .int t.1), (3, .int t.2.1)] []) (G := fun r => r = y) ?_ h rfl
  clear h
  intro t x_4 h hg_4
  obtain ⟨v1, v2, S3⟩ := t
  show PX Z 5 S3 0 0 4 [(0, va_rf r0), (1, .int i1), (2, .int v1), (3, .int v2)] []
  unfold st_X5_rounds_4 at h
  refine x_iload_n (i := 3) hC dX5_rounds_4 rfl 3 rfl ?_
  refine x_bipush (v := (8 : Int32)) hC dX5_rounds_5 (by decide) ?_
  refine x_icmp_ge (t := 40) hC dX5_rounds_7 (by decide) (fun c4 => ?_) (fun c4 => ?_)
  · replace h := it_t c4 h
    replace h := ir_x h hg_4
    refine x_iconst (v := (0 : Int32)) hC dX5_rounds_40 (by decide) ?_
    refine x_istore_n (i := 3) (l' := [(3, .int (0 : Int32)), (0, va_rf r0), (1, .int i1), (2, .int v1)]) hC dX5_rounds_41 rfl (⟨fun _ => c_rf r0, ⟨fun _ => rfl, ⟨fun _ => rfl, ⟨fun _ => rfl, trivial⟩⟩⟩⟩) (by decide) rfl ?_
    refine x_aload_n (i := 0) hC dX5_rounds_42 rfl 1 rfl ?_
    refine x_iload_n (i := 1) hC dX5_rounds_43 rfl 2 rfl ?_
    replace h := dr_el h
    obtain ⟨a5, ea6, ha7, h⟩ := h
    replace h := bd_el h
    obtain ⟨v8, S9, hb10, h⟩ := h
    refine x_callV hC (st := []) (mt_X5_difference _ _ _ _ hb10) ea6 ha7 kf_5 q_1147 q_1149 qs_78 q_7 q_1150 ⟨rfl, hy_X5_difference⟩ ⟨Nat.le_of_ble_eq_true rfl, Nat.le_of_ble_eq_true rfl⟩ ⟨Nat.le_of_ble_eq_true rfl, Nat.le_of_ble_eq_true rfl⟩ rfl (Nat.le_of_ble_eq_true rfl) dX5_rounds_44 (r_N ?_) r_NX
    show PX Z 5 S9 0 0 47 [(3, .int (0 : Int32)), (0, va_rf r0), (1, .int i1), (2, .int v1)] [.int v8]
    refine x_istore (i := 4) (l' := [(4, .int v8), (3, .int (0 : Int32)), (0, va_rf r0), (1, .int i1), (2, .int v1)]) hC dX5_rounds_47 (⟨fun _ => rfl, ⟨fun _ => c_rf r0, ⟨fun _ => rfl, ⟨fun _ => rfl, trivial⟩⟩⟩⟩) (by decide) rfl ?_
    refine x_sub (l' := [(0, va_rf r0), (1, .int i1), (2, .int v1), (3, .int (0 : Int32)), (4, .int v8)]) [2, 3, 4, 1, 0] rfl ?_
    refine lp_sim (P := fun (t : (Int32 × Int32 × Int32 × PH)) => PX Z 5 t.2.2.2 0 0 49 [(0, va_rf r0), (1, .int i1), (2, .int t.1), (3, .int t.2.1), (4, .int t.2.2.1)] []) (G := fun r => r = y) ?_ h rfl
    clear h
    intro t x_49 h hg_49
    obtain ⟨v11, v12, v13, S14⟩ := t
    show PX Z 5 S14 0 0 49 [(0, va_rf r0), (1, .int i1), (2, .int v11), (3, .int v12), (4, .int v13)] []
    unfold st_X5_rounds_49 at h
    refine x_iload (i := 4) hC dX5_rounds_49 4 rfl ?_
    refine x_iconst (v := (1 : Int32)) hC dX5_rounds_51 (by decide) ?_
    refine x_icmp_le (t := 74) hC dX5_rounds_52 (by decide) (fun c15 => ?_) (fun c15 => ?_)
    · replace h := it_t c15 h
      replace h := ir_x h hg_49
      refine x_sub (l' := [(0, va_rf r0), (1, .int i1), (3, .int v12)]) [0, 1, 3] rfl ?_
      exact J_74 _ _ h
    · replace h := it_f c15 h
      refine x_iload_n (i := 3) hC dX5_rounds_55 rfl 3 rfl ?_
      refine x_bipush (v := (20 : Int32)) hC dX5_rounds_56 (by decide) ?_
      refine x_icmp_gt (t := 74) hC dX5_rounds_58 (by decide) (fun c19 => ?_) (fun c19 => ?_)
      · replace h := it_t c19 h
        replace h := ir_x h hg_49
        refine x_sub (l' := [(0, va_rf r0), (1, .int i1), (3, .int v12)]) [0, 1, 3] rfl ?_
        exact J_74 _ _ h
      · replace h := it_f c19 h
        refine x_aload_n (i := 0) hC dX5_rounds_61 rfl 0 rfl ?_
        refine x_iload_n (i := 2) hC dX5_rounds_62 rfl 2 rfl ?_
        replace h := dr_el h
        obtain ⟨a20, ea21, ha22, h⟩ := h
        replace h := bd_el h
        obtain ⟨v23, S24, hb25, h⟩ := h
        refine x_callV hC (st := []) (mt_X5_talked _ _ _ _ hb25) ea21 ha22 kf_5 q_1219 q_1221 qs_88 q_7 q_1222 ⟨rfl, hy_X5_talked⟩ ⟨Nat.le_of_ble_eq_true rfl, Nat.le_of_ble_eq_true rfl⟩ ⟨Nat.le_of_ble_eq_true rfl, Nat.le_of_ble_eq_true rfl⟩ rfl (Nat.le_of_ble_eq_true rfl) dX5_rounds_63 (r_N ?_) r_NX
        show PX Z 5 S24 0 0 66 [(0, va_rf r0), (1, .int i1), (2, .int v11), (3, .int v12), (4, .int v13)] [.int v23]
        refine x_istore (i := 4) (l' := [(4, .int v23), (0, va_rf r0), (1, .int i1), (2, .int v11), (3, .int v12)]) hC dX5_rounds_66 (⟨fun _ => c_rf r0, ⟨fun _ => rfl, ⟨fun _ => rfl, ⟨fun _ => rfl, ⟨fun _ => rfl, trivial⟩⟩⟩⟩⟩) (by decide) rfl ?_
        refine x_iinc (i := 3) (v := (v12 + (1 : Int32))) (l' := [(3, .int (v12 + (1 : Int32))), (4, .int v23), (0, va_rf r0), (1, .int i1), (2, .int v11)]) hC dX5_rounds_68 4 rfl rfl (⟨fun _ => rfl, ⟨fun _ => c_rf r0, ⟨fun _ => rfl, ⟨fun _ => rfl, ⟨fun _ => rfl, trivial⟩⟩⟩⟩⟩) (by decide) rfl ?_
        refine x_goto (t := 49) hC dX5_rounds_71 (by decide) ?_
        refine x_sub (l' := [(0, va_rf r0), (1, .int i1), (2, .int v11), (3, .int (v12 + (1 : Int32))), (4, .int v23)]) [2, 3, 4, 0, 1] rfl ?_
        have hb := bk_x h hg_49
        exact hb
  · replace h := it_f c4 h
    refine x_aload_n (i := 0) hC dX5_rounds_10 rfl 0 rfl ?_
    refine x_iload_n (i := 3) hC dX5_rounds_11 rfl 3 rfl ?_
    refine x_iload_n (i := 1) hC dX5_rounds_12 rfl 1 rfl ?_
    replace h := dr_el h
    obtain ⟨a26, ea27, ha28, h⟩ := h
    replace h := bd_el h
    obtain ⟨v29, S30, hb31, h⟩ := h
    refine x_callV hC (st := []) (mt_X5_isWritten _ _ _ _ _ hb31) ea27 ha28 kf_5 q_993 q_995 qs_55 q_7 q_996 ⟨rfl, hy_X5_isWritten⟩ ⟨Nat.le_of_ble_eq_true rfl, Nat.le_of_ble_eq_true rfl⟩ ⟨Nat.le_of_ble_eq_true rfl, Nat.le_of_ble_eq_true rfl⟩ rfl (Nat.le_of_ble_eq_true rfl) dX5_rounds_13 (r_N ?_) r_NX
    show PX Z 5 S30 0 0 16 [(0, va_rf r0), (1, .int i1), (2, .int v1), (3, .int v2)] [.int v29]
    refine x_if_eq (t := 34) hC dX5_rounds_16 (by decide) (fun c32 => ?_) (fun c32 => ?_)
    · replace h := it_t c32 h
      refine x_iinc (i := 3) (v := (v2 + (1 : Int32))) (l' := [(3, .int (v2 + (1 : Int32))), (0, va_rf r0), (1, .int i1), (2, .int v1)]) hC dX5_rounds_34 3 rfl rfl (⟨fun _ => c_rf r0, ⟨fun _ => rfl, ⟨fun _ => rfl, ⟨fun _ => rfl, trivial⟩⟩⟩⟩) (by decide) rfl ?_
      refine x_goto (t := 4) hC dX5_rounds_37 (by decide) ?_
      refine x_sub (l' := [(0, va_rf r0), (1, .int i1), (2, .int v1), (3, .int (v2 + (1 : Int32)))]) [1, 2, 3, 0] rfl ?_
      have hb := bk_x h hg_4
      exact hb
    · replace h := it_f c32 h
      refine x_aload_n (i := 0) hC dX5_rounds_19 rfl 0 rfl ?_
      replace h := dr_el h
      obtain ⟨a33, ea34, ha35, h⟩ := h
      refine x_getR hC ea34 ha35 kf_5 11 (by decide) rfl q_874 dX5_rounds_20 ?_
      refine x_iload_n (i := 2) hC dX5_rounds_23 rfl 2 rfl ?_
      refine x_aload_n (i := 0) hC dX5_rounds_24 rfl 0 rfl ?_
      refine x_iload_n (i := 3) hC dX5_rounds_25 rfl 3 rfl ?_
      refine x_iload_n (i := 1) hC dX5_rounds_26 rfl 1 rfl ?_
      replace h := bd_el h
      obtain ⟨v36, S37, hb38, h⟩ := h
      refine x_callV hC (st := [.int v1, va_rf (p_R S30 a33 11)]) (mt_X5_scoreOf _ _ _ _ _ hb38) ea34 ha35 kf_5 q_985 q_987 qs_53 q_7 q_988 ⟨rfl, hy_X5_scoreOf⟩ ⟨Nat.le_of_ble_eq_true rfl, Nat.le_of_ble_eq_true rfl⟩ ⟨Nat.le_of_ble_eq_true rfl, Nat.le_of_ble_eq_true rfl⟩ rfl (Nat.le_of_ble_eq_true rfl) dX5_rounds_27 (r_N ?_) r_NX
      show PX Z 5 S37 0 0 30 [(0, va_rf r0), (1, .int i1), (2, .int v1), (3, .int v2)] [.int v36, .int v1, va_rf (p_R S30 a33 11)]
      replace h := dr_el h
      obtain ⟨a39, ea40, ha41, h⟩ := h
      replace h := ck_el h
      obtain ⟨hc42, h⟩ := h
      replace h := le_el h
      obtain ⟨S43, hx44, h⟩ := h
      refine x_iastore hC ea40 ha41 hc42 dX5_rounds_30 ?_
      refine x_tS hx44 ?_
      refine x_iinc (i := 2) (v := (v1 + (1 : Int32))) (l' := [(2, .int (v1 + (1 : Int32))), (0, va_rf r0), (1, .int i1), (3, .int v2)]) hC dX5_rounds_31 2 rfl rfl (⟨fun _ => c_rf r0, ⟨fun _ => rfl, ⟨fun _ => rfl, ⟨fun _ => rfl, trivial⟩⟩⟩⟩) (by decide) rfl ?_
      refine x_iinc (i := 3) (v := (v2 + (1 : Int32))) (l' := [(3, .int (v2 + (1 : Int32))), (2, .int (v1 + (1 : Int32))), (0, va_rf r0), (1, .int i1)]) hC dX5_rounds_34 3 rfl rfl (⟨fun _ => rfl, ⟨fun _ => c_rf r0, ⟨fun _ => rfl, ⟨fun _ => rfl, trivial⟩⟩⟩⟩) (by decide) rfl ?_
      refine x_goto (t := 4) hC dX5_rounds_37 (by decide) ?_
      refine x_sub (l' := [(0, va_rf r0), (1, .int i1), (2, .int (v1 + (1 : Int32))), (3, .int (v2 + (1 : Int32)))]) [2, 3, 1, 0] rfl ?_
      have hb := bk_x h hg_4
      exact hb
theorem dX5_roundsToAgree_0 : decode cX5_roundsToAgree 0 = .ok (.aload_n 0, 1) := by decide +kernel
theorem dX5_roundsToAgree_1 : decode cX5_roundsToAgree 1 = .ok (.aload_n 0, 1) := by decide +kernel
theorem dX5_roundsToAgree_2 : decode cX5_roundsToAgree 2 = .ok (.iload_n 1, 1) := by decide +kernel
theorem dX5_roundsToAgree_3 : decode cX5_roundsToAgree 3 = .ok (.invokevirtual 96, 3) := by decide +kernel
theorem dX5_roundsToAgree_6 : decode cX5_roundsToAgree 6 = .ok (.ifCond .eq 7, 3) := by decide +kernel
theorem dX5_roundsToAgree_9 : decode cX5_roundsToAgree 9 = .ok (.iconst 0, 1) := by decide +kernel
theorem dX5_roundsToAgree_10 : decode cX5_roundsToAgree 10 = .ok (.goto 4, 3) := by decide +kernel
theorem dX5_roundsToAgree_13 : decode cX5_roundsToAgree 13 = .ok (.iconst 1, 1) := by decide +kernel
theorem dX5_roundsToAgree_14 : decode cX5_roundsToAgree 14 = .ok (.invokevirtual 56, 3) := by decide +kernel
theorem dX5_roundsToAgree_17 : decode cX5_roundsToAgree 17 = .ok (.ifCond .eq 11, 3) := by decide +kernel
theorem dX5_roundsToAgree_20 : decode cX5_roundsToAgree 20 = .ok (.aload_n 0, 1) := by decide +kernel
theorem dX5_roundsToAgree_21 : decode cX5_roundsToAgree 21 = .ok (.iload_n 1, 1) := by decide +kernel
theorem dX5_roundsToAgree_22 : decode cX5_roundsToAgree 22 = .ok (.invokevirtual 208, 3) := by decide +kernel
theorem dX5_roundsToAgree_25 : decode cX5_roundsToAgree 25 = .ok (.goto 4, 3) := by decide +kernel
theorem dX5_roundsToAgree_28 : decode cX5_roundsToAgree 28 = .ok (.iconst 0, 1) := by decide +kernel
theorem dX5_roundsToAgree_29 : decode cX5_roundsToAgree 29 = .ok (.ireturn, 1) := by decide +kernel
set_option maxRecDepth 100000 in
set_option maxHeartbeats 4000000 in
theorem mt_X5_roundsToAgree (r0 : Option Nat) (i1 : Int32) (S0 : PH) (y : Int32 × PH) (h : m_X5_roundsToAgree r0 i1 S0 = some y) : MT yX5_roundsToAgree (.code yX5_roundsToAgree cX5_roundsToAgree 2 (Option.some FieldType.int)) 5 115 0 0 [va_rf r0, .int i1] S0 (oQ e_I (qN y)) := by
  refine mt_of (own := RX5) (l0 := [(0, va_rf r0), (1, .int i1)]) rfl rfl (by cases r0 <;> exact Nat.le_of_ble_eq_true rfl) (by cases r0 <;> rfl) ?_
  intro Z hC hQ hE hN
  have J_14 : ∀ (v8 : Option Nat) (v9 : Int32) (S10 : PH), j_X5_roundsToAgree_14 r0 i1 v8 v9 S10 = some y → PX Z 2 S10 0 0 14 [(0, va_rf r0), (1, .int i1)] [.int v9, va_rf v8] := by
    intro v8 v9 S10 h
    unfold j_X5_roundsToAgree_14 at h
    replace h := dr_el h
    obtain ⟨a11, ea12, ha13, h⟩ := h
    replace h := bd_el h
    obtain ⟨v14, S15, hb16, h⟩ := h
    refine x_callV hC (st := []) (mt_X5_holds _ _ _ _ hb16) ea12 ha13 kf_5 q_915 q_917 qs_43 q_7 q_918 ⟨rfl, hy_X5_holds⟩ ⟨Nat.le_of_ble_eq_true rfl, Nat.le_of_ble_eq_true rfl⟩ ⟨Nat.le_of_ble_eq_true rfl, Nat.le_of_ble_eq_true rfl⟩ rfl (Nat.le_of_ble_eq_true rfl) dX5_roundsToAgree_14 (r_N ?_) r_NX
    show PX Z 2 S15 0 0 17 [(0, va_rf r0), (1, .int i1)] [.int v14]
    refine x_if_eq (t := 28) hC dX5_roundsToAgree_17 (by decide) (fun c17 => ?_) (fun c17 => ?_)
    · replace h := it_t c17 h
      refine x_iconst (v := (0 : Int32)) hC dX5_roundsToAgree_28 (by decide) ?_
      exact x_iret hC hQ (z_N (Option.some.inj h)) (Nat.le_of_ble_eq_true rfl) (Nat.le_of_ble_eq_true rfl) dX5_roundsToAgree_29
    · replace h := it_f c17 h
      refine x_aload_n (i := 0) hC dX5_roundsToAgree_20 rfl 0 rfl ?_
      refine x_iload_n (i := 1) hC dX5_roundsToAgree_21 rfl 1 rfl ?_
      replace h := dr_el h
      obtain ⟨a18, ea19, ha20, h⟩ := h
      replace h := bd_el h
      obtain ⟨v21, S22, hb23, h⟩ := h
      refine x_callV hC (st := []) (mt_X5_rounds _ _ _ _ hb23) ea19 ha20 kf_5 q_1215 q_1217 qs_87 q_7 q_1218 ⟨rfl, hy_X5_rounds⟩ ⟨Nat.le_of_ble_eq_true rfl, Nat.le_of_ble_eq_true rfl⟩ ⟨Nat.le_of_ble_eq_true rfl, Nat.le_of_ble_eq_true rfl⟩ rfl (Nat.le_of_ble_eq_true rfl) dX5_roundsToAgree_22 (r_N ?_) r_NX
      show PX Z 2 S22 0 0 25 [(0, va_rf r0), (1, .int i1)] [.int v21]
      refine x_goto (t := 29) hC dX5_roundsToAgree_25 (by decide) ?_
      exact x_iret hC hQ (z_N (Option.some.inj h)) (Nat.le_of_ble_eq_true rfl) (Nat.le_of_ble_eq_true rfl) dX5_roundsToAgree_29
  unfold m_X5_roundsToAgree at h
  refine x_aload_n (i := 0) hC dX5_roundsToAgree_0 rfl 0 rfl ?_
  refine x_aload_n (i := 0) hC dX5_roundsToAgree_1 rfl 0 rfl ?_
  refine x_iload_n (i := 1) hC dX5_roundsToAgree_2 rfl 1 rfl ?_
  replace h := dr_el h
  obtain ⟨a1, ea2, ha3, h⟩ := h
  replace h := bd_el h
  obtain ⟨v4, S5, hb6, h⟩ := h
  refine x_callV hC (st := [va_rf r0]) (mt_X5_isPaper _ _ _ _ hb6) ea2 ha3 kf_5 q_969 q_971 qs_49 q_7 q_972 ⟨rfl, hy_X5_isPaper⟩ ⟨Nat.le_of_ble_eq_true rfl, Nat.le_of_ble_eq_true rfl⟩ ⟨Nat.le_of_ble_eq_true rfl, Nat.le_of_ble_eq_true rfl⟩ rfl (Nat.le_of_ble_eq_true rfl) dX5_roundsToAgree_3 (r_N ?_) r_NX
  show PX Z 2 S5 0 0 6 [(0, va_rf r0), (1, .int i1)] [.int v4, va_rf r0]
  refine x_if_eq (t := 13) hC dX5_roundsToAgree_6 (by decide) (fun c7 => ?_) (fun c7 => ?_)
  · replace h := it_t c7 h
    refine x_iconst (v := (1 : Int32)) hC dX5_roundsToAgree_13 (by decide) ?_
    exact J_14 _ _ _ h
  · replace h := it_f c7 h
    refine x_iconst (v := (0 : Int32)) hC dX5_roundsToAgree_9 (by decide) ?_
    refine x_goto (t := 14) hC dX5_roundsToAgree_10 (by decide) ?_
    exact J_14 _ _ _ h
theorem dX5_mean_0 : decode cX5_mean 0 = .ok (.aload_n 0, 1) := by decide +kernel
theorem dX5_mean_1 : decode cX5_mean 1 = .ok (.iload_n 1, 1) := by decide +kernel
theorem dX5_mean_2 : decode cX5_mean 2 = .ok (.iconst 1, 1) := by decide +kernel
theorem dX5_mean_3 : decode cX5_mean 3 = .ok (.invokevirtual 80, 3) := by decide +kernel
theorem dX5_mean_6 : decode cX5_mean 6 = .ok (.invokestatic 84, 3) := by decide +kernel
theorem dX5_mean_9 : decode cX5_mean 9 = .ok (.istore_n 2, 1) := by decide +kernel
theorem dX5_mean_10 : decode cX5_mean 10 = .ok (.iload_n 2, 1) := by decide +kernel
theorem dX5_mean_11 : decode cX5_mean 11 = .ok (.ifCond .ne 9, 3) := by decide +kernel
theorem dX5_mean_14 : decode cX5_mean 14 = .ok (.ldc2_w 211, 3) := by decide +kernel
theorem dX5_mean_17 : decode cX5_mean 17 = .ok (.goto 12, 3) := by decide +kernel
theorem dX5_mean_20 : decode cX5_mean 20 = .ok (.aload_n 0, 1) := by decide +kernel
theorem dX5_mean_21 : decode cX5_mean 21 = .ok (.iload_n 1, 1) := by decide +kernel
theorem dX5_mean_22 : decode cX5_mean 22 = .ok (.invokevirtual 111, 3) := by decide +kernel
theorem dX5_mean_25 : decode cX5_mean 25 = .ok (.i2d, 1) := by decide +kernel
theorem dX5_mean_26 : decode cX5_mean 26 = .ok (.iload_n 2, 1) := by decide +kernel
theorem dX5_mean_27 : decode cX5_mean 27 = .ok (.i2d, 1) := by decide +kernel
theorem dX5_mean_28 : decode cX5_mean 28 = .ok (.ddiv, 1) := by decide +kernel
theorem dX5_mean_29 : decode cX5_mean 29 = .ok (.dreturn, 1) := by decide +kernel
set_option maxRecDepth 100000 in
set_option maxHeartbeats 4000000 in
theorem mt_X5_mean (r0 : Option Nat) (i1 : Int32) (S0 : PH) (y : UInt64 × PH) (h : m_X5_mean r0 i1 S0 = some y) : MT yX5_mean (.code yX5_mean cX5_mean 3 (Option.some FieldType.double)) 4 91 0 0 [va_rf r0, .int i1] S0 (oQ e_D (qN y)) := by
  refine mt_of (own := RX5) (l0 := [(0, va_rf r0), (1, .int i1)]) rfl rfl (by cases r0 <;> exact Nat.le_of_ble_eq_true rfl) (by cases r0 <;> rfl) ?_
  intro Z hC hQ hE hN
  unfold m_X5_mean at h
  refine x_aload_n (i := 0) hC dX5_mean_0 rfl 0 rfl ?_
  refine x_iload_n (i := 1) hC dX5_mean_1 rfl 1 rfl ?_
  refine x_iconst (v := (1 : Int32)) hC dX5_mean_2 (by decide) ?_
  replace h := dr_el h
  obtain ⟨a1, ea2, ha3, h⟩ := h
  replace h := bd_el h
  obtain ⟨v4, S5, hb6, h⟩ := h
  refine x_callV hC (st := []) (mt_X5_reviewers _ _ _ _ _ hb6) ea2 ha3 kf_5 q_989 q_991 qs_54 q_7 q_992 ⟨rfl, hy_X5_reviewers⟩ ⟨Nat.le_of_ble_eq_true rfl, Nat.le_of_ble_eq_true rfl⟩ ⟨Nat.le_of_ble_eq_true rfl, Nat.le_of_ble_eq_true rfl⟩ rfl (Nat.le_of_ble_eq_true rfl) dX5_mean_3 (r_N ?_) r_NX
  show PX Z 3 S5 0 0 6 [(0, va_rf r0), (1, .int i1)] [.int v4]
  replace h := bd_el h
  obtain ⟨v7, S8, hb9, h⟩ := h
  refine x_callS hC (st := []) (mt_X5_ones _ _ _ hb9) q_997 q_998 q_7 q_999 hy_X5_ones ⟨Nat.le_of_ble_eq_true rfl, Nat.le_of_ble_eq_true rfl⟩ ⟨Nat.le_of_ble_eq_true rfl, Nat.le_of_ble_eq_true rfl⟩ rfl (Nat.le_of_ble_eq_true rfl) dX5_mean_6 (r_N ?_) r_NX
  show PX Z 3 S8 0 0 9 [(0, va_rf r0), (1, .int i1)] [.int v7]
  refine x_istore_n (i := 2) (l' := [(2, .int v7), (0, va_rf r0), (1, .int i1)]) hC dX5_mean_9 rfl (⟨fun _ => c_rf r0, ⟨fun _ => rfl, trivial⟩⟩) (by decide) rfl ?_
  refine x_iload_n (i := 2) hC dX5_mean_10 rfl 0 rfl ?_
  refine x_if_ne (t := 20) hC dX5_mean_11 (by decide) (fun c10 => ?_) (fun c10 => ?_)
  · replace h := it_f c10 h
    refine x_aload_n (i := 0) hC dX5_mean_20 rfl 1 rfl ?_
    refine x_iload_n (i := 1) hC dX5_mean_21 rfl 2 rfl ?_
    replace h := dr_el h
    obtain ⟨a11, ea12, ha13, h⟩ := h
    replace h := bd_el h
    obtain ⟨v14, S15, hb16, h⟩ := h
    refine x_callV hC (st := []) (mt_X5_sumOf _ _ _ _ hb16) ea12 ha13 kf_5 q_1043 q_1045 qs_63 q_7 q_1046 ⟨rfl, hy_X5_sumOf⟩ ⟨Nat.le_of_ble_eq_true rfl, Nat.le_of_ble_eq_true rfl⟩ ⟨Nat.le_of_ble_eq_true rfl, Nat.le_of_ble_eq_true rfl⟩ rfl (Nat.le_of_ble_eq_true rfl) dX5_mean_22 (r_N ?_) r_NX
    show PX Z 3 S15 0 0 25 [(2, .int v7), (0, va_rf r0), (1, .int i1)] [.int v14]
    refine x_i2d hC dX5_mean_25 ?_
    refine x_iload_n (i := 2) hC dX5_mean_26 rfl 0 rfl ?_
    refine x_i2d hC dX5_mean_27 ?_
    replace h := ck_el h
    obtain ⟨hc17, h⟩ := h
    refine x_ddiv hC dX5_mean_28 (nn64_ok hc17) ?_
    exact x_dret hC hQ (z_N (Option.some.inj h)) (Nat.le_of_ble_eq_true rfl) (Nat.le_of_ble_eq_true rfl) dX5_mean_29
  · replace h := it_t c10 h
    refine x_ldc2d hC dX5_mean_14 q_1231 ?_
    refine x_goto (t := 29) hC dX5_mean_17 (by decide) ?_
    exact x_dret hC hQ (z_N (Option.some.inj h)) (Nat.le_of_ble_eq_true rfl) (Nat.le_of_ble_eq_true rfl) dX5_mean_29
theorem dX5_meanScore_0 : decode cX5_meanScore 0 = .ok (.aload_n 0, 1) := by decide +kernel
theorem dX5_meanScore_1 : decode cX5_meanScore 1 = .ok (.aload_n 0, 1) := by decide +kernel
theorem dX5_meanScore_2 : decode cX5_meanScore 2 = .ok (.iload_n 1, 1) := by decide +kernel
theorem dX5_meanScore_3 : decode cX5_meanScore 3 = .ok (.invokevirtual 96, 3) := by decide +kernel
theorem dX5_meanScore_6 : decode cX5_meanScore 6 = .ok (.ifCond .eq 7, 3) := by decide +kernel
theorem dX5_meanScore_9 : decode cX5_meanScore 9 = .ok (.iconst 0, 1) := by decide +kernel
theorem dX5_meanScore_10 : decode cX5_meanScore 10 = .ok (.goto 4, 3) := by decide +kernel
theorem dX5_meanScore_13 : decode cX5_meanScore 13 = .ok (.iconst 1, 1) := by decide +kernel
theorem dX5_meanScore_14 : decode cX5_meanScore 14 = .ok (.invokevirtual 56, 3) := by decide +kernel
theorem dX5_meanScore_17 : decode cX5_meanScore 17 = .ok (.ifCond .eq 11, 3) := by decide +kernel
theorem dX5_meanScore_20 : decode cX5_meanScore 20 = .ok (.aload_n 0, 1) := by decide +kernel
theorem dX5_meanScore_21 : decode cX5_meanScore 21 = .ok (.iload_n 1, 1) := by decide +kernel
theorem dX5_meanScore_22 : decode cX5_meanScore 22 = .ok (.invokevirtual 213, 3) := by decide +kernel
theorem dX5_meanScore_25 : decode cX5_meanScore 25 = .ok (.goto 4, 3) := by decide +kernel
theorem dX5_meanScore_28 : decode cX5_meanScore 28 = .ok (.dconst 0, 1) := by decide +kernel
theorem dX5_meanScore_29 : decode cX5_meanScore 29 = .ok (.dreturn, 1) := by decide +kernel
set_option maxRecDepth 100000 in
set_option maxHeartbeats 4000000 in
theorem mt_X5_meanScore (r0 : Option Nat) (i1 : Int32) (S0 : PH) (y : UInt64 × PH) (h : m_X5_meanScore r0 i1 S0 = some y) : MT yX5_meanScore (.code yX5_meanScore cX5_meanScore 2 (Option.some FieldType.double)) 5 113 0 0 [va_rf r0, .int i1] S0 (oQ e_D (qN y)) := by
  refine mt_of (own := RX5) (l0 := [(0, va_rf r0), (1, .int i1)]) rfl rfl (by cases r0 <;> exact Nat.le_of_ble_eq_true rfl) (by cases r0 <;> rfl) ?_
  intro Z hC hQ hE hN
  have J_14 : ∀ (v8 : Option Nat) (v9 : Int32) (S10 : PH), j_X5_meanScore_14 r0 i1 v8 v9 S10 = some y → PX Z 2 S10 0 0 14 [(0, va_rf r0), (1, .int i1)] [.int v9, va_rf v8] := by
    intro v8 v9 S10 h
    unfold j_X5_meanScore_14 at h
    replace h := dr_el h
    obtain ⟨a11, ea12, ha13, h⟩ := h
    replace h := bd_el h
    obtain ⟨v14, S15, hb16, h⟩ := h
    refine x_callV hC (st := []) (mt_X5_holds _ _ _ _ hb16) ea12 ha13 kf_5 q_915 q_917 qs_43 q_7 q_918 ⟨rfl, hy_X5_holds⟩ ⟨Nat.le_of_ble_eq_true rfl, Nat.le_of_ble_eq_true rfl⟩ ⟨Nat.le_of_ble_eq_true rfl, Nat.le_of_ble_eq_true rfl⟩ rfl (Nat.le_of_ble_eq_true rfl) dX5_meanScore_14 (r_N ?_) r_NX
    show PX Z 2 S15 0 0 17 [(0, va_rf r0), (1, .int i1)] [.int v14]
    refine x_if_eq (t := 28) hC dX5_meanScore_17 (by decide) (fun c17 => ?_) (fun c17 => ?_)
    · replace h := it_t c17 h
      refine x_dconst0 hC dX5_meanScore_28 ?_
      exact x_dret hC hQ (z_N (Option.some.inj h)) (Nat.le_of_ble_eq_true rfl) (Nat.le_of_ble_eq_true rfl) dX5_meanScore_29
    · replace h := it_f c17 h
      refine x_aload_n (i := 0) hC dX5_meanScore_20 rfl 0 rfl ?_
      refine x_iload_n (i := 1) hC dX5_meanScore_21 rfl 1 rfl ?_
      replace h := dr_el h
      obtain ⟨a18, ea19, ha20, h⟩ := h
      replace h := bd_el h
      obtain ⟨v21, S22, hb23, h⟩ := h
      refine x_callV hC (st := []) (mt_X5_mean _ _ _ _ hb23) ea19 ha20 kf_5 q_1227 q_1229 qs_89 q_7 q_1230 ⟨rfl, hy_X5_mean⟩ ⟨Nat.le_of_ble_eq_true rfl, Nat.le_of_ble_eq_true rfl⟩ ⟨Nat.le_of_ble_eq_true rfl, Nat.le_of_ble_eq_true rfl⟩ rfl (Nat.le_of_ble_eq_true rfl) dX5_meanScore_22 (r_N ?_) r_NX
      show PX Z 2 S22 0 0 25 [(0, va_rf r0), (1, .int i1)] [.double v21]
      refine x_goto (t := 29) hC dX5_meanScore_25 (by decide) ?_
      exact x_dret hC hQ (z_N (Option.some.inj h)) (Nat.le_of_ble_eq_true rfl) (Nat.le_of_ble_eq_true rfl) dX5_meanScore_29
  unfold m_X5_meanScore at h
  refine x_aload_n (i := 0) hC dX5_meanScore_0 rfl 0 rfl ?_
  refine x_aload_n (i := 0) hC dX5_meanScore_1 rfl 0 rfl ?_
  refine x_iload_n (i := 1) hC dX5_meanScore_2 rfl 1 rfl ?_
  replace h := dr_el h
  obtain ⟨a1, ea2, ha3, h⟩ := h
  replace h := bd_el h
  obtain ⟨v4, S5, hb6, h⟩ := h
  refine x_callV hC (st := [va_rf r0]) (mt_X5_isPaper _ _ _ _ hb6) ea2 ha3 kf_5 q_969 q_971 qs_49 q_7 q_972 ⟨rfl, hy_X5_isPaper⟩ ⟨Nat.le_of_ble_eq_true rfl, Nat.le_of_ble_eq_true rfl⟩ ⟨Nat.le_of_ble_eq_true rfl, Nat.le_of_ble_eq_true rfl⟩ rfl (Nat.le_of_ble_eq_true rfl) dX5_meanScore_3 (r_N ?_) r_NX
  show PX Z 2 S5 0 0 6 [(0, va_rf r0), (1, .int i1)] [.int v4, va_rf r0]
  refine x_if_eq (t := 13) hC dX5_meanScore_6 (by decide) (fun c7 => ?_) (fun c7 => ?_)
  · replace h := it_t c7 h
    refine x_iconst (v := (1 : Int32)) hC dX5_meanScore_13 (by decide) ?_
    exact J_14 _ _ _ h
  · replace h := it_f c7 h
    refine x_iconst (v := (0 : Int32)) hC dX5_meanScore_9 (by decide) ?_
    refine x_goto (t := 14) hC dX5_meanScore_10 (by decide) ?_
    exact J_14 _ _ _ h
theorem dX5_share_0 : decode cX5_share 0 = .ok (.aload_n 0, 1) := by decide +kernel
theorem dX5_share_1 : decode cX5_share 1 = .ok (.bipush 41, 2) := by decide +kernel
theorem dX5_share_3 : decode cX5_share 3 = .ok (.invokevirtual 181, 3) := by decide +kernel
theorem dX5_share_6 : decode cX5_share 6 = .ok (.i2f, 1) := by decide +kernel
theorem dX5_share_7 : decode cX5_share 7 = .ok (.bipush 100, 2) := by decide +kernel
theorem dX5_share_9 : decode cX5_share 9 = .ok (.aload_n 0, 1) := by decide +kernel
theorem dX5_share_10 : decode cX5_share 10 = .ok (.getfield 7, 3) := by decide +kernel
theorem dX5_share_13 : decode cX5_share 13 = .ok (.iconst 2, 1) := by decide +kernel
theorem dX5_share_14 : decode cX5_share 14 = .ok (.iaload, 1) := by decide +kernel
theorem dX5_share_15 : decode cX5_share 15 = .ok (.iadd, 1) := by decide +kernel
theorem dX5_share_16 : decode cX5_share 16 = .ok (.i2f, 1) := by decide +kernel
theorem dX5_share_17 : decode cX5_share 17 = .ok (.fdiv, 1) := by decide +kernel
theorem dX5_share_18 : decode cX5_share 18 = .ok (.freturn, 1) := by decide +kernel
set_option maxRecDepth 100000 in
set_option maxHeartbeats 4000000 in
theorem mt_X5_share (r0 : Option Nat) (S0 : PH) (y : UInt32 × PH) (h : m_X5_share r0 S0 = some y) : MT yX5_share (.code yX5_share cX5_share 1 (Option.some FieldType.float)) 1 23 0 0 [va_rf r0] S0 (oQ e_F (qN y)) := by
  refine mt_of (own := RX5) (l0 := [(0, va_rf r0)]) rfl rfl (by cases r0 <;> exact Nat.le_of_ble_eq_true rfl) (by cases r0 <;> rfl) ?_
  intro Z hC hQ hE hN
  unfold m_X5_share at h
  refine x_aload_n (i := 0) hC dX5_share_0 rfl 0 rfl ?_
  refine x_bipush (v := (41 : Int32)) hC dX5_share_1 (by decide) ?_
  replace h := dr_el h
  obtain ⟨a1, ea2, ha3, h⟩ := h
  replace h := bd_el h
  obtain ⟨v4, S5, hb6, h⟩ := h
  refine x_callV hC (st := []) (mt_X5_sum _ _ _ _ hb6) ea2 ha3 kf_5 q_1163 q_1165 qs_80 q_7 q_1166 ⟨rfl, hy_X5_sum⟩ ⟨Nat.le_of_ble_eq_true rfl, Nat.le_of_ble_eq_true rfl⟩ ⟨Nat.le_of_ble_eq_true rfl, Nat.le_of_ble_eq_true rfl⟩ rfl (Nat.le_of_ble_eq_true rfl) dX5_share_3 (r_N ?_) r_NX
  show PX Z 1 S5 0 0 6 [(0, va_rf r0)] [.int v4]
  refine x_i2f hC dX5_share_6 ?_
  refine x_bipush (v := (100 : Int32)) hC dX5_share_7 (by decide) ?_
  refine x_aload_n (i := 0) hC dX5_share_9 rfl 0 rfl ?_
  replace h := dr_el h
  obtain ⟨a7, ea8, ha9, h⟩ := h
  refine x_getR hC ea8 ha9 kf_5 1 (by decide) rfl q_864 dX5_share_10 ?_
  refine x_iconst (v := (2 : Int32)) hC dX5_share_13 (by decide) ?_
  replace h := dr_el h
  obtain ⟨a10, ea11, ha12, h⟩ := h
  replace h := ck_el h
  obtain ⟨hc13, h⟩ := h
  refine x_iaload hC ea11 ha12 hc13 dX5_share_14 ?_
  refine x_tI (b := (p_I S5 a10 2)) rfl ?_
  refine x_iadd hC dX5_share_15 ?_
  refine x_i2f hC dX5_share_16 ?_
  replace h := ck_el h
  obtain ⟨hc14, h⟩ := h
  refine x_fdiv hC dX5_share_17 (nn32_ok hc14) ?_
  exact x_fret hC hQ (z_N (Option.some.inj h)) (Nat.le_of_ble_eq_true rfl) (Nat.le_of_ble_eq_true rfl) dX5_share_18
theorem dX5_spentShare_0 : decode cX5_spentShare 0 = .ok (.aload_n 0, 1) := by decide +kernel
theorem dX5_spentShare_1 : decode cX5_spentShare 1 = .ok (.iconst 0, 1) := by decide +kernel
theorem dX5_spentShare_2 : decode cX5_spentShare 2 = .ok (.putfield 23, 3) := by decide +kernel
theorem dX5_spentShare_5 : decode cX5_spentShare 5 = .ok (.aload_n 0, 1) := by decide +kernel
theorem dX5_spentShare_6 : decode cX5_spentShare 6 = .ok (.invokevirtual 217, 3) := by decide +kernel
theorem dX5_spentShare_9 : decode cX5_spentShare 9 = .ok (.freturn, 1) := by decide +kernel
set_option maxRecDepth 100000 in
set_option maxHeartbeats 4000000 in
theorem mt_X5_spentShare (r0 : Option Nat) (S0 : PH) (y : UInt32 × PH) (h : m_X5_spentShare r0 S0 = some y) : MT yX5_spentShare (.code yX5_spentShare cX5_spentShare 1 (Option.some FieldType.float)) 2 43 0 0 [va_rf r0] S0 (oQ e_F (qN y)) := by
  refine mt_of (own := RX5) (l0 := [(0, va_rf r0)]) rfl rfl (by cases r0 <;> exact Nat.le_of_ble_eq_true rfl) (by cases r0 <;> rfl) ?_
  intro Z hC hQ hE hN
  unfold m_X5_spentShare at h
  refine x_aload_n (i := 0) hC dX5_spentShare_0 rfl 0 rfl ?_
  refine x_iconst (v := (0 : Int32)) hC dX5_spentShare_1 (by decide) ?_
  replace h := dr_el h
  obtain ⟨a1, ea2, ha3, h⟩ := h
  replace h := le_el h
  obtain ⟨S4, hx5, h⟩ := h
  refine x_putI hC ea2 ha3 kf_5 0 (by decide) rfl rfl q_863 (Or.inl rfl) dX5_spentShare_2 ?_
  refine x_tS hx5 ?_
  refine x_aload_n (i := 0) hC dX5_spentShare_5 rfl 0 rfl ?_
  replace h := dr_el h
  obtain ⟨a6, ea7, ha8, h⟩ := h
  replace h := bd_el h
  obtain ⟨v9, S10, hb11, h⟩ := h
  refine x_callV hC (st := []) (mt_X5_share _ _ _ hb11) ea7 ha8 kf_5 q_1236 q_1238 qs_90 q_7 q_1239 ⟨rfl, hy_X5_share⟩ ⟨Nat.le_of_ble_eq_true rfl, Nat.le_of_ble_eq_true rfl⟩ ⟨Nat.le_of_ble_eq_true rfl, Nat.le_of_ble_eq_true rfl⟩ rfl (Nat.le_of_ble_eq_true rfl) dX5_spentShare_6 (r_N ?_) r_NX
  show PX Z 1 S10 0 0 9 [(0, va_rf r0)] [.float v9]
  exact x_fret hC hQ (z_N (Option.some.inj h)) (Nat.le_of_ble_eq_true rfl) (Nat.le_of_ble_eq_true rfl) dX5_spentShare_9
theorem dX5_mix_0 : decode cX5_mix 0 = .ok (.aload_n 0, 1) := by decide +kernel
theorem dX5_mix_1 : decode cX5_mix 1 = .ok (.ldc2_w 221, 3) := by decide +kernel
theorem dX5_mix_4 : decode cX5_mix 4 = .ok (.aload_n 0, 1) := by decide +kernel
theorem dX5_mix_5 : decode cX5_mix 5 = .ok (.getfield 223, 3) := by decide +kernel
theorem dX5_mix_8 : decode cX5_mix 8 = .ok (.lmul, 1) := by decide +kernel
theorem dX5_mix_9 : decode cX5_mix 9 = .ok (.lload_n 1, 1) := by decide +kernel
theorem dX5_mix_10 : decode cX5_mix 10 = .ok (.ladd, 1) := by decide +kernel
theorem dX5_mix_11 : decode cX5_mix 11 = .ok (.putfield 223, 3) := by decide +kernel
theorem dX5_mix_14 : decode cX5_mix 14 = .ok (.return_, 1) := by decide +kernel
set_option maxRecDepth 100000 in
set_option maxHeartbeats 4000000 in
theorem mt_X5_mix (r0 : Option Nat) (j1 : Int64) (S0 : PH) (y : Unit × PH) (h : m_X5_mix r0 j1 S0 = some y) : MT yX5_mix (.code yX5_mix cX5_mix 3 (Option.none : Option FieldType)) 0 0 0 0 [va_rf r0, .long j1] S0 (oQ e_V (qN y)) := by
  refine mt_of (own := RX5) (l0 := [(0, va_rf r0), (1, .long j1)]) rfl rfl (by cases r0 <;> exact Nat.le_of_ble_eq_true rfl) (by cases r0 <;> rfl) ?_
  intro Z hC hQ hE hN
  unfold m_X5_mix at h
  refine x_aload_n (i := 0) hC dX5_mix_0 rfl 0 rfl ?_
  refine x_ldc2 hC dX5_mix_1 q_1249 ?_
  refine x_aload_n (i := 0) hC dX5_mix_4 rfl 0 rfl ?_
  replace h := dr_el h
  obtain ⟨a1, ea2, ha3, h⟩ := h
  refine x_getJ hC ea2 ha3 kf_5 12 (by decide) rfl q_875 dX5_mix_5 ?_
  refine x_lmul hC dX5_mix_8 ?_
  refine x_lload_n (i := 1) hC dX5_mix_9 rfl 1 rfl ?_
  refine x_ladd hC dX5_mix_10 ?_
  replace h := le_el h
  obtain ⟨S4, hx5, h⟩ := h
  refine x_putJ hC ea2 ha3 kf_5 12 (by decide) rfl rfl q_875 (Or.inl rfl) dX5_mix_11 ?_
  refine x_tS hx5 ?_
  exact x_vret hC hQ (z_N (v := ()) (Option.some.inj h)) (Nat.le_of_ble_eq_true rfl) (Nat.le_of_ble_eq_true rfl) dX5_mix_14
theorem dX5_bits_0 : decode cX5_bits 0 = .ok (.dload_n 0, 1) := by decide +kernel
theorem dX5_bits_1 : decode cX5_bits 1 = .ok (.dconst 0, 1) := by decide +kernel
theorem dX5_bits_2 : decode cX5_bits 2 = .ok (.dcmp .l, 1) := by decide +kernel
theorem dX5_bits_3 : decode cX5_bits 3 = .ok (.ifCond .ne 5, 3) := by decide +kernel
theorem dX5_bits_6 : decode cX5_bits 6 = .ok (.lconst 0, 1) := by decide +kernel
theorem dX5_bits_7 : decode cX5_bits 7 = .ok (.lreturn, 1) := by decide +kernel
theorem dX5_bits_8 : decode cX5_bits 8 = .ok (.dload_n 0, 1) := by decide +kernel
theorem dX5_bits_9 : decode cX5_bits 9 = .ok (.dstore 6, 2) := by decide +kernel
theorem dX5_bits_11 : decode cX5_bits 11 = .ok (.lload 4, 2) := by decide +kernel
theorem dX5_bits_13 : decode cX5_bits 13 = .ok (.lstore 8, 2) := by decide +kernel
theorem dX5_bits_15 : decode cX5_bits 15 = .ok (.dload 6, 2) := by decide +kernel
theorem dX5_bits_17 : decode cX5_bits 17 = .ok (.ldc2_w 227, 3) := by decide +kernel
theorem dX5_bits_20 : decode cX5_bits 20 = .ok (.dcmp .l, 1) := by decide +kernel
theorem dX5_bits_21 : decode cX5_bits 21 = .ok (.ifCond .lt 20, 3) := by decide +kernel
theorem dX5_bits_24 : decode cX5_bits 24 = .ok (.dload 6, 2) := by decide +kernel
theorem dX5_bits_26 : decode cX5_bits 26 = .ok (.ldc2_w 227, 3) := by decide +kernel
theorem dX5_bits_29 : decode cX5_bits 29 = .ok (.ddiv, 1) := by decide +kernel
theorem dX5_bits_30 : decode cX5_bits 30 = .ok (.dstore 6, 2) := by decide +kernel
theorem dX5_bits_32 : decode cX5_bits 32 = .ok (.lload 8, 2) := by decide +kernel
theorem dX5_bits_34 : decode cX5_bits 34 = .ok (.lconst 1, 1) := by decide +kernel
theorem dX5_bits_35 : decode cX5_bits 35 = .ok (.ladd, 1) := by decide +kernel
theorem dX5_bits_36 : decode cX5_bits 36 = .ok (.lstore 8, 2) := by decide +kernel
theorem dX5_bits_38 : decode cX5_bits 38 = .ok (.goto (-23), 3) := by decide +kernel
theorem dX5_bits_41 : decode cX5_bits 41 = .ok (.dload 6, 2) := by decide +kernel
theorem dX5_bits_43 : decode cX5_bits 43 = .ok (.dconst 1, 1) := by decide +kernel
theorem dX5_bits_44 : decode cX5_bits 44 = .ok (.dcmp .g, 1) := by decide +kernel
theorem dX5_bits_45 : decode cX5_bits 45 = .ok (.ifCond .ge 20, 3) := by decide +kernel
theorem dX5_bits_48 : decode cX5_bits 48 = .ok (.dload 6, 2) := by decide +kernel
theorem dX5_bits_50 : decode cX5_bits 50 = .ok (.ldc2_w 227, 3) := by decide +kernel
theorem dX5_bits_53 : decode cX5_bits 53 = .ok (.dmul, 1) := by decide +kernel
theorem dX5_bits_54 : decode cX5_bits 54 = .ok (.dstore 6, 2) := by decide +kernel
theorem dX5_bits_56 : decode cX5_bits 56 = .ok (.lload 8, 2) := by decide +kernel
theorem dX5_bits_58 : decode cX5_bits 58 = .ok (.lconst 1, 1) := by decide +kernel
theorem dX5_bits_59 : decode cX5_bits 59 = .ok (.lsub, 1) := by decide +kernel
theorem dX5_bits_60 : decode cX5_bits 60 = .ok (.lstore 8, 2) := by decide +kernel
theorem dX5_bits_62 : decode cX5_bits 62 = .ok (.goto (-21), 3) := by decide +kernel
theorem dX5_bits_65 : decode cX5_bits 65 = .ok (.lload 8, 2) := by decide +kernel
theorem dX5_bits_67 : decode cX5_bits 67 = .ok (.lload_n 2, 1) := by decide +kernel
theorem dX5_bits_68 : decode cX5_bits 68 = .ok (.lmul, 1) := by decide +kernel
theorem dX5_bits_69 : decode cX5_bits 69 = .ok (.dload 6, 2) := by decide +kernel
theorem dX5_bits_71 : decode cX5_bits 71 = .ok (.dconst 1, 1) := by decide +kernel
theorem dX5_bits_72 : decode cX5_bits 72 = .ok (.dsub, 1) := by decide +kernel
theorem dX5_bits_73 : decode cX5_bits 73 = .ok (.lload_n 2, 1) := by decide +kernel
theorem dX5_bits_74 : decode cX5_bits 74 = .ok (.l2d, 1) := by decide +kernel
theorem dX5_bits_75 : decode cX5_bits 75 = .ok (.dmul, 1) := by decide +kernel
theorem dX5_bits_76 : decode cX5_bits 76 = .ok (.d2l, 1) := by decide +kernel
theorem dX5_bits_77 : decode cX5_bits 77 = .ok (.ladd, 1) := by decide +kernel
theorem dX5_bits_78 : decode cX5_bits 78 = .ok (.lreturn, 1) := by decide +kernel
set_option maxRecDepth 100000 in
set_option maxHeartbeats 4000000 in
theorem mt_X5_bits (d0 : UInt64) (j2 : Int64) (j4 : Int64) (S0 : PH) (y : Int64 × PH) (h : m_X5_bits d0 j2 j4 S0 = some y) : MT yX5_bits (.code yX5_bits cX5_bits 10 (Option.some FieldType.long)) 0 0 0 0 [.double d0, .long j2, .long j4] S0 (oQ e_J (qN y)) := by
  refine mt_of (own := RX5) (l0 := [(0, .double d0), (2, .long j2), (4, .long j4)]) rfl rfl (by exact Nat.le_of_ble_eq_true rfl) (by rfl) ?_
  intro Z hC hQ hE hN
  unfold m_X5_bits at h
  refine x_dload_n (i := 0) hC dX5_bits_0 rfl 0 rfl ?_
  refine x_dconst0 hC dX5_bits_1 ?_
  refine x_dcmp hC dX5_bits_2 ?_
  refine x_if_ne (t := 8) hC dX5_bits_3 (by decide) (fun c1 => ?_) (fun c1 => ?_)
  · replace h := it_f c1 h
    refine x_dload_n (i := 0) hC dX5_bits_8 rfl 0 rfl ?_
    refine x_dstore (i := 6) (l' := [(6, .double d0), (0, .double d0), (2, .long j2), (4, .long j4)]) hC dX5_bits_9 (⟨fun q => absurd (show (0 : Nat) + 1 = 6 from q) (by decide), ⟨fun q => absurd (show (2 : Nat) + 1 = 6 from q) (by decide), ⟨fun q => absurd (show (4 : Nat) + 1 = 6 from q) (by decide), trivial⟩⟩⟩) (by decide) rfl ?_
    refine x_lload (i := 4) hC dX5_bits_11 3 rfl ?_
    refine x_lstore (i := 8) (l' := [(8, .long j4), (6, .double d0), (0, .double d0), (2, .long j2), (4, .long j4)]) hC dX5_bits_13 (⟨fun q => absurd (show (6 : Nat) + 1 = 8 from q) (by decide), ⟨fun q => absurd (show (0 : Nat) + 1 = 8 from q) (by decide), ⟨fun q => absurd (show (2 : Nat) + 1 = 8 from q) (by decide), ⟨fun q => absurd (show (4 : Nat) + 1 = 8 from q) (by decide), trivial⟩⟩⟩⟩) (by decide) rfl ?_
    refine x_sub (l' := [(0, .double d0), (2, .long j2), (4, .long j4), (6, .double d0), (8, .long j4)]) [2, 3, 4, 1, 0] rfl ?_
    refine lp_sim (P := fun (t : (UInt64 × Int64 × PH)) => PX Z 10 t.2.2 0 0 15 [(0, .double d0), (2, .long j2), (4, .long j4), (6, .double t.1), (8, .long t.2.1)] []) (G := fun r => r = y) ?_ h rfl
    clear h
    intro t x_15 h hg_15
    obtain ⟨v2, v3, S4⟩ := t
    show PX Z 10 S4 0 0 15 [(0, .double d0), (2, .long j2), (4, .long j4), (6, .double v2), (8, .long v3)] []
    unfold st_X5_bits_15 at h
    refine x_dload (i := 6) hC dX5_bits_15 3 rfl ?_
    refine x_ldc2d hC dX5_bits_17 q_1260 ?_
    refine x_dcmp hC dX5_bits_20 ?_
    refine x_if_lt (t := 41) hC dX5_bits_21 (by decide) (fun c5 => ?_) (fun c5 => ?_)
    · replace h := it_t c5 h
      replace h := ir_x h hg_15
      refine lp_sim (P := fun (t : (UInt64 × Int64 × PH)) => PX Z 10 t.2.2 0 0 41 [(0, .double d0), (2, .long j2), (4, .long j4), (6, .double t.1), (8, .long t.2.1)] []) (G := fun r => r = y) ?_ h rfl
      clear h
      intro t x_41 h hg_41
      obtain ⟨v6, v7, S8⟩ := t
      show PX Z 10 S8 0 0 41 [(0, .double d0), (2, .long j2), (4, .long j4), (6, .double v6), (8, .long v7)] []
      unfold st_X5_bits_41 at h
      refine x_dload (i := 6) hC dX5_bits_41 3 rfl ?_
      refine x_dconst1 hC dX5_bits_43 ?_
      refine x_dcmp hC dX5_bits_44 ?_
      refine x_if_ge (t := 65) hC dX5_bits_45 (by decide) (fun c9 => ?_) (fun c9 => ?_)
      · replace h := it_t c9 h
        replace h := ir_x h hg_41
        refine x_lload (i := 8) hC dX5_bits_65 4 rfl ?_
        refine x_lload_n (i := 2) hC dX5_bits_67 rfl 1 rfl ?_
        refine x_lmul hC dX5_bits_68 ?_
        refine x_dload (i := 6) hC dX5_bits_69 3 rfl ?_
        refine x_dconst1 hC dX5_bits_71 ?_
        replace h := ck_el h
        obtain ⟨hc10, h⟩ := h
        refine x_dsub hC dX5_bits_72 (nn64_ok hc10) ?_
        refine x_lload_n (i := 2) hC dX5_bits_73 rfl 1 rfl ?_
        refine x_l2d hC dX5_bits_74 ?_
        replace h := ck_el h
        obtain ⟨hc11, h⟩ := h
        refine x_dmul hC dX5_bits_75 (nn64_ok hc11) ?_
        refine x_d2l hC dX5_bits_76 ?_
        refine x_ladd hC dX5_bits_77 ?_
        exact x_lret hC hQ (z_N (Option.some.inj h)) (Nat.le_of_ble_eq_true rfl) (Nat.le_of_ble_eq_true rfl) dX5_bits_78
      · replace h := it_f c9 h
        refine x_dload (i := 6) hC dX5_bits_48 3 rfl ?_
        refine x_ldc2d hC dX5_bits_50 q_1260 ?_
        replace h := ck_el h
        obtain ⟨hc12, h⟩ := h
        refine x_dmul hC dX5_bits_53 (nn64_ok hc12) ?_
        replace h := le_el h
        obtain ⟨x13, hx14, h⟩ := h
        refine x_tD hx14 ?_
        refine x_dstore (i := 6) (l' := [(6, .double x13), (0, .double d0), (2, .long j2), (4, .long j4), (8, .long v7)]) hC dX5_bits_54 (⟨fun q => absurd (show (0 : Nat) + 1 = 6 from q) (by decide), ⟨fun q => absurd (show (2 : Nat) + 1 = 6 from q) (by decide), ⟨fun q => absurd (show (4 : Nat) + 1 = 6 from q) (by decide), ⟨fun q => absurd (show (6 : Nat) + 1 = 6 from q) (by decide), ⟨fun q => absurd (show (8 : Nat) + 1 = 6 from q) (by decide), trivial⟩⟩⟩⟩⟩) (by decide) rfl ?_
        refine x_lload (i := 8) hC dX5_bits_56 4 rfl ?_
        refine x_lconst (v := (1 : Int64)) hC dX5_bits_58 (by decide) ?_
        refine x_lsub hC dX5_bits_59 ?_
        replace h := le_el h
        obtain ⟨x15, hx16, h⟩ := h
        refine x_tJ hx16 ?_
        refine x_lstore (i := 8) (l' := [(8, .long x15), (6, .double x13), (0, .double d0), (2, .long j2), (4, .long j4)]) hC dX5_bits_60 (⟨fun q => absurd (show (6 : Nat) + 1 = 8 from q) (by decide), ⟨fun q => absurd (show (0 : Nat) + 1 = 8 from q) (by decide), ⟨fun q => absurd (show (2 : Nat) + 1 = 8 from q) (by decide), ⟨fun q => absurd (show (4 : Nat) + 1 = 8 from q) (by decide), ⟨fun q => absurd (show (8 : Nat) + 1 = 8 from q) (by decide), trivial⟩⟩⟩⟩⟩) (by decide) rfl ?_
        refine x_goto (t := 41) hC dX5_bits_62 (by decide) ?_
        refine x_sub (l' := [(0, .double d0), (2, .long j2), (4, .long j4), (6, .double x13), (8, .long x15)]) [2, 3, 4, 1, 0] rfl ?_
        have hb := bk_x h hg_41
        exact hb
    · replace h := it_f c5 h
      refine x_dload (i := 6) hC dX5_bits_24 3 rfl ?_
      refine x_ldc2d hC dX5_bits_26 q_1260 ?_
      replace h := ck_el h
      obtain ⟨hc17, h⟩ := h
      refine x_ddiv hC dX5_bits_29 (nn64_ok hc17) ?_
      replace h := le_el h
      obtain ⟨x18, hx19, h⟩ := h
      refine x_tD hx19 ?_
      refine x_dstore (i := 6) (l' := [(6, .double x18), (0, .double d0), (2, .long j2), (4, .long j4), (8, .long v3)]) hC dX5_bits_30 (⟨fun q => absurd (show (0 : Nat) + 1 = 6 from q) (by decide), ⟨fun q => absurd (show (2 : Nat) + 1 = 6 from q) (by decide), ⟨fun q => absurd (show (4 : Nat) + 1 = 6 from q) (by decide), ⟨fun q => absurd (show (6 : Nat) + 1 = 6 from q) (by decide), ⟨fun q => absurd (show (8 : Nat) + 1 = 6 from q) (by decide), trivial⟩⟩⟩⟩⟩) (by decide) rfl ?_
      refine x_lload (i := 8) hC dX5_bits_32 4 rfl ?_
      refine x_lconst (v := (1 : Int64)) hC dX5_bits_34 (by decide) ?_
      refine x_ladd hC dX5_bits_35 ?_
      replace h := le_el h
      obtain ⟨x20, hx21, h⟩ := h
      refine x_tJ hx21 ?_
      refine x_lstore (i := 8) (l' := [(8, .long x20), (6, .double x18), (0, .double d0), (2, .long j2), (4, .long j4)]) hC dX5_bits_36 (⟨fun q => absurd (show (6 : Nat) + 1 = 8 from q) (by decide), ⟨fun q => absurd (show (0 : Nat) + 1 = 8 from q) (by decide), ⟨fun q => absurd (show (2 : Nat) + 1 = 8 from q) (by decide), ⟨fun q => absurd (show (4 : Nat) + 1 = 8 from q) (by decide), ⟨fun q => absurd (show (8 : Nat) + 1 = 8 from q) (by decide), trivial⟩⟩⟩⟩⟩) (by decide) rfl ?_
      refine x_goto (t := 15) hC dX5_bits_38 (by decide) ?_
      refine x_sub (l' := [(0, .double d0), (2, .long j2), (4, .long j4), (6, .double x18), (8, .long x20)]) [2, 3, 4, 1, 0] rfl ?_
      have hb := bk_x h hg_15
      exact hb
  · replace h := it_t c1 h
    refine x_lconst (v := (0 : Int64)) hC dX5_bits_6 (by decide) ?_
    exact x_lret hC hQ (z_N (Option.some.inj h)) (Nat.le_of_ble_eq_true rfl) (Nat.le_of_ble_eq_true rfl) dX5_bits_7
theorem dX5_mixPaper_0 : decode cX5_mixPaper 0 = .ok (.iconst 0, 1) := by decide +kernel
theorem dX5_mixPaper_1 : decode cX5_mixPaper 1 = .ok (.istore_n 2, 1) := by decide +kernel
theorem dX5_mixPaper_2 : decode cX5_mixPaper 2 = .ok (.iload_n 2, 1) := by decide +kernel
theorem dX5_mixPaper_3 : decode cX5_mixPaper 3 = .ok (.bipush 10, 2) := by decide +kernel
theorem dX5_mixPaper_5 : decode cX5_mixPaper 5 = .ok (.if_icmp .ge 20, 3) := by decide +kernel
theorem dX5_mixPaper_8 : decode cX5_mixPaper 8 = .ok (.aload_n 0, 1) := by decide +kernel
theorem dX5_mixPaper_9 : decode cX5_mixPaper 9 = .ok (.aload_n 0, 1) := by decide +kernel
theorem dX5_mixPaper_10 : decode cX5_mixPaper 10 = .ok (.iload_n 1, 1) := by decide +kernel
theorem dX5_mixPaper_11 : decode cX5_mixPaper 11 = .ok (.iload_n 2, 1) := by decide +kernel
theorem dX5_mixPaper_12 : decode cX5_mixPaper 12 = .ok (.invokevirtual 178, 3) := by decide +kernel
theorem dX5_mixPaper_15 : decode cX5_mixPaper 15 = .ok (.i2l, 1) := by decide +kernel
theorem dX5_mixPaper_16 : decode cX5_mixPaper 16 = .ok (.invokevirtual 229, 3) := by decide +kernel
theorem dX5_mixPaper_19 : decode cX5_mixPaper 19 = .ok (.iinc 2 1, 3) := by decide +kernel
theorem dX5_mixPaper_22 : decode cX5_mixPaper 22 = .ok (.goto (-20), 3) := by decide +kernel
theorem dX5_mixPaper_25 : decode cX5_mixPaper 25 = .ok (.iconst 0, 1) := by decide +kernel
theorem dX5_mixPaper_26 : decode cX5_mixPaper 26 = .ok (.istore_n 2, 1) := by decide +kernel
theorem dX5_mixPaper_27 : decode cX5_mixPaper 27 = .ok (.iload_n 2, 1) := by decide +kernel
theorem dX5_mixPaper_28 : decode cX5_mixPaper 28 = .ok (.bipush 8, 2) := by decide +kernel
theorem dX5_mixPaper_30 : decode cX5_mixPaper 30 = .ok (.if_icmp .ge 20, 3) := by decide +kernel
theorem dX5_mixPaper_33 : decode cX5_mixPaper 33 = .ok (.aload_n 0, 1) := by decide +kernel
theorem dX5_mixPaper_34 : decode cX5_mixPaper 34 = .ok (.aload_n 0, 1) := by decide +kernel
theorem dX5_mixPaper_35 : decode cX5_mixPaper 35 = .ok (.iload_n 2, 1) := by decide +kernel
theorem dX5_mixPaper_36 : decode cX5_mixPaper 36 = .ok (.iload_n 1, 1) := by decide +kernel
theorem dX5_mixPaper_37 : decode cX5_mixPaper 37 = .ok (.invokevirtual 35, 3) := by decide +kernel
theorem dX5_mixPaper_40 : decode cX5_mixPaper 40 = .ok (.i2l, 1) := by decide +kernel
theorem dX5_mixPaper_41 : decode cX5_mixPaper 41 = .ok (.invokevirtual 229, 3) := by decide +kernel
theorem dX5_mixPaper_44 : decode cX5_mixPaper 44 = .ok (.iinc 2 1, 3) := by decide +kernel
theorem dX5_mixPaper_47 : decode cX5_mixPaper 47 = .ok (.goto (-20), 3) := by decide +kernel
theorem dX5_mixPaper_50 : decode cX5_mixPaper 50 = .ok (.aload_n 0, 1) := by decide +kernel
theorem dX5_mixPaper_51 : decode cX5_mixPaper 51 = .ok (.aload_n 0, 1) := by decide +kernel
theorem dX5_mixPaper_52 : decode cX5_mixPaper 52 = .ok (.iload_n 1, 1) := by decide +kernel
theorem dX5_mixPaper_53 : decode cX5_mixPaper 53 = .ok (.invokevirtual 193, 3) := by decide +kernel
theorem dX5_mixPaper_56 : decode cX5_mixPaper 56 = .ok (.i2l, 1) := by decide +kernel
theorem dX5_mixPaper_57 : decode cX5_mixPaper 57 = .ok (.invokevirtual 229, 3) := by decide +kernel
theorem dX5_mixPaper_60 : decode cX5_mixPaper 60 = .ok (.aload_n 0, 1) := by decide +kernel
theorem dX5_mixPaper_61 : decode cX5_mixPaper 61 = .ok (.aload_n 0, 1) := by decide +kernel
theorem dX5_mixPaper_62 : decode cX5_mixPaper 62 = .ok (.iload_n 1, 1) := by decide +kernel
theorem dX5_mixPaper_63 : decode cX5_mixPaper 63 = .ok (.invokevirtual 208, 3) := by decide +kernel
theorem dX5_mixPaper_66 : decode cX5_mixPaper 66 = .ok (.i2l, 1) := by decide +kernel
theorem dX5_mixPaper_67 : decode cX5_mixPaper 67 = .ok (.invokevirtual 229, 3) := by decide +kernel
theorem dX5_mixPaper_70 : decode cX5_mixPaper 70 = .ok (.aload_n 0, 1) := by decide +kernel
theorem dX5_mixPaper_71 : decode cX5_mixPaper 71 = .ok (.iload_n 1, 1) := by decide +kernel
theorem dX5_mixPaper_72 : decode cX5_mixPaper 72 = .ok (.invokevirtual 213, 3) := by decide +kernel
theorem dX5_mixPaper_75 : decode cX5_mixPaper 75 = .ok (.dstore_n 2, 1) := by decide +kernel
theorem dX5_mixPaper_76 : decode cX5_mixPaper 76 = .ok (.aload_n 0, 1) := by decide +kernel
theorem dX5_mixPaper_77 : decode cX5_mixPaper 77 = .ok (.dload_n 2, 1) := by decide +kernel
theorem dX5_mixPaper_78 : decode cX5_mixPaper 78 = .ok (.dconst 0, 1) := by decide +kernel
theorem dX5_mixPaper_79 : decode cX5_mixPaper 79 = .ok (.dcmp .g, 1) := by decide +kernel
theorem dX5_mixPaper_80 : decode cX5_mixPaper 80 = .ok (.ifCond .ge 9, 3) := by decide +kernel
theorem dX5_mixPaper_83 : decode cX5_mixPaper 83 = .ok (.ldc2_w 233, 3) := by decide +kernel
theorem dX5_mixPaper_86 : decode cX5_mixPaper 86 = .ok (.goto 13, 3) := by decide +kernel
theorem dX5_mixPaper_89 : decode cX5_mixPaper 89 = .ok (.dload_n 2, 1) := by decide +kernel
theorem dX5_mixPaper_90 : decode cX5_mixPaper 90 = .ok (.ldc2_w 235, 3) := by decide +kernel
theorem dX5_mixPaper_93 : decode cX5_mixPaper 93 = .ok (.ldc2_w 237, 3) := by decide +kernel
theorem dX5_mixPaper_96 : decode cX5_mixPaper 96 = .ok (.invokestatic 239, 3) := by decide +kernel
theorem dX5_mixPaper_99 : decode cX5_mixPaper 99 = .ok (.invokevirtual 229, 3) := by decide +kernel
theorem dX5_mixPaper_102 : decode cX5_mixPaper 102 = .ok (.return_, 1) := by decide +kernel
set_option maxRecDepth 100000 in
set_option maxHeartbeats 4000000 in
theorem mt_X5_mixPaper (r0 : Option Nat) (i1 : Int32) (S0 : PH) (y : Unit × PH) (h : m_X5_mixPaper r0 i1 S0 = some y) : MT yX5_mixPaper (.code yX5_mixPaper cX5_mixPaper 4 (Option.none : Option FieldType)) 6 138 0 0 [va_rf r0, .int i1] S0 (oQ e_V (qN y)) := by
  refine mt_of (own := RX5) (l0 := [(0, va_rf r0), (1, .int i1)]) rfl rfl (by cases r0 <;> exact Nat.le_of_ble_eq_true rfl) (by cases r0 <;> rfl) ?_
  intro Z hC hQ hE hN
  have J_99 : ∀ (v41 : Option Nat) (v42 : Int64) (S43 : PH), j_X5_mixPaper_99 r0 i1 v41 v42 S43 = some y → PX Z 4 S43 0 0 99 [(0, va_rf r0), (1, .int i1)] [.long v42, va_rf v41] := by
    intro v41 v42 S43 h
    unfold j_X5_mixPaper_99 at h
    replace h := dr_el h
    obtain ⟨a44, ea45, ha46, h⟩ := h
    replace h := bd_el h
    obtain ⟨v47, S48, hb49, h⟩ := h
    refine x_callV hC (st := []) (mt_X5_mix _ _ _ _ hb49) ea45 ha46 kf_5 q_1245 q_1247 qs_91 q_7 q_1248 ⟨rfl, hy_X5_mix⟩ ⟨Nat.le_of_ble_eq_true rfl, Nat.le_of_ble_eq_true rfl⟩ ⟨Nat.le_of_ble_eq_true rfl, Nat.le_of_ble_eq_true rfl⟩ rfl (Nat.le_of_ble_eq_true rfl) dX5_mixPaper_99 (r_N ?_) r_NX
    show PX Z 4 S48 0 0 102 [(0, va_rf r0), (1, .int i1)] []
    exact x_vret hC hQ (z_N (v := ()) (Option.some.inj h)) (Nat.le_of_ble_eq_true rfl) (Nat.le_of_ble_eq_true rfl) dX5_mixPaper_102
  unfold m_X5_mixPaper at h
  refine x_iconst (v := (0 : Int32)) hC dX5_mixPaper_0 (by decide) ?_
  refine x_istore_n (i := 2) (l' := [(2, .int (0 : Int32)), (0, va_rf r0), (1, .int i1)]) hC dX5_mixPaper_1 rfl (⟨fun _ => c_rf r0, ⟨fun _ => rfl, trivial⟩⟩) (by decide) rfl ?_
  refine x_sub (l' := [(0, va_rf r0), (1, .int i1), (2, .int (0 : Int32))]) [1, 2, 0] rfl ?_
  refine lp_sim (P := fun (t : (Int32 × PH)) => PX Z 4 t.2 0 0 2 [(0, va_rf r0), (1, .int i1), (2, .int t.1)] []) (G := fun r => r = y) ?_ h rfl
  clear h
  intro t x_2 h hg_2
  obtain ⟨v1, S2⟩ := t
  show PX Z 4 S2 0 0 2 [(0, va_rf r0), (1, .int i1), (2, .int v1)] []
  unfold st_X5_mixPaper_2 at h
  refine x_iload_n (i := 2) hC dX5_mixPaper_2 rfl 2 rfl ?_
  refine x_bipush (v := (10 : Int32)) hC dX5_mixPaper_3 (by decide) ?_
  refine x_icmp_ge (t := 25) hC dX5_mixPaper_5 (by decide) (fun c3 => ?_) (fun c3 => ?_)
  · replace h := it_t c3 h
    replace h := ir_x h hg_2
    refine x_iconst (v := (0 : Int32)) hC dX5_mixPaper_25 (by decide) ?_
    refine x_istore_n (i := 2) (l' := [(2, .int (0 : Int32)), (0, va_rf r0), (1, .int i1)]) hC dX5_mixPaper_26 rfl (⟨fun _ => c_rf r0, ⟨fun _ => rfl, ⟨fun _ => rfl, trivial⟩⟩⟩) (by decide) rfl ?_
    refine x_sub (l' := [(0, va_rf r0), (1, .int i1), (2, .int (0 : Int32))]) [1, 2, 0] rfl ?_
    refine lp_sim (P := fun (t : (Int32 × PH)) => PX Z 4 t.2 0 0 27 [(0, va_rf r0), (1, .int i1), (2, .int t.1)] []) (G := fun r => r = y) ?_ h rfl
    clear h
    intro t x_27 h hg_27
    obtain ⟨v4, S5⟩ := t
    show PX Z 4 S5 0 0 27 [(0, va_rf r0), (1, .int i1), (2, .int v4)] []
    unfold st_X5_mixPaper_27 at h
    refine x_iload_n (i := 2) hC dX5_mixPaper_27 rfl 2 rfl ?_
    refine x_bipush (v := (8 : Int32)) hC dX5_mixPaper_28 (by decide) ?_
    refine x_icmp_ge (t := 50) hC dX5_mixPaper_30 (by decide) (fun c6 => ?_) (fun c6 => ?_)
    · replace h := it_t c6 h
      replace h := ir_x h hg_27
      refine x_aload_n (i := 0) hC dX5_mixPaper_50 rfl 0 rfl ?_
      refine x_aload_n (i := 0) hC dX5_mixPaper_51 rfl 0 rfl ?_
      refine x_iload_n (i := 1) hC dX5_mixPaper_52 rfl 1 rfl ?_
      replace h := dr_el h
      obtain ⟨a7, ea8, ha9, h⟩ := h
      replace h := bd_el h
      obtain ⟨v10, S11, hb12, h⟩ := h
      refine x_callV hC (st := [va_rf r0]) (mt_X5_best _ _ _ _ hb12) ea8 ha9 kf_5 q_1187 q_1189 qs_83 q_7 q_1190 ⟨rfl, hy_X5_best⟩ ⟨Nat.le_of_ble_eq_true rfl, Nat.le_of_ble_eq_true rfl⟩ ⟨Nat.le_of_ble_eq_true rfl, Nat.le_of_ble_eq_true rfl⟩ rfl (Nat.le_of_ble_eq_true rfl) dX5_mixPaper_53 (r_N ?_) r_NX
      show PX Z 4 S11 0 0 56 [(0, va_rf r0), (1, .int i1), (2, .int v4)] [.int v10, va_rf r0]
      refine x_i2l hC dX5_mixPaper_56 ?_
      replace h := dr_el h
      obtain ⟨a13, ea14, ha15, h⟩ := h
      replace h := bd_el h
      obtain ⟨v16, S17, hb18, h⟩ := h
      refine x_callV hC (st := []) (mt_X5_mix _ _ _ _ hb18) ea14 ha15 kf_5 q_1245 q_1247 qs_91 q_7 q_1248 ⟨rfl, hy_X5_mix⟩ ⟨Nat.le_of_ble_eq_true rfl, Nat.le_of_ble_eq_true rfl⟩ ⟨Nat.le_of_ble_eq_true rfl, Nat.le_of_ble_eq_true rfl⟩ rfl (Nat.le_of_ble_eq_true rfl) dX5_mixPaper_57 (r_N ?_) r_NX
      show PX Z 4 S17 0 0 60 [(0, va_rf r0), (1, .int i1), (2, .int v4)] []
      refine x_aload_n (i := 0) hC dX5_mixPaper_60 rfl 0 rfl ?_
      refine x_aload_n (i := 0) hC dX5_mixPaper_61 rfl 0 rfl ?_
      refine x_iload_n (i := 1) hC dX5_mixPaper_62 rfl 1 rfl ?_
      replace h := dr_el h
      obtain ⟨a19, ea20, ha21, h⟩ := h
      replace h := bd_el h
      obtain ⟨v22, S23, hb24, h⟩ := h
      refine x_callV hC (st := [va_rf r0]) (mt_X5_rounds _ _ _ _ hb24) ea20 ha21 kf_5 q_1215 q_1217 qs_87 q_7 q_1218 ⟨rfl, hy_X5_rounds⟩ ⟨Nat.le_of_ble_eq_true rfl, Nat.le_of_ble_eq_true rfl⟩ ⟨Nat.le_of_ble_eq_true rfl, Nat.le_of_ble_eq_true rfl⟩ rfl (Nat.le_of_ble_eq_true rfl) dX5_mixPaper_63 (r_N ?_) r_NX
      show PX Z 4 S23 0 0 66 [(0, va_rf r0), (1, .int i1), (2, .int v4)] [.int v22, va_rf r0]
      refine x_i2l hC dX5_mixPaper_66 ?_
      replace h := dr_el h
      obtain ⟨a25, ea26, ha27, h⟩ := h
      replace h := bd_el h
      obtain ⟨v28, S29, hb30, h⟩ := h
      refine x_callV hC (st := []) (mt_X5_mix _ _ _ _ hb30) ea26 ha27 kf_5 q_1245 q_1247 qs_91 q_7 q_1248 ⟨rfl, hy_X5_mix⟩ ⟨Nat.le_of_ble_eq_true rfl, Nat.le_of_ble_eq_true rfl⟩ ⟨Nat.le_of_ble_eq_true rfl, Nat.le_of_ble_eq_true rfl⟩ rfl (Nat.le_of_ble_eq_true rfl) dX5_mixPaper_67 (r_N ?_) r_NX
      show PX Z 4 S29 0 0 70 [(0, va_rf r0), (1, .int i1), (2, .int v4)] []
      refine x_aload_n (i := 0) hC dX5_mixPaper_70 rfl 0 rfl ?_
      refine x_iload_n (i := 1) hC dX5_mixPaper_71 rfl 1 rfl ?_
      replace h := dr_el h
      obtain ⟨a31, ea32, ha33, h⟩ := h
      replace h := bd_el h
      obtain ⟨v34, S35, hb36, h⟩ := h
      refine x_callV hC (st := []) (mt_X5_mean _ _ _ _ hb36) ea32 ha33 kf_5 q_1227 q_1229 qs_89 q_7 q_1230 ⟨rfl, hy_X5_mean⟩ ⟨Nat.le_of_ble_eq_true rfl, Nat.le_of_ble_eq_true rfl⟩ ⟨Nat.le_of_ble_eq_true rfl, Nat.le_of_ble_eq_true rfl⟩ rfl (Nat.le_of_ble_eq_true rfl) dX5_mixPaper_72 (r_N ?_) r_NX
      show PX Z 4 S35 0 0 75 [(0, va_rf r0), (1, .int i1), (2, .int v4)] [.double v34]
      refine x_dstore_n (i := 2) (l' := [(2, .double v34), (0, va_rf r0), (1, .int i1)]) hC dX5_mixPaper_75 rfl (⟨fun _ => c_rf r0, ⟨fun _ => rfl, ⟨fun _ => rfl, trivial⟩⟩⟩) (by decide) rfl ?_
      refine x_aload_n (i := 0) hC dX5_mixPaper_76 rfl 1 rfl ?_
      refine x_dload_n (i := 2) hC dX5_mixPaper_77 rfl 0 rfl ?_
      refine x_dconst0 hC dX5_mixPaper_78 ?_
      refine x_dcmp hC dX5_mixPaper_79 ?_
      refine x_if_ge (t := 89) hC dX5_mixPaper_80 (by decide) (fun c37 => ?_) (fun c37 => ?_)
      · replace h := it_t c37 h
        refine x_dload_n (i := 2) hC dX5_mixPaper_89 rfl 0 rfl ?_
        refine x_ldc2 hC dX5_mixPaper_90 q_1255 ?_
        refine x_ldc2 hC dX5_mixPaper_93 q_1256 ?_
        replace h := bd_el h
        obtain ⟨v38, S39, hb40, h⟩ := h
        refine x_callS hC (st := [va_rf r0]) (mt_X5_bits _ _ _ _ _ hb40) q_1257 q_1258 q_7 q_1259 hy_X5_bits ⟨Nat.le_of_ble_eq_true rfl, Nat.le_of_ble_eq_true rfl⟩ ⟨Nat.le_of_ble_eq_true rfl, Nat.le_of_ble_eq_true rfl⟩ rfl (Nat.le_of_ble_eq_true rfl) dX5_mixPaper_96 (r_N ?_) r_NX
        show PX Z 4 S39 0 0 99 [(2, .double v34), (0, va_rf r0), (1, .int i1)] [.long v38, va_rf r0]
        refine x_sub (l' := [(0, va_rf r0), (1, .int i1)]) [1, 2] rfl ?_
        exact J_99 _ _ _ h
      · replace h := it_f c37 h
        refine x_ldc2 hC dX5_mixPaper_83 q_1254 ?_
        refine x_goto (t := 99) hC dX5_mixPaper_86 (by decide) ?_
        refine x_sub (l' := [(0, va_rf r0), (1, .int i1)]) [1, 2] rfl ?_
        exact J_99 _ _ _ h
    · replace h := it_f c6 h
      refine x_aload_n (i := 0) hC dX5_mixPaper_33 rfl 0 rfl ?_
      refine x_aload_n (i := 0) hC dX5_mixPaper_34 rfl 0 rfl ?_
      refine x_iload_n (i := 2) hC dX5_mixPaper_35 rfl 2 rfl ?_
      refine x_iload_n (i := 1) hC dX5_mixPaper_36 rfl 1 rfl ?_
      replace h := dr_el h
      obtain ⟨a50, ea51, ha52, h⟩ := h
      replace h := bd_el h
      obtain ⟨v53, S54, hb55, h⟩ := h
      refine x_callV hC (st := [va_rf r0]) (mt_X5_scoreOf _ _ _ _ _ hb55) ea51 ha52 kf_5 q_985 q_987 qs_53 q_7 q_988 ⟨rfl, hy_X5_scoreOf⟩ ⟨Nat.le_of_ble_eq_true rfl, Nat.le_of_ble_eq_true rfl⟩ ⟨Nat.le_of_ble_eq_true rfl, Nat.le_of_ble_eq_true rfl⟩ rfl (Nat.le_of_ble_eq_true rfl) dX5_mixPaper_37 (r_N ?_) r_NX
      show PX Z 4 S54 0 0 40 [(0, va_rf r0), (1, .int i1), (2, .int v4)] [.int v53, va_rf r0]
      refine x_i2l hC dX5_mixPaper_40 ?_
      replace h := dr_el h
      obtain ⟨a56, ea57, ha58, h⟩ := h
      replace h := bd_el h
      obtain ⟨v59, S60, hb61, h⟩ := h
      refine x_callV hC (st := []) (mt_X5_mix _ _ _ _ hb61) ea57 ha58 kf_5 q_1245 q_1247 qs_91 q_7 q_1248 ⟨rfl, hy_X5_mix⟩ ⟨Nat.le_of_ble_eq_true rfl, Nat.le_of_ble_eq_true rfl⟩ ⟨Nat.le_of_ble_eq_true rfl, Nat.le_of_ble_eq_true rfl⟩ rfl (Nat.le_of_ble_eq_true rfl) dX5_mixPaper_41 (r_N ?_) r_NX
      show PX Z 4 S60 0 0 44 [(0, va_rf r0), (1, .int i1), (2, .int v4)] []
      refine x_iinc (i := 2) (v := (v4 + (1 : Int32))) (l' := [(2, .int (v4 + (1 : Int32))), (0, va_rf r0), (1, .int i1)]) hC dX5_mixPaper_44 2 rfl rfl (⟨fun _ => c_rf r0, ⟨fun _ => rfl, ⟨fun _ => rfl, trivial⟩⟩⟩) (by decide) rfl ?_
      refine x_goto (t := 27) hC dX5_mixPaper_47 (by decide) ?_
      refine x_sub (l' := [(0, va_rf r0), (1, .int i1), (2, .int (v4 + (1 : Int32)))]) [1, 2, 0] rfl ?_
      have hb := bk_x h hg_27
      exact hb
  · replace h := it_f c3 h
    refine x_aload_n (i := 0) hC dX5_mixPaper_8 rfl 0 rfl ?_
    refine x_aload_n (i := 0) hC dX5_mixPaper_9 rfl 0 rfl ?_
    refine x_iload_n (i := 1) hC dX5_mixPaper_10 rfl 1 rfl ?_
    refine x_iload_n (i := 2) hC dX5_mixPaper_11 rfl 2 rfl ?_
    replace h := dr_el h
    obtain ⟨a62, ea63, ha64, h⟩ := h
    replace h := bd_el h
    obtain ⟨v65, S66, hb67, h⟩ := h
    refine x_callV hC (st := [va_rf r0]) (mt_X5_ofPaper _ _ _ _ _ hb67) ea63 ha64 kf_5 q_1143 q_1145 qs_77 q_7 q_1146 ⟨rfl, hy_X5_ofPaper⟩ ⟨Nat.le_of_ble_eq_true rfl, Nat.le_of_ble_eq_true rfl⟩ ⟨Nat.le_of_ble_eq_true rfl, Nat.le_of_ble_eq_true rfl⟩ rfl (Nat.le_of_ble_eq_true rfl) dX5_mixPaper_12 (r_N ?_) r_NX
    show PX Z 4 S66 0 0 15 [(0, va_rf r0), (1, .int i1), (2, .int v1)] [.int v65, va_rf r0]
    refine x_i2l hC dX5_mixPaper_15 ?_
    replace h := dr_el h
    obtain ⟨a68, ea69, ha70, h⟩ := h
    replace h := bd_el h
    obtain ⟨v71, S72, hb73, h⟩ := h
    refine x_callV hC (st := []) (mt_X5_mix _ _ _ _ hb73) ea69 ha70 kf_5 q_1245 q_1247 qs_91 q_7 q_1248 ⟨rfl, hy_X5_mix⟩ ⟨Nat.le_of_ble_eq_true rfl, Nat.le_of_ble_eq_true rfl⟩ ⟨Nat.le_of_ble_eq_true rfl, Nat.le_of_ble_eq_true rfl⟩ rfl (Nat.le_of_ble_eq_true rfl) dX5_mixPaper_16 (r_N ?_) r_NX
    show PX Z 4 S72 0 0 19 [(0, va_rf r0), (1, .int i1), (2, .int v1)] []
    refine x_iinc (i := 2) (v := (v1 + (1 : Int32))) (l' := [(2, .int (v1 + (1 : Int32))), (0, va_rf r0), (1, .int i1)]) hC dX5_mixPaper_19 2 rfl rfl (⟨fun _ => c_rf r0, ⟨fun _ => rfl, ⟨fun _ => rfl, trivial⟩⟩⟩) (by decide) rfl ?_
    refine x_goto (t := 2) hC dX5_mixPaper_22 (by decide) ?_
    refine x_sub (l' := [(0, va_rf r0), (1, .int i1), (2, .int (v1 + (1 : Int32)))]) [1, 2, 0] rfl ?_
    have hb := bk_x h hg_2
    exact hb
theorem dX5_digest_0 : decode cX5_digest 0 = .ok (.aload_n 0, 1) := by decide +kernel
theorem dX5_digest_1 : decode cX5_digest 1 = .ok (.iconst 0, 1) := by decide +kernel
theorem dX5_digest_2 : decode cX5_digest 2 = .ok (.putfield 23, 3) := by decide +kernel
theorem dX5_digest_5 : decode cX5_digest 5 = .ok (.aload_n 0, 1) := by decide +kernel
theorem dX5_digest_6 : decode cX5_digest 6 = .ok (.ldc2_w 243, 3) := by decide +kernel
theorem dX5_digest_9 : decode cX5_digest 9 = .ok (.putfield 223, 3) := by decide +kernel
theorem dX5_digest_12 : decode cX5_digest 12 = .ok (.iconst 0, 1) := by decide +kernel
theorem dX5_digest_13 : decode cX5_digest 13 = .ok (.istore_n 1, 1) := by decide +kernel
theorem dX5_digest_14 : decode cX5_digest 14 = .ok (.iload_n 1, 1) := by decide +kernel
theorem dX5_digest_15 : decode cX5_digest 15 = .ok (.bipush 12, 2) := by decide +kernel
theorem dX5_digest_17 : decode cX5_digest 17 = .ok (.if_icmp .ge 19, 3) := by decide +kernel
theorem dX5_digest_20 : decode cX5_digest 20 = .ok (.aload_n 0, 1) := by decide +kernel
theorem dX5_digest_21 : decode cX5_digest 21 = .ok (.aload_n 0, 1) := by decide +kernel
theorem dX5_digest_22 : decode cX5_digest 22 = .ok (.iload_n 1, 1) := by decide +kernel
theorem dX5_digest_23 : decode cX5_digest 23 = .ok (.invokevirtual 190, 3) := by decide +kernel
theorem dX5_digest_26 : decode cX5_digest 26 = .ok (.i2l, 1) := by decide +kernel
theorem dX5_digest_27 : decode cX5_digest 27 = .ok (.invokevirtual 229, 3) := by decide +kernel
theorem dX5_digest_30 : decode cX5_digest 30 = .ok (.iinc 1 1, 3) := by decide +kernel
theorem dX5_digest_33 : decode cX5_digest 33 = .ok (.goto (-19), 3) := by decide +kernel
theorem dX5_digest_36 : decode cX5_digest 36 = .ok (.iconst 0, 1) := by decide +kernel
theorem dX5_digest_37 : decode cX5_digest 37 = .ok (.istore_n 1, 1) := by decide +kernel
theorem dX5_digest_38 : decode cX5_digest 38 = .ok (.iload_n 1, 1) := by decide +kernel
theorem dX5_digest_39 : decode cX5_digest 39 = .ok (.iconst 4, 1) := by decide +kernel
theorem dX5_digest_40 : decode cX5_digest 40 = .ok (.if_icmp .ge 22, 3) := by decide +kernel
theorem dX5_digest_43 : decode cX5_digest 43 = .ok (.aload_n 0, 1) := by decide +kernel
theorem dX5_digest_44 : decode cX5_digest 44 = .ok (.aload_n 0, 1) := by decide +kernel
theorem dX5_digest_45 : decode cX5_digest 45 = .ok (.getfield 7, 3) := by decide +kernel
theorem dX5_digest_48 : decode cX5_digest 48 = .ok (.iconst 4, 1) := by decide +kernel
theorem dX5_digest_49 : decode cX5_digest 49 = .ok (.iload_n 1, 1) := by decide +kernel
theorem dX5_digest_50 : decode cX5_digest 50 = .ok (.iadd, 1) := by decide +kernel
theorem dX5_digest_51 : decode cX5_digest 51 = .ok (.iaload, 1) := by decide +kernel
theorem dX5_digest_52 : decode cX5_digest 52 = .ok (.i2l, 1) := by decide +kernel
theorem dX5_digest_53 : decode cX5_digest 53 = .ok (.invokevirtual 229, 3) := by decide +kernel
theorem dX5_digest_56 : decode cX5_digest 56 = .ok (.iinc 1 1, 3) := by decide +kernel
theorem dX5_digest_59 : decode cX5_digest 59 = .ok (.goto (-21), 3) := by decide +kernel
theorem dX5_digest_62 : decode cX5_digest 62 = .ok (.iconst 0, 1) := by decide +kernel
theorem dX5_digest_63 : decode cX5_digest 63 = .ok (.istore_n 1, 1) := by decide +kernel
theorem dX5_digest_64 : decode cX5_digest 64 = .ok (.iload_n 1, 1) := by decide +kernel
theorem dX5_digest_65 : decode cX5_digest 65 = .ok (.bipush 72, 2) := by decide +kernel
theorem dX5_digest_67 : decode cX5_digest 67 = .ok (.if_icmp .ge 26, 3) := by decide +kernel
theorem dX5_digest_70 : decode cX5_digest 70 = .ok (.aload_n 0, 1) := by decide +kernel
theorem dX5_digest_71 : decode cX5_digest 71 = .ok (.aload_n 0, 1) := by decide +kernel
theorem dX5_digest_72 : decode cX5_digest 72 = .ok (.iload_n 1, 1) := by decide +kernel
theorem dX5_digest_73 : decode cX5_digest 73 = .ok (.bipush 9, 2) := by decide +kernel
theorem dX5_digest_75 : decode cX5_digest 75 = .ok (.idiv, 1) := by decide +kernel
theorem dX5_digest_76 : decode cX5_digest 76 = .ok (.iload_n 1, 1) := by decide +kernel
theorem dX5_digest_77 : decode cX5_digest 77 = .ok (.bipush 9, 2) := by decide +kernel
theorem dX5_digest_79 : decode cX5_digest 79 = .ok (.irem, 1) := by decide +kernel
theorem dX5_digest_80 : decode cX5_digest 80 = .ok (.invokevirtual 172, 3) := by decide +kernel
theorem dX5_digest_83 : decode cX5_digest 83 = .ok (.i2l, 1) := by decide +kernel
theorem dX5_digest_84 : decode cX5_digest 84 = .ok (.invokevirtual 229, 3) := by decide +kernel
theorem dX5_digest_87 : decode cX5_digest 87 = .ok (.iinc 1 1, 3) := by decide +kernel
theorem dX5_digest_90 : decode cX5_digest 90 = .ok (.goto (-26), 3) := by decide +kernel
theorem dX5_digest_93 : decode cX5_digest 93 = .ok (.iconst 0, 1) := by decide +kernel
theorem dX5_digest_94 : decode cX5_digest 94 = .ok (.istore_n 1, 1) := by decide +kernel
theorem dX5_digest_95 : decode cX5_digest 95 = .ok (.iload_n 1, 1) := by decide +kernel
theorem dX5_digest_96 : decode cX5_digest 96 = .ok (.aload_n 0, 1) := by decide +kernel
theorem dX5_digest_97 : decode cX5_digest 97 = .ok (.getfield 7, 3) := by decide +kernel
theorem dX5_digest_100 : decode cX5_digest 100 = .ok (.bipush 8, 2) := by decide +kernel
theorem dX5_digest_102 : decode cX5_digest 102 = .ok (.iaload, 1) := by decide +kernel
theorem dX5_digest_103 : decode cX5_digest 103 = .ok (.if_icmp .ge 14, 3) := by decide +kernel
theorem dX5_digest_106 : decode cX5_digest 106 = .ok (.aload_n 0, 1) := by decide +kernel
theorem dX5_digest_107 : decode cX5_digest 107 = .ok (.iload_n 1, 1) := by decide +kernel
theorem dX5_digest_108 : decode cX5_digest 108 = .ok (.invokevirtual 245, 3) := by decide +kernel
theorem dX5_digest_111 : decode cX5_digest 111 = .ok (.iinc 1 1, 3) := by decide +kernel
theorem dX5_digest_114 : decode cX5_digest 114 = .ok (.goto (-19), 3) := by decide +kernel
theorem dX5_digest_117 : decode cX5_digest 117 = .ok (.aload_n 0, 1) := by decide +kernel
theorem dX5_digest_118 : decode cX5_digest 118 = .ok (.aload_n 0, 1) := by decide +kernel
theorem dX5_digest_119 : decode cX5_digest 119 = .ok (.iconst (-1), 1) := by decide +kernel
theorem dX5_digest_120 : decode cX5_digest 120 = .ok (.invokevirtual 199, 3) := by decide +kernel
theorem dX5_digest_123 : decode cX5_digest 123 = .ok (.i2l, 1) := by decide +kernel
theorem dX5_digest_124 : decode cX5_digest 124 = .ok (.invokevirtual 229, 3) := by decide +kernel
theorem dX5_digest_127 : decode cX5_digest 127 = .ok (.aload_n 0, 1) := by decide +kernel
theorem dX5_digest_128 : decode cX5_digest 128 = .ok (.aload_n 0, 1) := by decide +kernel
theorem dX5_digest_129 : decode cX5_digest 129 = .ok (.iconst (-1), 1) := by decide +kernel
theorem dX5_digest_130 : decode cX5_digest 130 = .ok (.invokevirtual 199, 3) := by decide +kernel
theorem dX5_digest_133 : decode cX5_digest 133 = .ok (.i2l, 1) := by decide +kernel
theorem dX5_digest_134 : decode cX5_digest 134 = .ok (.invokevirtual 229, 3) := by decide +kernel
theorem dX5_digest_137 : decode cX5_digest 137 = .ok (.aload_n 0, 1) := by decide +kernel
theorem dX5_digest_138 : decode cX5_digest 138 = .ok (.aload_n 0, 1) := by decide +kernel
theorem dX5_digest_139 : decode cX5_digest 139 = .ok (.invokevirtual 202, 3) := by decide +kernel
theorem dX5_digest_142 : decode cX5_digest 142 = .ok (.i2l, 1) := by decide +kernel
theorem dX5_digest_143 : decode cX5_digest 143 = .ok (.invokevirtual 229, 3) := by decide +kernel
theorem dX5_digest_146 : decode cX5_digest 146 = .ok (.aload_n 0, 1) := by decide +kernel
theorem dX5_digest_147 : decode cX5_digest 147 = .ok (.aload_n 0, 1) := by decide +kernel
theorem dX5_digest_148 : decode cX5_digest 148 = .ok (.invokevirtual 217, 3) := by decide +kernel
theorem dX5_digest_151 : decode cX5_digest 151 = .ok (.f2d, 1) := by decide +kernel
theorem dX5_digest_152 : decode cX5_digest 152 = .ok (.ldc2_w 249, 3) := by decide +kernel
theorem dX5_digest_155 : decode cX5_digest 155 = .ok (.ldc2_w 251, 3) := by decide +kernel
theorem dX5_digest_158 : decode cX5_digest 158 = .ok (.invokestatic 239, 3) := by decide +kernel
theorem dX5_digest_161 : decode cX5_digest 161 = .ok (.invokevirtual 229, 3) := by decide +kernel
theorem dX5_digest_164 : decode cX5_digest 164 = .ok (.aload_n 0, 1) := by decide +kernel
theorem dX5_digest_165 : decode cX5_digest 165 = .ok (.aload_n 0, 1) := by decide +kernel
theorem dX5_digest_166 : decode cX5_digest 166 = .ok (.getfield 13, 3) := by decide +kernel
theorem dX5_digest_169 : decode cX5_digest 169 = .ok (.iconst 0, 1) := by decide +kernel
theorem dX5_digest_170 : decode cX5_digest 170 = .ok (.baload, 1) := by decide +kernel
theorem dX5_digest_171 : decode cX5_digest 171 = .ok (.ifCond .eq 7, 3) := by decide +kernel
theorem dX5_digest_174 : decode cX5_digest 174 = .ok (.lconst 1, 1) := by decide +kernel
theorem dX5_digest_175 : decode cX5_digest 175 = .ok (.goto 4, 3) := by decide +kernel
theorem dX5_digest_178 : decode cX5_digest 178 = .ok (.lconst 0, 1) := by decide +kernel
theorem dX5_digest_179 : decode cX5_digest 179 = .ok (.invokevirtual 229, 3) := by decide +kernel
theorem dX5_digest_182 : decode cX5_digest 182 = .ok (.aload_n 0, 1) := by decide +kernel
theorem dX5_digest_183 : decode cX5_digest 183 = .ok (.aload_n 0, 1) := by decide +kernel
theorem dX5_digest_184 : decode cX5_digest 184 = .ok (.getfield 13, 3) := by decide +kernel
theorem dX5_digest_187 : decode cX5_digest 187 = .ok (.iconst 1, 1) := by decide +kernel
theorem dX5_digest_188 : decode cX5_digest 188 = .ok (.baload, 1) := by decide +kernel
theorem dX5_digest_189 : decode cX5_digest 189 = .ok (.ifCond .eq 7, 3) := by decide +kernel
theorem dX5_digest_192 : decode cX5_digest 192 = .ok (.lconst 1, 1) := by decide +kernel
theorem dX5_digest_193 : decode cX5_digest 193 = .ok (.goto 4, 3) := by decide +kernel
theorem dX5_digest_196 : decode cX5_digest 196 = .ok (.lconst 0, 1) := by decide +kernel
theorem dX5_digest_197 : decode cX5_digest 197 = .ok (.invokevirtual 229, 3) := by decide +kernel
theorem dX5_digest_200 : decode cX5_digest 200 = .ok (.aload_n 0, 1) := by decide +kernel
theorem dX5_digest_201 : decode cX5_digest 201 = .ok (.aload_n 0, 1) := by decide +kernel
theorem dX5_digest_202 : decode cX5_digest 202 = .ok (.getfield 126, 3) := by decide +kernel
theorem dX5_digest_205 : decode cX5_digest 205 = .ok (.i2l, 1) := by decide +kernel
theorem dX5_digest_206 : decode cX5_digest 206 = .ok (.invokevirtual 229, 3) := by decide +kernel
theorem dX5_digest_209 : decode cX5_digest 209 = .ok (.iconst 0, 1) := by decide +kernel
theorem dX5_digest_210 : decode cX5_digest 210 = .ok (.istore_n 1, 1) := by decide +kernel
theorem dX5_digest_211 : decode cX5_digest 211 = .ok (.iload_n 1, 1) := by decide +kernel
theorem dX5_digest_212 : decode cX5_digest 212 = .ok (.aload_n 0, 1) := by decide +kernel
theorem dX5_digest_213 : decode cX5_digest 213 = .ok (.getfield 126, 3) := by decide +kernel
theorem dX5_digest_216 : decode cX5_digest 216 = .ok (.if_icmp .ge 20, 3) := by decide +kernel
theorem dX5_digest_219 : decode cX5_digest 219 = .ok (.aload_n 0, 1) := by decide +kernel
theorem dX5_digest_220 : decode cX5_digest 220 = .ok (.aload_n 0, 1) := by decide +kernel
theorem dX5_digest_221 : decode cX5_digest 221 = .ok (.getfield 17, 3) := by decide +kernel
theorem dX5_digest_224 : decode cX5_digest 224 = .ok (.iload_n 1, 1) := by decide +kernel
theorem dX5_digest_225 : decode cX5_digest 225 = .ok (.iaload, 1) := by decide +kernel
theorem dX5_digest_226 : decode cX5_digest 226 = .ok (.i2l, 1) := by decide +kernel
theorem dX5_digest_227 : decode cX5_digest 227 = .ok (.invokevirtual 229, 3) := by decide +kernel
theorem dX5_digest_230 : decode cX5_digest 230 = .ok (.iinc 1 1, 3) := by decide +kernel
theorem dX5_digest_233 : decode cX5_digest 233 = .ok (.goto (-22), 3) := by decide +kernel
theorem dX5_digest_236 : decode cX5_digest 236 = .ok (.aload_n 0, 1) := by decide +kernel
theorem dX5_digest_237 : decode cX5_digest 237 = .ok (.getfield 223, 3) := by decide +kernel
theorem dX5_digest_240 : decode cX5_digest 240 = .ok (.lreturn, 1) := by decide +kernel
set_option maxRecDepth 100000 in
set_option maxHeartbeats 4000000 in
theorem mt_X5_digest (r0 : Option Nat) (S0 : PH) (y : Int64 × PH) (h : m_X5_digest r0 S0 = some y) : MT yX5_digest (.code yX5_digest cX5_digest 2 (Option.some FieldType.long)) 7 161 0 0 [va_rf r0] S0 (oQ e_J (qN y)) := by
  refine mt_of (own := RX5) (l0 := [(0, va_rf r0)]) rfl rfl (by cases r0 <;> exact Nat.le_of_ble_eq_true rfl) (by cases r0 <;> rfl) ?_
  intro Z hC hQ hE hN
  have J_197 : ∀ (v104 : Option Nat) (v105 : Int64) (S106 : PH), j_X5_digest_197 r0 v104 v105 S106 = some y → PX Z 2 S106 0 0 197 [(0, va_rf r0)] [.long v105, va_rf v104] := by
    intro v104 v105 S106 h
    unfold j_X5_digest_197 at h
    replace h := dr_el h
    obtain ⟨a107, ea108, ha109, h⟩ := h
    replace h := bd_el h
    obtain ⟨v110, S111, hb112, h⟩ := h
    refine x_callV hC (st := []) (mt_X5_mix _ _ _ _ hb112) ea108 ha109 kf_5 q_1245 q_1247 qs_91 q_7 q_1248 ⟨rfl, hy_X5_mix⟩ ⟨Nat.le_of_ble_eq_true rfl, Nat.le_of_ble_eq_true rfl⟩ ⟨Nat.le_of_ble_eq_true rfl, Nat.le_of_ble_eq_true rfl⟩ rfl (Nat.le_of_ble_eq_true rfl) dX5_digest_197 (r_N ?_) r_NX
    show PX Z 2 S111 0 0 200 [(0, va_rf r0)] []
    refine x_aload_n (i := 0) hC dX5_digest_200 rfl 0 rfl ?_
    refine x_aload_n (i := 0) hC dX5_digest_201 rfl 0 rfl ?_
    replace h := dr_el h
    obtain ⟨a113, ea114, ha115, h⟩ := h
    refine x_getI hC ea114 ha115 kf_5 5 (by decide) rfl q_868 dX5_digest_202 ?_
    refine x_i2l hC dX5_digest_205 ?_
    replace h := bd_el h
    obtain ⟨v116, S117, hb118, h⟩ := h
    refine x_callV hC (st := []) (mt_X5_mix _ _ _ _ hb118) ea114 ha115 kf_5 q_1245 q_1247 qs_91 q_7 q_1248 ⟨rfl, hy_X5_mix⟩ ⟨Nat.le_of_ble_eq_true rfl, Nat.le_of_ble_eq_true rfl⟩ ⟨Nat.le_of_ble_eq_true rfl, Nat.le_of_ble_eq_true rfl⟩ rfl (Nat.le_of_ble_eq_true rfl) dX5_digest_206 (r_N ?_) r_NX
    show PX Z 2 S117 0 0 209 [(0, va_rf r0)] []
    refine x_iconst (v := (0 : Int32)) hC dX5_digest_209 (by decide) ?_
    refine x_istore_n (i := 1) (l' := [(1, .int (0 : Int32)), (0, va_rf r0)]) hC dX5_digest_210 rfl (⟨fun _ => c_rf r0, trivial⟩) (by decide) rfl ?_
    refine x_sub (l' := [(0, va_rf r0), (1, .int (0 : Int32))]) [1, 0] rfl ?_
    refine lp_sim (P := fun (t : (Int32 × PH)) => PX Z 2 t.2 0 0 211 [(0, va_rf r0), (1, .int t.1)] []) (G := fun r => r = y) ?_ h rfl
    clear h
    intro t x_211 h hg_211
    obtain ⟨v119, S120⟩ := t
    show PX Z 2 S120 0 0 211 [(0, va_rf r0), (1, .int v119)] []
    unfold st_X5_digest_211 at h
    refine x_iload_n (i := 1) hC dX5_digest_211 rfl 1 rfl ?_
    refine x_aload_n (i := 0) hC dX5_digest_212 rfl 0 rfl ?_
    replace h := dr_el h
    obtain ⟨a121, ea122, ha123, h⟩ := h
    refine x_getI hC ea122 ha123 kf_5 5 (by decide) rfl q_868 dX5_digest_213 ?_
    refine x_icmp_ge (t := 236) hC dX5_digest_216 (by decide) (fun c124 => ?_) (fun c124 => ?_)
    · replace h := it_t c124 h
      replace h := ir_x h hg_211
      refine x_aload_n (i := 0) hC dX5_digest_236 rfl 0 rfl ?_
      refine x_getJ hC ea122 ha123 kf_5 12 (by decide) rfl q_875 dX5_digest_237 ?_
      exact x_lret hC hQ (z_N (Option.some.inj h)) (Nat.le_of_ble_eq_true rfl) (Nat.le_of_ble_eq_true rfl) dX5_digest_240
    · replace h := it_f c124 h
      refine x_aload_n (i := 0) hC dX5_digest_219 rfl 0 rfl ?_
      refine x_aload_n (i := 0) hC dX5_digest_220 rfl 0 rfl ?_
      refine x_getR hC ea122 ha123 kf_5 4 (by decide) rfl q_867 dX5_digest_221 ?_
      refine x_iload_n (i := 1) hC dX5_digest_224 rfl 1 rfl ?_
      replace h := dr_el h
      obtain ⟨a125, ea126, ha127, h⟩ := h
      replace h := ck_el h
      obtain ⟨hc128, h⟩ := h
      refine x_iaload hC ea126 ha127 hc128 dX5_digest_225 ?_
      refine x_i2l hC dX5_digest_226 ?_
      replace h := bd_el h
      obtain ⟨v129, S130, hb131, h⟩ := h
      refine x_callV hC (st := []) (mt_X5_mix _ _ _ _ hb131) ea122 ha123 kf_5 q_1245 q_1247 qs_91 q_7 q_1248 ⟨rfl, hy_X5_mix⟩ ⟨Nat.le_of_ble_eq_true rfl, Nat.le_of_ble_eq_true rfl⟩ ⟨Nat.le_of_ble_eq_true rfl, Nat.le_of_ble_eq_true rfl⟩ rfl (Nat.le_of_ble_eq_true rfl) dX5_digest_227 (r_N ?_) r_NX
      show PX Z 2 S130 0 0 230 [(0, va_rf r0), (1, .int v119)] []
      refine x_iinc (i := 1) (v := (v119 + (1 : Int32))) (l' := [(1, .int (v119 + (1 : Int32))), (0, va_rf r0)]) hC dX5_digest_230 1 rfl rfl (⟨fun _ => c_rf r0, ⟨fun _ => rfl, trivial⟩⟩) (by decide) rfl ?_
      refine x_goto (t := 211) hC dX5_digest_233 (by decide) ?_
      refine x_sub (l' := [(0, va_rf r0), (1, .int (v119 + (1 : Int32)))]) [1, 0] rfl ?_
      have hb := bk_x h hg_211
      exact hb
  have J_179 : ∀ (v87 : Option Nat) (v88 : Int64) (S89 : PH), j_X5_digest_179 r0 v87 v88 S89 = some y → PX Z 2 S89 0 0 179 [(0, va_rf r0)] [.long v88, va_rf v87] := by
    intro v87 v88 S89 h
    unfold j_X5_digest_179 at h
    replace h := dr_el h
    obtain ⟨a90, ea91, ha92, h⟩ := h
    replace h := bd_el h
    obtain ⟨v93, S94, hb95, h⟩ := h
    refine x_callV hC (st := []) (mt_X5_mix _ _ _ _ hb95) ea91 ha92 kf_5 q_1245 q_1247 qs_91 q_7 q_1248 ⟨rfl, hy_X5_mix⟩ ⟨Nat.le_of_ble_eq_true rfl, Nat.le_of_ble_eq_true rfl⟩ ⟨Nat.le_of_ble_eq_true rfl, Nat.le_of_ble_eq_true rfl⟩ rfl (Nat.le_of_ble_eq_true rfl) dX5_digest_179 (r_N ?_) r_NX
    show PX Z 2 S94 0 0 182 [(0, va_rf r0)] []
    refine x_aload_n (i := 0) hC dX5_digest_182 rfl 0 rfl ?_
    refine x_aload_n (i := 0) hC dX5_digest_183 rfl 0 rfl ?_
    replace h := dr_el h
    obtain ⟨a96, ea97, ha98, h⟩ := h
    refine x_getR hC ea97 ha98 kf_5 3 (by decide) rfl q_866 dX5_digest_184 ?_
    refine x_iconst (v := (1 : Int32)) hC dX5_digest_187 (by decide) ?_
    replace h := dr_el h
    obtain ⟨a99, ea100, ha101, h⟩ := h
    replace h := ck_el h
    obtain ⟨hc102, h⟩ := h
    refine x_baload hC ea100 ha101 hc102 dX5_digest_188 ?_
    refine x_tI (b := (p_I S94 a99 1)) rfl ?_
    refine x_if_eq (t := 196) hC dX5_digest_189 (by decide) (fun c103 => ?_) (fun c103 => ?_)
    · replace h := it_t c103 h
      refine x_lconst (v := (0 : Int64)) hC dX5_digest_196 (by decide) ?_
      exact J_197 _ _ _ h
    · replace h := it_f c103 h
      refine x_lconst (v := (1 : Int64)) hC dX5_digest_192 (by decide) ?_
      refine x_goto (t := 197) hC dX5_digest_193 (by decide) ?_
      exact J_197 _ _ _ h
  unfold m_X5_digest at h
  refine x_aload_n (i := 0) hC dX5_digest_0 rfl 0 rfl ?_
  refine x_iconst (v := (0 : Int32)) hC dX5_digest_1 (by decide) ?_
  replace h := dr_el h
  obtain ⟨a1, ea2, ha3, h⟩ := h
  replace h := le_el h
  obtain ⟨S4, hx5, h⟩ := h
  refine x_putI hC ea2 ha3 kf_5 0 (by decide) rfl rfl q_863 (Or.inl rfl) dX5_digest_2 ?_
  refine x_tS hx5 ?_
  refine x_aload_n (i := 0) hC dX5_digest_5 rfl 0 rfl ?_
  refine x_ldc2 hC dX5_digest_6 q_1244 ?_
  replace h := dr_el h
  obtain ⟨a6, ea7, ha8, h⟩ := h
  replace h := le_el h
  obtain ⟨S9, hx10, h⟩ := h
  refine x_putJ hC ea7 ha8 kf_5 12 (by decide) rfl rfl q_875 (Or.inl rfl) dX5_digest_9 ?_
  refine x_tS hx10 ?_
  refine x_iconst (v := (0 : Int32)) hC dX5_digest_12 (by decide) ?_
  refine x_istore_n (i := 1) (l' := [(1, .int (0 : Int32)), (0, va_rf r0)]) hC dX5_digest_13 rfl (⟨fun _ => c_rf r0, trivial⟩) (by decide) rfl ?_
  refine x_sub (l' := [(0, va_rf r0), (1, .int (0 : Int32))]) [1, 0] rfl ?_
  refine lp_sim (P := fun (t : (Int32 × PH)) => PX Z 2 t.2 0 0 14 [(0, va_rf r0), (1, .int t.1)] []) (G := fun r => r = y) ?_ h rfl
  clear h
  intro t x_14 h hg_14
  obtain ⟨v11, S12⟩ := t
  show PX Z 2 S12 0 0 14 [(0, va_rf r0), (1, .int v11)] []
  unfold st_X5_digest_14 at h
  refine x_iload_n (i := 1) hC dX5_digest_14 rfl 1 rfl ?_
  refine x_bipush (v := (12 : Int32)) hC dX5_digest_15 (by decide) ?_
  refine x_icmp_ge (t := 36) hC dX5_digest_17 (by decide) (fun c13 => ?_) (fun c13 => ?_)
  · replace h := it_t c13 h
    replace h := ir_x h hg_14
    refine x_iconst (v := (0 : Int32)) hC dX5_digest_36 (by decide) ?_
    refine x_istore_n (i := 1) (l' := [(1, .int (0 : Int32)), (0, va_rf r0)]) hC dX5_digest_37 rfl (⟨fun _ => c_rf r0, ⟨fun _ => rfl, trivial⟩⟩) (by decide) rfl ?_
    refine x_sub (l' := [(0, va_rf r0), (1, .int (0 : Int32))]) [1, 0] rfl ?_
    refine lp_sim (P := fun (t : (Int32 × PH)) => PX Z 2 t.2 0 0 38 [(0, va_rf r0), (1, .int t.1)] []) (G := fun r => r = y) ?_ h rfl
    clear h
    intro t x_38 h hg_38
    obtain ⟨v14, S15⟩ := t
    show PX Z 2 S15 0 0 38 [(0, va_rf r0), (1, .int v14)] []
    unfold st_X5_digest_38 at h
    refine x_iload_n (i := 1) hC dX5_digest_38 rfl 1 rfl ?_
    refine x_iconst (v := (4 : Int32)) hC dX5_digest_39 (by decide) ?_
    refine x_icmp_ge (t := 62) hC dX5_digest_40 (by decide) (fun c16 => ?_) (fun c16 => ?_)
    · replace h := it_t c16 h
      replace h := ir_x h hg_38
      refine x_iconst (v := (0 : Int32)) hC dX5_digest_62 (by decide) ?_
      refine x_istore_n (i := 1) (l' := [(1, .int (0 : Int32)), (0, va_rf r0)]) hC dX5_digest_63 rfl (⟨fun _ => c_rf r0, ⟨fun _ => rfl, trivial⟩⟩) (by decide) rfl ?_
      refine x_sub (l' := [(0, va_rf r0), (1, .int (0 : Int32))]) [1, 0] rfl ?_
      refine lp_sim (P := fun (t : (Int32 × PH)) => PX Z 2 t.2 0 0 64 [(0, va_rf r0), (1, .int t.1)] []) (G := fun r => r = y) ?_ h rfl
      clear h
      intro t x_64 h hg_64
      obtain ⟨v17, S18⟩ := t
      show PX Z 2 S18 0 0 64 [(0, va_rf r0), (1, .int v17)] []
      unfold st_X5_digest_64 at h
      refine x_iload_n (i := 1) hC dX5_digest_64 rfl 1 rfl ?_
      refine x_bipush (v := (72 : Int32)) hC dX5_digest_65 (by decide) ?_
      refine x_icmp_ge (t := 93) hC dX5_digest_67 (by decide) (fun c19 => ?_) (fun c19 => ?_)
      · replace h := it_t c19 h
        replace h := ir_x h hg_64
        refine x_iconst (v := (0 : Int32)) hC dX5_digest_93 (by decide) ?_
        refine x_istore_n (i := 1) (l' := [(1, .int (0 : Int32)), (0, va_rf r0)]) hC dX5_digest_94 rfl (⟨fun _ => c_rf r0, ⟨fun _ => rfl, trivial⟩⟩) (by decide) rfl ?_
        refine x_sub (l' := [(0, va_rf r0), (1, .int (0 : Int32))]) [1, 0] rfl ?_
        refine lp_sim (P := fun (t : (Int32 × PH)) => PX Z 2 t.2 0 0 95 [(0, va_rf r0), (1, .int t.1)] []) (G := fun r => r = y) ?_ h rfl
        clear h
        intro t x_95 h hg_95
        obtain ⟨v20, S21⟩ := t
        show PX Z 2 S21 0 0 95 [(0, va_rf r0), (1, .int v20)] []
        unfold st_X5_digest_95 at h
        refine x_iload_n (i := 1) hC dX5_digest_95 rfl 1 rfl ?_
        refine x_aload_n (i := 0) hC dX5_digest_96 rfl 0 rfl ?_
        replace h := dr_el h
        obtain ⟨a22, ea23, ha24, h⟩ := h
        refine x_getR hC ea23 ha24 kf_5 1 (by decide) rfl q_864 dX5_digest_97 ?_
        refine x_bipush (v := (8 : Int32)) hC dX5_digest_100 (by decide) ?_
        replace h := dr_el h
        obtain ⟨a25, ea26, ha27, h⟩ := h
        replace h := ck_el h
        obtain ⟨hc28, h⟩ := h
        refine x_iaload hC ea26 ha27 hc28 dX5_digest_102 ?_
        refine x_tI (b := (p_I S21 a25 8)) rfl ?_
        refine x_icmp_ge (t := 117) hC dX5_digest_103 (by decide) (fun c29 => ?_) (fun c29 => ?_)
        · replace h := it_t c29 h
          replace h := ir_x h hg_95
          refine x_aload_n (i := 0) hC dX5_digest_117 rfl 0 rfl ?_
          refine x_aload_n (i := 0) hC dX5_digest_118 rfl 0 rfl ?_
          refine x_iconst (v := (-1 : Int32)) hC dX5_digest_119 (by decide) ?_
          replace h := bd_el h
          obtain ⟨v30, S31, hb32, h⟩ := h
          refine x_callV hC (st := [va_rf r0]) (mt_X5_mostWithout _ _ _ _ hb32) ea23 ha24 kf_5 q_1195 q_1197 qs_84 q_7 q_1198 ⟨rfl, hy_X5_mostWithout⟩ ⟨Nat.le_of_ble_eq_true rfl, Nat.le_of_ble_eq_true rfl⟩ ⟨Nat.le_of_ble_eq_true rfl, Nat.le_of_ble_eq_true rfl⟩ rfl (Nat.le_of_ble_eq_true rfl) dX5_digest_120 (r_N ?_) r_NX
          show PX Z 2 S31 0 0 123 [(0, va_rf r0), (1, .int v20)] [.int v30, va_rf r0]
          refine x_i2l hC dX5_digest_123 ?_
          replace h := dr_el h
          obtain ⟨a33, ea34, ha35, h⟩ := h
          replace h := bd_el h
          obtain ⟨v36, S37, hb38, h⟩ := h
          refine x_callV hC (st := []) (mt_X5_mix _ _ _ _ hb38) ea34 ha35 kf_5 q_1245 q_1247 qs_91 q_7 q_1248 ⟨rfl, hy_X5_mix⟩ ⟨Nat.le_of_ble_eq_true rfl, Nat.le_of_ble_eq_true rfl⟩ ⟨Nat.le_of_ble_eq_true rfl, Nat.le_of_ble_eq_true rfl⟩ rfl (Nat.le_of_ble_eq_true rfl) dX5_digest_124 (r_N ?_) r_NX
          show PX Z 2 S37 0 0 127 [(0, va_rf r0), (1, .int v20)] []
          refine x_aload_n (i := 0) hC dX5_digest_127 rfl 0 rfl ?_
          refine x_aload_n (i := 0) hC dX5_digest_128 rfl 0 rfl ?_
          refine x_iconst (v := (-1 : Int32)) hC dX5_digest_129 (by decide) ?_
          replace h := dr_el h
          obtain ⟨a39, ea40, ha41, h⟩ := h
          replace h := bd_el h
          obtain ⟨v42, S43, hb44, h⟩ := h
          refine x_callV hC (st := [va_rf r0]) (mt_X5_mostWithout _ _ _ _ hb44) ea40 ha41 kf_5 q_1195 q_1197 qs_84 q_7 q_1198 ⟨rfl, hy_X5_mostWithout⟩ ⟨Nat.le_of_ble_eq_true rfl, Nat.le_of_ble_eq_true rfl⟩ ⟨Nat.le_of_ble_eq_true rfl, Nat.le_of_ble_eq_true rfl⟩ rfl (Nat.le_of_ble_eq_true rfl) dX5_digest_130 (r_N ?_) r_NX
          show PX Z 2 S43 0 0 133 [(0, va_rf r0), (1, .int v20)] [.int v42, va_rf r0]
          refine x_i2l hC dX5_digest_133 ?_
          replace h := dr_el h
          obtain ⟨a45, ea46, ha47, h⟩ := h
          replace h := bd_el h
          obtain ⟨v48, S49, hb50, h⟩ := h
          refine x_callV hC (st := []) (mt_X5_mix _ _ _ _ hb50) ea46 ha47 kf_5 q_1245 q_1247 qs_91 q_7 q_1248 ⟨rfl, hy_X5_mix⟩ ⟨Nat.le_of_ble_eq_true rfl, Nat.le_of_ble_eq_true rfl⟩ ⟨Nat.le_of_ble_eq_true rfl, Nat.le_of_ble_eq_true rfl⟩ rfl (Nat.le_of_ble_eq_true rfl) dX5_digest_134 (r_N ?_) r_NX
          show PX Z 2 S49 0 0 137 [(0, va_rf r0), (1, .int v20)] []
          refine x_aload_n (i := 0) hC dX5_digest_137 rfl 0 rfl ?_
          refine x_aload_n (i := 0) hC dX5_digest_138 rfl 0 rfl ?_
          replace h := dr_el h
          obtain ⟨a51, ea52, ha53, h⟩ := h
          replace h := bd_el h
          obtain ⟨v54, S55, hb56, h⟩ := h
          refine x_callV hC (st := [va_rf r0]) (mt_X5_neededOne _ _ _ hb56) ea52 ha53 kf_5 q_1207 q_1209 qs_86 q_7 q_1210 ⟨rfl, hy_X5_neededOne⟩ ⟨Nat.le_of_ble_eq_true rfl, Nat.le_of_ble_eq_true rfl⟩ ⟨Nat.le_of_ble_eq_true rfl, Nat.le_of_ble_eq_true rfl⟩ rfl (Nat.le_of_ble_eq_true rfl) dX5_digest_139 (r_N ?_) r_NX
          show PX Z 2 S55 0 0 142 [(0, va_rf r0), (1, .int v20)] [.int v54, va_rf r0]
          refine x_i2l hC dX5_digest_142 ?_
          replace h := dr_el h
          obtain ⟨a57, ea58, ha59, h⟩ := h
          replace h := bd_el h
          obtain ⟨v60, S61, hb62, h⟩ := h
          refine x_callV hC (st := []) (mt_X5_mix _ _ _ _ hb62) ea58 ha59 kf_5 q_1245 q_1247 qs_91 q_7 q_1248 ⟨rfl, hy_X5_mix⟩ ⟨Nat.le_of_ble_eq_true rfl, Nat.le_of_ble_eq_true rfl⟩ ⟨Nat.le_of_ble_eq_true rfl, Nat.le_of_ble_eq_true rfl⟩ rfl (Nat.le_of_ble_eq_true rfl) dX5_digest_143 (r_N ?_) r_NX
          show PX Z 2 S61 0 0 146 [(0, va_rf r0), (1, .int v20)] []
          refine x_aload_n (i := 0) hC dX5_digest_146 rfl 0 rfl ?_
          refine x_aload_n (i := 0) hC dX5_digest_147 rfl 0 rfl ?_
          replace h := dr_el h
          obtain ⟨a63, ea64, ha65, h⟩ := h
          replace h := bd_el h
          obtain ⟨v66, S67, hb68, h⟩ := h
          refine x_callV hC (st := [va_rf r0]) (mt_X5_share _ _ _ hb68) ea64 ha65 kf_5 q_1236 q_1238 qs_90 q_7 q_1239 ⟨rfl, hy_X5_share⟩ ⟨Nat.le_of_ble_eq_true rfl, Nat.le_of_ble_eq_true rfl⟩ ⟨Nat.le_of_ble_eq_true rfl, Nat.le_of_ble_eq_true rfl⟩ rfl (Nat.le_of_ble_eq_true rfl) dX5_digest_148 (r_N ?_) r_NX
          show PX Z 2 S67 0 0 151 [(0, va_rf r0), (1, .int v20)] [.float v66, va_rf r0]
          replace h := ck_el h
          obtain ⟨hc69, h⟩ := h
          refine x_f2d hC dX5_digest_151 (nn64_ok hc69) ?_
          refine x_ldc2 hC dX5_digest_152 q_1261 ?_
          refine x_ldc2 hC dX5_digest_155 q_1262 ?_
          replace h := bd_el h
          obtain ⟨v70, S71, hb72, h⟩ := h
          refine x_callS hC (st := [va_rf r0]) (mt_X5_bits _ _ _ _ _ hb72) q_1257 q_1258 q_7 q_1259 hy_X5_bits ⟨Nat.le_of_ble_eq_true rfl, Nat.le_of_ble_eq_true rfl⟩ ⟨Nat.le_of_ble_eq_true rfl, Nat.le_of_ble_eq_true rfl⟩ rfl (Nat.le_of_ble_eq_true rfl) dX5_digest_158 (r_N ?_) r_NX
          show PX Z 2 S71 0 0 161 [(0, va_rf r0), (1, .int v20)] [.long v70, va_rf r0]
          replace h := dr_el h
          obtain ⟨a73, ea74, ha75, h⟩ := h
          replace h := bd_el h
          obtain ⟨v76, S77, hb78, h⟩ := h
          refine x_callV hC (st := []) (mt_X5_mix _ _ _ _ hb78) ea74 ha75 kf_5 q_1245 q_1247 qs_91 q_7 q_1248 ⟨rfl, hy_X5_mix⟩ ⟨Nat.le_of_ble_eq_true rfl, Nat.le_of_ble_eq_true rfl⟩ ⟨Nat.le_of_ble_eq_true rfl, Nat.le_of_ble_eq_true rfl⟩ rfl (Nat.le_of_ble_eq_true rfl) dX5_digest_161 (r_N ?_) r_NX
          show PX Z 2 S77 0 0 164 [(0, va_rf r0), (1, .int v20)] []
          refine x_aload_n (i := 0) hC dX5_digest_164 rfl 0 rfl ?_
          refine x_aload_n (i := 0) hC dX5_digest_165 rfl 0 rfl ?_
          replace h := dr_el h
          obtain ⟨a79, ea80, ha81, h⟩ := h
          refine x_getR hC ea80 ha81 kf_5 3 (by decide) rfl q_866 dX5_digest_166 ?_
          refine x_iconst (v := (0 : Int32)) hC dX5_digest_169 (by decide) ?_
          replace h := dr_el h
          obtain ⟨a82, ea83, ha84, h⟩ := h
          replace h := ck_el h
          obtain ⟨hc85, h⟩ := h
          refine x_baload hC ea83 ha84 hc85 dX5_digest_170 ?_
          refine x_tI (b := (p_I S77 a82 0)) rfl ?_
          refine x_if_eq (t := 178) hC dX5_digest_171 (by decide) (fun c86 => ?_) (fun c86 => ?_)
          · replace h := it_t c86 h
            refine x_lconst (v := (0 : Int64)) hC dX5_digest_178 (by decide) ?_
            refine x_sub (l' := [(0, va_rf r0)]) [0] rfl ?_
            exact J_179 _ _ _ h
          · replace h := it_f c86 h
            refine x_lconst (v := (1 : Int64)) hC dX5_digest_174 (by decide) ?_
            refine x_goto (t := 179) hC dX5_digest_175 (by decide) ?_
            refine x_sub (l' := [(0, va_rf r0)]) [0] rfl ?_
            exact J_179 _ _ _ h
        · replace h := it_f c29 h
          refine x_aload_n (i := 0) hC dX5_digest_106 rfl 0 rfl ?_
          refine x_iload_n (i := 1) hC dX5_digest_107 rfl 1 rfl ?_
          replace h := bd_el h
          obtain ⟨v132, S133, hb134, h⟩ := h
          refine x_callV hC (st := []) (mt_X5_mixPaper _ _ _ _ hb134) ea23 ha24 kf_5 q_1250 q_1252 qs_92 q_7 q_1253 ⟨rfl, hy_X5_mixPaper⟩ ⟨Nat.le_of_ble_eq_true rfl, Nat.le_of_ble_eq_true rfl⟩ ⟨Nat.le_of_ble_eq_true rfl, Nat.le_of_ble_eq_true rfl⟩ rfl (Nat.le_of_ble_eq_true rfl) dX5_digest_108 (r_N ?_) r_NX
          show PX Z 2 S133 0 0 111 [(0, va_rf r0), (1, .int v20)] []
          refine x_iinc (i := 1) (v := (v20 + (1 : Int32))) (l' := [(1, .int (v20 + (1 : Int32))), (0, va_rf r0)]) hC dX5_digest_111 1 rfl rfl (⟨fun _ => c_rf r0, ⟨fun _ => rfl, trivial⟩⟩) (by decide) rfl ?_
          refine x_goto (t := 95) hC dX5_digest_114 (by decide) ?_
          refine x_sub (l' := [(0, va_rf r0), (1, .int (v20 + (1 : Int32)))]) [1, 0] rfl ?_
          have hb := bk_x h hg_95
          exact hb
      · replace h := it_f c19 h
        refine x_aload_n (i := 0) hC dX5_digest_70 rfl 0 rfl ?_
        refine x_aload_n (i := 0) hC dX5_digest_71 rfl 0 rfl ?_
        refine x_iload_n (i := 1) hC dX5_digest_72 rfl 1 rfl ?_
        refine x_bipush (v := (9 : Int32)) hC dX5_digest_73 (by decide) ?_
        refine x_idiv hC dX5_digest_75 (by decide) ?_
        refine x_iload_n (i := 1) hC dX5_digest_76 rfl 1 rfl ?_
        refine x_bipush (v := (9 : Int32)) hC dX5_digest_77 (by decide) ?_
        refine x_irem hC dX5_digest_79 (by decide) ?_
        replace h := dr_el h
        obtain ⟨a135, ea136, ha137, h⟩ := h
        replace h := bd_el h
        obtain ⟨v138, S139, hb140, h⟩ := h
        refine x_callV hC (st := [va_rf r0]) (mt_X5_ofPerson _ _ _ _ _ hb140) ea136 ha137 kf_5 q_1127 q_1129 qs_74 q_7 q_1130 ⟨rfl, hy_X5_ofPerson⟩ ⟨Nat.le_of_ble_eq_true rfl, Nat.le_of_ble_eq_true rfl⟩ ⟨Nat.le_of_ble_eq_true rfl, Nat.le_of_ble_eq_true rfl⟩ rfl (Nat.le_of_ble_eq_true rfl) dX5_digest_80 (r_N ?_) r_NX
        show PX Z 2 S139 0 0 83 [(0, va_rf r0), (1, .int v17)] [.int v138, va_rf r0]
        refine x_i2l hC dX5_digest_83 ?_
        replace h := dr_el h
        obtain ⟨a141, ea142, ha143, h⟩ := h
        replace h := bd_el h
        obtain ⟨v144, S145, hb146, h⟩ := h
        refine x_callV hC (st := []) (mt_X5_mix _ _ _ _ hb146) ea142 ha143 kf_5 q_1245 q_1247 qs_91 q_7 q_1248 ⟨rfl, hy_X5_mix⟩ ⟨Nat.le_of_ble_eq_true rfl, Nat.le_of_ble_eq_true rfl⟩ ⟨Nat.le_of_ble_eq_true rfl, Nat.le_of_ble_eq_true rfl⟩ rfl (Nat.le_of_ble_eq_true rfl) dX5_digest_84 (r_N ?_) r_NX
        show PX Z 2 S145 0 0 87 [(0, va_rf r0), (1, .int v17)] []
        refine x_iinc (i := 1) (v := (v17 + (1 : Int32))) (l' := [(1, .int (v17 + (1 : Int32))), (0, va_rf r0)]) hC dX5_digest_87 1 rfl rfl (⟨fun _ => c_rf r0, ⟨fun _ => rfl, trivial⟩⟩) (by decide) rfl ?_
        refine x_goto (t := 64) hC dX5_digest_90 (by decide) ?_
        refine x_sub (l' := [(0, va_rf r0), (1, .int (v17 + (1 : Int32)))]) [1, 0] rfl ?_
        have hb := bk_x h hg_64
        exact hb
    · replace h := it_f c16 h
      refine x_aload_n (i := 0) hC dX5_digest_43 rfl 0 rfl ?_
      refine x_aload_n (i := 0) hC dX5_digest_44 rfl 0 rfl ?_
      replace h := dr_el h
      obtain ⟨a147, ea148, ha149, h⟩ := h
      refine x_getR hC ea148 ha149 kf_5 1 (by decide) rfl q_864 dX5_digest_45 ?_
      refine x_iconst (v := (4 : Int32)) hC dX5_digest_48 (by decide) ?_
      refine x_iload_n (i := 1) hC dX5_digest_49 rfl 1 rfl ?_
      refine x_iadd hC dX5_digest_50 ?_
      replace h := dr_el h
      obtain ⟨a150, ea151, ha152, h⟩ := h
      replace h := ck_el h
      obtain ⟨hc153, h⟩ := h
      refine x_iaload hC ea151 ha152 hc153 dX5_digest_51 ?_
      refine x_i2l hC dX5_digest_52 ?_
      replace h := bd_el h
      obtain ⟨v154, S155, hb156, h⟩ := h
      refine x_callV hC (st := []) (mt_X5_mix _ _ _ _ hb156) ea148 ha149 kf_5 q_1245 q_1247 qs_91 q_7 q_1248 ⟨rfl, hy_X5_mix⟩ ⟨Nat.le_of_ble_eq_true rfl, Nat.le_of_ble_eq_true rfl⟩ ⟨Nat.le_of_ble_eq_true rfl, Nat.le_of_ble_eq_true rfl⟩ rfl (Nat.le_of_ble_eq_true rfl) dX5_digest_53 (r_N ?_) r_NX
      show PX Z 2 S155 0 0 56 [(0, va_rf r0), (1, .int v14)] []
      refine x_iinc (i := 1) (v := (v14 + (1 : Int32))) (l' := [(1, .int (v14 + (1 : Int32))), (0, va_rf r0)]) hC dX5_digest_56 1 rfl rfl (⟨fun _ => c_rf r0, ⟨fun _ => rfl, trivial⟩⟩) (by decide) rfl ?_
      refine x_goto (t := 38) hC dX5_digest_59 (by decide) ?_
      refine x_sub (l' := [(0, va_rf r0), (1, .int (v14 + (1 : Int32)))]) [1, 0] rfl ?_
      have hb := bk_x h hg_38
      exact hb
  · replace h := it_f c13 h
    refine x_aload_n (i := 0) hC dX5_digest_20 rfl 0 rfl ?_
    refine x_aload_n (i := 0) hC dX5_digest_21 rfl 0 rfl ?_
    refine x_iload_n (i := 1) hC dX5_digest_22 rfl 1 rfl ?_
    replace h := dr_el h
    obtain ⟨a157, ea158, ha159, h⟩ := h
    replace h := bd_el h
    obtain ⟨v160, S161, hb162, h⟩ := h
    refine x_callV hC (st := [va_rf r0]) (mt_X5_counted _ _ _ _ hb162) ea158 ha159 kf_5 q_1159 q_1161 qs_79 q_7 q_1162 ⟨rfl, hy_X5_counted⟩ ⟨Nat.le_of_ble_eq_true rfl, Nat.le_of_ble_eq_true rfl⟩ ⟨Nat.le_of_ble_eq_true rfl, Nat.le_of_ble_eq_true rfl⟩ rfl (Nat.le_of_ble_eq_true rfl) dX5_digest_23 (r_N ?_) r_NX
    show PX Z 2 S161 0 0 26 [(0, va_rf r0), (1, .int v11)] [.int v160, va_rf r0]
    refine x_i2l hC dX5_digest_26 ?_
    replace h := dr_el h
    obtain ⟨a163, ea164, ha165, h⟩ := h
    replace h := bd_el h
    obtain ⟨v166, S167, hb168, h⟩ := h
    refine x_callV hC (st := []) (mt_X5_mix _ _ _ _ hb168) ea164 ha165 kf_5 q_1245 q_1247 qs_91 q_7 q_1248 ⟨rfl, hy_X5_mix⟩ ⟨Nat.le_of_ble_eq_true rfl, Nat.le_of_ble_eq_true rfl⟩ ⟨Nat.le_of_ble_eq_true rfl, Nat.le_of_ble_eq_true rfl⟩ rfl (Nat.le_of_ble_eq_true rfl) dX5_digest_27 (r_N ?_) r_NX
    show PX Z 2 S167 0 0 30 [(0, va_rf r0), (1, .int v11)] []
    refine x_iinc (i := 1) (v := (v11 + (1 : Int32))) (l' := [(1, .int (v11 + (1 : Int32))), (0, va_rf r0)]) hC dX5_digest_30 1 rfl rfl (⟨fun _ => c_rf r0, ⟨fun _ => rfl, trivial⟩⟩) (by decide) rfl ?_
    refine x_goto (t := 14) hC dX5_digest_33 (by decide) ?_
    refine x_sub (l' := [(0, va_rf r0), (1, .int (v11 + (1 : Int32)))]) [1, 0] rfl ?_
    have hb := bk_x h hg_14
    exact hb
theorem dL_paper_0 : decode cL_paper 0 = .ok (.aload_n 3, 1) := by decide +kernel
theorem dL_paper_1 : decode cL_paper 1 = .ok (.iconst 0, 1) := by decide +kernel
theorem dL_paper_2 : decode cL_paper 2 = .ok (.aload_n 0, 1) := by decide +kernel
theorem dL_paper_3 : decode cL_paper 3 = .ok (.iload_n 1, 1) := by decide +kernel
theorem dL_paper_4 : decode cL_paper 4 = .ok (.iload_n 2, 1) := by decide +kernel
theorem dL_paper_5 : decode cL_paper 5 = .ok (.invokevirtual 7, 3) := by decide +kernel
theorem dL_paper_8 : decode cL_paper 8 = .ok (.i2l, 1) := by decide +kernel
theorem dL_paper_9 : decode cL_paper 9 = .ok (.lastore, 1) := by decide +kernel
theorem dL_paper_10 : decode cL_paper 10 = .ok (.goto 11, 3) := by decide +kernel
theorem dL_paper_13 : decode cL_paper 13 = .ok (.astore 4, 2) := by decide +kernel
theorem dL_paper_15 : decode cL_paper 15 = .ok (.iconst 1, 1) := by decide +kernel
theorem dL_paper_16 : decode cL_paper 16 = .ok (.ireturn, 1) := by decide +kernel
theorem dL_paper_17 : decode cL_paper 17 = .ok (.astore 4, 2) := by decide +kernel
theorem dL_paper_19 : decode cL_paper 19 = .ok (.iconst 2, 1) := by decide +kernel
theorem dL_paper_20 : decode cL_paper 20 = .ok (.ireturn, 1) := by decide +kernel
theorem dL_paper_21 : decode cL_paper 21 = .ok (.iconst 0, 1) := by decide +kernel
theorem dL_paper_22 : decode cL_paper 22 = .ok (.ireturn, 1) := by decide +kernel
set_option maxRecDepth 100000 in
set_option maxHeartbeats 4000000 in
theorem mt_L_paper (r0 : Option Nat) (i1 : Int32) (i2 : Int32) (r3 : Option Nat) (S0 : PH) (Q : (Nat ⊕ Int32) → PH → Prop) (h : w_L_paper r0 i1 i2 r3 S0 Q) : MT yL_paper (.codeWith yL_paper cL_paper 5 (Option.some FieldType.int) [(0, 10, 13, 13), (0, 10, 17, 15)]) 7 127 21 173 [va_rf r0, .int i1, .int i2, va_rf r3] S0 (oQ e_I Q) := by
  refine mt_ofH (own := RL) (l0 := [(0, va_rf r0), (1, .int i1), (2, .int i2), (3, va_rf r3)]) rfl rfl (by cases r0 <;> cases r3 <;> exact Nat.le_of_ble_eq_true rfl) (by cases r0 <;> cases r3 <;> rfl) ?_
  intro Z hC hQ hX
  unfold w_L_paper at h
  refine x_aload_n (i := 3) hC dL_paper_0 rfl 3 rfl ?_
  refine x_iconst (v := (0 : Int32)) hC dL_paper_1 (by decide) ?_
  refine x_aload_n (i := 0) hC dL_paper_2 rfl 0 rfl ?_
  refine x_iload_n (i := 1) hC dL_paper_3 rfl 1 rfl ?_
  refine x_iload_n (i := 2) hC dL_paper_4 rfl 2 rfl ?_
  obtain ⟨a1, ea2, ha3, h⟩ := h
  refine x_callV hC (st := [.int (0 : Int32), va_rf r3]) (mt_X4_paper _ _ _ _ _ h) ea2 ha3 kf_4 q_426 q_427 q_428 q_1 q_429 ⟨rfl, hy_X4_paper⟩ ⟨Nat.le_of_ble_eq_true rfl, Nat.le_of_ble_eq_true rfl⟩ ⟨Nat.le_of_ble_eq_true rfl, Nat.le_of_ble_eq_true rfl⟩ rfl (Nat.le_of_ble_eq_true rfl) dL_paper_5 (r_W (fun v4 S5 h => ?_)) (r_Wx (fun j6 S7 h => ?_))
  · replace h := wq_r h
    show PX Z 5 S5 21 173 8 [(0, va_rf r0), (1, .int i1), (2, .int i2), (3, va_rf r3)] [.int v4, .int (0 : Int32), va_rf r3]
    refine x_i2l hC dL_paper_8 ?_
    obtain ⟨a12, ea13, ha14, h⟩ := h
    obtain ⟨hc15, h⟩ := h
    obtain ⟨S16, hx17, h⟩ := wle_el h
    refine x_lastore hC ea13 ha14 hc15 dL_paper_9 ?_
    refine x_tS hx17 ?_
    refine x_goto (t := 21) hC dL_paper_10 (by decide) ?_
    refine x_iconst (v := (0 : Int32)) hC dL_paper_21 (by decide) ?_
    exact x_iret hC hQ (z_W h) (Nat.le_of_ble_eq_true rfl) (Nat.le_of_ble_eq_true rfl) dL_paper_22
  · replace h := wq_l h
    rcases Decidable.em (j6 = 0) with c8 | c8
    · replace h := wit_t c8 h
      subst c8
      refine x_catch (pre := []) (x := (0, 10, 13, 13)) (suf := [(0, 10, 17, 15)]) hC hX rfl (by decide) (fun _ q => nomatch q) (by decide) (by decide) q_424 (List.mem_of_getElem? (i := 7) rfl) (fun q9 => ?_)
      refine x_astore (i := 4) (l' := [(4, va_rf (some q9)), (0, va_rf r0), (1, .int i1), (2, .int i2), (3, va_rf r3)]) hC dL_paper_13 (⟨fun _ => c_rf r0, ⟨fun _ => rfl, ⟨fun _ => rfl, ⟨fun _ => c_rf r3, trivial⟩⟩⟩⟩) (by decide) rfl ?_
      refine x_iconst (v := (1 : Int32)) hC dL_paper_15 (by decide) ?_
      exact x_iret hC hQ (z_W h) (Nat.le_of_ble_eq_true rfl) (Nat.le_of_ble_eq_true rfl) dL_paper_16
    replace h := wit_f c8 h
    rcases Decidable.em (j6 = 1) with c10 | c10
    · replace h := wit_t c10 h
      subst c10
      refine x_catch (pre := [(0, 10, 13, 13)]) (x := (0, 10, 17, 15)) (suf := []) hC hX rfl (by decide) (List.forall_mem_cons.mpr ⟨⟨by decide, 0, by decide, by decide, q_424⟩, fun _ q => nomatch q⟩) (by decide) (by decide) q_425 (List.mem_of_getElem? (i := 14) rfl) (fun q11 => ?_)
      refine x_astore (i := 4) (l' := [(4, va_rf (some q11)), (0, va_rf r0), (1, .int i1), (2, .int i2), (3, va_rf r3)]) hC dL_paper_17 (⟨fun _ => c_rf r0, ⟨fun _ => rfl, ⟨fun _ => rfl, ⟨fun _ => c_rf r3, trivial⟩⟩⟩⟩) (by decide) rfl ?_
      refine x_iconst (v := (2 : Int32)) hC dL_paper_19 (by decide) ?_
      exact x_iret hC hQ (z_W h) (Nat.le_of_ble_eq_true rfl) (Nat.le_of_ble_eq_true rfl) dL_paper_20
    replace h := wit_f c10 h
    exact h.elim
theorem dL_topics_0 : decode cL_topics 0 = .ok (.aload_n 3, 1) := by decide +kernel
theorem dL_topics_1 : decode cL_topics 1 = .ok (.iconst 0, 1) := by decide +kernel
theorem dL_topics_2 : decode cL_topics 2 = .ok (.aload_n 0, 1) := by decide +kernel
theorem dL_topics_3 : decode cL_topics 3 = .ok (.iload_n 1, 1) := by decide +kernel
theorem dL_topics_4 : decode cL_topics 4 = .ok (.iload_n 2, 1) := by decide +kernel
theorem dL_topics_5 : decode cL_topics 5 = .ok (.invokevirtual 17, 3) := by decide +kernel
theorem dL_topics_8 : decode cL_topics 8 = .ok (.i2l, 1) := by decide +kernel
theorem dL_topics_9 : decode cL_topics 9 = .ok (.lastore, 1) := by decide +kernel
theorem dL_topics_10 : decode cL_topics 10 = .ok (.goto 11, 3) := by decide +kernel
theorem dL_topics_13 : decode cL_topics 13 = .ok (.astore 4, 2) := by decide +kernel
theorem dL_topics_15 : decode cL_topics 15 = .ok (.iconst 1, 1) := by decide +kernel
theorem dL_topics_16 : decode cL_topics 16 = .ok (.ireturn, 1) := by decide +kernel
theorem dL_topics_17 : decode cL_topics 17 = .ok (.astore 4, 2) := by decide +kernel
theorem dL_topics_19 : decode cL_topics 19 = .ok (.iconst 2, 1) := by decide +kernel
theorem dL_topics_20 : decode cL_topics 20 = .ok (.ireturn, 1) := by decide +kernel
theorem dL_topics_21 : decode cL_topics 21 = .ok (.iconst 0, 1) := by decide +kernel
theorem dL_topics_22 : decode cL_topics 22 = .ok (.ireturn, 1) := by decide +kernel
set_option maxRecDepth 100000 in
set_option maxHeartbeats 4000000 in
theorem mt_L_topics (r0 : Option Nat) (i1 : Int32) (i2 : Int32) (r3 : Option Nat) (S0 : PH) (Q : (Nat ⊕ Int32) → PH → Prop) (h : w_L_topics r0 i1 i2 r3 S0 Q) : MT yL_topics (.codeWith yL_topics cL_topics 5 (Option.some FieldType.int) [(0, 10, 13, 20), (0, 10, 17, 13)]) 8 133 22 179 [va_rf r0, .int i1, .int i2, va_rf r3] S0 (oQ e_I Q) := by
  refine mt_ofH (own := RL) (l0 := [(0, va_rf r0), (1, .int i1), (2, .int i2), (3, va_rf r3)]) rfl rfl (by cases r0 <;> cases r3 <;> exact Nat.le_of_ble_eq_true rfl) (by cases r0 <;> cases r3 <;> rfl) ?_
  intro Z hC hQ hX
  unfold w_L_topics at h
  refine x_aload_n (i := 3) hC dL_topics_0 rfl 3 rfl ?_
  refine x_iconst (v := (0 : Int32)) hC dL_topics_1 (by decide) ?_
  refine x_aload_n (i := 0) hC dL_topics_2 rfl 0 rfl ?_
  refine x_iload_n (i := 1) hC dL_topics_3 rfl 1 rfl ?_
  refine x_iload_n (i := 2) hC dL_topics_4 rfl 2 rfl ?_
  obtain ⟨a1, ea2, ha3, h⟩ := h
  refine x_callV hC (st := [.int (0 : Int32), va_rf r3]) (mt_X4_topics _ _ _ _ _ h) ea2 ha3 kf_4 q_529 q_530 q_531 q_1 q_532 ⟨rfl, hy_X4_topics⟩ ⟨Nat.le_of_ble_eq_true rfl, Nat.le_of_ble_eq_true rfl⟩ ⟨Nat.le_of_ble_eq_true rfl, Nat.le_of_ble_eq_true rfl⟩ rfl (Nat.le_of_ble_eq_true rfl) dL_topics_5 (r_W (fun v4 S5 h => ?_)) (r_Wx (fun j6 S7 h => ?_))
  · replace h := wq_r h
    show PX Z 5 S5 22 179 8 [(0, va_rf r0), (1, .int i1), (2, .int i2), (3, va_rf r3)] [.int v4, .int (0 : Int32), va_rf r3]
    refine x_i2l hC dL_topics_8 ?_
    obtain ⟨a12, ea13, ha14, h⟩ := h
    obtain ⟨hc15, h⟩ := h
    obtain ⟨S16, hx17, h⟩ := wle_el h
    refine x_lastore hC ea13 ha14 hc15 dL_topics_9 ?_
    refine x_tS hx17 ?_
    refine x_goto (t := 21) hC dL_topics_10 (by decide) ?_
    refine x_iconst (v := (0 : Int32)) hC dL_topics_21 (by decide) ?_
    exact x_iret hC hQ (z_W h) (Nat.le_of_ble_eq_true rfl) (Nat.le_of_ble_eq_true rfl) dL_topics_22
  · replace h := wq_l h
    rcases Decidable.em (j6 = 2) with c8 | c8
    · replace h := wit_t c8 h
      subst c8
      refine x_catch (pre := []) (x := (0, 10, 13, 20)) (suf := [(0, 10, 17, 13)]) hC hX rfl (by decide) (fun _ q => nomatch q) (by decide) (by decide) q_528 (List.mem_of_getElem? (i := 15) rfl) (fun q9 => ?_)
      refine x_astore (i := 4) (l' := [(4, va_rf (some q9)), (0, va_rf r0), (1, .int i1), (2, .int i2), (3, va_rf r3)]) hC dL_topics_13 (⟨fun _ => c_rf r0, ⟨fun _ => rfl, ⟨fun _ => rfl, ⟨fun _ => c_rf r3, trivial⟩⟩⟩⟩) (by decide) rfl ?_
      refine x_iconst (v := (1 : Int32)) hC dL_topics_15 (by decide) ?_
      exact x_iret hC hQ (z_W h) (Nat.le_of_ble_eq_true rfl) (Nat.le_of_ble_eq_true rfl) dL_topics_16
    replace h := wit_f c8 h
    rcases Decidable.em (j6 = 0) with c10 | c10
    · replace h := wit_t c10 h
      subst c10
      refine x_catch (pre := [(0, 10, 13, 20)]) (x := (0, 10, 17, 13)) (suf := []) hC hX rfl (by decide) (List.forall_mem_cons.mpr ⟨⟨by decide, 2, by decide, by decide, q_528⟩, fun _ q => nomatch q⟩) (by decide) (by decide) q_424 (List.mem_of_getElem? (i := 7) rfl) (fun q11 => ?_)
      refine x_astore (i := 4) (l' := [(4, va_rf (some q11)), (0, va_rf r0), (1, .int i1), (2, .int i2), (3, va_rf r3)]) hC dL_topics_17 (⟨fun _ => c_rf r0, ⟨fun _ => rfl, ⟨fun _ => rfl, ⟨fun _ => c_rf r3, trivial⟩⟩⟩⟩) (by decide) rfl ?_
      refine x_iconst (v := (2 : Int32)) hC dL_topics_19 (by decide) ?_
      exact x_iret hC hQ (z_W h) (Nat.le_of_ble_eq_true rfl) (Nat.le_of_ble_eq_true rfl) dL_topics_20
    replace h := wit_f c10 h
    exact h.elim
theorem dL_meet_0 : decode cL_meet 0 = .ok (.aload_n 3, 1) := by decide +kernel
theorem dL_meet_1 : decode cL_meet 1 = .ok (.iconst 0, 1) := by decide +kernel
theorem dL_meet_2 : decode cL_meet 2 = .ok (.aload_n 0, 1) := by decide +kernel
theorem dL_meet_3 : decode cL_meet 3 = .ok (.iload_n 1, 1) := by decide +kernel
theorem dL_meet_4 : decode cL_meet 4 = .ok (.iload_n 2, 1) := by decide +kernel
theorem dL_meet_5 : decode cL_meet 5 = .ok (.invokevirtual 22, 3) := by decide +kernel
theorem dL_meet_8 : decode cL_meet 8 = .ok (.i2l, 1) := by decide +kernel
theorem dL_meet_9 : decode cL_meet 9 = .ok (.lastore, 1) := by decide +kernel
theorem dL_meet_10 : decode cL_meet 10 = .ok (.goto 11, 3) := by decide +kernel
theorem dL_meet_13 : decode cL_meet 13 = .ok (.astore 4, 2) := by decide +kernel
theorem dL_meet_15 : decode cL_meet 15 = .ok (.iconst 1, 1) := by decide +kernel
theorem dL_meet_16 : decode cL_meet 16 = .ok (.ireturn, 1) := by decide +kernel
theorem dL_meet_17 : decode cL_meet 17 = .ok (.astore 4, 2) := by decide +kernel
theorem dL_meet_19 : decode cL_meet 19 = .ok (.iconst 2, 1) := by decide +kernel
theorem dL_meet_20 : decode cL_meet 20 = .ok (.ireturn, 1) := by decide +kernel
theorem dL_meet_21 : decode cL_meet 21 = .ok (.iconst 0, 1) := by decide +kernel
theorem dL_meet_22 : decode cL_meet 22 = .ok (.ireturn, 1) := by decide +kernel
set_option maxRecDepth 100000 in
set_option maxHeartbeats 4000000 in
theorem mt_L_meet (r0 : Option Nat) (i1 : Int32) (i2 : Int32) (r3 : Option Nat) (S0 : PH) (Q : (Nat ⊕ Int32) → PH → Prop) (h : w_L_meet r0 i1 i2 r3 S0 Q) : MT yL_meet (.codeWith yL_meet cL_meet 5 (Option.some FieldType.int) [(0, 10, 13, 20), (0, 10, 17, 13)]) 8 132 23 185 [va_rf r0, .int i1, .int i2, va_rf r3] S0 (oQ e_I Q) := by
  refine mt_ofH (own := RL) (l0 := [(0, va_rf r0), (1, .int i1), (2, .int i2), (3, va_rf r3)]) rfl rfl (by cases r0 <;> cases r3 <;> exact Nat.le_of_ble_eq_true rfl) (by cases r0 <;> cases r3 <;> rfl) ?_
  intro Z hC hQ hX
  unfold w_L_meet at h
  refine x_aload_n (i := 3) hC dL_meet_0 rfl 3 rfl ?_
  refine x_iconst (v := (0 : Int32)) hC dL_meet_1 (by decide) ?_
  refine x_aload_n (i := 0) hC dL_meet_2 rfl 0 rfl ?_
  refine x_iload_n (i := 1) hC dL_meet_3 rfl 1 rfl ?_
  refine x_iload_n (i := 2) hC dL_meet_4 rfl 2 rfl ?_
  obtain ⟨a1, ea2, ha3, h⟩ := h
  refine x_callV hC (st := [.int (0 : Int32), va_rf r3]) (mt_X4_meet _ _ _ _ _ h) ea2 ha3 kf_4 q_556 q_557 q_558 q_1 q_559 ⟨rfl, hy_X4_meet⟩ ⟨Nat.le_of_ble_eq_true rfl, Nat.le_of_ble_eq_true rfl⟩ ⟨Nat.le_of_ble_eq_true rfl, Nat.le_of_ble_eq_true rfl⟩ rfl (Nat.le_of_ble_eq_true rfl) dL_meet_5 (r_W (fun v4 S5 h => ?_)) (r_Wx (fun j6 S7 h => ?_))
  · replace h := wq_r h
    show PX Z 5 S5 23 185 8 [(0, va_rf r0), (1, .int i1), (2, .int i2), (3, va_rf r3)] [.int v4, .int (0 : Int32), va_rf r3]
    refine x_i2l hC dL_meet_8 ?_
    obtain ⟨a12, ea13, ha14, h⟩ := h
    obtain ⟨hc15, h⟩ := h
    obtain ⟨S16, hx17, h⟩ := wle_el h
    refine x_lastore hC ea13 ha14 hc15 dL_meet_9 ?_
    refine x_tS hx17 ?_
    refine x_goto (t := 21) hC dL_meet_10 (by decide) ?_
    refine x_iconst (v := (0 : Int32)) hC dL_meet_21 (by decide) ?_
    exact x_iret hC hQ (z_W h) (Nat.le_of_ble_eq_true rfl) (Nat.le_of_ble_eq_true rfl) dL_meet_22
  · replace h := wq_l h
    rcases Decidable.em (j6 = 2) with c8 | c8
    · replace h := wit_t c8 h
      subst c8
      refine x_catch (pre := []) (x := (0, 10, 13, 20)) (suf := [(0, 10, 17, 13)]) hC hX rfl (by decide) (fun _ q => nomatch q) (by decide) (by decide) q_528 (List.mem_of_getElem? (i := 15) rfl) (fun q9 => ?_)
      refine x_astore (i := 4) (l' := [(4, va_rf (some q9)), (0, va_rf r0), (1, .int i1), (2, .int i2), (3, va_rf r3)]) hC dL_meet_13 (⟨fun _ => c_rf r0, ⟨fun _ => rfl, ⟨fun _ => rfl, ⟨fun _ => c_rf r3, trivial⟩⟩⟩⟩) (by decide) rfl ?_
      refine x_iconst (v := (1 : Int32)) hC dL_meet_15 (by decide) ?_
      exact x_iret hC hQ (z_W h) (Nat.le_of_ble_eq_true rfl) (Nat.le_of_ble_eq_true rfl) dL_meet_16
    replace h := wit_f c8 h
    rcases Decidable.em (j6 = 0) with c10 | c10
    · replace h := wit_t c10 h
      subst c10
      refine x_catch (pre := [(0, 10, 13, 20)]) (x := (0, 10, 17, 13)) (suf := []) hC hX rfl (by decide) (List.forall_mem_cons.mpr ⟨⟨by decide, 2, by decide, by decide, q_528⟩, fun _ q => nomatch q⟩) (by decide) (by decide) q_424 (List.mem_of_getElem? (i := 7) rfl) (fun q11 => ?_)
      refine x_astore (i := 4) (l' := [(4, va_rf (some q11)), (0, va_rf r0), (1, .int i1), (2, .int i2), (3, va_rf r3)]) hC dL_meet_17 (⟨fun _ => c_rf r0, ⟨fun _ => rfl, ⟨fun _ => rfl, ⟨fun _ => c_rf r3, trivial⟩⟩⟩⟩) (by decide) rfl ?_
      refine x_iconst (v := (2 : Int32)) hC dL_meet_19 (by decide) ?_
      exact x_iret hC hQ (z_W h) (Nat.le_of_ble_eq_true rfl) (Nat.le_of_ble_eq_true rfl) dL_meet_20
    replace h := wit_f c10 h
    exact h.elim
theorem dL_set_0 : decode cL_set 0 = .ok (.aload_n 3, 1) := by decide +kernel
theorem dL_set_1 : decode cL_set 1 = .ok (.iconst 0, 1) := by decide +kernel
theorem dL_set_2 : decode cL_set 2 = .ok (.aload_n 0, 1) := by decide +kernel
theorem dL_set_3 : decode cL_set 3 = .ok (.iload_n 1, 1) := by decide +kernel
theorem dL_set_4 : decode cL_set 4 = .ok (.iload_n 2, 1) := by decide +kernel
theorem dL_set_5 : decode cL_set 5 = .ok (.invokevirtual 25, 3) := by decide +kernel
theorem dL_set_8 : decode cL_set 8 = .ok (.i2l, 1) := by decide +kernel
theorem dL_set_9 : decode cL_set 9 = .ok (.lastore, 1) := by decide +kernel
theorem dL_set_10 : decode cL_set 10 = .ok (.goto 11, 3) := by decide +kernel
theorem dL_set_13 : decode cL_set 13 = .ok (.astore 4, 2) := by decide +kernel
theorem dL_set_15 : decode cL_set 15 = .ok (.iconst 1, 1) := by decide +kernel
theorem dL_set_16 : decode cL_set 16 = .ok (.ireturn, 1) := by decide +kernel
theorem dL_set_17 : decode cL_set 17 = .ok (.astore 4, 2) := by decide +kernel
theorem dL_set_19 : decode cL_set 19 = .ok (.iconst 2, 1) := by decide +kernel
theorem dL_set_20 : decode cL_set 20 = .ok (.ireturn, 1) := by decide +kernel
theorem dL_set_21 : decode cL_set 21 = .ok (.iconst 0, 1) := by decide +kernel
theorem dL_set_22 : decode cL_set 22 = .ok (.ireturn, 1) := by decide +kernel
set_option maxRecDepth 100000 in
set_option maxHeartbeats 4000000 in
theorem mt_L_set (r0 : Option Nat) (i1 : Int32) (i2 : Int32) (r3 : Option Nat) (S0 : PH) (Q : (Nat ⊕ Int32) → PH → Prop) (h : w_L_set r0 i1 i2 r3 S0 Q) : MT yL_set (.codeWith yL_set cL_set 5 (Option.some FieldType.int) [(0, 10, 13, 20), (0, 10, 17, 13)]) 8 133 22 179 [va_rf r0, .int i1, .int i2, va_rf r3] S0 (oQ e_I Q) := by
  refine mt_ofH (own := RL) (l0 := [(0, va_rf r0), (1, .int i1), (2, .int i2), (3, va_rf r3)]) rfl rfl (by cases r0 <;> cases r3 <;> exact Nat.le_of_ble_eq_true rfl) (by cases r0 <;> cases r3 <;> rfl) ?_
  intro Z hC hQ hX
  unfold w_L_set at h
  refine x_aload_n (i := 3) hC dL_set_0 rfl 3 rfl ?_
  refine x_iconst (v := (0 : Int32)) hC dL_set_1 (by decide) ?_
  refine x_aload_n (i := 0) hC dL_set_2 rfl 0 rfl ?_
  refine x_iload_n (i := 1) hC dL_set_3 rfl 1 rfl ?_
  refine x_iload_n (i := 2) hC dL_set_4 rfl 2 rfl ?_
  obtain ⟨a1, ea2, ha3, h⟩ := h
  refine x_callV hC (st := [.int (0 : Int32), va_rf r3]) (mt_X4_set _ _ _ _ _ h) ea2 ha3 kf_4 q_564 q_565 q_566 q_1 q_567 ⟨rfl, hy_X4_set⟩ ⟨Nat.le_of_ble_eq_true rfl, Nat.le_of_ble_eq_true rfl⟩ ⟨Nat.le_of_ble_eq_true rfl, Nat.le_of_ble_eq_true rfl⟩ rfl (Nat.le_of_ble_eq_true rfl) dL_set_5 (r_W (fun v4 S5 h => ?_)) (r_Wx (fun j6 S7 h => ?_))
  · replace h := wq_r h
    show PX Z 5 S5 22 179 8 [(0, va_rf r0), (1, .int i1), (2, .int i2), (3, va_rf r3)] [.int v4, .int (0 : Int32), va_rf r3]
    refine x_i2l hC dL_set_8 ?_
    obtain ⟨a12, ea13, ha14, h⟩ := h
    obtain ⟨hc15, h⟩ := h
    obtain ⟨S16, hx17, h⟩ := wle_el h
    refine x_lastore hC ea13 ha14 hc15 dL_set_9 ?_
    refine x_tS hx17 ?_
    refine x_goto (t := 21) hC dL_set_10 (by decide) ?_
    refine x_iconst (v := (0 : Int32)) hC dL_set_21 (by decide) ?_
    exact x_iret hC hQ (z_W h) (Nat.le_of_ble_eq_true rfl) (Nat.le_of_ble_eq_true rfl) dL_set_22
  · replace h := wq_l h
    rcases Decidable.em (j6 = 2) with c8 | c8
    · replace h := wit_t c8 h
      subst c8
      refine x_catch (pre := []) (x := (0, 10, 13, 20)) (suf := [(0, 10, 17, 13)]) hC hX rfl (by decide) (fun _ q => nomatch q) (by decide) (by decide) q_528 (List.mem_of_getElem? (i := 15) rfl) (fun q9 => ?_)
      refine x_astore (i := 4) (l' := [(4, va_rf (some q9)), (0, va_rf r0), (1, .int i1), (2, .int i2), (3, va_rf r3)]) hC dL_set_13 (⟨fun _ => c_rf r0, ⟨fun _ => rfl, ⟨fun _ => rfl, ⟨fun _ => c_rf r3, trivial⟩⟩⟩⟩) (by decide) rfl ?_
      refine x_iconst (v := (1 : Int32)) hC dL_set_15 (by decide) ?_
      exact x_iret hC hQ (z_W h) (Nat.le_of_ble_eq_true rfl) (Nat.le_of_ble_eq_true rfl) dL_set_16
    replace h := wit_f c8 h
    rcases Decidable.em (j6 = 0) with c10 | c10
    · replace h := wit_t c10 h
      subst c10
      refine x_catch (pre := [(0, 10, 13, 20)]) (x := (0, 10, 17, 13)) (suf := []) hC hX rfl (by decide) (List.forall_mem_cons.mpr ⟨⟨by decide, 2, by decide, by decide, q_528⟩, fun _ q => nomatch q⟩) (by decide) (by decide) q_424 (List.mem_of_getElem? (i := 7) rfl) (fun q11 => ?_)
      refine x_astore (i := 4) (l' := [(4, va_rf (some q11)), (0, va_rf r0), (1, .int i1), (2, .int i2), (3, va_rf r3)]) hC dL_set_17 (⟨fun _ => c_rf r0, ⟨fun _ => rfl, ⟨fun _ => rfl, ⟨fun _ => c_rf r3, trivial⟩⟩⟩⟩) (by decide) rfl ?_
      refine x_iconst (v := (2 : Int32)) hC dL_set_19 (by decide) ?_
      exact x_iret hC hQ (z_W h) (Nat.le_of_ble_eq_true rfl) (Nat.le_of_ble_eq_true rfl) dL_set_20
    replace h := wit_f c10 h
    exact h.elim
theorem dL_bring_0 : decode cL_bring 0 = .ok (.aload_n 2, 1) := by decide +kernel
theorem dL_bring_1 : decode cL_bring 1 = .ok (.iconst 0, 1) := by decide +kernel
theorem dL_bring_2 : decode cL_bring 2 = .ok (.aload_n 0, 1) := by decide +kernel
theorem dL_bring_3 : decode cL_bring 3 = .ok (.iload_n 1, 1) := by decide +kernel
theorem dL_bring_4 : decode cL_bring 4 = .ok (.invokevirtual 28, 3) := by decide +kernel
theorem dL_bring_7 : decode cL_bring 7 = .ok (.i2l, 1) := by decide +kernel
theorem dL_bring_8 : decode cL_bring 8 = .ok (.lastore, 1) := by decide +kernel
theorem dL_bring_9 : decode cL_bring 9 = .ok (.goto 9, 3) := by decide +kernel
theorem dL_bring_12 : decode cL_bring 12 = .ok (.astore_n 3, 1) := by decide +kernel
theorem dL_bring_13 : decode cL_bring 13 = .ok (.iconst 1, 1) := by decide +kernel
theorem dL_bring_14 : decode cL_bring 14 = .ok (.ireturn, 1) := by decide +kernel
theorem dL_bring_15 : decode cL_bring 15 = .ok (.astore_n 3, 1) := by decide +kernel
theorem dL_bring_16 : decode cL_bring 16 = .ok (.iconst 2, 1) := by decide +kernel
theorem dL_bring_17 : decode cL_bring 17 = .ok (.ireturn, 1) := by decide +kernel
theorem dL_bring_18 : decode cL_bring 18 = .ok (.iconst 0, 1) := by decide +kernel
theorem dL_bring_19 : decode cL_bring 19 = .ok (.ireturn, 1) := by decide +kernel
set_option maxRecDepth 100000 in
set_option maxHeartbeats 4000000 in
theorem mt_L_bring (r0 : Option Nat) (i1 : Int32) (r2 : Option Nat) (S0 : PH) (Q : (Nat ⊕ Int32) → PH → Prop) (h : w_L_bring r0 i1 r2 S0 Q) : MT yL_bring (.codeWith yL_bring cL_bring 4 (Option.some FieldType.int) [(0, 9, 12, 13), (0, 9, 15, 15)]) 7 125 21 173 [va_rf r0, .int i1, va_rf r2] S0 (oQ e_I Q) := by
  refine mt_ofH (own := RL) (l0 := [(0, va_rf r0), (1, .int i1), (2, va_rf r2)]) rfl rfl (by cases r0 <;> cases r2 <;> exact Nat.le_of_ble_eq_true rfl) (by cases r0 <;> cases r2 <;> rfl) ?_
  intro Z hC hQ hX
  unfold w_L_bring at h
  refine x_aload_n (i := 2) hC dL_bring_0 rfl 2 rfl ?_
  refine x_iconst (v := (0 : Int32)) hC dL_bring_1 (by decide) ?_
  refine x_aload_n (i := 0) hC dL_bring_2 rfl 0 rfl ?_
  refine x_iload_n (i := 1) hC dL_bring_3 rfl 1 rfl ?_
  obtain ⟨a1, ea2, ha3, h⟩ := h
  refine x_callV hC (st := [.int (0 : Int32), va_rf r2]) (mt_X4_bring _ _ _ _ h) ea2 ha3 kf_4 q_580 q_581 q_582 q_1 q_583 ⟨rfl, hy_X4_bring⟩ ⟨Nat.le_of_ble_eq_true rfl, Nat.le_of_ble_eq_true rfl⟩ ⟨Nat.le_of_ble_eq_true rfl, Nat.le_of_ble_eq_true rfl⟩ rfl (Nat.le_of_ble_eq_true rfl) dL_bring_4 (r_W (fun v4 S5 h => ?_)) (r_Wx (fun j6 S7 h => ?_))
  · replace h := wq_r h
    show PX Z 4 S5 21 173 7 [(0, va_rf r0), (1, .int i1), (2, va_rf r2)] [.int v4, .int (0 : Int32), va_rf r2]
    refine x_i2l hC dL_bring_7 ?_
    obtain ⟨a12, ea13, ha14, h⟩ := h
    obtain ⟨hc15, h⟩ := h
    obtain ⟨S16, hx17, h⟩ := wle_el h
    refine x_lastore hC ea13 ha14 hc15 dL_bring_8 ?_
    refine x_tS hx17 ?_
    refine x_goto (t := 18) hC dL_bring_9 (by decide) ?_
    refine x_iconst (v := (0 : Int32)) hC dL_bring_18 (by decide) ?_
    exact x_iret hC hQ (z_W h) (Nat.le_of_ble_eq_true rfl) (Nat.le_of_ble_eq_true rfl) dL_bring_19
  · replace h := wq_l h
    rcases Decidable.em (j6 = 0) with c8 | c8
    · replace h := wit_t c8 h
      subst c8
      refine x_catch (pre := []) (x := (0, 9, 12, 13)) (suf := [(0, 9, 15, 15)]) hC hX rfl (by decide) (fun _ q => nomatch q) (by decide) (by decide) q_424 (List.mem_of_getElem? (i := 7) rfl) (fun q9 => ?_)
      refine x_astore_n (i := 3) (l' := [(3, va_rf (some q9)), (0, va_rf r0), (1, .int i1), (2, va_rf r2)]) hC dL_bring_12 rfl (⟨fun _ => c_rf r0, ⟨fun _ => rfl, ⟨fun _ => c_rf r2, trivial⟩⟩⟩) (by decide) rfl ?_
      refine x_iconst (v := (1 : Int32)) hC dL_bring_13 (by decide) ?_
      exact x_iret hC hQ (z_W h) (Nat.le_of_ble_eq_true rfl) (Nat.le_of_ble_eq_true rfl) dL_bring_14
    replace h := wit_f c8 h
    rcases Decidable.em (j6 = 1) with c10 | c10
    · replace h := wit_t c10 h
      subst c10
      refine x_catch (pre := [(0, 9, 12, 13)]) (x := (0, 9, 15, 15)) (suf := []) hC hX rfl (by decide) (List.forall_mem_cons.mpr ⟨⟨by decide, 0, by decide, by decide, q_424⟩, fun _ q => nomatch q⟩) (by decide) (by decide) q_425 (List.mem_of_getElem? (i := 14) rfl) (fun q11 => ?_)
      refine x_astore_n (i := 3) (l' := [(3, va_rf (some q11)), (0, va_rf r0), (1, .int i1), (2, va_rf r2)]) hC dL_bring_15 rfl (⟨fun _ => c_rf r0, ⟨fun _ => rfl, ⟨fun _ => c_rf r2, trivial⟩⟩⟩) (by decide) rfl ?_
      refine x_iconst (v := (2 : Int32)) hC dL_bring_16 (by decide) ?_
      exact x_iret hC hQ (z_W h) (Nat.le_of_ble_eq_true rfl) (Nat.le_of_ble_eq_true rfl) dL_bring_17
    replace h := wit_f c10 h
    exact h.elim
theorem dL_week_0 : decode cL_week 0 = .ok (.aload_n 1, 1) := by decide +kernel
theorem dL_week_1 : decode cL_week 1 = .ok (.iconst 0, 1) := by decide +kernel
theorem dL_week_2 : decode cL_week 2 = .ok (.aload_n 0, 1) := by decide +kernel
theorem dL_week_3 : decode cL_week 3 = .ok (.invokevirtual 32, 3) := by decide +kernel
theorem dL_week_6 : decode cL_week 6 = .ok (.i2l, 1) := by decide +kernel
theorem dL_week_7 : decode cL_week 7 = .ok (.lastore, 1) := by decide +kernel
theorem dL_week_8 : decode cL_week 8 = .ok (.goto 6, 3) := by decide +kernel
theorem dL_week_11 : decode cL_week 11 = .ok (.astore_n 2, 1) := by decide +kernel
theorem dL_week_12 : decode cL_week 12 = .ok (.iconst 1, 1) := by decide +kernel
theorem dL_week_13 : decode cL_week 13 = .ok (.ireturn, 1) := by decide +kernel
theorem dL_week_14 : decode cL_week 14 = .ok (.iconst 0, 1) := by decide +kernel
theorem dL_week_15 : decode cL_week 15 = .ok (.ireturn, 1) := by decide +kernel
set_option maxRecDepth 100000 in
set_option maxHeartbeats 4000000 in
theorem mt_L_week (r0 : Option Nat) (r1 : Option Nat) (S0 : PH) (Q : (Nat ⊕ Int32) → PH → Prop) (h : w_L_week r0 r1 S0 Q) : MT yL_week (.codeWith yL_week cL_week 3 (Option.some FieldType.int) [(0, 8, 11, 15)]) 7 124 21 173 [va_rf r0, va_rf r1] S0 (oQ e_I Q) := by
  refine mt_ofH (own := RL) (l0 := [(0, va_rf r0), (1, va_rf r1)]) rfl rfl (by cases r0 <;> cases r1 <;> exact Nat.le_of_ble_eq_true rfl) (by cases r0 <;> cases r1 <;> rfl) ?_
  intro Z hC hQ hX
  unfold w_L_week at h
  refine x_aload_n (i := 1) hC dL_week_0 rfl 1 rfl ?_
  refine x_iconst (v := (0 : Int32)) hC dL_week_1 (by decide) ?_
  refine x_aload_n (i := 0) hC dL_week_2 rfl 0 rfl ?_
  obtain ⟨a1, ea2, ha3, h⟩ := h
  refine x_callV hC (st := [.int (0 : Int32), va_rf r1]) (mt_X4_week _ _ _ h) ea2 ha3 kf_4 q_589 q_590 q_591 q_1 q_592 ⟨rfl, hy_X4_week⟩ ⟨Nat.le_of_ble_eq_true rfl, Nat.le_of_ble_eq_true rfl⟩ ⟨Nat.le_of_ble_eq_true rfl, Nat.le_of_ble_eq_true rfl⟩ rfl (Nat.le_of_ble_eq_true rfl) dL_week_3 (r_W (fun v4 S5 h => ?_)) (r_Wx (fun j6 S7 h => ?_))
  · replace h := wq_r h
    show PX Z 3 S5 21 173 6 [(0, va_rf r0), (1, va_rf r1)] [.int v4, .int (0 : Int32), va_rf r1]
    refine x_i2l hC dL_week_6 ?_
    obtain ⟨a10, ea11, ha12, h⟩ := h
    obtain ⟨hc13, h⟩ := h
    obtain ⟨S14, hx15, h⟩ := wle_el h
    refine x_lastore hC ea11 ha12 hc13 dL_week_7 ?_
    refine x_tS hx15 ?_
    refine x_goto (t := 14) hC dL_week_8 (by decide) ?_
    refine x_iconst (v := (0 : Int32)) hC dL_week_14 (by decide) ?_
    exact x_iret hC hQ (z_W h) (Nat.le_of_ble_eq_true rfl) (Nat.le_of_ble_eq_true rfl) dL_week_15
  · replace h := wq_l h
    rcases Decidable.em (j6 = 1) with c8 | c8
    · replace h := wit_t c8 h
      subst c8
      refine x_catch (pre := []) (x := (0, 8, 11, 15)) (suf := []) hC hX rfl (by decide) (fun _ q => nomatch q) (by decide) (by decide) q_425 (List.mem_of_getElem? (i := 14) rfl) (fun q9 => ?_)
      refine x_astore_n (i := 2) (l' := [(2, va_rf (some q9)), (0, va_rf r0), (1, va_rf r1)]) hC dL_week_11 rfl (⟨fun _ => c_rf r0, ⟨fun _ => c_rf r1, trivial⟩⟩) (by decide) rfl ?_
      refine x_iconst (v := (1 : Int32)) hC dL_week_12 (by decide) ?_
      exact x_iret hC hQ (z_W h) (Nat.le_of_ble_eq_true rfl) (Nat.le_of_ble_eq_true rfl) dL_week_13
    replace h := wit_f c8 h
    exact h.elim
theorem dL_take_0 : decode cL_take 0 = .ok (.aload_n 3, 1) := by decide +kernel
theorem dL_take_1 : decode cL_take 1 = .ok (.iconst 0, 1) := by decide +kernel
theorem dL_take_2 : decode cL_take 2 = .ok (.aload_n 0, 1) := by decide +kernel
theorem dL_take_3 : decode cL_take 3 = .ok (.iload_n 1, 1) := by decide +kernel
theorem dL_take_4 : decode cL_take 4 = .ok (.iload_n 2, 1) := by decide +kernel
theorem dL_take_5 : decode cL_take 5 = .ok (.invokevirtual 36, 3) := by decide +kernel
theorem dL_take_8 : decode cL_take 8 = .ok (.i2l, 1) := by decide +kernel
theorem dL_take_9 : decode cL_take 9 = .ok (.lastore, 1) := by decide +kernel
theorem dL_take_10 : decode cL_take 10 = .ok (.goto 7, 3) := by decide +kernel
theorem dL_take_13 : decode cL_take 13 = .ok (.astore 4, 2) := by decide +kernel
theorem dL_take_15 : decode cL_take 15 = .ok (.iconst 1, 1) := by decide +kernel
theorem dL_take_16 : decode cL_take 16 = .ok (.ireturn, 1) := by decide +kernel
theorem dL_take_17 : decode cL_take 17 = .ok (.iconst 0, 1) := by decide +kernel
theorem dL_take_18 : decode cL_take 18 = .ok (.ireturn, 1) := by decide +kernel
set_option maxRecDepth 100000 in
set_option maxHeartbeats 4000000 in
theorem mt_L_take (r0 : Option Nat) (i1 : Int32) (i2 : Int32) (r3 : Option Nat) (S0 : PH) (Q : (Nat ⊕ Int32) → PH → Prop) (h : w_L_take r0 i1 i2 r3 S0 Q) : MT yL_take (.codeWith yL_take cL_take 5 (Option.some FieldType.int) [(0, 10, 13, 20)]) 8 135 23 185 [va_rf r0, .int i1, .int i2, va_rf r3] S0 (oQ e_I Q) := by
  refine mt_ofH (own := RL) (l0 := [(0, va_rf r0), (1, .int i1), (2, .int i2), (3, va_rf r3)]) rfl rfl (by cases r0 <;> cases r3 <;> exact Nat.le_of_ble_eq_true rfl) (by cases r0 <;> cases r3 <;> rfl) ?_
  intro Z hC hQ hX
  unfold w_L_take at h
  refine x_aload_n (i := 3) hC dL_take_0 rfl 3 rfl ?_
  refine x_iconst (v := (0 : Int32)) hC dL_take_1 (by decide) ?_
  refine x_aload_n (i := 0) hC dL_take_2 rfl 0 rfl ?_
  refine x_iload_n (i := 1) hC dL_take_3 rfl 1 rfl ?_
  refine x_iload_n (i := 2) hC dL_take_4 rfl 2 rfl ?_
  obtain ⟨a1, ea2, ha3, h⟩ := h
  refine x_callV hC (st := [.int (0 : Int32), va_rf r3]) (mt_X4_take _ _ _ _ _ h) ea2 ha3 kf_4 q_609 q_610 q_611 q_1 q_612 ⟨rfl, hy_X4_take⟩ ⟨Nat.le_of_ble_eq_true rfl, Nat.le_of_ble_eq_true rfl⟩ ⟨Nat.le_of_ble_eq_true rfl, Nat.le_of_ble_eq_true rfl⟩ rfl (Nat.le_of_ble_eq_true rfl) dL_take_5 (r_W (fun v4 S5 h => ?_)) (r_Wx (fun j6 S7 h => ?_))
  · replace h := wq_r h
    show PX Z 5 S5 23 185 8 [(0, va_rf r0), (1, .int i1), (2, .int i2), (3, va_rf r3)] [.int v4, .int (0 : Int32), va_rf r3]
    refine x_i2l hC dL_take_8 ?_
    obtain ⟨a10, ea11, ha12, h⟩ := h
    obtain ⟨hc13, h⟩ := h
    obtain ⟨S14, hx15, h⟩ := wle_el h
    refine x_lastore hC ea11 ha12 hc13 dL_take_9 ?_
    refine x_tS hx15 ?_
    refine x_goto (t := 17) hC dL_take_10 (by decide) ?_
    refine x_iconst (v := (0 : Int32)) hC dL_take_17 (by decide) ?_
    exact x_iret hC hQ (z_W h) (Nat.le_of_ble_eq_true rfl) (Nat.le_of_ble_eq_true rfl) dL_take_18
  · replace h := wq_l h
    rcases Decidable.em (j6 = 2) with c8 | c8
    · replace h := wit_t c8 h
      subst c8
      refine x_catch (pre := []) (x := (0, 10, 13, 20)) (suf := []) hC hX rfl (by decide) (fun _ q => nomatch q) (by decide) (by decide) q_528 (List.mem_of_getElem? (i := 15) rfl) (fun q9 => ?_)
      refine x_astore (i := 4) (l' := [(4, va_rf (some q9)), (0, va_rf r0), (1, .int i1), (2, .int i2), (3, va_rf r3)]) hC dL_take_13 (⟨fun _ => c_rf r0, ⟨fun _ => rfl, ⟨fun _ => rfl, ⟨fun _ => c_rf r3, trivial⟩⟩⟩⟩) (by decide) rfl ?_
      refine x_iconst (v := (1 : Int32)) hC dL_take_15 (by decide) ?_
      exact x_iret hC hQ (z_W h) (Nat.le_of_ble_eq_true rfl) (Nat.le_of_ble_eq_true rfl) dL_take_16
    replace h := wit_f c8 h
    exact h.elim
theorem dL_write_0 : decode cL_write 0 = .ok (.aload 4, 2) := by decide +kernel
theorem dL_write_2 : decode cL_write 2 = .ok (.iconst 0, 1) := by decide +kernel
theorem dL_write_3 : decode cL_write 3 = .ok (.aload_n 0, 1) := by decide +kernel
theorem dL_write_4 : decode cL_write 4 = .ok (.iload_n 1, 1) := by decide +kernel
theorem dL_write_5 : decode cL_write 5 = .ok (.iload_n 2, 1) := by decide +kernel
theorem dL_write_6 : decode cL_write 6 = .ok (.iload_n 3, 1) := by decide +kernel
theorem dL_write_7 : decode cL_write 7 = .ok (.invokevirtual 39, 3) := by decide +kernel
theorem dL_write_10 : decode cL_write 10 = .ok (.i2l, 1) := by decide +kernel
theorem dL_write_11 : decode cL_write 11 = .ok (.lastore, 1) := by decide +kernel
theorem dL_write_12 : decode cL_write 12 = .ok (.goto 15, 3) := by decide +kernel
theorem dL_write_15 : decode cL_write 15 = .ok (.astore 5, 2) := by decide +kernel
theorem dL_write_17 : decode cL_write 17 = .ok (.iconst 1, 1) := by decide +kernel
theorem dL_write_18 : decode cL_write 18 = .ok (.ireturn, 1) := by decide +kernel
theorem dL_write_19 : decode cL_write 19 = .ok (.astore 5, 2) := by decide +kernel
theorem dL_write_21 : decode cL_write 21 = .ok (.iconst 2, 1) := by decide +kernel
theorem dL_write_22 : decode cL_write 22 = .ok (.ireturn, 1) := by decide +kernel
theorem dL_write_23 : decode cL_write 23 = .ok (.astore 5, 2) := by decide +kernel
theorem dL_write_25 : decode cL_write 25 = .ok (.iconst 3, 1) := by decide +kernel
theorem dL_write_26 : decode cL_write 26 = .ok (.ireturn, 1) := by decide +kernel
theorem dL_write_27 : decode cL_write 27 = .ok (.iconst 0, 1) := by decide +kernel
theorem dL_write_28 : decode cL_write 28 = .ok (.ireturn, 1) := by decide +kernel
set_option maxRecDepth 100000 in
set_option maxHeartbeats 4000000 in
theorem mt_L_write (r0 : Option Nat) (i1 : Int32) (i2 : Int32) (i3 : Int32) (r4 : Option Nat) (S0 : PH) (Q : (Nat ⊕ Int32) → PH → Prop) (h : w_L_write r0 i1 i2 i3 r4 S0 Q) : MT yL_write (.codeWith yL_write cL_write 6 (Option.some FieldType.int) [(0, 12, 15, 20), (0, 12, 19, 13), (0, 12, 23, 15)]) 8 134 23 185 [va_rf r0, .int i1, .int i2, .int i3, va_rf r4] S0 (oQ e_I Q) := by
  refine mt_ofH (own := RL) (l0 := [(0, va_rf r0), (1, .int i1), (2, .int i2), (3, .int i3), (4, va_rf r4)]) rfl rfl (by cases r0 <;> cases r4 <;> exact Nat.le_of_ble_eq_true rfl) (by cases r0 <;> cases r4 <;> rfl) ?_
  intro Z hC hQ hX
  unfold w_L_write at h
  refine x_aload (i := 4) hC dL_write_0 4 rfl ?_
  refine x_iconst (v := (0 : Int32)) hC dL_write_2 (by decide) ?_
  refine x_aload_n (i := 0) hC dL_write_3 rfl 0 rfl ?_
  refine x_iload_n (i := 1) hC dL_write_4 rfl 1 rfl ?_
  refine x_iload_n (i := 2) hC dL_write_5 rfl 2 rfl ?_
  refine x_iload_n (i := 3) hC dL_write_6 rfl 3 rfl ?_
  obtain ⟨a1, ea2, ha3, h⟩ := h
  refine x_callV hC (st := [.int (0 : Int32), va_rf r4]) (mt_X4_write _ _ _ _ _ _ h) ea2 ha3 kf_4 q_629 q_630 q_631 q_1 q_632 ⟨rfl, hy_X4_write⟩ ⟨Nat.le_of_ble_eq_true rfl, Nat.le_of_ble_eq_true rfl⟩ ⟨Nat.le_of_ble_eq_true rfl, Nat.le_of_ble_eq_true rfl⟩ rfl (Nat.le_of_ble_eq_true rfl) dL_write_7 (r_W (fun v4 S5 h => ?_)) (r_Wx (fun j6 S7 h => ?_))
  · replace h := wq_r h
    show PX Z 6 S5 23 185 10 [(0, va_rf r0), (1, .int i1), (2, .int i2), (3, .int i3), (4, va_rf r4)] [.int v4, .int (0 : Int32), va_rf r4]
    refine x_i2l hC dL_write_10 ?_
    obtain ⟨a14, ea15, ha16, h⟩ := h
    obtain ⟨hc17, h⟩ := h
    obtain ⟨S18, hx19, h⟩ := wle_el h
    refine x_lastore hC ea15 ha16 hc17 dL_write_11 ?_
    refine x_tS hx19 ?_
    refine x_goto (t := 27) hC dL_write_12 (by decide) ?_
    refine x_iconst (v := (0 : Int32)) hC dL_write_27 (by decide) ?_
    exact x_iret hC hQ (z_W h) (Nat.le_of_ble_eq_true rfl) (Nat.le_of_ble_eq_true rfl) dL_write_28
  · replace h := wq_l h
    rcases Decidable.em (j6 = 2) with c8 | c8
    · replace h := wit_t c8 h
      subst c8
      refine x_catch (pre := []) (x := (0, 12, 15, 20)) (suf := [(0, 12, 19, 13), (0, 12, 23, 15)]) hC hX rfl (by decide) (fun _ q => nomatch q) (by decide) (by decide) q_528 (List.mem_of_getElem? (i := 15) rfl) (fun q9 => ?_)
      refine x_astore (i := 5) (l' := [(5, va_rf (some q9)), (0, va_rf r0), (1, .int i1), (2, .int i2), (3, .int i3), (4, va_rf r4)]) hC dL_write_15 (⟨fun _ => c_rf r0, ⟨fun _ => rfl, ⟨fun _ => rfl, ⟨fun _ => rfl, ⟨fun _ => c_rf r4, trivial⟩⟩⟩⟩⟩) (by decide) rfl ?_
      refine x_iconst (v := (1 : Int32)) hC dL_write_17 (by decide) ?_
      exact x_iret hC hQ (z_W h) (Nat.le_of_ble_eq_true rfl) (Nat.le_of_ble_eq_true rfl) dL_write_18
    replace h := wit_f c8 h
    rcases Decidable.em (j6 = 0) with c10 | c10
    · replace h := wit_t c10 h
      subst c10
      refine x_catch (pre := [(0, 12, 15, 20)]) (x := (0, 12, 19, 13)) (suf := [(0, 12, 23, 15)]) hC hX rfl (by decide) (List.forall_mem_cons.mpr ⟨⟨by decide, 2, by decide, by decide, q_528⟩, fun _ q => nomatch q⟩) (by decide) (by decide) q_424 (List.mem_of_getElem? (i := 7) rfl) (fun q11 => ?_)
      refine x_astore (i := 5) (l' := [(5, va_rf (some q11)), (0, va_rf r0), (1, .int i1), (2, .int i2), (3, .int i3), (4, va_rf r4)]) hC dL_write_19 (⟨fun _ => c_rf r0, ⟨fun _ => rfl, ⟨fun _ => rfl, ⟨fun _ => rfl, ⟨fun _ => c_rf r4, trivial⟩⟩⟩⟩⟩) (by decide) rfl ?_
      refine x_iconst (v := (2 : Int32)) hC dL_write_21 (by decide) ?_
      exact x_iret hC hQ (z_W h) (Nat.le_of_ble_eq_true rfl) (Nat.le_of_ble_eq_true rfl) dL_write_22
    replace h := wit_f c10 h
    rcases Decidable.em (j6 = 1) with c12 | c12
    · replace h := wit_t c12 h
      subst c12
      refine x_catch (pre := [(0, 12, 15, 20), (0, 12, 19, 13)]) (x := (0, 12, 23, 15)) (suf := []) hC hX rfl (by decide) (List.forall_mem_cons.mpr ⟨⟨by decide, 2, by decide, by decide, q_528⟩, List.forall_mem_cons.mpr ⟨⟨by decide, 0, by decide, by decide, q_424⟩, fun _ q => nomatch q⟩⟩) (by decide) (by decide) q_425 (List.mem_of_getElem? (i := 14) rfl) (fun q13 => ?_)
      refine x_astore (i := 5) (l' := [(5, va_rf (some q13)), (0, va_rf r0), (1, .int i1), (2, .int i2), (3, .int i3), (4, va_rf r4)]) hC dL_write_23 (⟨fun _ => c_rf r0, ⟨fun _ => rfl, ⟨fun _ => rfl, ⟨fun _ => rfl, ⟨fun _ => c_rf r4, trivial⟩⟩⟩⟩⟩) (by decide) rfl ?_
      refine x_iconst (v := (3 : Int32)) hC dL_write_25 (by decide) ?_
      exact x_iret hC hQ (z_W h) (Nat.le_of_ble_eq_true rfl) (Nat.le_of_ble_eq_true rfl) dL_write_26
    replace h := wit_f c12 h
    exact h.elim
theorem dL_drop_0 : decode cL_drop 0 = .ok (.aload_n 3, 1) := by decide +kernel
theorem dL_drop_1 : decode cL_drop 1 = .ok (.iconst 0, 1) := by decide +kernel
theorem dL_drop_2 : decode cL_drop 2 = .ok (.aload_n 0, 1) := by decide +kernel
theorem dL_drop_3 : decode cL_drop 3 = .ok (.iload_n 1, 1) := by decide +kernel
theorem dL_drop_4 : decode cL_drop 4 = .ok (.iload_n 2, 1) := by decide +kernel
theorem dL_drop_5 : decode cL_drop 5 = .ok (.invokevirtual 43, 3) := by decide +kernel
theorem dL_drop_8 : decode cL_drop 8 = .ok (.i2l, 1) := by decide +kernel
theorem dL_drop_9 : decode cL_drop 9 = .ok (.lastore, 1) := by decide +kernel
theorem dL_drop_10 : decode cL_drop 10 = .ok (.goto 11, 3) := by decide +kernel
theorem dL_drop_13 : decode cL_drop 13 = .ok (.astore 4, 2) := by decide +kernel
theorem dL_drop_15 : decode cL_drop 15 = .ok (.iconst 1, 1) := by decide +kernel
theorem dL_drop_16 : decode cL_drop 16 = .ok (.ireturn, 1) := by decide +kernel
theorem dL_drop_17 : decode cL_drop 17 = .ok (.astore 4, 2) := by decide +kernel
theorem dL_drop_19 : decode cL_drop 19 = .ok (.iconst 2, 1) := by decide +kernel
theorem dL_drop_20 : decode cL_drop 20 = .ok (.ireturn, 1) := by decide +kernel
theorem dL_drop_21 : decode cL_drop 21 = .ok (.iconst 0, 1) := by decide +kernel
theorem dL_drop_22 : decode cL_drop 22 = .ok (.ireturn, 1) := by decide +kernel
set_option maxRecDepth 100000 in
set_option maxHeartbeats 4000000 in
theorem mt_L_drop (r0 : Option Nat) (i1 : Int32) (i2 : Int32) (r3 : Option Nat) (S0 : PH) (Q : (Nat ⊕ Int32) → PH → Prop) (h : w_L_drop r0 i1 i2 r3 S0 Q) : MT yL_drop (.codeWith yL_drop cL_drop 5 (Option.some FieldType.int) [(0, 10, 13, 20), (0, 10, 17, 15)]) 8 133 23 185 [va_rf r0, .int i1, .int i2, va_rf r3] S0 (oQ e_I Q) := by
  refine mt_ofH (own := RL) (l0 := [(0, va_rf r0), (1, .int i1), (2, .int i2), (3, va_rf r3)]) rfl rfl (by cases r0 <;> cases r3 <;> exact Nat.le_of_ble_eq_true rfl) (by cases r0 <;> cases r3 <;> rfl) ?_
  intro Z hC hQ hX
  unfold w_L_drop at h
  refine x_aload_n (i := 3) hC dL_drop_0 rfl 3 rfl ?_
  refine x_iconst (v := (0 : Int32)) hC dL_drop_1 (by decide) ?_
  refine x_aload_n (i := 0) hC dL_drop_2 rfl 0 rfl ?_
  refine x_iload_n (i := 1) hC dL_drop_3 rfl 1 rfl ?_
  refine x_iload_n (i := 2) hC dL_drop_4 rfl 2 rfl ?_
  obtain ⟨a1, ea2, ha3, h⟩ := h
  refine x_callV hC (st := [.int (0 : Int32), va_rf r3]) (mt_X4_drop _ _ _ _ _ h) ea2 ha3 kf_4 q_646 q_647 q_648 q_1 q_649 ⟨rfl, hy_X4_drop⟩ ⟨Nat.le_of_ble_eq_true rfl, Nat.le_of_ble_eq_true rfl⟩ ⟨Nat.le_of_ble_eq_true rfl, Nat.le_of_ble_eq_true rfl⟩ rfl (Nat.le_of_ble_eq_true rfl) dL_drop_5 (r_W (fun v4 S5 h => ?_)) (r_Wx (fun j6 S7 h => ?_))
  · replace h := wq_r h
    show PX Z 5 S5 23 185 8 [(0, va_rf r0), (1, .int i1), (2, .int i2), (3, va_rf r3)] [.int v4, .int (0 : Int32), va_rf r3]
    refine x_i2l hC dL_drop_8 ?_
    obtain ⟨a12, ea13, ha14, h⟩ := h
    obtain ⟨hc15, h⟩ := h
    obtain ⟨S16, hx17, h⟩ := wle_el h
    refine x_lastore hC ea13 ha14 hc15 dL_drop_9 ?_
    refine x_tS hx17 ?_
    refine x_goto (t := 21) hC dL_drop_10 (by decide) ?_
    refine x_iconst (v := (0 : Int32)) hC dL_drop_21 (by decide) ?_
    exact x_iret hC hQ (z_W h) (Nat.le_of_ble_eq_true rfl) (Nat.le_of_ble_eq_true rfl) dL_drop_22
  · replace h := wq_l h
    rcases Decidable.em (j6 = 2) with c8 | c8
    · replace h := wit_t c8 h
      subst c8
      refine x_catch (pre := []) (x := (0, 10, 13, 20)) (suf := [(0, 10, 17, 15)]) hC hX rfl (by decide) (fun _ q => nomatch q) (by decide) (by decide) q_528 (List.mem_of_getElem? (i := 15) rfl) (fun q9 => ?_)
      refine x_astore (i := 4) (l' := [(4, va_rf (some q9)), (0, va_rf r0), (1, .int i1), (2, .int i2), (3, va_rf r3)]) hC dL_drop_13 (⟨fun _ => c_rf r0, ⟨fun _ => rfl, ⟨fun _ => rfl, ⟨fun _ => c_rf r3, trivial⟩⟩⟩⟩) (by decide) rfl ?_
      refine x_iconst (v := (1 : Int32)) hC dL_drop_15 (by decide) ?_
      exact x_iret hC hQ (z_W h) (Nat.le_of_ble_eq_true rfl) (Nat.le_of_ble_eq_true rfl) dL_drop_16
    replace h := wit_f c8 h
    rcases Decidable.em (j6 = 1) with c10 | c10
    · replace h := wit_t c10 h
      subst c10
      refine x_catch (pre := [(0, 10, 13, 20)]) (x := (0, 10, 17, 15)) (suf := []) hC hX rfl (by decide) (List.forall_mem_cons.mpr ⟨⟨by decide, 2, by decide, by decide, q_528⟩, fun _ q => nomatch q⟩) (by decide) (by decide) q_425 (List.mem_of_getElem? (i := 14) rfl) (fun q11 => ?_)
      refine x_astore (i := 4) (l' := [(4, va_rf (some q11)), (0, va_rf r0), (1, .int i1), (2, .int i2), (3, va_rf r3)]) hC dL_drop_17 (⟨fun _ => c_rf r0, ⟨fun _ => rfl, ⟨fun _ => rfl, ⟨fun _ => c_rf r3, trivial⟩⟩⟩⟩) (by decide) rfl ?_
      refine x_iconst (v := (2 : Int32)) hC dL_drop_19 (by decide) ?_
      exact x_iret hC hQ (z_W h) (Nat.le_of_ble_eq_true rfl) (Nat.le_of_ble_eq_true rfl) dL_drop_20
    replace h := wit_f c10 h
    exact h.elim
theorem dL_discuss_0 : decode cL_discuss 0 = .ok (.aload_n 2, 1) := by decide +kernel
theorem dL_discuss_1 : decode cL_discuss 1 = .ok (.iconst 0, 1) := by decide +kernel
theorem dL_discuss_2 : decode cL_discuss 2 = .ok (.aload_n 0, 1) := by decide +kernel
theorem dL_discuss_3 : decode cL_discuss 3 = .ok (.iload_n 1, 1) := by decide +kernel
theorem dL_discuss_4 : decode cL_discuss 4 = .ok (.invokevirtual 46, 3) := by decide +kernel
theorem dL_discuss_7 : decode cL_discuss 7 = .ok (.i2l, 1) := by decide +kernel
theorem dL_discuss_8 : decode cL_discuss 8 = .ok (.lastore, 1) := by decide +kernel
theorem dL_discuss_9 : decode cL_discuss 9 = .ok (.goto 6, 3) := by decide +kernel
theorem dL_discuss_12 : decode cL_discuss 12 = .ok (.astore_n 3, 1) := by decide +kernel
theorem dL_discuss_13 : decode cL_discuss 13 = .ok (.iconst 1, 1) := by decide +kernel
theorem dL_discuss_14 : decode cL_discuss 14 = .ok (.ireturn, 1) := by decide +kernel
theorem dL_discuss_15 : decode cL_discuss 15 = .ok (.iconst 0, 1) := by decide +kernel
theorem dL_discuss_16 : decode cL_discuss 16 = .ok (.ireturn, 1) := by decide +kernel
set_option maxRecDepth 100000 in
set_option maxHeartbeats 4000000 in
theorem mt_L_discuss (r0 : Option Nat) (i1 : Int32) (r2 : Option Nat) (S0 : PH) (Q : (Nat ⊕ Int32) → PH → Prop) (h : w_L_discuss r0 i1 r2 S0 Q) : MT yL_discuss (.codeWith yL_discuss cL_discuss 4 (Option.some FieldType.int) [(0, 9, 12, 20)]) 8 132 22 179 [va_rf r0, .int i1, va_rf r2] S0 (oQ e_I Q) := by
  refine mt_ofH (own := RL) (l0 := [(0, va_rf r0), (1, .int i1), (2, va_rf r2)]) rfl rfl (by cases r0 <;> cases r2 <;> exact Nat.le_of_ble_eq_true rfl) (by cases r0 <;> cases r2 <;> rfl) ?_
  intro Z hC hQ hX
  unfold w_L_discuss at h
  refine x_aload_n (i := 2) hC dL_discuss_0 rfl 2 rfl ?_
  refine x_iconst (v := (0 : Int32)) hC dL_discuss_1 (by decide) ?_
  refine x_aload_n (i := 0) hC dL_discuss_2 rfl 0 rfl ?_
  refine x_iload_n (i := 1) hC dL_discuss_3 rfl 1 rfl ?_
  obtain ⟨a1, ea2, ha3, h⟩ := h
  refine x_callV hC (st := [.int (0 : Int32), va_rf r2]) (mt_X4_discuss _ _ _ _ h) ea2 ha3 kf_4 q_662 q_663 q_664 q_1 q_665 ⟨rfl, hy_X4_discuss⟩ ⟨Nat.le_of_ble_eq_true rfl, Nat.le_of_ble_eq_true rfl⟩ ⟨Nat.le_of_ble_eq_true rfl, Nat.le_of_ble_eq_true rfl⟩ rfl (Nat.le_of_ble_eq_true rfl) dL_discuss_4 (r_W (fun v4 S5 h => ?_)) (r_Wx (fun j6 S7 h => ?_))
  · replace h := wq_r h
    show PX Z 4 S5 22 179 7 [(0, va_rf r0), (1, .int i1), (2, va_rf r2)] [.int v4, .int (0 : Int32), va_rf r2]
    refine x_i2l hC dL_discuss_7 ?_
    obtain ⟨a10, ea11, ha12, h⟩ := h
    obtain ⟨hc13, h⟩ := h
    obtain ⟨S14, hx15, h⟩ := wle_el h
    refine x_lastore hC ea11 ha12 hc13 dL_discuss_8 ?_
    refine x_tS hx15 ?_
    refine x_goto (t := 15) hC dL_discuss_9 (by decide) ?_
    refine x_iconst (v := (0 : Int32)) hC dL_discuss_15 (by decide) ?_
    exact x_iret hC hQ (z_W h) (Nat.le_of_ble_eq_true rfl) (Nat.le_of_ble_eq_true rfl) dL_discuss_16
  · replace h := wq_l h
    rcases Decidable.em (j6 = 2) with c8 | c8
    · replace h := wit_t c8 h
      subst c8
      refine x_catch (pre := []) (x := (0, 9, 12, 20)) (suf := []) hC hX rfl (by decide) (fun _ q => nomatch q) (by decide) (by decide) q_528 (List.mem_of_getElem? (i := 15) rfl) (fun q9 => ?_)
      refine x_astore_n (i := 3) (l' := [(3, va_rf (some q9)), (0, va_rf r0), (1, .int i1), (2, va_rf r2)]) hC dL_discuss_12 rfl (⟨fun _ => c_rf r0, ⟨fun _ => rfl, ⟨fun _ => c_rf r2, trivial⟩⟩⟩) (by decide) rfl ?_
      refine x_iconst (v := (1 : Int32)) hC dL_discuss_13 (by decide) ?_
      exact x_iret hC hQ (z_W h) (Nat.le_of_ble_eq_true rfl) (Nat.le_of_ble_eq_true rfl) dL_discuss_14
    replace h := wit_f c8 h
    exact h.elim
theorem dL_rebut_0 : decode cL_rebut 0 = .ok (.aload_n 2, 1) := by decide +kernel
theorem dL_rebut_1 : decode cL_rebut 1 = .ok (.iconst 0, 1) := by decide +kernel
theorem dL_rebut_2 : decode cL_rebut 2 = .ok (.aload_n 0, 1) := by decide +kernel
theorem dL_rebut_3 : decode cL_rebut 3 = .ok (.iload_n 1, 1) := by decide +kernel
theorem dL_rebut_4 : decode cL_rebut 4 = .ok (.invokevirtual 49, 3) := by decide +kernel
theorem dL_rebut_7 : decode cL_rebut 7 = .ok (.i2l, 1) := by decide +kernel
theorem dL_rebut_8 : decode cL_rebut 8 = .ok (.lastore, 1) := by decide +kernel
theorem dL_rebut_9 : decode cL_rebut 9 = .ok (.goto 6, 3) := by decide +kernel
theorem dL_rebut_12 : decode cL_rebut 12 = .ok (.astore_n 3, 1) := by decide +kernel
theorem dL_rebut_13 : decode cL_rebut 13 = .ok (.iconst 1, 1) := by decide +kernel
theorem dL_rebut_14 : decode cL_rebut 14 = .ok (.ireturn, 1) := by decide +kernel
theorem dL_rebut_15 : decode cL_rebut 15 = .ok (.iconst 0, 1) := by decide +kernel
theorem dL_rebut_16 : decode cL_rebut 16 = .ok (.ireturn, 1) := by decide +kernel
set_option maxRecDepth 100000 in
set_option maxHeartbeats 4000000 in
theorem mt_L_rebut (r0 : Option Nat) (i1 : Int32) (r2 : Option Nat) (S0 : PH) (Q : (Nat ⊕ Int32) → PH → Prop) (h : w_L_rebut r0 i1 r2 S0 Q) : MT yL_rebut (.codeWith yL_rebut cL_rebut 4 (Option.some FieldType.int) [(0, 9, 12, 20)]) 8 132 22 179 [va_rf r0, .int i1, va_rf r2] S0 (oQ e_I Q) := by
  refine mt_ofH (own := RL) (l0 := [(0, va_rf r0), (1, .int i1), (2, va_rf r2)]) rfl rfl (by cases r0 <;> cases r2 <;> exact Nat.le_of_ble_eq_true rfl) (by cases r0 <;> cases r2 <;> rfl) ?_
  intro Z hC hQ hX
  unfold w_L_rebut at h
  refine x_aload_n (i := 2) hC dL_rebut_0 rfl 2 rfl ?_
  refine x_iconst (v := (0 : Int32)) hC dL_rebut_1 (by decide) ?_
  refine x_aload_n (i := 0) hC dL_rebut_2 rfl 0 rfl ?_
  refine x_iload_n (i := 1) hC dL_rebut_3 rfl 1 rfl ?_
  obtain ⟨a1, ea2, ha3, h⟩ := h
  refine x_callV hC (st := [.int (0 : Int32), va_rf r2]) (mt_X4_rebut _ _ _ _ h) ea2 ha3 kf_4 q_677 q_678 q_679 q_1 q_680 ⟨rfl, hy_X4_rebut⟩ ⟨Nat.le_of_ble_eq_true rfl, Nat.le_of_ble_eq_true rfl⟩ ⟨Nat.le_of_ble_eq_true rfl, Nat.le_of_ble_eq_true rfl⟩ rfl (Nat.le_of_ble_eq_true rfl) dL_rebut_4 (r_W (fun v4 S5 h => ?_)) (r_Wx (fun j6 S7 h => ?_))
  · replace h := wq_r h
    show PX Z 4 S5 22 179 7 [(0, va_rf r0), (1, .int i1), (2, va_rf r2)] [.int v4, .int (0 : Int32), va_rf r2]
    refine x_i2l hC dL_rebut_7 ?_
    obtain ⟨a10, ea11, ha12, h⟩ := h
    obtain ⟨hc13, h⟩ := h
    obtain ⟨S14, hx15, h⟩ := wle_el h
    refine x_lastore hC ea11 ha12 hc13 dL_rebut_8 ?_
    refine x_tS hx15 ?_
    refine x_goto (t := 15) hC dL_rebut_9 (by decide) ?_
    refine x_iconst (v := (0 : Int32)) hC dL_rebut_15 (by decide) ?_
    exact x_iret hC hQ (z_W h) (Nat.le_of_ble_eq_true rfl) (Nat.le_of_ble_eq_true rfl) dL_rebut_16
  · replace h := wq_l h
    rcases Decidable.em (j6 = 2) with c8 | c8
    · replace h := wit_t c8 h
      subst c8
      refine x_catch (pre := []) (x := (0, 9, 12, 20)) (suf := []) hC hX rfl (by decide) (fun _ q => nomatch q) (by decide) (by decide) q_528 (List.mem_of_getElem? (i := 15) rfl) (fun q9 => ?_)
      refine x_astore_n (i := 3) (l' := [(3, va_rf (some q9)), (0, va_rf r0), (1, .int i1), (2, va_rf r2)]) hC dL_rebut_12 rfl (⟨fun _ => c_rf r0, ⟨fun _ => rfl, ⟨fun _ => c_rf r2, trivial⟩⟩⟩) (by decide) rfl ?_
      refine x_iconst (v := (1 : Int32)) hC dL_rebut_13 (by decide) ?_
      exact x_iret hC hQ (z_W h) (Nat.le_of_ble_eq_true rfl) (Nat.le_of_ble_eq_true rfl) dL_rebut_14
    replace h := wit_f c8 h
    exact h.elim
theorem dL_decide_0 : decode cL_decide 0 = .ok (.aload_n 2, 1) := by decide +kernel
theorem dL_decide_1 : decode cL_decide 1 = .ok (.iconst 0, 1) := by decide +kernel
theorem dL_decide_2 : decode cL_decide 2 = .ok (.aload_n 0, 1) := by decide +kernel
theorem dL_decide_3 : decode cL_decide 3 = .ok (.iload_n 1, 1) := by decide +kernel
theorem dL_decide_4 : decode cL_decide 4 = .ok (.invokevirtual 52, 3) := by decide +kernel
theorem dL_decide_7 : decode cL_decide 7 = .ok (.i2l, 1) := by decide +kernel
theorem dL_decide_8 : decode cL_decide 8 = .ok (.lastore, 1) := by decide +kernel
theorem dL_decide_9 : decode cL_decide 9 = .ok (.goto 9, 3) := by decide +kernel
theorem dL_decide_12 : decode cL_decide 12 = .ok (.astore_n 3, 1) := by decide +kernel
theorem dL_decide_13 : decode cL_decide 13 = .ok (.iconst 1, 1) := by decide +kernel
theorem dL_decide_14 : decode cL_decide 14 = .ok (.ireturn, 1) := by decide +kernel
theorem dL_decide_15 : decode cL_decide 15 = .ok (.astore_n 3, 1) := by decide +kernel
theorem dL_decide_16 : decode cL_decide 16 = .ok (.iconst 2, 1) := by decide +kernel
theorem dL_decide_17 : decode cL_decide 17 = .ok (.ireturn, 1) := by decide +kernel
theorem dL_decide_18 : decode cL_decide 18 = .ok (.iconst 0, 1) := by decide +kernel
theorem dL_decide_19 : decode cL_decide 19 = .ok (.ireturn, 1) := by decide +kernel
set_option maxRecDepth 100000 in
set_option maxHeartbeats 4000000 in
theorem mt_L_decide (r0 : Option Nat) (i1 : Int32) (r2 : Option Nat) (S0 : PH) (Q : (Nat ⊕ Int32) → PH → Prop) (h : w_L_decide r0 i1 r2 S0 Q) : MT yL_decide (.codeWith yL_decide cL_decide 4 (Option.some FieldType.int) [(0, 9, 12, 20), (0, 9, 15, 15)]) 8 134 22 179 [va_rf r0, .int i1, va_rf r2] S0 (oQ e_I Q) := by
  refine mt_ofH (own := RL) (l0 := [(0, va_rf r0), (1, .int i1), (2, va_rf r2)]) rfl rfl (by cases r0 <;> cases r2 <;> exact Nat.le_of_ble_eq_true rfl) (by cases r0 <;> cases r2 <;> rfl) ?_
  intro Z hC hQ hX
  unfold w_L_decide at h
  refine x_aload_n (i := 2) hC dL_decide_0 rfl 2 rfl ?_
  refine x_iconst (v := (0 : Int32)) hC dL_decide_1 (by decide) ?_
  refine x_aload_n (i := 0) hC dL_decide_2 rfl 0 rfl ?_
  refine x_iload_n (i := 1) hC dL_decide_3 rfl 1 rfl ?_
  obtain ⟨a1, ea2, ha3, h⟩ := h
  refine x_callV hC (st := [.int (0 : Int32), va_rf r2]) (mt_X4_decide _ _ _ _ h) ea2 ha3 kf_4 q_699 q_700 q_701 q_1 q_702 ⟨rfl, hy_X4_decide⟩ ⟨Nat.le_of_ble_eq_true rfl, Nat.le_of_ble_eq_true rfl⟩ ⟨Nat.le_of_ble_eq_true rfl, Nat.le_of_ble_eq_true rfl⟩ rfl (Nat.le_of_ble_eq_true rfl) dL_decide_4 (r_W (fun v4 S5 h => ?_)) (r_Wx (fun j6 S7 h => ?_))
  · replace h := wq_r h
    show PX Z 4 S5 22 179 7 [(0, va_rf r0), (1, .int i1), (2, va_rf r2)] [.int v4, .int (0 : Int32), va_rf r2]
    refine x_i2l hC dL_decide_7 ?_
    obtain ⟨a12, ea13, ha14, h⟩ := h
    obtain ⟨hc15, h⟩ := h
    obtain ⟨S16, hx17, h⟩ := wle_el h
    refine x_lastore hC ea13 ha14 hc15 dL_decide_8 ?_
    refine x_tS hx17 ?_
    refine x_goto (t := 18) hC dL_decide_9 (by decide) ?_
    refine x_iconst (v := (0 : Int32)) hC dL_decide_18 (by decide) ?_
    exact x_iret hC hQ (z_W h) (Nat.le_of_ble_eq_true rfl) (Nat.le_of_ble_eq_true rfl) dL_decide_19
  · replace h := wq_l h
    rcases Decidable.em (j6 = 2) with c8 | c8
    · replace h := wit_t c8 h
      subst c8
      refine x_catch (pre := []) (x := (0, 9, 12, 20)) (suf := [(0, 9, 15, 15)]) hC hX rfl (by decide) (fun _ q => nomatch q) (by decide) (by decide) q_528 (List.mem_of_getElem? (i := 15) rfl) (fun q9 => ?_)
      refine x_astore_n (i := 3) (l' := [(3, va_rf (some q9)), (0, va_rf r0), (1, .int i1), (2, va_rf r2)]) hC dL_decide_12 rfl (⟨fun _ => c_rf r0, ⟨fun _ => rfl, ⟨fun _ => c_rf r2, trivial⟩⟩⟩) (by decide) rfl ?_
      refine x_iconst (v := (1 : Int32)) hC dL_decide_13 (by decide) ?_
      exact x_iret hC hQ (z_W h) (Nat.le_of_ble_eq_true rfl) (Nat.le_of_ble_eq_true rfl) dL_decide_14
    replace h := wit_f c8 h
    rcases Decidable.em (j6 = 1) with c10 | c10
    · replace h := wit_t c10 h
      subst c10
      refine x_catch (pre := [(0, 9, 12, 20)]) (x := (0, 9, 15, 15)) (suf := []) hC hX rfl (by decide) (List.forall_mem_cons.mpr ⟨⟨by decide, 2, by decide, by decide, q_528⟩, fun _ q => nomatch q⟩) (by decide) (by decide) q_425 (List.mem_of_getElem? (i := 14) rfl) (fun q11 => ?_)
      refine x_astore_n (i := 3) (l' := [(3, va_rf (some q11)), (0, va_rf r0), (1, .int i1), (2, va_rf r2)]) hC dL_decide_15 rfl (⟨fun _ => c_rf r0, ⟨fun _ => rfl, ⟨fun _ => c_rf r2, trivial⟩⟩⟩) (by decide) rfl ?_
      refine x_iconst (v := (2 : Int32)) hC dL_decide_16 (by decide) ?_
      exact x_iret hC hQ (z_W h) (Nat.le_of_ble_eq_true rfl) (Nat.le_of_ble_eq_true rfl) dL_decide_17
    replace h := wit_f c10 h
    exact h.elim
theorem dL_append_0 : decode cL_append 0 = .ok (.aload_n 2, 1) := by decide +kernel
theorem dL_append_1 : decode cL_append 1 = .ok (.iconst 0, 1) := by decide +kernel
theorem dL_append_2 : decode cL_append 2 = .ok (.aload_n 0, 1) := by decide +kernel
theorem dL_append_3 : decode cL_append 3 = .ok (.iload_n 1, 1) := by decide +kernel
theorem dL_append_4 : decode cL_append 4 = .ok (.invokevirtual 55, 3) := by decide +kernel
theorem dL_append_7 : decode cL_append 7 = .ok (.i2l, 1) := by decide +kernel
theorem dL_append_8 : decode cL_append 8 = .ok (.lastore, 1) := by decide +kernel
theorem dL_append_9 : decode cL_append 9 = .ok (.goto 9, 3) := by decide +kernel
theorem dL_append_12 : decode cL_append 12 = .ok (.astore_n 3, 1) := by decide +kernel
theorem dL_append_13 : decode cL_append 13 = .ok (.iconst 1, 1) := by decide +kernel
theorem dL_append_14 : decode cL_append 14 = .ok (.ireturn, 1) := by decide +kernel
theorem dL_append_15 : decode cL_append 15 = .ok (.astore_n 3, 1) := by decide +kernel
theorem dL_append_16 : decode cL_append 16 = .ok (.iconst 2, 1) := by decide +kernel
theorem dL_append_17 : decode cL_append 17 = .ok (.ireturn, 1) := by decide +kernel
theorem dL_append_18 : decode cL_append 18 = .ok (.iconst 0, 1) := by decide +kernel
theorem dL_append_19 : decode cL_append 19 = .ok (.ireturn, 1) := by decide +kernel
set_option maxRecDepth 100000 in
set_option maxHeartbeats 4000000 in
theorem mt_L_append (r0 : Option Nat) (i1 : Int32) (r2 : Option Nat) (S0 : PH) (y : Int32 × PH) (h : m_L_append r0 i1 r2 S0 = some y) : MT yL_append (.codeWith yL_append cL_append 4 (Option.some FieldType.int) [(0, 9, 12, 13), (0, 9, 15, 15)]) 7 112 1 6 [va_rf r0, .int i1, va_rf r2] S0 (oQ e_I (qN y)) := by
  refine mt_ofH (own := RL) (l0 := [(0, va_rf r0), (1, .int i1), (2, va_rf r2)]) rfl rfl (by cases r0 <;> cases r2 <;> exact Nat.le_of_ble_eq_true rfl) (by cases r0 <;> cases r2 <;> rfl) ?_
  intro Z hC hQ hX
  unfold m_L_append at h
  refine x_aload_n (i := 2) hC dL_append_0 rfl 2 rfl ?_
  refine x_iconst (v := (0 : Int32)) hC dL_append_1 (by decide) ?_
  refine x_aload_n (i := 0) hC dL_append_2 rfl 0 rfl ?_
  refine x_iload_n (i := 1) hC dL_append_3 rfl 1 rfl ?_
  replace h := dr_el h
  obtain ⟨a1, ea2, ha3, h⟩ := h
  replace h := bt_el h
  obtain ⟨v4, S5, hb18, h⟩ | ⟨j6, S7, hb18, h⟩ := h
  · refine x_callV hC (st := [.int (0 : Int32), va_rf r2]) (mt_X4_append _ _ _ _ hb18) ea2 ha3 kf_4 q_707 q_708 q_709 q_1 q_710 ⟨rfl, hy_X4_append⟩ ⟨Nat.le_of_ble_eq_true rfl, Nat.le_of_ble_eq_true rfl⟩ ⟨Nat.le_of_ble_eq_true rfl, Nat.le_of_ble_eq_true rfl⟩ rfl (Nat.le_of_ble_eq_true rfl) dL_append_4 (r_T ?_) r_TX
    show PX Z 4 S5 1 6 7 [(0, va_rf r0), (1, .int i1), (2, va_rf r2)] [.int v4, .int (0 : Int32), va_rf r2]
    refine x_i2l hC dL_append_7 ?_
    replace h := dr_el h
    obtain ⟨a12, ea13, ha14, h⟩ := h
    replace h := ck_el h
    obtain ⟨hc15, h⟩ := h
    replace h := le_el h
    obtain ⟨S16, hx17, h⟩ := h
    refine x_lastore hC ea13 ha14 hc15 dL_append_8 ?_
    refine x_tS hx17 ?_
    refine x_goto (t := 18) hC dL_append_9 (by decide) ?_
    refine x_iconst (v := (0 : Int32)) hC dL_append_18 (by decide) ?_
    exact x_iret hC hQ (z_N (Option.some.inj h)) (Nat.le_of_ble_eq_true rfl) (Nat.le_of_ble_eq_true rfl) dL_append_19
  · refine x_callV hC (st := [.int (0 : Int32), va_rf r2]) (mt_X4_append _ _ _ _ hb18) ea2 ha3 kf_4 q_707 q_708 q_709 q_1 q_710 ⟨rfl, hy_X4_append⟩ ⟨Nat.le_of_ble_eq_true rfl, Nat.le_of_ble_eq_true rfl⟩ ⟨Nat.le_of_ble_eq_true rfl, Nat.le_of_ble_eq_true rfl⟩ rfl (Nat.le_of_ble_eq_true rfl) dL_append_4 r_X (r_XX ?_)
    rcases Decidable.em (j6 = 0) with c8 | c8
    · replace h := it_t c8 h
      subst c8
      refine x_catch (pre := []) (x := (0, 9, 12, 13)) (suf := [(0, 9, 15, 15)]) hC hX rfl (by decide) (fun _ q => nomatch q) (by decide) (by decide) q_424 (List.mem_of_getElem? (i := 7) rfl) (fun q9 => ?_)
      refine x_astore_n (i := 3) (l' := [(3, va_rf (some q9)), (0, va_rf r0), (1, .int i1), (2, va_rf r2)]) hC dL_append_12 rfl (⟨fun _ => c_rf r0, ⟨fun _ => rfl, ⟨fun _ => c_rf r2, trivial⟩⟩⟩) (by decide) rfl ?_
      refine x_iconst (v := (1 : Int32)) hC dL_append_13 (by decide) ?_
      exact x_iret hC hQ (z_N (Option.some.inj h)) (Nat.le_of_ble_eq_true rfl) (Nat.le_of_ble_eq_true rfl) dL_append_14
    replace h := it_f c8 h
    rcases Decidable.em (j6 = 1) with c10 | c10
    · replace h := it_t c10 h
      subst c10
      refine x_catch (pre := [(0, 9, 12, 13)]) (x := (0, 9, 15, 15)) (suf := []) hC hX rfl (by decide) (List.forall_mem_cons.mpr ⟨⟨by decide, 0, by decide, by decide, q_424⟩, fun _ q => nomatch q⟩) (by decide) (by decide) q_425 (List.mem_of_getElem? (i := 14) rfl) (fun q11 => ?_)
      refine x_astore_n (i := 3) (l' := [(3, va_rf (some q11)), (0, va_rf r0), (1, .int i1), (2, va_rf r2)]) hC dL_append_15 rfl (⟨fun _ => c_rf r0, ⟨fun _ => rfl, ⟨fun _ => c_rf r2, trivial⟩⟩⟩) (by decide) rfl ?_
      refine x_iconst (v := (2 : Int32)) hC dL_append_16 (by decide) ?_
      exact x_iret hC hQ (z_N (Option.some.inj h)) (Nat.le_of_ble_eq_true rfl) (Nat.le_of_ble_eq_true rfl) dL_append_17
    replace h := it_f c10 h
    cases h
theorem dL_run_0 : decode cL_run 0 = .ok (.aload_n 1, 1) := by decide +kernel
theorem dL_run_1 : decode cL_run 1 = .ok (.iconst 0, 1) := by decide +kernel
theorem dL_run_2 : decode cL_run 2 = .ok (.aload_n 0, 1) := by decide +kernel
theorem dL_run_3 : decode cL_run 3 = .ok (.invokevirtual 58, 3) := by decide +kernel
theorem dL_run_6 : decode cL_run 6 = .ok (.i2l, 1) := by decide +kernel
theorem dL_run_7 : decode cL_run 7 = .ok (.lastore, 1) := by decide +kernel
theorem dL_run_8 : decode cL_run 8 = .ok (.goto 6, 3) := by decide +kernel
theorem dL_run_11 : decode cL_run 11 = .ok (.astore_n 2, 1) := by decide +kernel
theorem dL_run_12 : decode cL_run 12 = .ok (.iconst 1, 1) := by decide +kernel
theorem dL_run_13 : decode cL_run 13 = .ok (.ireturn, 1) := by decide +kernel
theorem dL_run_14 : decode cL_run 14 = .ok (.iconst 0, 1) := by decide +kernel
theorem dL_run_15 : decode cL_run 15 = .ok (.ireturn, 1) := by decide +kernel
set_option maxRecDepth 100000 in
set_option maxHeartbeats 4000000 in
theorem mt_L_run (r0 : Option Nat) (r1 : Option Nat) (S0 : PH) (Q : (Nat ⊕ Int32) → PH → Prop) (h : w_L_run r0 r1 S0 Q) : MT yL_run (.codeWith yL_run cL_run 3 (Option.some FieldType.int) [(0, 8, 11, 13)]) 8 179 21 173 [va_rf r0, va_rf r1] S0 (oQ e_I Q) := by
  refine mt_ofH (own := RL) (l0 := [(0, va_rf r0), (1, va_rf r1)]) rfl rfl (by cases r0 <;> cases r1 <;> exact Nat.le_of_ble_eq_true rfl) (by cases r0 <;> cases r1 <;> rfl) ?_
  intro Z hC hQ hX
  unfold w_L_run at h
  refine x_aload_n (i := 1) hC dL_run_0 rfl 1 rfl ?_
  refine x_iconst (v := (0 : Int32)) hC dL_run_1 (by decide) ?_
  refine x_aload_n (i := 0) hC dL_run_2 rfl 0 rfl ?_
  obtain ⟨a1, ea2, ha3, h⟩ := h
  refine x_callV hC (st := [.int (0 : Int32), va_rf r1]) (mt_X4_run _ _ _ h) ea2 ha3 kf_4 q_716 q_717 q_718 q_1 q_719 ⟨rfl, hy_X4_run⟩ ⟨Nat.le_of_ble_eq_true rfl, Nat.le_of_ble_eq_true rfl⟩ ⟨Nat.le_of_ble_eq_true rfl, Nat.le_of_ble_eq_true rfl⟩ rfl (Nat.le_of_ble_eq_true rfl) dL_run_3 (r_W (fun v4 S5 h => ?_)) (r_Wx (fun j6 S7 h => ?_))
  · replace h := wq_r h
    show PX Z 3 S5 21 173 6 [(0, va_rf r0), (1, va_rf r1)] [.int v4, .int (0 : Int32), va_rf r1]
    refine x_i2l hC dL_run_6 ?_
    obtain ⟨a10, ea11, ha12, h⟩ := h
    obtain ⟨hc13, h⟩ := h
    obtain ⟨S14, hx15, h⟩ := wle_el h
    refine x_lastore hC ea11 ha12 hc13 dL_run_7 ?_
    refine x_tS hx15 ?_
    refine x_goto (t := 14) hC dL_run_8 (by decide) ?_
    refine x_iconst (v := (0 : Int32)) hC dL_run_14 (by decide) ?_
    exact x_iret hC hQ (z_W h) (Nat.le_of_ble_eq_true rfl) (Nat.le_of_ble_eq_true rfl) dL_run_15
  · replace h := wq_l h
    rcases Decidable.em (j6 = 0) with c8 | c8
    · replace h := wit_t c8 h
      subst c8
      refine x_catch (pre := []) (x := (0, 8, 11, 13)) (suf := []) hC hX rfl (by decide) (fun _ q => nomatch q) (by decide) (by decide) q_424 (List.mem_of_getElem? (i := 7) rfl) (fun q9 => ?_)
      refine x_astore_n (i := 2) (l' := [(2, va_rf (some q9)), (0, va_rf r0), (1, va_rf r1)]) hC dL_run_11 rfl (⟨fun _ => c_rf r0, ⟨fun _ => c_rf r1, trivial⟩⟩) (by decide) rfl ?_
      refine x_iconst (v := (1 : Int32)) hC dL_run_12 (by decide) ?_
      exact x_iret hC hQ (z_W h) (Nat.le_of_ble_eq_true rfl) (Nat.le_of_ble_eq_true rfl) dL_run_13
    replace h := wit_f c8 h
    exact h.elim
theorem dL_keep_0 : decode cL_keep 0 = .ok (.aload_n 2, 1) := by decide +kernel
theorem dL_keep_1 : decode cL_keep 1 = .ok (.iconst 0, 1) := by decide +kernel
theorem dL_keep_2 : decode cL_keep 2 = .ok (.aload_n 0, 1) := by decide +kernel
theorem dL_keep_3 : decode cL_keep 3 = .ok (.iload_n 1, 1) := by decide +kernel
theorem dL_keep_4 : decode cL_keep 4 = .ok (.invokevirtual 61, 3) := by decide +kernel
theorem dL_keep_7 : decode cL_keep 7 = .ok (.i2l, 1) := by decide +kernel
theorem dL_keep_8 : decode cL_keep 8 = .ok (.lastore, 1) := by decide +kernel
theorem dL_keep_9 : decode cL_keep 9 = .ok (.goto 6, 3) := by decide +kernel
theorem dL_keep_12 : decode cL_keep 12 = .ok (.astore_n 3, 1) := by decide +kernel
theorem dL_keep_13 : decode cL_keep 13 = .ok (.iconst 1, 1) := by decide +kernel
theorem dL_keep_14 : decode cL_keep 14 = .ok (.ireturn, 1) := by decide +kernel
theorem dL_keep_15 : decode cL_keep 15 = .ok (.iconst 0, 1) := by decide +kernel
theorem dL_keep_16 : decode cL_keep 16 = .ok (.ireturn, 1) := by decide +kernel
set_option maxRecDepth 100000 in
set_option maxHeartbeats 4000000 in
theorem mt_L_keep (r0 : Option Nat) (i1 : Int32) (r2 : Option Nat) (S0 : PH) (Q : (Nat ⊕ Int32) → PH → Prop) (h : w_L_keep r0 i1 r2 S0 Q) : MT yL_keep (.codeWith yL_keep cL_keep 4 (Option.some FieldType.int) [(0, 9, 12, 13)]) 8 132 22 179 [va_rf r0, .int i1, va_rf r2] S0 (oQ e_I Q) := by
  refine mt_ofH (own := RL) (l0 := [(0, va_rf r0), (1, .int i1), (2, va_rf r2)]) rfl rfl (by cases r0 <;> cases r2 <;> exact Nat.le_of_ble_eq_true rfl) (by cases r0 <;> cases r2 <;> rfl) ?_
  intro Z hC hQ hX
  unfold w_L_keep at h
  refine x_aload_n (i := 2) hC dL_keep_0 rfl 2 rfl ?_
  refine x_iconst (v := (0 : Int32)) hC dL_keep_1 (by decide) ?_
  refine x_aload_n (i := 0) hC dL_keep_2 rfl 0 rfl ?_
  refine x_iload_n (i := 1) hC dL_keep_3 rfl 1 rfl ?_
  obtain ⟨a1, ea2, ha3, h⟩ := h
  refine x_callV hC (st := [.int (0 : Int32), va_rf r2]) (mt_X4_keep _ _ _ _ h) ea2 ha3 kf_4 q_745 q_746 q_747 q_1 q_748 ⟨rfl, hy_X4_keep⟩ ⟨Nat.le_of_ble_eq_true rfl, Nat.le_of_ble_eq_true rfl⟩ ⟨Nat.le_of_ble_eq_true rfl, Nat.le_of_ble_eq_true rfl⟩ rfl (Nat.le_of_ble_eq_true rfl) dL_keep_4 (r_W (fun v4 S5 h => ?_)) (r_Wx (fun j6 S7 h => ?_))
  · replace h := wq_r h
    show PX Z 4 S5 22 179 7 [(0, va_rf r0), (1, .int i1), (2, va_rf r2)] [.int v4, .int (0 : Int32), va_rf r2]
    refine x_i2l hC dL_keep_7 ?_
    obtain ⟨a10, ea11, ha12, h⟩ := h
    obtain ⟨hc13, h⟩ := h
    obtain ⟨S14, hx15, h⟩ := wle_el h
    refine x_lastore hC ea11 ha12 hc13 dL_keep_8 ?_
    refine x_tS hx15 ?_
    refine x_goto (t := 15) hC dL_keep_9 (by decide) ?_
    refine x_iconst (v := (0 : Int32)) hC dL_keep_15 (by decide) ?_
    exact x_iret hC hQ (z_W h) (Nat.le_of_ble_eq_true rfl) (Nat.le_of_ble_eq_true rfl) dL_keep_16
  · replace h := wq_l h
    rcases Decidable.em (j6 = 0) with c8 | c8
    · replace h := wit_t c8 h
      subst c8
      refine x_catch (pre := []) (x := (0, 9, 12, 13)) (suf := []) hC hX rfl (by decide) (fun _ q => nomatch q) (by decide) (by decide) q_424 (List.mem_of_getElem? (i := 7) rfl) (fun q9 => ?_)
      refine x_astore_n (i := 3) (l' := [(3, va_rf (some q9)), (0, va_rf r0), (1, .int i1), (2, va_rf r2)]) hC dL_keep_12 rfl (⟨fun _ => c_rf r0, ⟨fun _ => rfl, ⟨fun _ => c_rf r2, trivial⟩⟩⟩) (by decide) rfl ?_
      refine x_iconst (v := (1 : Int32)) hC dL_keep_13 (by decide) ?_
      exact x_iret hC hQ (z_W h) (Nat.le_of_ble_eq_true rfl) (Nat.le_of_ble_eq_true rfl) dL_keep_14
    replace h := wit_f c8 h
    exact h.elim
theorem dL_goBack_0 : decode cL_goBack 0 = .ok (.aload_n 2, 1) := by decide +kernel
theorem dL_goBack_1 : decode cL_goBack 1 = .ok (.iconst 0, 1) := by decide +kernel
theorem dL_goBack_2 : decode cL_goBack 2 = .ok (.aload_n 0, 1) := by decide +kernel
theorem dL_goBack_3 : decode cL_goBack 3 = .ok (.iload_n 1, 1) := by decide +kernel
theorem dL_goBack_4 : decode cL_goBack 4 = .ok (.invokevirtual 64, 3) := by decide +kernel
theorem dL_goBack_7 : decode cL_goBack 7 = .ok (.i2l, 1) := by decide +kernel
theorem dL_goBack_8 : decode cL_goBack 8 = .ok (.lastore, 1) := by decide +kernel
theorem dL_goBack_9 : decode cL_goBack 9 = .ok (.goto 9, 3) := by decide +kernel
theorem dL_goBack_12 : decode cL_goBack 12 = .ok (.astore_n 3, 1) := by decide +kernel
theorem dL_goBack_13 : decode cL_goBack 13 = .ok (.iconst 1, 1) := by decide +kernel
theorem dL_goBack_14 : decode cL_goBack 14 = .ok (.ireturn, 1) := by decide +kernel
theorem dL_goBack_15 : decode cL_goBack 15 = .ok (.astore_n 3, 1) := by decide +kernel
theorem dL_goBack_16 : decode cL_goBack 16 = .ok (.iconst 2, 1) := by decide +kernel
theorem dL_goBack_17 : decode cL_goBack 17 = .ok (.ireturn, 1) := by decide +kernel
theorem dL_goBack_18 : decode cL_goBack 18 = .ok (.iconst 0, 1) := by decide +kernel
theorem dL_goBack_19 : decode cL_goBack 19 = .ok (.ireturn, 1) := by decide +kernel
set_option maxRecDepth 100000 in
set_option maxHeartbeats 4000000 in
theorem mt_L_goBack (r0 : Option Nat) (i1 : Int32) (r2 : Option Nat) (S0 : PH) (Q : (Nat ⊕ Int32) → PH → Prop) (h : w_L_goBack r0 i1 r2 S0 Q) : MT yL_goBack (.codeWith yL_goBack cL_goBack 4 (Option.some FieldType.int) [(0, 9, 12, 13), (0, 9, 15, 15)]) 8 132 22 179 [va_rf r0, .int i1, va_rf r2] S0 (oQ e_I Q) := by
  refine mt_ofH (own := RL) (l0 := [(0, va_rf r0), (1, .int i1), (2, va_rf r2)]) rfl rfl (by cases r0 <;> cases r2 <;> exact Nat.le_of_ble_eq_true rfl) (by cases r0 <;> cases r2 <;> rfl) ?_
  intro Z hC hQ hX
  unfold w_L_goBack at h
  refine x_aload_n (i := 2) hC dL_goBack_0 rfl 2 rfl ?_
  refine x_iconst (v := (0 : Int32)) hC dL_goBack_1 (by decide) ?_
  refine x_aload_n (i := 0) hC dL_goBack_2 rfl 0 rfl ?_
  refine x_iload_n (i := 1) hC dL_goBack_3 rfl 1 rfl ?_
  obtain ⟨a1, ea2, ha3, h⟩ := h
  refine x_callV hC (st := [.int (0 : Int32), va_rf r2]) (mt_X4_goBack _ _ _ _ h) ea2 ha3 kf_4 q_757 q_758 q_759 q_1 q_760 ⟨rfl, hy_X4_goBack⟩ ⟨Nat.le_of_ble_eq_true rfl, Nat.le_of_ble_eq_true rfl⟩ ⟨Nat.le_of_ble_eq_true rfl, Nat.le_of_ble_eq_true rfl⟩ rfl (Nat.le_of_ble_eq_true rfl) dL_goBack_4 (r_W (fun v4 S5 h => ?_)) (r_Wx (fun j6 S7 h => ?_))
  · replace h := wq_r h
    show PX Z 4 S5 22 179 7 [(0, va_rf r0), (1, .int i1), (2, va_rf r2)] [.int v4, .int (0 : Int32), va_rf r2]
    refine x_i2l hC dL_goBack_7 ?_
    obtain ⟨a12, ea13, ha14, h⟩ := h
    obtain ⟨hc15, h⟩ := h
    obtain ⟨S16, hx17, h⟩ := wle_el h
    refine x_lastore hC ea13 ha14 hc15 dL_goBack_8 ?_
    refine x_tS hx17 ?_
    refine x_goto (t := 18) hC dL_goBack_9 (by decide) ?_
    refine x_iconst (v := (0 : Int32)) hC dL_goBack_18 (by decide) ?_
    exact x_iret hC hQ (z_W h) (Nat.le_of_ble_eq_true rfl) (Nat.le_of_ble_eq_true rfl) dL_goBack_19
  · replace h := wq_l h
    rcases Decidable.em (j6 = 0) with c8 | c8
    · replace h := wit_t c8 h
      subst c8
      refine x_catch (pre := []) (x := (0, 9, 12, 13)) (suf := [(0, 9, 15, 15)]) hC hX rfl (by decide) (fun _ q => nomatch q) (by decide) (by decide) q_424 (List.mem_of_getElem? (i := 7) rfl) (fun q9 => ?_)
      refine x_astore_n (i := 3) (l' := [(3, va_rf (some q9)), (0, va_rf r0), (1, .int i1), (2, va_rf r2)]) hC dL_goBack_12 rfl (⟨fun _ => c_rf r0, ⟨fun _ => rfl, ⟨fun _ => c_rf r2, trivial⟩⟩⟩) (by decide) rfl ?_
      refine x_iconst (v := (1 : Int32)) hC dL_goBack_13 (by decide) ?_
      exact x_iret hC hQ (z_W h) (Nat.le_of_ble_eq_true rfl) (Nat.le_of_ble_eq_true rfl) dL_goBack_14
    replace h := wit_f c8 h
    rcases Decidable.em (j6 = 1) with c10 | c10
    · replace h := wit_t c10 h
      subst c10
      refine x_catch (pre := [(0, 9, 12, 13)]) (x := (0, 9, 15, 15)) (suf := []) hC hX rfl (by decide) (List.forall_mem_cons.mpr ⟨⟨by decide, 0, by decide, by decide, q_424⟩, fun _ q => nomatch q⟩) (by decide) (by decide) q_425 (List.mem_of_getElem? (i := 14) rfl) (fun q11 => ?_)
      refine x_astore_n (i := 3) (l' := [(3, va_rf (some q11)), (0, va_rf r0), (1, .int i1), (2, va_rf r2)]) hC dL_goBack_15 rfl (⟨fun _ => c_rf r0, ⟨fun _ => rfl, ⟨fun _ => c_rf r2, trivial⟩⟩⟩) (by decide) rfl ?_
      refine x_iconst (v := (2 : Int32)) hC dL_goBack_16 (by decide) ?_
      exact x_iret hC hQ (z_W h) (Nat.le_of_ble_eq_true rfl) (Nat.le_of_ble_eq_true rfl) dL_goBack_17
    replace h := wit_f c10 h
    exact h.elim
theorem dL_undo_0 : decode cL_undo 0 = .ok (.aload_n 1, 1) := by decide +kernel
theorem dL_undo_1 : decode cL_undo 1 = .ok (.iconst 0, 1) := by decide +kernel
theorem dL_undo_2 : decode cL_undo 2 = .ok (.aload_n 0, 1) := by decide +kernel
theorem dL_undo_3 : decode cL_undo 3 = .ok (.invokevirtual 67, 3) := by decide +kernel
theorem dL_undo_6 : decode cL_undo 6 = .ok (.i2l, 1) := by decide +kernel
theorem dL_undo_7 : decode cL_undo 7 = .ok (.lastore, 1) := by decide +kernel
theorem dL_undo_8 : decode cL_undo 8 = .ok (.goto 6, 3) := by decide +kernel
theorem dL_undo_11 : decode cL_undo 11 = .ok (.astore_n 2, 1) := by decide +kernel
theorem dL_undo_12 : decode cL_undo 12 = .ok (.iconst 1, 1) := by decide +kernel
theorem dL_undo_13 : decode cL_undo 13 = .ok (.ireturn, 1) := by decide +kernel
theorem dL_undo_14 : decode cL_undo 14 = .ok (.iconst 0, 1) := by decide +kernel
theorem dL_undo_15 : decode cL_undo 15 = .ok (.ireturn, 1) := by decide +kernel
set_option maxRecDepth 100000 in
set_option maxHeartbeats 4000000 in
theorem mt_L_undo (r0 : Option Nat) (r1 : Option Nat) (S0 : PH) (y : Int32 × PH) (h : m_L_undo r0 r1 S0 = some y) : MT yL_undo (.codeWith yL_undo cL_undo 3 (Option.some FieldType.int) [(0, 8, 11, 15)]) 7 111 1 6 [va_rf r0, va_rf r1] S0 (oQ e_I (qN y)) := by
  refine mt_ofH (own := RL) (l0 := [(0, va_rf r0), (1, va_rf r1)]) rfl rfl (by cases r0 <;> cases r1 <;> exact Nat.le_of_ble_eq_true rfl) (by cases r0 <;> cases r1 <;> rfl) ?_
  intro Z hC hQ hX
  unfold m_L_undo at h
  refine x_aload_n (i := 1) hC dL_undo_0 rfl 1 rfl ?_
  refine x_iconst (v := (0 : Int32)) hC dL_undo_1 (by decide) ?_
  refine x_aload_n (i := 0) hC dL_undo_2 rfl 0 rfl ?_
  replace h := dr_el h
  obtain ⟨a1, ea2, ha3, h⟩ := h
  replace h := bt_el h
  obtain ⟨v4, S5, hb16, h⟩ | ⟨j6, S7, hb16, h⟩ := h
  · refine x_callV hC (st := [.int (0 : Int32), va_rf r1]) (mt_X4_undo _ _ _ hb16) ea2 ha3 kf_4 q_765 q_766 q_767 q_1 q_768 ⟨rfl, hy_X4_undo⟩ ⟨Nat.le_of_ble_eq_true rfl, Nat.le_of_ble_eq_true rfl⟩ ⟨Nat.le_of_ble_eq_true rfl, Nat.le_of_ble_eq_true rfl⟩ rfl (Nat.le_of_ble_eq_true rfl) dL_undo_3 (r_T ?_) r_TX
    show PX Z 3 S5 1 6 6 [(0, va_rf r0), (1, va_rf r1)] [.int v4, .int (0 : Int32), va_rf r1]
    refine x_i2l hC dL_undo_6 ?_
    replace h := dr_el h
    obtain ⟨a10, ea11, ha12, h⟩ := h
    replace h := ck_el h
    obtain ⟨hc13, h⟩ := h
    replace h := le_el h
    obtain ⟨S14, hx15, h⟩ := h
    refine x_lastore hC ea11 ha12 hc13 dL_undo_7 ?_
    refine x_tS hx15 ?_
    refine x_goto (t := 14) hC dL_undo_8 (by decide) ?_
    refine x_iconst (v := (0 : Int32)) hC dL_undo_14 (by decide) ?_
    exact x_iret hC hQ (z_N (Option.some.inj h)) (Nat.le_of_ble_eq_true rfl) (Nat.le_of_ble_eq_true rfl) dL_undo_15
  · refine x_callV hC (st := [.int (0 : Int32), va_rf r1]) (mt_X4_undo _ _ _ hb16) ea2 ha3 kf_4 q_765 q_766 q_767 q_1 q_768 ⟨rfl, hy_X4_undo⟩ ⟨Nat.le_of_ble_eq_true rfl, Nat.le_of_ble_eq_true rfl⟩ ⟨Nat.le_of_ble_eq_true rfl, Nat.le_of_ble_eq_true rfl⟩ rfl (Nat.le_of_ble_eq_true rfl) dL_undo_3 r_X (r_XX ?_)
    rcases Decidable.em (j6 = 1) with c8 | c8
    · replace h := it_t c8 h
      subst c8
      refine x_catch (pre := []) (x := (0, 8, 11, 15)) (suf := []) hC hX rfl (by decide) (fun _ q => nomatch q) (by decide) (by decide) q_425 (List.mem_of_getElem? (i := 14) rfl) (fun q9 => ?_)
      refine x_astore_n (i := 2) (l' := [(2, va_rf (some q9)), (0, va_rf r0), (1, va_rf r1)]) hC dL_undo_11 rfl (⟨fun _ => c_rf r0, ⟨fun _ => c_rf r1, trivial⟩⟩) (by decide) rfl ?_
      refine x_iconst (v := (1 : Int32)) hC dL_undo_12 (by decide) ?_
      exact x_iret hC hQ (z_N (Option.some.inj h)) (Nat.le_of_ble_eq_true rfl) (Nat.le_of_ble_eq_true rfl) dL_undo_13
    replace h := it_f c8 h
    cases h
theorem dL_personOf_0 : decode cL_personOf 0 = .ok (.aload_n 3, 1) := by decide +kernel
theorem dL_personOf_1 : decode cL_personOf 1 = .ok (.iconst 0, 1) := by decide +kernel
theorem dL_personOf_2 : decode cL_personOf 2 = .ok (.aload_n 0, 1) := by decide +kernel
theorem dL_personOf_3 : decode cL_personOf 3 = .ok (.iload_n 1, 1) := by decide +kernel
theorem dL_personOf_4 : decode cL_personOf 4 = .ok (.iload_n 2, 1) := by decide +kernel
theorem dL_personOf_5 : decode cL_personOf 5 = .ok (.invokevirtual 70, 3) := by decide +kernel
theorem dL_personOf_8 : decode cL_personOf 8 = .ok (.i2l, 1) := by decide +kernel
theorem dL_personOf_9 : decode cL_personOf 9 = .ok (.lastore, 1) := by decide +kernel
theorem dL_personOf_10 : decode cL_personOf 10 = .ok (.goto 11, 3) := by decide +kernel
theorem dL_personOf_13 : decode cL_personOf 13 = .ok (.astore 4, 2) := by decide +kernel
theorem dL_personOf_15 : decode cL_personOf 15 = .ok (.iconst 1, 1) := by decide +kernel
theorem dL_personOf_16 : decode cL_personOf 16 = .ok (.ireturn, 1) := by decide +kernel
theorem dL_personOf_17 : decode cL_personOf 17 = .ok (.astore 4, 2) := by decide +kernel
theorem dL_personOf_19 : decode cL_personOf 19 = .ok (.iconst 2, 1) := by decide +kernel
theorem dL_personOf_20 : decode cL_personOf 20 = .ok (.ireturn, 1) := by decide +kernel
theorem dL_personOf_21 : decode cL_personOf 21 = .ok (.iconst 0, 1) := by decide +kernel
theorem dL_personOf_22 : decode cL_personOf 22 = .ok (.ireturn, 1) := by decide +kernel
set_option maxRecDepth 100000 in
set_option maxHeartbeats 4000000 in
theorem mt_L_personOf (r0 : Option Nat) (i1 : Int32) (i2 : Int32) (r3 : Option Nat) (S0 : PH) (y : Int32 × PH) (h : m_L_personOf r0 i1 i2 r3 S0 = some y) : MT yL_personOf (.codeWith yL_personOf cL_personOf 5 (Option.some FieldType.int) [(0, 10, 13, 20), (0, 10, 17, 13)]) 8 134 2 12 [va_rf r0, .int i1, .int i2, va_rf r3] S0 (oQ e_I (qN y)) := by
  refine mt_ofH (own := RL) (l0 := [(0, va_rf r0), (1, .int i1), (2, .int i2), (3, va_rf r3)]) rfl rfl (by cases r0 <;> cases r3 <;> exact Nat.le_of_ble_eq_true rfl) (by cases r0 <;> cases r3 <;> rfl) ?_
  intro Z hC hQ hX
  unfold m_L_personOf at h
  refine x_aload_n (i := 3) hC dL_personOf_0 rfl 3 rfl ?_
  refine x_iconst (v := (0 : Int32)) hC dL_personOf_1 (by decide) ?_
  refine x_aload_n (i := 0) hC dL_personOf_2 rfl 0 rfl ?_
  refine x_iload_n (i := 1) hC dL_personOf_3 rfl 1 rfl ?_
  refine x_iload_n (i := 2) hC dL_personOf_4 rfl 2 rfl ?_
  replace h := dr_el h
  obtain ⟨a1, ea2, ha3, h⟩ := h
  replace h := bt_el h
  obtain ⟨v4, S5, hb18, h⟩ | ⟨j6, S7, hb18, h⟩ := h
  · refine x_callV hC (st := [.int (0 : Int32), va_rf r3]) (mt_X4_personOf _ _ _ _ _ hb18) ea2 ha3 kf_4 q_786 q_787 q_788 q_1 q_789 ⟨rfl, hy_X4_personOf⟩ ⟨Nat.le_of_ble_eq_true rfl, Nat.le_of_ble_eq_true rfl⟩ ⟨Nat.le_of_ble_eq_true rfl, Nat.le_of_ble_eq_true rfl⟩ rfl (Nat.le_of_ble_eq_true rfl) dL_personOf_5 (r_T ?_) r_TX
    show PX Z 5 S5 2 12 8 [(0, va_rf r0), (1, .int i1), (2, .int i2), (3, va_rf r3)] [.int v4, .int (0 : Int32), va_rf r3]
    refine x_i2l hC dL_personOf_8 ?_
    replace h := dr_el h
    obtain ⟨a12, ea13, ha14, h⟩ := h
    replace h := ck_el h
    obtain ⟨hc15, h⟩ := h
    replace h := le_el h
    obtain ⟨S16, hx17, h⟩ := h
    refine x_lastore hC ea13 ha14 hc15 dL_personOf_9 ?_
    refine x_tS hx17 ?_
    refine x_goto (t := 21) hC dL_personOf_10 (by decide) ?_
    refine x_iconst (v := (0 : Int32)) hC dL_personOf_21 (by decide) ?_
    exact x_iret hC hQ (z_N (Option.some.inj h)) (Nat.le_of_ble_eq_true rfl) (Nat.le_of_ble_eq_true rfl) dL_personOf_22
  · refine x_callV hC (st := [.int (0 : Int32), va_rf r3]) (mt_X4_personOf _ _ _ _ _ hb18) ea2 ha3 kf_4 q_786 q_787 q_788 q_1 q_789 ⟨rfl, hy_X4_personOf⟩ ⟨Nat.le_of_ble_eq_true rfl, Nat.le_of_ble_eq_true rfl⟩ ⟨Nat.le_of_ble_eq_true rfl, Nat.le_of_ble_eq_true rfl⟩ rfl (Nat.le_of_ble_eq_true rfl) dL_personOf_5 r_X (r_XX ?_)
    rcases Decidable.em (j6 = 2) with c8 | c8
    · replace h := it_t c8 h
      subst c8
      refine x_catch (pre := []) (x := (0, 10, 13, 20)) (suf := [(0, 10, 17, 13)]) hC hX rfl (by decide) (fun _ q => nomatch q) (by decide) (by decide) q_528 (List.mem_of_getElem? (i := 15) rfl) (fun q9 => ?_)
      refine x_astore (i := 4) (l' := [(4, va_rf (some q9)), (0, va_rf r0), (1, .int i1), (2, .int i2), (3, va_rf r3)]) hC dL_personOf_13 (⟨fun _ => c_rf r0, ⟨fun _ => rfl, ⟨fun _ => rfl, ⟨fun _ => c_rf r3, trivial⟩⟩⟩⟩) (by decide) rfl ?_
      refine x_iconst (v := (1 : Int32)) hC dL_personOf_15 (by decide) ?_
      exact x_iret hC hQ (z_N (Option.some.inj h)) (Nat.le_of_ble_eq_true rfl) (Nat.le_of_ble_eq_true rfl) dL_personOf_16
    replace h := it_f c8 h
    rcases Decidable.em (j6 = 0) with c10 | c10
    · replace h := it_t c10 h
      subst c10
      refine x_catch (pre := [(0, 10, 13, 20)]) (x := (0, 10, 17, 13)) (suf := []) hC hX rfl (by decide) (List.forall_mem_cons.mpr ⟨⟨by decide, 2, by decide, by decide, q_528⟩, fun _ q => nomatch q⟩) (by decide) (by decide) q_424 (List.mem_of_getElem? (i := 7) rfl) (fun q11 => ?_)
      refine x_astore (i := 4) (l' := [(4, va_rf (some q11)), (0, va_rf r0), (1, .int i1), (2, .int i2), (3, va_rf r3)]) hC dL_personOf_17 (⟨fun _ => c_rf r0, ⟨fun _ => rfl, ⟨fun _ => rfl, ⟨fun _ => c_rf r3, trivial⟩⟩⟩⟩) (by decide) rfl ?_
      refine x_iconst (v := (2 : Int32)) hC dL_personOf_19 (by decide) ?_
      exact x_iret hC hQ (z_N (Option.some.inj h)) (Nat.le_of_ble_eq_true rfl) (Nat.le_of_ble_eq_true rfl) dL_personOf_20
    replace h := it_f c10 h
    cases h
theorem dL_paperOf_0 : decode cL_paperOf 0 = .ok (.aload_n 3, 1) := by decide +kernel
theorem dL_paperOf_1 : decode cL_paperOf 1 = .ok (.iconst 0, 1) := by decide +kernel
theorem dL_paperOf_2 : decode cL_paperOf 2 = .ok (.aload_n 0, 1) := by decide +kernel
theorem dL_paperOf_3 : decode cL_paperOf 3 = .ok (.iload_n 1, 1) := by decide +kernel
theorem dL_paperOf_4 : decode cL_paperOf 4 = .ok (.iload_n 2, 1) := by decide +kernel
theorem dL_paperOf_5 : decode cL_paperOf 5 = .ok (.invokevirtual 73, 3) := by decide +kernel
theorem dL_paperOf_8 : decode cL_paperOf 8 = .ok (.i2l, 1) := by decide +kernel
theorem dL_paperOf_9 : decode cL_paperOf 9 = .ok (.lastore, 1) := by decide +kernel
theorem dL_paperOf_10 : decode cL_paperOf 10 = .ok (.goto 11, 3) := by decide +kernel
theorem dL_paperOf_13 : decode cL_paperOf 13 = .ok (.astore 4, 2) := by decide +kernel
theorem dL_paperOf_15 : decode cL_paperOf 15 = .ok (.iconst 1, 1) := by decide +kernel
theorem dL_paperOf_16 : decode cL_paperOf 16 = .ok (.ireturn, 1) := by decide +kernel
theorem dL_paperOf_17 : decode cL_paperOf 17 = .ok (.astore 4, 2) := by decide +kernel
theorem dL_paperOf_19 : decode cL_paperOf 19 = .ok (.iconst 2, 1) := by decide +kernel
theorem dL_paperOf_20 : decode cL_paperOf 20 = .ok (.ireturn, 1) := by decide +kernel
theorem dL_paperOf_21 : decode cL_paperOf 21 = .ok (.iconst 0, 1) := by decide +kernel
theorem dL_paperOf_22 : decode cL_paperOf 22 = .ok (.ireturn, 1) := by decide +kernel
set_option maxRecDepth 100000 in
set_option maxHeartbeats 4000000 in
theorem mt_L_paperOf (r0 : Option Nat) (i1 : Int32) (i2 : Int32) (r3 : Option Nat) (S0 : PH) (y : Int32 × PH) (h : m_L_paperOf r0 i1 i2 r3 S0 = some y) : MT yL_paperOf (.codeWith yL_paperOf cL_paperOf 5 (Option.some FieldType.int) [(0, 10, 13, 20), (0, 10, 17, 13)]) 8 133 2 12 [va_rf r0, .int i1, .int i2, va_rf r3] S0 (oQ e_I (qN y)) := by
  refine mt_ofH (own := RL) (l0 := [(0, va_rf r0), (1, .int i1), (2, .int i2), (3, va_rf r3)]) rfl rfl (by cases r0 <;> cases r3 <;> exact Nat.le_of_ble_eq_true rfl) (by cases r0 <;> cases r3 <;> rfl) ?_
  intro Z hC hQ hX
  unfold m_L_paperOf at h
  refine x_aload_n (i := 3) hC dL_paperOf_0 rfl 3 rfl ?_
  refine x_iconst (v := (0 : Int32)) hC dL_paperOf_1 (by decide) ?_
  refine x_aload_n (i := 0) hC dL_paperOf_2 rfl 0 rfl ?_
  refine x_iload_n (i := 1) hC dL_paperOf_3 rfl 1 rfl ?_
  refine x_iload_n (i := 2) hC dL_paperOf_4 rfl 2 rfl ?_
  replace h := dr_el h
  obtain ⟨a1, ea2, ha3, h⟩ := h
  replace h := bt_el h
  obtain ⟨v4, S5, hb18, h⟩ | ⟨j6, S7, hb18, h⟩ := h
  · refine x_callV hC (st := [.int (0 : Int32), va_rf r3]) (mt_X4_paperOf _ _ _ _ _ hb18) ea2 ha3 kf_4 q_794 q_795 q_796 q_1 q_797 ⟨rfl, hy_X4_paperOf⟩ ⟨Nat.le_of_ble_eq_true rfl, Nat.le_of_ble_eq_true rfl⟩ ⟨Nat.le_of_ble_eq_true rfl, Nat.le_of_ble_eq_true rfl⟩ rfl (Nat.le_of_ble_eq_true rfl) dL_paperOf_5 (r_T ?_) r_TX
    show PX Z 5 S5 2 12 8 [(0, va_rf r0), (1, .int i1), (2, .int i2), (3, va_rf r3)] [.int v4, .int (0 : Int32), va_rf r3]
    refine x_i2l hC dL_paperOf_8 ?_
    replace h := dr_el h
    obtain ⟨a12, ea13, ha14, h⟩ := h
    replace h := ck_el h
    obtain ⟨hc15, h⟩ := h
    replace h := le_el h
    obtain ⟨S16, hx17, h⟩ := h
    refine x_lastore hC ea13 ha14 hc15 dL_paperOf_9 ?_
    refine x_tS hx17 ?_
    refine x_goto (t := 21) hC dL_paperOf_10 (by decide) ?_
    refine x_iconst (v := (0 : Int32)) hC dL_paperOf_21 (by decide) ?_
    exact x_iret hC hQ (z_N (Option.some.inj h)) (Nat.le_of_ble_eq_true rfl) (Nat.le_of_ble_eq_true rfl) dL_paperOf_22
  · refine x_callV hC (st := [.int (0 : Int32), va_rf r3]) (mt_X4_paperOf _ _ _ _ _ hb18) ea2 ha3 kf_4 q_794 q_795 q_796 q_1 q_797 ⟨rfl, hy_X4_paperOf⟩ ⟨Nat.le_of_ble_eq_true rfl, Nat.le_of_ble_eq_true rfl⟩ ⟨Nat.le_of_ble_eq_true rfl, Nat.le_of_ble_eq_true rfl⟩ rfl (Nat.le_of_ble_eq_true rfl) dL_paperOf_5 r_X (r_XX ?_)
    rcases Decidable.em (j6 = 2) with c8 | c8
    · replace h := it_t c8 h
      subst c8
      refine x_catch (pre := []) (x := (0, 10, 13, 20)) (suf := [(0, 10, 17, 13)]) hC hX rfl (by decide) (fun _ q => nomatch q) (by decide) (by decide) q_528 (List.mem_of_getElem? (i := 15) rfl) (fun q9 => ?_)
      refine x_astore (i := 4) (l' := [(4, va_rf (some q9)), (0, va_rf r0), (1, .int i1), (2, .int i2), (3, va_rf r3)]) hC dL_paperOf_13 (⟨fun _ => c_rf r0, ⟨fun _ => rfl, ⟨fun _ => rfl, ⟨fun _ => c_rf r3, trivial⟩⟩⟩⟩) (by decide) rfl ?_
      refine x_iconst (v := (1 : Int32)) hC dL_paperOf_15 (by decide) ?_
      exact x_iret hC hQ (z_N (Option.some.inj h)) (Nat.le_of_ble_eq_true rfl) (Nat.le_of_ble_eq_true rfl) dL_paperOf_16
    replace h := it_f c8 h
    rcases Decidable.em (j6 = 0) with c10 | c10
    · replace h := it_t c10 h
      subst c10
      refine x_catch (pre := [(0, 10, 13, 20)]) (x := (0, 10, 17, 13)) (suf := []) hC hX rfl (by decide) (List.forall_mem_cons.mpr ⟨⟨by decide, 2, by decide, by decide, q_528⟩, fun _ q => nomatch q⟩) (by decide) (by decide) q_424 (List.mem_of_getElem? (i := 7) rfl) (fun q11 => ?_)
      refine x_astore (i := 4) (l' := [(4, va_rf (some q11)), (0, va_rf r0), (1, .int i1), (2, .int i2), (3, va_rf r3)]) hC dL_paperOf_17 (⟨fun _ => c_rf r0, ⟨fun _ => rfl, ⟨fun _ => rfl, ⟨fun _ => c_rf r3, trivial⟩⟩⟩⟩) (by decide) rfl ?_
      refine x_iconst (v := (2 : Int32)) hC dL_paperOf_19 (by decide) ?_
      exact x_iret hC hQ (z_N (Option.some.inj h)) (Nat.le_of_ble_eq_true rfl) (Nat.le_of_ble_eq_true rfl) dL_paperOf_20
    replace h := it_f c10 h
    cases h
theorem dL_score_0 : decode cL_score 0 = .ok (.aload_n 3, 1) := by decide +kernel
theorem dL_score_1 : decode cL_score 1 = .ok (.iconst 0, 1) := by decide +kernel
theorem dL_score_2 : decode cL_score 2 = .ok (.aload_n 0, 1) := by decide +kernel
theorem dL_score_3 : decode cL_score 3 = .ok (.iload_n 1, 1) := by decide +kernel
theorem dL_score_4 : decode cL_score 4 = .ok (.iload_n 2, 1) := by decide +kernel
theorem dL_score_5 : decode cL_score 5 = .ok (.invokevirtual 76, 3) := by decide +kernel
theorem dL_score_8 : decode cL_score 8 = .ok (.i2l, 1) := by decide +kernel
theorem dL_score_9 : decode cL_score 9 = .ok (.lastore, 1) := by decide +kernel
theorem dL_score_10 : decode cL_score 10 = .ok (.goto 7, 3) := by decide +kernel
theorem dL_score_13 : decode cL_score 13 = .ok (.astore 4, 2) := by decide +kernel
theorem dL_score_15 : decode cL_score 15 = .ok (.iconst 1, 1) := by decide +kernel
theorem dL_score_16 : decode cL_score 16 = .ok (.ireturn, 1) := by decide +kernel
theorem dL_score_17 : decode cL_score 17 = .ok (.iconst 0, 1) := by decide +kernel
theorem dL_score_18 : decode cL_score 18 = .ok (.ireturn, 1) := by decide +kernel
set_option maxRecDepth 100000 in
set_option maxHeartbeats 4000000 in
theorem mt_L_score (r0 : Option Nat) (i1 : Int32) (i2 : Int32) (r3 : Option Nat) (S0 : PH) (y : Int32 × PH) (h : m_L_score r0 i1 i2 r3 S0 = some y) : MT yL_score (.codeWith yL_score cL_score 5 (Option.some FieldType.int) [(0, 10, 13, 20)]) 8 133 2 12 [va_rf r0, .int i1, .int i2, va_rf r3] S0 (oQ e_I (qN y)) := by
  refine mt_ofH (own := RL) (l0 := [(0, va_rf r0), (1, .int i1), (2, .int i2), (3, va_rf r3)]) rfl rfl (by cases r0 <;> cases r3 <;> exact Nat.le_of_ble_eq_true rfl) (by cases r0 <;> cases r3 <;> rfl) ?_
  intro Z hC hQ hX
  unfold m_L_score at h
  refine x_aload_n (i := 3) hC dL_score_0 rfl 3 rfl ?_
  refine x_iconst (v := (0 : Int32)) hC dL_score_1 (by decide) ?_
  refine x_aload_n (i := 0) hC dL_score_2 rfl 0 rfl ?_
  refine x_iload_n (i := 1) hC dL_score_3 rfl 1 rfl ?_
  refine x_iload_n (i := 2) hC dL_score_4 rfl 2 rfl ?_
  replace h := dr_el h
  obtain ⟨a1, ea2, ha3, h⟩ := h
  replace h := bt_el h
  obtain ⟨v4, S5, hb16, h⟩ | ⟨j6, S7, hb16, h⟩ := h
  · refine x_callV hC (st := [.int (0 : Int32), va_rf r3]) (mt_X4_score _ _ _ _ _ hb16) ea2 ha3 kf_4 q_802 q_803 q_804 q_1 q_805 ⟨rfl, hy_X4_score⟩ ⟨Nat.le_of_ble_eq_true rfl, Nat.le_of_ble_eq_true rfl⟩ ⟨Nat.le_of_ble_eq_true rfl, Nat.le_of_ble_eq_true rfl⟩ rfl (Nat.le_of_ble_eq_true rfl) dL_score_5 (r_T ?_) r_TX
    show PX Z 5 S5 2 12 8 [(0, va_rf r0), (1, .int i1), (2, .int i2), (3, va_rf r3)] [.int v4, .int (0 : Int32), va_rf r3]
    refine x_i2l hC dL_score_8 ?_
    replace h := dr_el h
    obtain ⟨a10, ea11, ha12, h⟩ := h
    replace h := ck_el h
    obtain ⟨hc13, h⟩ := h
    replace h := le_el h
    obtain ⟨S14, hx15, h⟩ := h
    refine x_lastore hC ea11 ha12 hc13 dL_score_9 ?_
    refine x_tS hx15 ?_
    refine x_goto (t := 17) hC dL_score_10 (by decide) ?_
    refine x_iconst (v := (0 : Int32)) hC dL_score_17 (by decide) ?_
    exact x_iret hC hQ (z_N (Option.some.inj h)) (Nat.le_of_ble_eq_true rfl) (Nat.le_of_ble_eq_true rfl) dL_score_18
  · refine x_callV hC (st := [.int (0 : Int32), va_rf r3]) (mt_X4_score _ _ _ _ _ hb16) ea2 ha3 kf_4 q_802 q_803 q_804 q_1 q_805 ⟨rfl, hy_X4_score⟩ ⟨Nat.le_of_ble_eq_true rfl, Nat.le_of_ble_eq_true rfl⟩ ⟨Nat.le_of_ble_eq_true rfl, Nat.le_of_ble_eq_true rfl⟩ rfl (Nat.le_of_ble_eq_true rfl) dL_score_5 r_X (r_XX ?_)
    rcases Decidable.em (j6 = 2) with c8 | c8
    · replace h := it_t c8 h
      subst c8
      refine x_catch (pre := []) (x := (0, 10, 13, 20)) (suf := []) hC hX rfl (by decide) (fun _ q => nomatch q) (by decide) (by decide) q_528 (List.mem_of_getElem? (i := 15) rfl) (fun q9 => ?_)
      refine x_astore (i := 4) (l' := [(4, va_rf (some q9)), (0, va_rf r0), (1, .int i1), (2, .int i2), (3, va_rf r3)]) hC dL_score_13 (⟨fun _ => c_rf r0, ⟨fun _ => rfl, ⟨fun _ => rfl, ⟨fun _ => c_rf r3, trivial⟩⟩⟩⟩) (by decide) rfl ?_
      refine x_iconst (v := (1 : Int32)) hC dL_score_15 (by decide) ?_
      exact x_iret hC hQ (z_N (Option.some.inj h)) (Nat.le_of_ble_eq_true rfl) (Nat.le_of_ble_eq_true rfl) dL_score_16
    replace h := it_f c8 h
    cases h
theorem dL_count_0 : decode cL_count 0 = .ok (.aload_n 2, 1) := by decide +kernel
theorem dL_count_1 : decode cL_count 1 = .ok (.iconst 0, 1) := by decide +kernel
theorem dL_count_2 : decode cL_count 2 = .ok (.aload_n 0, 1) := by decide +kernel
theorem dL_count_3 : decode cL_count 3 = .ok (.iload_n 1, 1) := by decide +kernel
theorem dL_count_4 : decode cL_count 4 = .ok (.invokevirtual 79, 3) := by decide +kernel
theorem dL_count_7 : decode cL_count 7 = .ok (.i2l, 1) := by decide +kernel
theorem dL_count_8 : decode cL_count 8 = .ok (.lastore, 1) := by decide +kernel
theorem dL_count_9 : decode cL_count 9 = .ok (.goto 6, 3) := by decide +kernel
theorem dL_count_12 : decode cL_count 12 = .ok (.astore_n 3, 1) := by decide +kernel
theorem dL_count_13 : decode cL_count 13 = .ok (.iconst 1, 1) := by decide +kernel
theorem dL_count_14 : decode cL_count 14 = .ok (.ireturn, 1) := by decide +kernel
theorem dL_count_15 : decode cL_count 15 = .ok (.iconst 0, 1) := by decide +kernel
theorem dL_count_16 : decode cL_count 16 = .ok (.ireturn, 1) := by decide +kernel
set_option maxRecDepth 100000 in
set_option maxHeartbeats 4000000 in
theorem mt_L_count (r0 : Option Nat) (i1 : Int32) (r2 : Option Nat) (S0 : PH) (y : Int32 × PH) (h : m_L_count r0 i1 r2 S0 = some y) : MT yL_count (.codeWith yL_count cL_count 4 (Option.some FieldType.int) [(0, 9, 12, 13)]) 7 111 1 6 [va_rf r0, .int i1, va_rf r2] S0 (oQ e_I (qN y)) := by
  refine mt_ofH (own := RL) (l0 := [(0, va_rf r0), (1, .int i1), (2, va_rf r2)]) rfl rfl (by cases r0 <;> cases r2 <;> exact Nat.le_of_ble_eq_true rfl) (by cases r0 <;> cases r2 <;> rfl) ?_
  intro Z hC hQ hX
  unfold m_L_count at h
  refine x_aload_n (i := 2) hC dL_count_0 rfl 2 rfl ?_
  refine x_iconst (v := (0 : Int32)) hC dL_count_1 (by decide) ?_
  refine x_aload_n (i := 0) hC dL_count_2 rfl 0 rfl ?_
  refine x_iload_n (i := 1) hC dL_count_3 rfl 1 rfl ?_
  replace h := dr_el h
  obtain ⟨a1, ea2, ha3, h⟩ := h
  replace h := bt_el h
  obtain ⟨v4, S5, hb16, h⟩ | ⟨j6, S7, hb16, h⟩ := h
  · refine x_callV hC (st := [.int (0 : Int32), va_rf r2]) (mt_X4_count _ _ _ _ hb16) ea2 ha3 kf_4 q_809 q_810 q_811 q_1 q_812 ⟨rfl, hy_X4_count⟩ ⟨Nat.le_of_ble_eq_true rfl, Nat.le_of_ble_eq_true rfl⟩ ⟨Nat.le_of_ble_eq_true rfl, Nat.le_of_ble_eq_true rfl⟩ rfl (Nat.le_of_ble_eq_true rfl) dL_count_4 (r_T ?_) r_TX
    show PX Z 4 S5 1 6 7 [(0, va_rf r0), (1, .int i1), (2, va_rf r2)] [.int v4, .int (0 : Int32), va_rf r2]
    refine x_i2l hC dL_count_7 ?_
    replace h := dr_el h
    obtain ⟨a10, ea11, ha12, h⟩ := h
    replace h := ck_el h
    obtain ⟨hc13, h⟩ := h
    replace h := le_el h
    obtain ⟨S14, hx15, h⟩ := h
    refine x_lastore hC ea11 ha12 hc13 dL_count_8 ?_
    refine x_tS hx15 ?_
    refine x_goto (t := 15) hC dL_count_9 (by decide) ?_
    refine x_iconst (v := (0 : Int32)) hC dL_count_15 (by decide) ?_
    exact x_iret hC hQ (z_N (Option.some.inj h)) (Nat.le_of_ble_eq_true rfl) (Nat.le_of_ble_eq_true rfl) dL_count_16
  · refine x_callV hC (st := [.int (0 : Int32), va_rf r2]) (mt_X4_count _ _ _ _ hb16) ea2 ha3 kf_4 q_809 q_810 q_811 q_1 q_812 ⟨rfl, hy_X4_count⟩ ⟨Nat.le_of_ble_eq_true rfl, Nat.le_of_ble_eq_true rfl⟩ ⟨Nat.le_of_ble_eq_true rfl, Nat.le_of_ble_eq_true rfl⟩ rfl (Nat.le_of_ble_eq_true rfl) dL_count_4 r_X (r_XX ?_)
    rcases Decidable.em (j6 = 0) with c8 | c8
    · replace h := it_t c8 h
      subst c8
      refine x_catch (pre := []) (x := (0, 9, 12, 13)) (suf := []) hC hX rfl (by decide) (fun _ q => nomatch q) (by decide) (by decide) q_424 (List.mem_of_getElem? (i := 7) rfl) (fun q9 => ?_)
      refine x_astore_n (i := 3) (l' := [(3, va_rf (some q9)), (0, va_rf r0), (1, .int i1), (2, va_rf r2)]) hC dL_count_12 rfl (⟨fun _ => c_rf r0, ⟨fun _ => rfl, ⟨fun _ => c_rf r2, trivial⟩⟩⟩) (by decide) rfl ?_
      refine x_iconst (v := (1 : Int32)) hC dL_count_13 (by decide) ?_
      exact x_iret hC hQ (z_N (Option.some.inj h)) (Nat.le_of_ble_eq_true rfl) (Nat.le_of_ble_eq_true rfl) dL_count_14
    replace h := it_f c8 h
    cases h
theorem dL_setting_0 : decode cL_setting 0 = .ok (.aload_n 2, 1) := by decide +kernel
theorem dL_setting_1 : decode cL_setting 1 = .ok (.iconst 0, 1) := by decide +kernel
theorem dL_setting_2 : decode cL_setting 2 = .ok (.aload_n 0, 1) := by decide +kernel
theorem dL_setting_3 : decode cL_setting 3 = .ok (.iload_n 1, 1) := by decide +kernel
theorem dL_setting_4 : decode cL_setting 4 = .ok (.invokevirtual 82, 3) := by decide +kernel
theorem dL_setting_7 : decode cL_setting 7 = .ok (.i2l, 1) := by decide +kernel
theorem dL_setting_8 : decode cL_setting 8 = .ok (.lastore, 1) := by decide +kernel
theorem dL_setting_9 : decode cL_setting 9 = .ok (.goto 6, 3) := by decide +kernel
theorem dL_setting_12 : decode cL_setting 12 = .ok (.astore_n 3, 1) := by decide +kernel
theorem dL_setting_13 : decode cL_setting 13 = .ok (.iconst 1, 1) := by decide +kernel
theorem dL_setting_14 : decode cL_setting 14 = .ok (.ireturn, 1) := by decide +kernel
theorem dL_setting_15 : decode cL_setting 15 = .ok (.iconst 0, 1) := by decide +kernel
theorem dL_setting_16 : decode cL_setting 16 = .ok (.ireturn, 1) := by decide +kernel
set_option maxRecDepth 100000 in
set_option maxHeartbeats 4000000 in
theorem mt_L_setting (r0 : Option Nat) (i1 : Int32) (r2 : Option Nat) (S0 : PH) (y : Int32 × PH) (h : m_L_setting r0 i1 r2 S0 = some y) : MT yL_setting (.codeWith yL_setting cL_setting 4 (Option.some FieldType.int) [(0, 9, 12, 20)]) 8 131 1 6 [va_rf r0, .int i1, va_rf r2] S0 (oQ e_I (qN y)) := by
  refine mt_ofH (own := RL) (l0 := [(0, va_rf r0), (1, .int i1), (2, va_rf r2)]) rfl rfl (by cases r0 <;> cases r2 <;> exact Nat.le_of_ble_eq_true rfl) (by cases r0 <;> cases r2 <;> rfl) ?_
  intro Z hC hQ hX
  unfold m_L_setting at h
  refine x_aload_n (i := 2) hC dL_setting_0 rfl 2 rfl ?_
  refine x_iconst (v := (0 : Int32)) hC dL_setting_1 (by decide) ?_
  refine x_aload_n (i := 0) hC dL_setting_2 rfl 0 rfl ?_
  refine x_iload_n (i := 1) hC dL_setting_3 rfl 1 rfl ?_
  replace h := dr_el h
  obtain ⟨a1, ea2, ha3, h⟩ := h
  replace h := bt_el h
  obtain ⟨v4, S5, hb16, h⟩ | ⟨j6, S7, hb16, h⟩ := h
  · refine x_callV hC (st := [.int (0 : Int32), va_rf r2]) (mt_X4_setting _ _ _ _ hb16) ea2 ha3 kf_4 q_817 q_818 q_819 q_1 q_820 ⟨rfl, hy_X4_setting⟩ ⟨Nat.le_of_ble_eq_true rfl, Nat.le_of_ble_eq_true rfl⟩ ⟨Nat.le_of_ble_eq_true rfl, Nat.le_of_ble_eq_true rfl⟩ rfl (Nat.le_of_ble_eq_true rfl) dL_setting_4 (r_T ?_) r_TX
    show PX Z 4 S5 1 6 7 [(0, va_rf r0), (1, .int i1), (2, va_rf r2)] [.int v4, .int (0 : Int32), va_rf r2]
    refine x_i2l hC dL_setting_7 ?_
    replace h := dr_el h
    obtain ⟨a10, ea11, ha12, h⟩ := h
    replace h := ck_el h
    obtain ⟨hc13, h⟩ := h
    replace h := le_el h
    obtain ⟨S14, hx15, h⟩ := h
    refine x_lastore hC ea11 ha12 hc13 dL_setting_8 ?_
    refine x_tS hx15 ?_
    refine x_goto (t := 15) hC dL_setting_9 (by decide) ?_
    refine x_iconst (v := (0 : Int32)) hC dL_setting_15 (by decide) ?_
    exact x_iret hC hQ (z_N (Option.some.inj h)) (Nat.le_of_ble_eq_true rfl) (Nat.le_of_ble_eq_true rfl) dL_setting_16
  · refine x_callV hC (st := [.int (0 : Int32), va_rf r2]) (mt_X4_setting _ _ _ _ hb16) ea2 ha3 kf_4 q_817 q_818 q_819 q_1 q_820 ⟨rfl, hy_X4_setting⟩ ⟨Nat.le_of_ble_eq_true rfl, Nat.le_of_ble_eq_true rfl⟩ ⟨Nat.le_of_ble_eq_true rfl, Nat.le_of_ble_eq_true rfl⟩ rfl (Nat.le_of_ble_eq_true rfl) dL_setting_4 r_X (r_XX ?_)
    rcases Decidable.em (j6 = 2) with c8 | c8
    · replace h := it_t c8 h
      subst c8
      refine x_catch (pre := []) (x := (0, 9, 12, 20)) (suf := []) hC hX rfl (by decide) (fun _ q => nomatch q) (by decide) (by decide) q_528 (List.mem_of_getElem? (i := 15) rfl) (fun q9 => ?_)
      refine x_astore_n (i := 3) (l' := [(3, va_rf (some q9)), (0, va_rf r0), (1, .int i1), (2, va_rf r2)]) hC dL_setting_12 rfl (⟨fun _ => c_rf r0, ⟨fun _ => rfl, ⟨fun _ => c_rf r2, trivial⟩⟩⟩) (by decide) rfl ?_
      refine x_iconst (v := (1 : Int32)) hC dL_setting_13 (by decide) ?_
      exact x_iret hC hQ (z_N (Option.some.inj h)) (Nat.le_of_ble_eq_true rfl) (Nat.le_of_ble_eq_true rfl) dL_setting_14
    replace h := it_f c8 h
    cases h
theorem dL_whyNot_0 : decode cL_whyNot 0 = .ok (.aload_n 3, 1) := by decide +kernel
theorem dL_whyNot_1 : decode cL_whyNot 1 = .ok (.iconst 0, 1) := by decide +kernel
theorem dL_whyNot_2 : decode cL_whyNot 2 = .ok (.aload_n 0, 1) := by decide +kernel
theorem dL_whyNot_3 : decode cL_whyNot 3 = .ok (.iload_n 1, 1) := by decide +kernel
theorem dL_whyNot_4 : decode cL_whyNot 4 = .ok (.iload_n 2, 1) := by decide +kernel
theorem dL_whyNot_5 : decode cL_whyNot 5 = .ok (.invokevirtual 85, 3) := by decide +kernel
theorem dL_whyNot_8 : decode cL_whyNot 8 = .ok (.i2l, 1) := by decide +kernel
theorem dL_whyNot_9 : decode cL_whyNot 9 = .ok (.lastore, 1) := by decide +kernel
theorem dL_whyNot_10 : decode cL_whyNot 10 = .ok (.goto 7, 3) := by decide +kernel
theorem dL_whyNot_13 : decode cL_whyNot 13 = .ok (.astore 4, 2) := by decide +kernel
theorem dL_whyNot_15 : decode cL_whyNot 15 = .ok (.iconst 1, 1) := by decide +kernel
theorem dL_whyNot_16 : decode cL_whyNot 16 = .ok (.ireturn, 1) := by decide +kernel
theorem dL_whyNot_17 : decode cL_whyNot 17 = .ok (.iconst 0, 1) := by decide +kernel
theorem dL_whyNot_18 : decode cL_whyNot 18 = .ok (.ireturn, 1) := by decide +kernel
set_option maxRecDepth 100000 in
set_option maxHeartbeats 4000000 in
theorem mt_L_whyNot (r0 : Option Nat) (i1 : Int32) (i2 : Int32) (r3 : Option Nat) (S0 : PH) (y : Int32 × PH) (h : m_L_whyNot r0 i1 i2 r3 S0 = some y) : MT yL_whyNot (.codeWith yL_whyNot cL_whyNot 5 (Option.some FieldType.int) [(0, 10, 13, 20)]) 8 133 2 12 [va_rf r0, .int i1, .int i2, va_rf r3] S0 (oQ e_I (qN y)) := by
  refine mt_ofH (own := RL) (l0 := [(0, va_rf r0), (1, .int i1), (2, .int i2), (3, va_rf r3)]) rfl rfl (by cases r0 <;> cases r3 <;> exact Nat.le_of_ble_eq_true rfl) (by cases r0 <;> cases r3 <;> rfl) ?_
  intro Z hC hQ hX
  unfold m_L_whyNot at h
  refine x_aload_n (i := 3) hC dL_whyNot_0 rfl 3 rfl ?_
  refine x_iconst (v := (0 : Int32)) hC dL_whyNot_1 (by decide) ?_
  refine x_aload_n (i := 0) hC dL_whyNot_2 rfl 0 rfl ?_
  refine x_iload_n (i := 1) hC dL_whyNot_3 rfl 1 rfl ?_
  refine x_iload_n (i := 2) hC dL_whyNot_4 rfl 2 rfl ?_
  replace h := dr_el h
  obtain ⟨a1, ea2, ha3, h⟩ := h
  replace h := bt_el h
  obtain ⟨v4, S5, hb16, h⟩ | ⟨j6, S7, hb16, h⟩ := h
  · refine x_callV hC (st := [.int (0 : Int32), va_rf r3]) (mt_X4_whyNot _ _ _ _ _ hb16) ea2 ha3 kf_4 q_824 q_825 q_826 q_1 q_827 ⟨rfl, hy_X4_whyNot⟩ ⟨Nat.le_of_ble_eq_true rfl, Nat.le_of_ble_eq_true rfl⟩ ⟨Nat.le_of_ble_eq_true rfl, Nat.le_of_ble_eq_true rfl⟩ rfl (Nat.le_of_ble_eq_true rfl) dL_whyNot_5 (r_T ?_) r_TX
    show PX Z 5 S5 2 12 8 [(0, va_rf r0), (1, .int i1), (2, .int i2), (3, va_rf r3)] [.int v4, .int (0 : Int32), va_rf r3]
    refine x_i2l hC dL_whyNot_8 ?_
    replace h := dr_el h
    obtain ⟨a10, ea11, ha12, h⟩ := h
    replace h := ck_el h
    obtain ⟨hc13, h⟩ := h
    replace h := le_el h
    obtain ⟨S14, hx15, h⟩ := h
    refine x_lastore hC ea11 ha12 hc13 dL_whyNot_9 ?_
    refine x_tS hx15 ?_
    refine x_goto (t := 17) hC dL_whyNot_10 (by decide) ?_
    refine x_iconst (v := (0 : Int32)) hC dL_whyNot_17 (by decide) ?_
    exact x_iret hC hQ (z_N (Option.some.inj h)) (Nat.le_of_ble_eq_true rfl) (Nat.le_of_ble_eq_true rfl) dL_whyNot_18
  · refine x_callV hC (st := [.int (0 : Int32), va_rf r3]) (mt_X4_whyNot _ _ _ _ _ hb16) ea2 ha3 kf_4 q_824 q_825 q_826 q_1 q_827 ⟨rfl, hy_X4_whyNot⟩ ⟨Nat.le_of_ble_eq_true rfl, Nat.le_of_ble_eq_true rfl⟩ ⟨Nat.le_of_ble_eq_true rfl, Nat.le_of_ble_eq_true rfl⟩ rfl (Nat.le_of_ble_eq_true rfl) dL_whyNot_5 r_X (r_XX ?_)
    rcases Decidable.em (j6 = 2) with c8 | c8
    · replace h := it_t c8 h
      subst c8
      refine x_catch (pre := []) (x := (0, 10, 13, 20)) (suf := []) hC hX rfl (by decide) (fun _ q => nomatch q) (by decide) (by decide) q_528 (List.mem_of_getElem? (i := 15) rfl) (fun q9 => ?_)
      refine x_astore (i := 4) (l' := [(4, va_rf (some q9)), (0, va_rf r0), (1, .int i1), (2, .int i2), (3, va_rf r3)]) hC dL_whyNot_13 (⟨fun _ => c_rf r0, ⟨fun _ => rfl, ⟨fun _ => rfl, ⟨fun _ => c_rf r3, trivial⟩⟩⟩⟩) (by decide) rfl ?_
      refine x_iconst (v := (1 : Int32)) hC dL_whyNot_15 (by decide) ?_
      exact x_iret hC hQ (z_N (Option.some.inj h)) (Nat.le_of_ble_eq_true rfl) (Nat.le_of_ble_eq_true rfl) dL_whyNot_16
    replace h := it_f c8 h
    cases h
theorem dL_bestReviewer_0 : decode cL_bestReviewer 0 = .ok (.aload_n 2, 1) := by decide +kernel
theorem dL_bestReviewer_1 : decode cL_bestReviewer 1 = .ok (.iconst 0, 1) := by decide +kernel
theorem dL_bestReviewer_2 : decode cL_bestReviewer 2 = .ok (.aload_n 0, 1) := by decide +kernel
theorem dL_bestReviewer_3 : decode cL_bestReviewer 3 = .ok (.iload_n 1, 1) := by decide +kernel
theorem dL_bestReviewer_4 : decode cL_bestReviewer 4 = .ok (.invokevirtual 88, 3) := by decide +kernel
theorem dL_bestReviewer_7 : decode cL_bestReviewer 7 = .ok (.i2l, 1) := by decide +kernel
theorem dL_bestReviewer_8 : decode cL_bestReviewer 8 = .ok (.lastore, 1) := by decide +kernel
theorem dL_bestReviewer_9 : decode cL_bestReviewer 9 = .ok (.goto 6, 3) := by decide +kernel
theorem dL_bestReviewer_12 : decode cL_bestReviewer 12 = .ok (.astore_n 3, 1) := by decide +kernel
theorem dL_bestReviewer_13 : decode cL_bestReviewer 13 = .ok (.iconst 1, 1) := by decide +kernel
theorem dL_bestReviewer_14 : decode cL_bestReviewer 14 = .ok (.ireturn, 1) := by decide +kernel
theorem dL_bestReviewer_15 : decode cL_bestReviewer 15 = .ok (.iconst 0, 1) := by decide +kernel
theorem dL_bestReviewer_16 : decode cL_bestReviewer 16 = .ok (.ireturn, 1) := by decide +kernel
set_option maxRecDepth 100000 in
set_option maxHeartbeats 4000000 in
theorem mt_L_bestReviewer (r0 : Option Nat) (i1 : Int32) (r2 : Option Nat) (S0 : PH) (y : Int32 × PH) (h : m_L_bestReviewer r0 i1 r2 S0 = some y) : MT yL_bestReviewer (.codeWith yL_bestReviewer cL_bestReviewer 4 (Option.some FieldType.int) [(0, 9, 12, 20)]) 8 138 1 6 [va_rf r0, .int i1, va_rf r2] S0 (oQ e_I (qN y)) := by
  refine mt_ofH (own := RL) (l0 := [(0, va_rf r0), (1, .int i1), (2, va_rf r2)]) rfl rfl (by cases r0 <;> cases r2 <;> exact Nat.le_of_ble_eq_true rfl) (by cases r0 <;> cases r2 <;> rfl) ?_
  intro Z hC hQ hX
  unfold m_L_bestReviewer at h
  refine x_aload_n (i := 2) hC dL_bestReviewer_0 rfl 2 rfl ?_
  refine x_iconst (v := (0 : Int32)) hC dL_bestReviewer_1 (by decide) ?_
  refine x_aload_n (i := 0) hC dL_bestReviewer_2 rfl 0 rfl ?_
  refine x_iload_n (i := 1) hC dL_bestReviewer_3 rfl 1 rfl ?_
  replace h := dr_el h
  obtain ⟨a1, ea2, ha3, h⟩ := h
  replace h := bt_el h
  obtain ⟨v4, S5, hb16, h⟩ | ⟨j6, S7, hb16, h⟩ := h
  · refine x_callV hC (st := [.int (0 : Int32), va_rf r2]) (mt_X4_bestReviewer _ _ _ _ hb16) ea2 ha3 kf_4 q_831 q_832 q_833 q_1 q_834 ⟨rfl, hy_X4_bestReviewer⟩ ⟨Nat.le_of_ble_eq_true rfl, Nat.le_of_ble_eq_true rfl⟩ ⟨Nat.le_of_ble_eq_true rfl, Nat.le_of_ble_eq_true rfl⟩ rfl (Nat.le_of_ble_eq_true rfl) dL_bestReviewer_4 (r_T ?_) r_TX
    show PX Z 4 S5 1 6 7 [(0, va_rf r0), (1, .int i1), (2, va_rf r2)] [.int v4, .int (0 : Int32), va_rf r2]
    refine x_i2l hC dL_bestReviewer_7 ?_
    replace h := dr_el h
    obtain ⟨a10, ea11, ha12, h⟩ := h
    replace h := ck_el h
    obtain ⟨hc13, h⟩ := h
    replace h := le_el h
    obtain ⟨S14, hx15, h⟩ := h
    refine x_lastore hC ea11 ha12 hc13 dL_bestReviewer_8 ?_
    refine x_tS hx15 ?_
    refine x_goto (t := 15) hC dL_bestReviewer_9 (by decide) ?_
    refine x_iconst (v := (0 : Int32)) hC dL_bestReviewer_15 (by decide) ?_
    exact x_iret hC hQ (z_N (Option.some.inj h)) (Nat.le_of_ble_eq_true rfl) (Nat.le_of_ble_eq_true rfl) dL_bestReviewer_16
  · refine x_callV hC (st := [.int (0 : Int32), va_rf r2]) (mt_X4_bestReviewer _ _ _ _ hb16) ea2 ha3 kf_4 q_831 q_832 q_833 q_1 q_834 ⟨rfl, hy_X4_bestReviewer⟩ ⟨Nat.le_of_ble_eq_true rfl, Nat.le_of_ble_eq_true rfl⟩ ⟨Nat.le_of_ble_eq_true rfl, Nat.le_of_ble_eq_true rfl⟩ rfl (Nat.le_of_ble_eq_true rfl) dL_bestReviewer_4 r_X (r_XX ?_)
    rcases Decidable.em (j6 = 2) with c8 | c8
    · replace h := it_t c8 h
      subst c8
      refine x_catch (pre := []) (x := (0, 9, 12, 20)) (suf := []) hC hX rfl (by decide) (fun _ q => nomatch q) (by decide) (by decide) q_528 (List.mem_of_getElem? (i := 15) rfl) (fun q9 => ?_)
      refine x_astore_n (i := 3) (l' := [(3, va_rf (some q9)), (0, va_rf r0), (1, .int i1), (2, va_rf r2)]) hC dL_bestReviewer_12 rfl (⟨fun _ => c_rf r0, ⟨fun _ => rfl, ⟨fun _ => c_rf r2, trivial⟩⟩⟩) (by decide) rfl ?_
      refine x_iconst (v := (1 : Int32)) hC dL_bestReviewer_13 (by decide) ?_
      exact x_iret hC hQ (z_N (Option.some.inj h)) (Nat.le_of_ble_eq_true rfl) (Nat.le_of_ble_eq_true rfl) dL_bestReviewer_14
    replace h := it_f c8 h
    cases h
theorem dL_most_0 : decode cL_most 0 = .ok (.aload_n 2, 1) := by decide +kernel
theorem dL_most_1 : decode cL_most 1 = .ok (.iconst 0, 1) := by decide +kernel
theorem dL_most_2 : decode cL_most 2 = .ok (.aload_n 0, 1) := by decide +kernel
theorem dL_most_3 : decode cL_most 3 = .ok (.iload_n 1, 1) := by decide +kernel
theorem dL_most_4 : decode cL_most 4 = .ok (.invokevirtual 91, 3) := by decide +kernel
theorem dL_most_7 : decode cL_most 7 = .ok (.i2l, 1) := by decide +kernel
theorem dL_most_8 : decode cL_most 8 = .ok (.lastore, 1) := by decide +kernel
theorem dL_most_9 : decode cL_most 9 = .ok (.goto 6, 3) := by decide +kernel
theorem dL_most_12 : decode cL_most 12 = .ok (.astore_n 3, 1) := by decide +kernel
theorem dL_most_13 : decode cL_most 13 = .ok (.iconst 1, 1) := by decide +kernel
theorem dL_most_14 : decode cL_most 14 = .ok (.ireturn, 1) := by decide +kernel
theorem dL_most_15 : decode cL_most 15 = .ok (.iconst 0, 1) := by decide +kernel
theorem dL_most_16 : decode cL_most 16 = .ok (.ireturn, 1) := by decide +kernel
set_option maxRecDepth 100000 in
set_option maxHeartbeats 4000000 in
theorem mt_L_most (r0 : Option Nat) (i1 : Int32) (r2 : Option Nat) (S0 : PH) (y : Int32 × PH) (h : m_L_most r0 i1 r2 S0 = some y) : MT yL_most (.codeWith yL_most cL_most 4 (Option.some FieldType.int) [(0, 9, 12, 13)]) 7 118 1 6 [va_rf r0, .int i1, va_rf r2] S0 (oQ e_I (qN y)) := by
  refine mt_ofH (own := RL) (l0 := [(0, va_rf r0), (1, .int i1), (2, va_rf r2)]) rfl rfl (by cases r0 <;> cases r2 <;> exact Nat.le_of_ble_eq_true rfl) (by cases r0 <;> cases r2 <;> rfl) ?_
  intro Z hC hQ hX
  unfold m_L_most at h
  refine x_aload_n (i := 2) hC dL_most_0 rfl 2 rfl ?_
  refine x_iconst (v := (0 : Int32)) hC dL_most_1 (by decide) ?_
  refine x_aload_n (i := 0) hC dL_most_2 rfl 0 rfl ?_
  refine x_iload_n (i := 1) hC dL_most_3 rfl 1 rfl ?_
  replace h := dr_el h
  obtain ⟨a1, ea2, ha3, h⟩ := h
  replace h := bt_el h
  obtain ⟨v4, S5, hb16, h⟩ | ⟨j6, S7, hb16, h⟩ := h
  · refine x_callV hC (st := [.int (0 : Int32), va_rf r2]) (mt_X4_most _ _ _ _ hb16) ea2 ha3 kf_4 q_838 q_839 q_840 q_1 q_841 ⟨rfl, hy_X4_most⟩ ⟨Nat.le_of_ble_eq_true rfl, Nat.le_of_ble_eq_true rfl⟩ ⟨Nat.le_of_ble_eq_true rfl, Nat.le_of_ble_eq_true rfl⟩ rfl (Nat.le_of_ble_eq_true rfl) dL_most_4 (r_T ?_) r_TX
    show PX Z 4 S5 1 6 7 [(0, va_rf r0), (1, .int i1), (2, va_rf r2)] [.int v4, .int (0 : Int32), va_rf r2]
    refine x_i2l hC dL_most_7 ?_
    replace h := dr_el h
    obtain ⟨a10, ea11, ha12, h⟩ := h
    replace h := ck_el h
    obtain ⟨hc13, h⟩ := h
    replace h := le_el h
    obtain ⟨S14, hx15, h⟩ := h
    refine x_lastore hC ea11 ha12 hc13 dL_most_8 ?_
    refine x_tS hx15 ?_
    refine x_goto (t := 15) hC dL_most_9 (by decide) ?_
    refine x_iconst (v := (0 : Int32)) hC dL_most_15 (by decide) ?_
    exact x_iret hC hQ (z_N (Option.some.inj h)) (Nat.le_of_ble_eq_true rfl) (Nat.le_of_ble_eq_true rfl) dL_most_16
  · refine x_callV hC (st := [.int (0 : Int32), va_rf r2]) (mt_X4_most _ _ _ _ hb16) ea2 ha3 kf_4 q_838 q_839 q_840 q_1 q_841 ⟨rfl, hy_X4_most⟩ ⟨Nat.le_of_ble_eq_true rfl, Nat.le_of_ble_eq_true rfl⟩ ⟨Nat.le_of_ble_eq_true rfl, Nat.le_of_ble_eq_true rfl⟩ rfl (Nat.le_of_ble_eq_true rfl) dL_most_4 r_X (r_XX ?_)
    rcases Decidable.em (j6 = 0) with c8 | c8
    · replace h := it_t c8 h
      subst c8
      refine x_catch (pre := []) (x := (0, 9, 12, 13)) (suf := []) hC hX rfl (by decide) (fun _ q => nomatch q) (by decide) (by decide) q_424 (List.mem_of_getElem? (i := 7) rfl) (fun q9 => ?_)
      refine x_astore_n (i := 3) (l' := [(3, va_rf (some q9)), (0, va_rf r0), (1, .int i1), (2, va_rf r2)]) hC dL_most_12 rfl (⟨fun _ => c_rf r0, ⟨fun _ => rfl, ⟨fun _ => c_rf r2, trivial⟩⟩⟩) (by decide) rfl ?_
      refine x_iconst (v := (1 : Int32)) hC dL_most_13 (by decide) ?_
      exact x_iret hC hQ (z_N (Option.some.inj h)) (Nat.le_of_ble_eq_true rfl) (Nat.le_of_ble_eq_true rfl) dL_most_14
    replace h := it_f c8 h
    cases h
theorem dL_roundsToAgree_0 : decode cL_roundsToAgree 0 = .ok (.aload_n 2, 1) := by decide +kernel
theorem dL_roundsToAgree_1 : decode cL_roundsToAgree 1 = .ok (.iconst 0, 1) := by decide +kernel
theorem dL_roundsToAgree_2 : decode cL_roundsToAgree 2 = .ok (.aload_n 0, 1) := by decide +kernel
theorem dL_roundsToAgree_3 : decode cL_roundsToAgree 3 = .ok (.iload_n 1, 1) := by decide +kernel
theorem dL_roundsToAgree_4 : decode cL_roundsToAgree 4 = .ok (.invokevirtual 94, 3) := by decide +kernel
theorem dL_roundsToAgree_7 : decode cL_roundsToAgree 7 = .ok (.i2l, 1) := by decide +kernel
theorem dL_roundsToAgree_8 : decode cL_roundsToAgree 8 = .ok (.lastore, 1) := by decide +kernel
theorem dL_roundsToAgree_9 : decode cL_roundsToAgree 9 = .ok (.goto 6, 3) := by decide +kernel
theorem dL_roundsToAgree_12 : decode cL_roundsToAgree 12 = .ok (.astore_n 3, 1) := by decide +kernel
theorem dL_roundsToAgree_13 : decode cL_roundsToAgree 13 = .ok (.iconst 1, 1) := by decide +kernel
theorem dL_roundsToAgree_14 : decode cL_roundsToAgree 14 = .ok (.ireturn, 1) := by decide +kernel
theorem dL_roundsToAgree_15 : decode cL_roundsToAgree 15 = .ok (.iconst 0, 1) := by decide +kernel
theorem dL_roundsToAgree_16 : decode cL_roundsToAgree 16 = .ok (.ireturn, 1) := by decide +kernel
set_option maxRecDepth 100000 in
set_option maxHeartbeats 4000000 in
theorem mt_L_roundsToAgree (r0 : Option Nat) (i1 : Int32) (r2 : Option Nat) (S0 : PH) (y : Int32 × PH) (h : m_L_roundsToAgree r0 i1 r2 S0 = some y) : MT yL_roundsToAgree (.codeWith yL_roundsToAgree cL_roundsToAgree 4 (Option.some FieldType.int) [(0, 9, 12, 20)]) 8 132 1 6 [va_rf r0, .int i1, va_rf r2] S0 (oQ e_I (qN y)) := by
  refine mt_ofH (own := RL) (l0 := [(0, va_rf r0), (1, .int i1), (2, va_rf r2)]) rfl rfl (by cases r0 <;> cases r2 <;> exact Nat.le_of_ble_eq_true rfl) (by cases r0 <;> cases r2 <;> rfl) ?_
  intro Z hC hQ hX
  unfold m_L_roundsToAgree at h
  refine x_aload_n (i := 2) hC dL_roundsToAgree_0 rfl 2 rfl ?_
  refine x_iconst (v := (0 : Int32)) hC dL_roundsToAgree_1 (by decide) ?_
  refine x_aload_n (i := 0) hC dL_roundsToAgree_2 rfl 0 rfl ?_
  refine x_iload_n (i := 1) hC dL_roundsToAgree_3 rfl 1 rfl ?_
  replace h := dr_el h
  obtain ⟨a1, ea2, ha3, h⟩ := h
  replace h := bt_el h
  obtain ⟨v4, S5, hb16, h⟩ | ⟨j6, S7, hb16, h⟩ := h
  · refine x_callV hC (st := [.int (0 : Int32), va_rf r2]) (mt_X4_roundsToAgree _ _ _ _ hb16) ea2 ha3 kf_4 q_846 q_847 q_848 q_1 q_849 ⟨rfl, hy_X4_roundsToAgree⟩ ⟨Nat.le_of_ble_eq_true rfl, Nat.le_of_ble_eq_true rfl⟩ ⟨Nat.le_of_ble_eq_true rfl, Nat.le_of_ble_eq_true rfl⟩ rfl (Nat.le_of_ble_eq_true rfl) dL_roundsToAgree_4 (r_T ?_) r_TX
    show PX Z 4 S5 1 6 7 [(0, va_rf r0), (1, .int i1), (2, va_rf r2)] [.int v4, .int (0 : Int32), va_rf r2]
    refine x_i2l hC dL_roundsToAgree_7 ?_
    replace h := dr_el h
    obtain ⟨a10, ea11, ha12, h⟩ := h
    replace h := ck_el h
    obtain ⟨hc13, h⟩ := h
    replace h := le_el h
    obtain ⟨S14, hx15, h⟩ := h
    refine x_lastore hC ea11 ha12 hc13 dL_roundsToAgree_8 ?_
    refine x_tS hx15 ?_
    refine x_goto (t := 15) hC dL_roundsToAgree_9 (by decide) ?_
    refine x_iconst (v := (0 : Int32)) hC dL_roundsToAgree_15 (by decide) ?_
    exact x_iret hC hQ (z_N (Option.some.inj h)) (Nat.le_of_ble_eq_true rfl) (Nat.le_of_ble_eq_true rfl) dL_roundsToAgree_16
  · refine x_callV hC (st := [.int (0 : Int32), va_rf r2]) (mt_X4_roundsToAgree _ _ _ _ hb16) ea2 ha3 kf_4 q_846 q_847 q_848 q_1 q_849 ⟨rfl, hy_X4_roundsToAgree⟩ ⟨Nat.le_of_ble_eq_true rfl, Nat.le_of_ble_eq_true rfl⟩ ⟨Nat.le_of_ble_eq_true rfl, Nat.le_of_ble_eq_true rfl⟩ rfl (Nat.le_of_ble_eq_true rfl) dL_roundsToAgree_4 r_X (r_XX ?_)
    rcases Decidable.em (j6 = 2) with c8 | c8
    · replace h := it_t c8 h
      subst c8
      refine x_catch (pre := []) (x := (0, 9, 12, 20)) (suf := []) hC hX rfl (by decide) (fun _ q => nomatch q) (by decide) (by decide) q_528 (List.mem_of_getElem? (i := 15) rfl) (fun q9 => ?_)
      refine x_astore_n (i := 3) (l' := [(3, va_rf (some q9)), (0, va_rf r0), (1, .int i1), (2, va_rf r2)]) hC dL_roundsToAgree_12 rfl (⟨fun _ => c_rf r0, ⟨fun _ => rfl, ⟨fun _ => c_rf r2, trivial⟩⟩⟩) (by decide) rfl ?_
      refine x_iconst (v := (1 : Int32)) hC dL_roundsToAgree_13 (by decide) ?_
      exact x_iret hC hQ (z_N (Option.some.inj h)) (Nat.le_of_ble_eq_true rfl) (Nat.le_of_ble_eq_true rfl) dL_roundsToAgree_14
    replace h := it_f c8 h
    cases h
theorem dL_meanScore_0 : decode cL_meanScore 0 = .ok (.aload_n 2, 1) := by decide +kernel
theorem dL_meanScore_1 : decode cL_meanScore 1 = .ok (.iconst 0, 1) := by decide +kernel
theorem dL_meanScore_2 : decode cL_meanScore 2 = .ok (.aload_n 0, 1) := by decide +kernel
theorem dL_meanScore_3 : decode cL_meanScore 3 = .ok (.iload_n 1, 1) := by decide +kernel
theorem dL_meanScore_4 : decode cL_meanScore 4 = .ok (.invokevirtual 97, 3) := by decide +kernel
theorem dL_meanScore_7 : decode cL_meanScore 7 = .ok (.dastore, 1) := by decide +kernel
theorem dL_meanScore_8 : decode cL_meanScore 8 = .ok (.goto 6, 3) := by decide +kernel
theorem dL_meanScore_11 : decode cL_meanScore 11 = .ok (.astore_n 3, 1) := by decide +kernel
theorem dL_meanScore_12 : decode cL_meanScore 12 = .ok (.iconst 1, 1) := by decide +kernel
theorem dL_meanScore_13 : decode cL_meanScore 13 = .ok (.ireturn, 1) := by decide +kernel
theorem dL_meanScore_14 : decode cL_meanScore 14 = .ok (.iconst 0, 1) := by decide +kernel
theorem dL_meanScore_15 : decode cL_meanScore 15 = .ok (.ireturn, 1) := by decide +kernel
set_option maxRecDepth 100000 in
set_option maxHeartbeats 4000000 in
theorem mt_L_meanScore (r0 : Option Nat) (i1 : Int32) (r2 : Option Nat) (S0 : PH) (y : Int32 × PH) (h : m_L_meanScore r0 i1 r2 S0 = some y) : MT yL_meanScore (.codeWith yL_meanScore cL_meanScore 4 (Option.some FieldType.int) [(0, 8, 11, 20)]) 8 132 1 6 [va_rf r0, .int i1, va_rf r2] S0 (oQ e_I (qN y)) := by
  refine mt_ofH (own := RL) (l0 := [(0, va_rf r0), (1, .int i1), (2, va_rf r2)]) rfl rfl (by cases r0 <;> cases r2 <;> exact Nat.le_of_ble_eq_true rfl) (by cases r0 <;> cases r2 <;> rfl) ?_
  intro Z hC hQ hX
  unfold m_L_meanScore at h
  refine x_aload_n (i := 2) hC dL_meanScore_0 rfl 2 rfl ?_
  refine x_iconst (v := (0 : Int32)) hC dL_meanScore_1 (by decide) ?_
  refine x_aload_n (i := 0) hC dL_meanScore_2 rfl 0 rfl ?_
  refine x_iload_n (i := 1) hC dL_meanScore_3 rfl 1 rfl ?_
  replace h := dr_el h
  obtain ⟨a1, ea2, ha3, h⟩ := h
  replace h := bt_el h
  obtain ⟨v4, S5, hb16, h⟩ | ⟨j6, S7, hb16, h⟩ := h
  · refine x_callV hC (st := [.int (0 : Int32), va_rf r2]) (mt_X4_meanScore _ _ _ _ hb16) ea2 ha3 kf_4 q_853 q_854 q_855 q_1 q_856 ⟨rfl, hy_X4_meanScore⟩ ⟨Nat.le_of_ble_eq_true rfl, Nat.le_of_ble_eq_true rfl⟩ ⟨Nat.le_of_ble_eq_true rfl, Nat.le_of_ble_eq_true rfl⟩ rfl (Nat.le_of_ble_eq_true rfl) dL_meanScore_4 (r_T ?_) r_TX
    show PX Z 4 S5 1 6 7 [(0, va_rf r0), (1, .int i1), (2, va_rf r2)] [.double v4, .int (0 : Int32), va_rf r2]
    replace h := dr_el h
    obtain ⟨a10, ea11, ha12, h⟩ := h
    replace h := ck_el h
    obtain ⟨hc13, h⟩ := h
    replace h := le_el h
    obtain ⟨S14, hx15, h⟩ := h
    refine x_dastore hC ea11 ha12 hc13 dL_meanScore_7 ?_
    refine x_tS hx15 ?_
    refine x_goto (t := 14) hC dL_meanScore_8 (by decide) ?_
    refine x_iconst (v := (0 : Int32)) hC dL_meanScore_14 (by decide) ?_
    exact x_iret hC hQ (z_N (Option.some.inj h)) (Nat.le_of_ble_eq_true rfl) (Nat.le_of_ble_eq_true rfl) dL_meanScore_15
  · refine x_callV hC (st := [.int (0 : Int32), va_rf r2]) (mt_X4_meanScore _ _ _ _ hb16) ea2 ha3 kf_4 q_853 q_854 q_855 q_1 q_856 ⟨rfl, hy_X4_meanScore⟩ ⟨Nat.le_of_ble_eq_true rfl, Nat.le_of_ble_eq_true rfl⟩ ⟨Nat.le_of_ble_eq_true rfl, Nat.le_of_ble_eq_true rfl⟩ rfl (Nat.le_of_ble_eq_true rfl) dL_meanScore_4 r_X (r_XX ?_)
    rcases Decidable.em (j6 = 2) with c8 | c8
    · replace h := it_t c8 h
      subst c8
      refine x_catch (pre := []) (x := (0, 8, 11, 20)) (suf := []) hC hX rfl (by decide) (fun _ q => nomatch q) (by decide) (by decide) q_528 (List.mem_of_getElem? (i := 15) rfl) (fun q9 => ?_)
      refine x_astore_n (i := 3) (l' := [(3, va_rf (some q9)), (0, va_rf r0), (1, .int i1), (2, va_rf r2)]) hC dL_meanScore_11 rfl (⟨fun _ => c_rf r0, ⟨fun _ => rfl, ⟨fun _ => c_rf r2, trivial⟩⟩⟩) (by decide) rfl ?_
      refine x_iconst (v := (1 : Int32)) hC dL_meanScore_12 (by decide) ?_
      exact x_iret hC hQ (z_N (Option.some.inj h)) (Nat.le_of_ble_eq_true rfl) (Nat.le_of_ble_eq_true rfl) dL_meanScore_13
    replace h := it_f c8 h
    cases h
