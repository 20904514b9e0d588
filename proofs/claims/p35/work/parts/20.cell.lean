/-! THE LAW: a cell of the script -/
noncomputable def m_L_cell (xs : Nat → Int32) (L : Nat) (i1 : Int32) (S0 : PH) : Option (Int32 × PH) := if (Int32.ofNat L) ≤ i1 then (some (((1812433253 : Int32) * (i1 + (97 : Int32))), S0)) else (ck (ix i1 L) <| some ((xs (Int32.toNatClampNeg i1)), S0))
theorem dL_cell_0 : decode cL_cell 0 = .ok (.iload_n 1, 1) := by decide +kernel
theorem dL_cell_1 : decode cL_cell 1 = .ok (.aload_n 0, 1) := by decide +kernel
theorem dL_cell_2 : decode cL_cell 2 = .ok (.arraylength, 1) := by decide +kernel
theorem dL_cell_3 : decode cL_cell 3 = .ok (.if_icmp .ge 9, 3) := by decide +kernel
theorem dL_cell_6 : decode cL_cell 6 = .ok (.aload_n 0, 1) := by decide +kernel
theorem dL_cell_7 : decode cL_cell 7 = .ok (.iload_n 1, 1) := by decide +kernel
theorem dL_cell_8 : decode cL_cell 8 = .ok (.iaload, 1) := by decide +kernel
theorem dL_cell_9 : decode cL_cell 9 = .ok (.goto 10, 3) := by decide +kernel
theorem dL_cell_12 : decode cL_cell 12 = .ok (.ldc 7, 2) := by decide +kernel
theorem dL_cell_14 : decode cL_cell 14 = .ok (.iload_n 1, 1) := by decide +kernel
theorem dL_cell_15 : decode cL_cell 15 = .ok (.bipush 97, 2) := by decide +kernel
theorem dL_cell_17 : decode cL_cell 17 = .ok (.iadd, 1) := by decide +kernel
theorem dL_cell_18 : decode cL_cell 18 = .ok (.imul, 1) := by decide +kernel
theorem dL_cell_19 : decode cL_cell 19 = .ok (.ireturn, 1) := by decide +kernel
theorem mts_L_cell {b L : Nat} {xs : Nat → Int32} (i1 : Int32) (S0 : PH) (y : Int32 × PH) (h : m_L_cell xs L i1 S0 = some y) : MTs yL_cell (.code yL_cell cL_cell 2 (Option.some FieldType.int)) 0 0 0 0 [va_rf (some b), .int i1] S0 (oQ e_I (qN y)) b L xs := by
  refine mt_ofs (own := RL) (l0 := [(0, va_rf (some b)), (1, .int i1)]) rfl rfl (by exact Nat.le_of_ble_eq_true rfl) (by rfl) ?_
  intro Z hC hQ hE hX
  unfold m_L_cell at h
  refine x_iload_n (i := 1) hC dL_cell_0 rfl 1 rfl ?_
  refine x_aload_n (i := 0) hC dL_cell_1 rfl 0 rfl ?_
  refine x_slen hC hX dL_cell_2 ?_
  refine x_icmp_ge (t := 12) hC dL_cell_3 (by decide) (fun c1 => ?_) (fun c1 => ?_)
  · replace h := it_t c1 h
    refine x_ldci hC dL_cell_12 q_496 ?_
    refine x_iload_n (i := 1) hC dL_cell_14 rfl 1 rfl ?_
    refine x_bipush (v := (97 : Int32)) hC dL_cell_15 (by decide) ?_
    refine x_iadd hC dL_cell_17 ?_
    refine x_imul hC dL_cell_18 ?_
    exact x_iret hC hQ (z_N (Option.some.inj h)) (Nat.le_of_ble_eq_true rfl) (Nat.le_of_ble_eq_true rfl) dL_cell_19
  · replace h := it_f c1 h
    refine x_aload_n (i := 0) hC dL_cell_6 rfl 0 rfl ?_
    refine x_iload_n (i := 1) hC dL_cell_7 rfl 1 rfl ?_
    replace h := ck_el h
    obtain ⟨hc2, h⟩ := h
    refine x_sld hC hX hc2 dL_cell_8 ?_
    refine x_goto (t := 19) hC dL_cell_9 (by decide) ?_
    exact x_iret hC hQ (z_N (Option.some.inj h)) (Nat.le_of_ble_eq_true rfl) (Nat.le_of_ble_eq_true rfl) dL_cell_19
theorem hy_L_cell : yL_cell.cls ≠ "java/lang/invoke/MethodHandle" ∧ yL_cell.cls ≠ "java/lang/invoke/VarHandle" ∧ (parseMethodDescriptor yL_cell.desc).map (fun d => d.parameters.length) = some 2 := by decide +kernel
