/-! THE WALKS: each method does what it means -/
theorem dX0_init_0 : decode cX0_init 0 = .ok (.aload_n 0, 1) := by decide +kernel
theorem dX0_init_1 : decode cX0_init 1 = .ok (.invokespecial 3, 3) := by decide +kernel
theorem dX0_init_4 : decode cX0_init 4 = .ok (.aload_n 0, 1) := by decide +kernel
theorem dX0_init_5 : decode cX0_init 5 = .ok (.bipush 6, 2) := by decide +kernel
theorem dX0_init_7 : decode cX0_init 7 = .ok (.anewarray 9, 3) := by decide +kernel
theorem dX0_init_10 : decode cX0_init 10 = .ok (.putfield 11, 3) := by decide +kernel
theorem dX0_init_13 : decode cX0_init 13 = .ok (.aload_n 0, 1) := by decide +kernel
theorem dX0_init_14 : decode cX0_init 14 = .ok (.iconst 0, 1) := by decide +kernel
theorem dX0_init_15 : decode cX0_init 15 = .ok (.putfield 17, 3) := by decide +kernel
theorem dX0_init_18 : decode cX0_init 18 = .ok (.aload_n 0, 1) := by decide +kernel
theorem dX0_init_19 : decode cX0_init 19 = .ok (.iconst 0, 1) := by decide +kernel
theorem dX0_init_20 : decode cX0_init 20 = .ok (.putfield 21, 3) := by decide +kernel
theorem dX0_init_23 : decode cX0_init 23 = .ok (.return_, 1) := by decide +kernel
set_option maxRecDepth 100000 in
set_option maxHeartbeats 4000000 in
theorem mt_X0_init (r0 : Option Nat) (S0 : PH) (Q : (Nat ⊕ Unit) → PH → Prop) (h : w_X0_init r0 S0 Q) : MT yX0_init (.code yX0_init cX0_init 1 (Option.none : Option FieldType)) 1 20 1 6 [va_rf r0] S0 (oQ e_V Q) := by
  refine mt_of (own := RX0) (l0 := [(0, va_rf r0)]) rfl rfl (by cases r0 <;> exact Nat.le_of_ble_eq_true rfl) (by cases r0 <;> rfl) ?_
  intro Z hC hQ hE hN
  unfold w_X0_init at h
  refine x_aload_n (i := 0) hC dX0_init_0 rfl 0 rfl ?_
  obtain ⟨a1, ea2, ha3, h⟩ := h
  refine x_objInit hC ea2 q_111 q_obi q_obc (Nat.le_of_ble_eq_true rfl) ⟨Nat.le_of_ble_eq_true rfl, Nat.le_of_ble_eq_true rfl⟩ dX0_init_1 ?_
  refine x_aload_n (i := 0) hC dX0_init_4 rfl 0 rfl ?_
  refine x_bipush (v := (6 : Int32)) hC dX0_init_5 (by decide) ?_
  refine x_newq (N' := 6) hC q_112 (List.mem_of_getElem? (i := 3) rfl) (by decide) (by decide) (Nat.le_of_ble_eq_true rfl) (Nat.le_of_ble_eq_true rfl) (Nat.le_of_ble_eq_true rfl) dX0_init_7 (fun q4 hq5 => ?_)
  replace h := h q4 hq5
  obtain ⟨S6, hx7, h⟩ := wle_el h
  refine x_tS hx7 ?_
  obtain ⟨a8, ea9, ha10, h⟩ := h
  obtain ⟨S11, hx12, h⟩ := wle_el h
  refine x_putR hC ea9 ha10 kf_0 0 (by decide) rfl (Or.inl ⟨_, rfl⟩) q_114 (Or.inr ⟨rfl, hN rfl, rfl⟩) dX0_init_10 ?_
  refine x_tS hx12 ?_
  refine x_aload_n (i := 0) hC dX0_init_13 rfl 0 rfl ?_
  refine x_iconst (v := (0 : Int32)) hC dX0_init_14 (by decide) ?_
  obtain ⟨a13, ea14, ha15, h⟩ := h
  obtain ⟨S16, hx17, h⟩ := wle_el h
  refine x_putI hC ea14 ha15 kf_0 1 (by decide) rfl rfl q_115 (Or.inl rfl) dX0_init_15 ?_
  refine x_tS hx17 ?_
  refine x_aload_n (i := 0) hC dX0_init_18 rfl 0 rfl ?_
  refine x_iconst (v := (0 : Int32)) hC dX0_init_19 (by decide) ?_
  obtain ⟨a18, ea19, ha20, h⟩ := h
  obtain ⟨S21, hx22, h⟩ := wle_el h
  refine x_putI hC ea19 ha20 kf_0 2 (by decide) rfl rfl q_116 (Or.inl rfl) dX0_init_20 ?_
  refine x_tS hx22 ?_
  exact x_vret hC hQ (z_W (v := ()) h) (Nat.le_of_ble_eq_true rfl) (Nat.le_of_ble_eq_true rfl) dX0_init_23
theorem dX2_init_0 : decode cX2_init 0 = .ok (.aload_n 0, 1) := by decide +kernel
theorem dX2_init_1 : decode cX2_init 1 = .ok (.invokespecial 3, 3) := by decide +kernel
theorem dX2_init_4 : decode cX2_init 4 = .ok (.aload_n 0, 1) := by decide +kernel
theorem dX2_init_5 : decode cX2_init 5 = .ok (.bipush 8, 2) := by decide +kernel
theorem dX2_init_7 : decode cX2_init 7 = .ok (.newarray .int, 2) := by decide +kernel
theorem dX2_init_9 : decode cX2_init 9 = .ok (.putfield 9, 3) := by decide +kernel
theorem dX2_init_12 : decode cX2_init 12 = .ok (.aload_n 0, 1) := by decide +kernel
theorem dX2_init_13 : decode cX2_init 13 = .ok (.bipush 8, 2) := by decide +kernel
theorem dX2_init_15 : decode cX2_init 15 = .ok (.newarray .int, 2) := by decide +kernel
theorem dX2_init_17 : decode cX2_init 17 = .ok (.putfield 15, 3) := by decide +kernel
theorem dX2_init_20 : decode cX2_init 20 = .ok (.aload_n 0, 1) := by decide +kernel
theorem dX2_init_21 : decode cX2_init 21 = .ok (.bipush 8, 2) := by decide +kernel
theorem dX2_init_23 : decode cX2_init 23 = .ok (.newarray .int, 2) := by decide +kernel
theorem dX2_init_25 : decode cX2_init 25 = .ok (.putfield 18, 3) := by decide +kernel
theorem dX2_init_28 : decode cX2_init 28 = .ok (.aload_n 0, 1) := by decide +kernel
theorem dX2_init_29 : decode cX2_init 29 = .ok (.bipush 8, 2) := by decide +kernel
theorem dX2_init_31 : decode cX2_init 31 = .ok (.newarray .int, 2) := by decide +kernel
theorem dX2_init_33 : decode cX2_init 33 = .ok (.putfield 21, 3) := by decide +kernel
theorem dX2_init_36 : decode cX2_init 36 = .ok (.aload_n 0, 1) := by decide +kernel
theorem dX2_init_37 : decode cX2_init 37 = .ok (.bipush 8, 2) := by decide +kernel
theorem dX2_init_39 : decode cX2_init 39 = .ok (.newarray .int, 2) := by decide +kernel
theorem dX2_init_41 : decode cX2_init 41 = .ok (.putfield 24, 3) := by decide +kernel
theorem dX2_init_44 : decode cX2_init 44 = .ok (.aload_n 0, 1) := by decide +kernel
theorem dX2_init_45 : decode cX2_init 45 = .ok (.bipush 8, 2) := by decide +kernel
theorem dX2_init_47 : decode cX2_init 47 = .ok (.newarray .int, 2) := by decide +kernel
theorem dX2_init_49 : decode cX2_init 49 = .ok (.putfield 27, 3) := by decide +kernel
theorem dX2_init_52 : decode cX2_init 52 = .ok (.aload_n 0, 1) := by decide +kernel
theorem dX2_init_53 : decode cX2_init 53 = .ok (.bipush 8, 2) := by decide +kernel
theorem dX2_init_55 : decode cX2_init 55 = .ok (.newarray .int, 2) := by decide +kernel
theorem dX2_init_57 : decode cX2_init 57 = .ok (.putfield 30, 3) := by decide +kernel
theorem dX2_init_60 : decode cX2_init 60 = .ok (.aload_n 0, 1) := by decide +kernel
theorem dX2_init_61 : decode cX2_init 61 = .ok (.bipush 8, 2) := by decide +kernel
theorem dX2_init_63 : decode cX2_init 63 = .ok (.newarray .int, 2) := by decide +kernel
theorem dX2_init_65 : decode cX2_init 65 = .ok (.putfield 33, 3) := by decide +kernel
theorem dX2_init_68 : decode cX2_init 68 = .ok (.aload_n 0, 1) := by decide +kernel
theorem dX2_init_69 : decode cX2_init 69 = .ok (.bipush 8, 2) := by decide +kernel
theorem dX2_init_71 : decode cX2_init 71 = .ok (.newarray .int, 2) := by decide +kernel
theorem dX2_init_73 : decode cX2_init 73 = .ok (.putfield 36, 3) := by decide +kernel
theorem dX2_init_76 : decode cX2_init 76 = .ok (.aload_n 0, 1) := by decide +kernel
theorem dX2_init_77 : decode cX2_init 77 = .ok (.bipush 8, 2) := by decide +kernel
theorem dX2_init_79 : decode cX2_init 79 = .ok (.newarray .int, 2) := by decide +kernel
theorem dX2_init_81 : decode cX2_init 81 = .ok (.putfield 39, 3) := by decide +kernel
theorem dX2_init_84 : decode cX2_init 84 = .ok (.aload_n 0, 1) := by decide +kernel
theorem dX2_init_85 : decode cX2_init 85 = .ok (.bipush 8, 2) := by decide +kernel
theorem dX2_init_87 : decode cX2_init 87 = .ok (.bipush 8, 2) := by decide +kernel
theorem dX2_init_89 : decode cX2_init 89 = .ok (.multianewarray 42 2, 4) := by decide +kernel
theorem dX2_init_93 : decode cX2_init 93 = .ok (.putfield 44, 3) := by decide +kernel
theorem dX2_init_96 : decode cX2_init 96 = .ok (.aload_n 0, 1) := by decide +kernel
theorem dX2_init_97 : decode cX2_init 97 = .ok (.iconst 4, 1) := by decide +kernel
theorem dX2_init_98 : decode cX2_init 98 = .ok (.newarray .int, 2) := by decide +kernel
theorem dX2_init_100 : decode cX2_init 100 = .ok (.putfield 47, 3) := by decide +kernel
theorem dX2_init_103 : decode cX2_init 103 = .ok (.aload_n 0, 1) := by decide +kernel
theorem dX2_init_104 : decode cX2_init 104 = .ok (.iconst 0, 1) := by decide +kernel
theorem dX2_init_105 : decode cX2_init 105 = .ok (.putfield 50, 3) := by decide +kernel
theorem dX2_init_108 : decode cX2_init 108 = .ok (.aload_n 0, 1) := by decide +kernel
theorem dX2_init_109 : decode cX2_init 109 = .ok (.iconst 0, 1) := by decide +kernel
theorem dX2_init_110 : decode cX2_init 110 = .ok (.putfield 54, 3) := by decide +kernel
theorem dX2_init_113 : decode cX2_init 113 = .ok (.aload_n 0, 1) := by decide +kernel
theorem dX2_init_114 : decode cX2_init 114 = .ok (.bipush 100, 2) := by decide +kernel
theorem dX2_init_116 : decode cX2_init 116 = .ok (.putfield 57, 3) := by decide +kernel
theorem dX2_init_119 : decode cX2_init 119 = .ok (.aload_n 0, 1) := by decide +kernel
theorem dX2_init_120 : decode cX2_init 120 = .ok (.iconst 0, 1) := by decide +kernel
theorem dX2_init_121 : decode cX2_init 121 = .ok (.putfield 60, 3) := by decide +kernel
theorem dX2_init_124 : decode cX2_init 124 = .ok (.aload_n 0, 1) := by decide +kernel
theorem dX2_init_125 : decode cX2_init 125 = .ok (.iconst 0, 1) := by decide +kernel
theorem dX2_init_126 : decode cX2_init 126 = .ok (.putfield 63, 3) := by decide +kernel
theorem dX2_init_129 : decode cX2_init 129 = .ok (.iconst 0, 1) := by decide +kernel
theorem dX2_init_130 : decode cX2_init 130 = .ok (.istore_n 1, 1) := by decide +kernel
theorem dX2_init_131 : decode cX2_init 131 = .ok (.iload_n 1, 1) := by decide +kernel
theorem dX2_init_132 : decode cX2_init 132 = .ok (.bipush 8, 2) := by decide +kernel
theorem dX2_init_134 : decode cX2_init 134 = .ok (.if_icmp .ge 40, 3) := by decide +kernel
theorem dX2_init_137 : decode cX2_init 137 = .ok (.aload_n 0, 1) := by decide +kernel
theorem dX2_init_138 : decode cX2_init 138 = .ok (.getfield 9, 3) := by decide +kernel
theorem dX2_init_141 : decode cX2_init 141 = .ok (.iload_n 1, 1) := by decide +kernel
theorem dX2_init_142 : decode cX2_init 142 = .ok (.bipush 15, 2) := by decide +kernel
theorem dX2_init_144 : decode cX2_init 144 = .ok (.iastore, 1) := by decide +kernel
theorem dX2_init_145 : decode cX2_init 145 = .ok (.iconst 0, 1) := by decide +kernel
theorem dX2_init_146 : decode cX2_init 146 = .ok (.istore_n 2, 1) := by decide +kernel
theorem dX2_init_147 : decode cX2_init 147 = .ok (.iload_n 2, 1) := by decide +kernel
theorem dX2_init_148 : decode cX2_init 148 = .ok (.bipush 8, 2) := by decide +kernel
theorem dX2_init_150 : decode cX2_init 150 = .ok (.if_icmp .ge 18, 3) := by decide +kernel
theorem dX2_init_153 : decode cX2_init 153 = .ok (.aload_n 0, 1) := by decide +kernel
theorem dX2_init_154 : decode cX2_init 154 = .ok (.getfield 44, 3) := by decide +kernel
theorem dX2_init_157 : decode cX2_init 157 = .ok (.iload_n 2, 1) := by decide +kernel
theorem dX2_init_158 : decode cX2_init 158 = .ok (.aaload, 1) := by decide +kernel
theorem dX2_init_159 : decode cX2_init 159 = .ok (.iload_n 1, 1) := by decide +kernel
theorem dX2_init_160 : decode cX2_init 160 = .ok (.iconst (-1), 1) := by decide +kernel
theorem dX2_init_161 : decode cX2_init 161 = .ok (.iastore, 1) := by decide +kernel
theorem dX2_init_162 : decode cX2_init 162 = .ok (.iinc 2 1, 3) := by decide +kernel
theorem dX2_init_165 : decode cX2_init 165 = .ok (.goto (-18), 3) := by decide +kernel
theorem dX2_init_168 : decode cX2_init 168 = .ok (.iinc 1 1, 3) := by decide +kernel
theorem dX2_init_171 : decode cX2_init 171 = .ok (.goto (-40), 3) := by decide +kernel
theorem dX2_init_174 : decode cX2_init 174 = .ok (.getstatic 66, 3) := by decide +kernel
theorem dX2_init_177 : decode cX2_init 177 = .ok (.iconst 0, 1) := by decide +kernel
theorem dX2_init_178 : decode cX2_init 178 = .ok (.aload_n 0, 1) := by decide +kernel
theorem dX2_init_179 : decode cX2_init 179 = .ok (.getfield 47, 3) := by decide +kernel
theorem dX2_init_182 : decode cX2_init 182 = .ok (.iconst 0, 1) := by decide +kernel
theorem dX2_init_183 : decode cX2_init 183 = .ok (.iconst 4, 1) := by decide +kernel
theorem dX2_init_184 : decode cX2_init 184 = .ok (.invokestatic 69, 3) := by decide +kernel
theorem dX2_init_187 : decode cX2_init 187 = .ok (.return_, 1) := by decide +kernel
set_option maxRecDepth 100000 in
set_option maxHeartbeats 4000000 in
theorem mt_X2_init (r0 : Option Nat) (S0 : PH) (Q : (Nat ⊕ Unit) → PH → Prop) (h : w_X2_init r0 S0 Q) : MT yX2_init (.code yX2_init cX2_init 3 (Option.none : Option FieldType)) 1 60 20 156 [va_rf r0] S0 (oQ e_V Q) := by
  refine mt_of (own := RX2) (l0 := [(0, va_rf r0)]) rfl rfl (by cases r0 <;> exact Nat.le_of_ble_eq_true rfl) (by cases r0 <;> rfl) ?_
  intro Z hC hQ hE hN
  unfold w_X2_init at h
  refine x_aload_n (i := 0) hC dX2_init_0 rfl 0 rfl ?_
  obtain ⟨a1, ea2, ha3, h⟩ := h
  refine x_objInit hC ea2 q_28 q_obi q_obc (Nat.le_of_ble_eq_true rfl) ⟨Nat.le_of_ble_eq_true rfl, Nat.le_of_ble_eq_true rfl⟩ dX2_init_1 ?_
  refine x_aload_n (i := 0) hC dX2_init_4 rfl 0 rfl ?_
  refine x_bipush (v := (8 : Int32)) hC dX2_init_5 (by decide) ?_
  refine x_newI (N' := 8) hC q_105 (by decide) (by decide) (Nat.le_of_ble_eq_true rfl) (Nat.le_of_ble_eq_true rfl) (Nat.le_of_ble_eq_true rfl) dX2_init_7 (fun q4 hq5 => ?_)
  replace h := h q4 hq5
  obtain ⟨S6, hx7, h⟩ := wle_el h
  refine x_tS hx7 ?_
  obtain ⟨a8, ea9, ha10, h⟩ := h
  obtain ⟨S11, hx12, h⟩ := wle_el h
  refine x_putR hC ea9 ha10 kf_2 0 (by decide) rfl (Or.inl ⟨_, rfl⟩) q_36 (Or.inr ⟨rfl, hN rfl, rfl⟩) dX2_init_9 ?_
  refine x_tS hx12 ?_
  refine x_aload_n (i := 0) hC dX2_init_12 rfl 0 rfl ?_
  refine x_bipush (v := (8 : Int32)) hC dX2_init_13 (by decide) ?_
  refine x_newI (N' := 8) hC q_105 (by decide) (by decide) (Nat.le_of_ble_eq_true rfl) (Nat.le_of_ble_eq_true rfl) (Nat.le_of_ble_eq_true rfl) dX2_init_15 (fun q13 hq14 => ?_)
  replace h := h q13 hq14
  obtain ⟨S15, hx16, h⟩ := wle_el h
  refine x_tS hx16 ?_
  obtain ⟨a17, ea18, ha19, h⟩ := h
  obtain ⟨S20, hx21, h⟩ := wle_el h
  refine x_putR hC ea18 ha19 kf_2 1 (by decide) rfl (Or.inl ⟨_, rfl⟩) q_38 (Or.inr ⟨rfl, hN rfl, rfl⟩) dX2_init_17 ?_
  refine x_tS hx21 ?_
  refine x_aload_n (i := 0) hC dX2_init_20 rfl 0 rfl ?_
  refine x_bipush (v := (8 : Int32)) hC dX2_init_21 (by decide) ?_
  refine x_newI (N' := 8) hC q_105 (by decide) (by decide) (Nat.le_of_ble_eq_true rfl) (Nat.le_of_ble_eq_true rfl) (Nat.le_of_ble_eq_true rfl) dX2_init_23 (fun q22 hq23 => ?_)
  replace h := h q22 hq23
  obtain ⟨S24, hx25, h⟩ := wle_el h
  refine x_tS hx25 ?_
  obtain ⟨a26, ea27, ha28, h⟩ := h
  obtain ⟨S29, hx30, h⟩ := wle_el h
  refine x_putR hC ea27 ha28 kf_2 2 (by decide) rfl (Or.inl ⟨_, rfl⟩) q_40 (Or.inr ⟨rfl, hN rfl, rfl⟩) dX2_init_25 ?_
  refine x_tS hx30 ?_
  refine x_aload_n (i := 0) hC dX2_init_28 rfl 0 rfl ?_
  refine x_bipush (v := (8 : Int32)) hC dX2_init_29 (by decide) ?_
  refine x_newI (N' := 8) hC q_105 (by decide) (by decide) (Nat.le_of_ble_eq_true rfl) (Nat.le_of_ble_eq_true rfl) (Nat.le_of_ble_eq_true rfl) dX2_init_31 (fun q31 hq32 => ?_)
  replace h := h q31 hq32
  obtain ⟨S33, hx34, h⟩ := wle_el h
  refine x_tS hx34 ?_
  obtain ⟨a35, ea36, ha37, h⟩ := h
  obtain ⟨S38, hx39, h⟩ := wle_el h
  refine x_putR hC ea36 ha37 kf_2 3 (by decide) rfl (Or.inl ⟨_, rfl⟩) q_42 (Or.inr ⟨rfl, hN rfl, rfl⟩) dX2_init_33 ?_
  refine x_tS hx39 ?_
  refine x_aload_n (i := 0) hC dX2_init_36 rfl 0 rfl ?_
  refine x_bipush (v := (8 : Int32)) hC dX2_init_37 (by decide) ?_
  refine x_newI (N' := 8) hC q_105 (by decide) (by decide) (Nat.le_of_ble_eq_true rfl) (Nat.le_of_ble_eq_true rfl) (Nat.le_of_ble_eq_true rfl) dX2_init_39 (fun q40 hq41 => ?_)
  replace h := h q40 hq41
  obtain ⟨S42, hx43, h⟩ := wle_el h
  refine x_tS hx43 ?_
  obtain ⟨a44, ea45, ha46, h⟩ := h
  obtain ⟨S47, hx48, h⟩ := wle_el h
  refine x_putR hC ea45 ha46 kf_2 4 (by decide) rfl (Or.inl ⟨_, rfl⟩) q_44 (Or.inr ⟨rfl, hN rfl, rfl⟩) dX2_init_41 ?_
  refine x_tS hx48 ?_
  refine x_aload_n (i := 0) hC dX2_init_44 rfl 0 rfl ?_
  refine x_bipush (v := (8 : Int32)) hC dX2_init_45 (by decide) ?_
  refine x_newI (N' := 8) hC q_105 (by decide) (by decide) (Nat.le_of_ble_eq_true rfl) (Nat.le_of_ble_eq_true rfl) (Nat.le_of_ble_eq_true rfl) dX2_init_47 (fun q49 hq50 => ?_)
  replace h := h q49 hq50
  obtain ⟨S51, hx52, h⟩ := wle_el h
  refine x_tS hx52 ?_
  obtain ⟨a53, ea54, ha55, h⟩ := h
  obtain ⟨S56, hx57, h⟩ := wle_el h
  refine x_putR hC ea54 ha55 kf_2 5 (by decide) rfl (Or.inl ⟨_, rfl⟩) q_46 (Or.inr ⟨rfl, hN rfl, rfl⟩) dX2_init_49 ?_
  refine x_tS hx57 ?_
  refine x_aload_n (i := 0) hC dX2_init_52 rfl 0 rfl ?_
  refine x_bipush (v := (8 : Int32)) hC dX2_init_53 (by decide) ?_
  refine x_newI (N' := 8) hC q_105 (by decide) (by decide) (Nat.le_of_ble_eq_true rfl) (Nat.le_of_ble_eq_true rfl) (Nat.le_of_ble_eq_true rfl) dX2_init_55 (fun q58 hq59 => ?_)
  replace h := h q58 hq59
  obtain ⟨S60, hx61, h⟩ := wle_el h
  refine x_tS hx61 ?_
  obtain ⟨a62, ea63, ha64, h⟩ := h
  obtain ⟨S65, hx66, h⟩ := wle_el h
  refine x_putR hC ea63 ha64 kf_2 6 (by decide) rfl (Or.inl ⟨_, rfl⟩) q_48 (Or.inr ⟨rfl, hN rfl, rfl⟩) dX2_init_57 ?_
  refine x_tS hx66 ?_
  refine x_aload_n (i := 0) hC dX2_init_60 rfl 0 rfl ?_
  refine x_bipush (v := (8 : Int32)) hC dX2_init_61 (by decide) ?_
  refine x_newI (N' := 8) hC q_105 (by decide) (by decide) (Nat.le_of_ble_eq_true rfl) (Nat.le_of_ble_eq_true rfl) (Nat.le_of_ble_eq_true rfl) dX2_init_63 (fun q67 hq68 => ?_)
  replace h := h q67 hq68
  obtain ⟨S69, hx70, h⟩ := wle_el h
  refine x_tS hx70 ?_
  obtain ⟨a71, ea72, ha73, h⟩ := h
  obtain ⟨S74, hx75, h⟩ := wle_el h
  refine x_putR hC ea72 ha73 kf_2 7 (by decide) rfl (Or.inl ⟨_, rfl⟩) q_50 (Or.inr ⟨rfl, hN rfl, rfl⟩) dX2_init_65 ?_
  refine x_tS hx75 ?_
  refine x_aload_n (i := 0) hC dX2_init_68 rfl 0 rfl ?_
  refine x_bipush (v := (8 : Int32)) hC dX2_init_69 (by decide) ?_
  refine x_newI (N' := 8) hC q_105 (by decide) (by decide) (Nat.le_of_ble_eq_true rfl) (Nat.le_of_ble_eq_true rfl) (Nat.le_of_ble_eq_true rfl) dX2_init_71 (fun q76 hq77 => ?_)
  replace h := h q76 hq77
  obtain ⟨S78, hx79, h⟩ := wle_el h
  refine x_tS hx79 ?_
  obtain ⟨a80, ea81, ha82, h⟩ := h
  obtain ⟨S83, hx84, h⟩ := wle_el h
  refine x_putR hC ea81 ha82 kf_2 8 (by decide) rfl (Or.inl ⟨_, rfl⟩) q_52 (Or.inr ⟨rfl, hN rfl, rfl⟩) dX2_init_73 ?_
  refine x_tS hx84 ?_
  refine x_aload_n (i := 0) hC dX2_init_76 rfl 0 rfl ?_
  refine x_bipush (v := (8 : Int32)) hC dX2_init_77 (by decide) ?_
  refine x_newI (N' := 8) hC q_105 (by decide) (by decide) (Nat.le_of_ble_eq_true rfl) (Nat.le_of_ble_eq_true rfl) (Nat.le_of_ble_eq_true rfl) dX2_init_79 (fun q85 hq86 => ?_)
  replace h := h q85 hq86
  obtain ⟨S87, hx88, h⟩ := wle_el h
  refine x_tS hx88 ?_
  obtain ⟨a89, ea90, ha91, h⟩ := h
  obtain ⟨S92, hx93, h⟩ := wle_el h
  refine x_putR hC ea90 ha91 kf_2 9 (by decide) rfl (Or.inl ⟨_, rfl⟩) q_54 (Or.inr ⟨rfl, hN rfl, rfl⟩) dX2_init_81 ?_
  refine x_tS hx93 ?_
  refine x_aload_n (i := 0) hC dX2_init_84 rfl 0 rfl ?_
  refine x_bipush (v := (8 : Int32)) hC dX2_init_85 (by decide) ?_
  refine x_bipush (v := (8 : Int32)) hC dX2_init_87 (by decide) ?_
  refine x_multi hC q_29 (List.mem_of_getElem? (i := 0) rfl) (Nat.le_of_ble_eq_true rfl) (Nat.le_of_ble_eq_true rfl) dX2_init_89 h (fun q94 S95 h => ?_)
  obtain ⟨a96, ea97, ha98, h⟩ := h
  obtain ⟨S99, hx100, h⟩ := wle_el h
  refine x_putR hC ea97 ha98 kf_2 10 (by decide) rfl (Or.inl ⟨_, rfl⟩) q_56 (Or.inr ⟨rfl, hN rfl, rfl⟩) dX2_init_93 ?_
  refine x_tS hx100 ?_
  refine x_aload_n (i := 0) hC dX2_init_96 rfl 0 rfl ?_
  refine x_iconst (v := (4 : Int32)) hC dX2_init_97 (by decide) ?_
  refine x_newI (N' := 4) hC q_105 (by decide) (by decide) (Nat.le_of_ble_eq_true rfl) (Nat.le_of_ble_eq_true rfl) (Nat.le_of_ble_eq_true rfl) dX2_init_98 (fun q101 hq102 => ?_)
  replace h := h q101 hq102
  obtain ⟨S103, hx104, h⟩ := wle_el h
  refine x_tS hx104 ?_
  obtain ⟨a105, ea106, ha107, h⟩ := h
  obtain ⟨S108, hx109, h⟩ := wle_el h
  refine x_putR hC ea106 ha107 kf_2 11 (by decide) rfl (Or.inl ⟨_, rfl⟩) q_58 (Or.inr ⟨rfl, hN rfl, rfl⟩) dX2_init_100 ?_
  refine x_tS hx109 ?_
  refine x_aload_n (i := 0) hC dX2_init_103 rfl 0 rfl ?_
  refine x_iconst (v := (0 : Int32)) hC dX2_init_104 (by decide) ?_
  obtain ⟨a110, ea111, ha112, h⟩ := h
  obtain ⟨S113, hx114, h⟩ := wle_el h
  refine x_putI hC ea111 ha112 kf_2 12 (by decide) rfl rfl q_60 (Or.inl rfl) dX2_init_105 ?_
  refine x_tS hx114 ?_
  refine x_aload_n (i := 0) hC dX2_init_108 rfl 0 rfl ?_
  refine x_iconst (v := (0 : Int32)) hC dX2_init_109 (by decide) ?_
  obtain ⟨a115, ea116, ha117, h⟩ := h
  obtain ⟨S118, hx119, h⟩ := wle_el h
  refine x_putI hC ea116 ha117 kf_2 13 (by decide) rfl rfl q_62 (Or.inl rfl) dX2_init_110 ?_
  refine x_tS hx119 ?_
  refine x_aload_n (i := 0) hC dX2_init_113 rfl 0 rfl ?_
  refine x_bipush (v := (100 : Int32)) hC dX2_init_114 (by decide) ?_
  obtain ⟨a120, ea121, ha122, h⟩ := h
  obtain ⟨S123, hx124, h⟩ := wle_el h
  refine x_putI hC ea121 ha122 kf_2 14 (by decide) rfl rfl q_64 (Or.inl rfl) dX2_init_116 ?_
  refine x_tS hx124 ?_
  refine x_aload_n (i := 0) hC dX2_init_119 rfl 0 rfl ?_
  refine x_iconst (v := (0 : Int32)) hC dX2_init_120 (by decide) ?_
  obtain ⟨a125, ea126, ha127, h⟩ := h
  obtain ⟨S128, hx129, h⟩ := wle_el h
  refine x_putI hC ea126 ha127 kf_2 15 (by decide) rfl rfl q_66 (Or.inl rfl) dX2_init_121 ?_
  refine x_tS hx129 ?_
  refine x_aload_n (i := 0) hC dX2_init_124 rfl 0 rfl ?_
  refine x_iconst (v := (0 : Int32)) hC dX2_init_125 (by decide) ?_
  obtain ⟨a130, ea131, ha132, h⟩ := h
  obtain ⟨S133, hx134, h⟩ := wle_el h
  refine x_putI hC ea131 ha132 kf_2 16 (by decide) rfl rfl q_68 (Or.inl rfl) dX2_init_126 ?_
  refine x_tS hx134 ?_
  refine x_iconst (v := (0 : Int32)) hC dX2_init_129 (by decide) ?_
  refine x_istore_n (i := 1) (l' := [(1, .int (0 : Int32)), (0, va_rf r0)]) hC dX2_init_130 rfl (⟨fun _ => c_rf r0, trivial⟩) (by decide) rfl ?_
  refine x_sub (l' := [(0, va_rf r0), (1, .int (0 : Int32))]) [1, 0] rfl ?_
  refine wlp_sim (P := fun (t : (Int32 × PH)) => PX Z 3 t.2 20 156 131 [(0, va_rf r0), (1, .int t.1)] []) ?_ h
  intro K_131 hK_131 t h
  obtain ⟨v135, S136⟩ := t
  show PX Z 3 S136 20 156 131 [(0, va_rf r0), (1, .int v135)] []
  unfold wst_X2_init_131 at h
  refine x_iload_n (i := 1) hC dX2_init_131 rfl 1 rfl ?_
  refine x_bipush (v := (8 : Int32)) hC dX2_init_132 (by decide) ?_
  refine x_icmp_ge (t := 174) hC dX2_init_134 (by decide) (fun c137 => ?_) (fun c137 => ?_)
  · replace h := wit_t c137 h
    refine x_getsN (nm := "FIRST_VALUES") (vs := [3, 1, 4, 1]) hC (fun _ _ _ h => h.2.2.1) (List.mem_of_getElem? (i := 1) rfl) dX2_init_174 (fun t138 ht139 => ?_)
    refine x_iconst (v := (0 : Int32)) hC dX2_init_177 (by decide) ?_
    refine x_aload_n (i := 0) hC dX2_init_178 rfl 0 rfl ?_
    obtain ⟨a140, ea141, ha142, h⟩ := h
    refine x_getR hC ea141 ha142 kf_2 11 (by decide) rfl q_58 dX2_init_179 ?_
    refine x_iconst (v := (0 : Int32)) hC dX2_init_182 (by decide) ?_
    refine x_iconst (v := (4 : Int32)) hC dX2_init_183 (by decide) ?_
    obtain ⟨a143, ea144, ha145, h⟩ := h
    obtain ⟨hc146, h⟩ := h
    obtain ⟨S147, hx148, h⟩ := wle_el h
    refine x_copyT hC q_33 q_cpn q_cps q_sys ht139 ea144 ha145 (by decide) (by decide) (by decide) (by decide) (of_decide_eq_true hc146) (Nat.le_of_ble_eq_true rfl) (Nat.le_of_ble_eq_true rfl) (Nat.le_of_ble_eq_true rfl) dX2_init_184 ?_
    refine x_tS hx148 ?_
    exact x_vret hC hQ (z_W (v := ()) h) (Nat.le_of_ble_eq_true rfl) (Nat.le_of_ble_eq_true rfl) dX2_init_187
  · replace h := wit_f c137 h
    refine x_aload_n (i := 0) hC dX2_init_137 rfl 0 rfl ?_
    obtain ⟨a149, ea150, ha151, h⟩ := h
    refine x_getR hC ea150 ha151 kf_2 0 (by decide) rfl q_36 dX2_init_138 ?_
    refine x_iload_n (i := 1) hC dX2_init_141 rfl 1 rfl ?_
    refine x_bipush (v := (15 : Int32)) hC dX2_init_142 (by decide) ?_
    obtain ⟨a152, ea153, ha154, h⟩ := h
    obtain ⟨hc155, h⟩ := h
    obtain ⟨S156, hx157, h⟩ := wle_el h
    refine x_iastore hC ea153 ha154 hc155 dX2_init_144 ?_
    refine x_tS hx157 ?_
    refine x_iconst (v := (0 : Int32)) hC dX2_init_145 (by decide) ?_
    refine x_istore_n (i := 2) (l' := [(2, .int (0 : Int32)), (0, va_rf r0), (1, .int v135)]) hC dX2_init_146 rfl (⟨fun _ => c_rf r0, ⟨fun _ => rfl, trivial⟩⟩) (by decide) rfl ?_
    refine x_sub (l' := [(0, va_rf r0), (1, .int v135), (2, .int (0 : Int32))]) [1, 2, 0] rfl ?_
    refine wlp_sim (P := fun (t : (Int32 × Int32 × PH)) => PX Z 3 t.2.2 20 156 147 [(0, va_rf r0), (1, .int t.1), (2, .int t.2.1)] []) ?_ h
    intro K_147 hK_147 t h
    obtain ⟨v158, v159, S160⟩ := t
    show PX Z 3 S160 20 156 147 [(0, va_rf r0), (1, .int v158), (2, .int v159)] []
    unfold wst_X2_init_147 at h
    refine x_iload_n (i := 2) hC dX2_init_147 rfl 2 rfl ?_
    refine x_bipush (v := (8 : Int32)) hC dX2_init_148 (by decide) ?_
    refine x_icmp_ge (t := 168) hC dX2_init_150 (by decide) (fun c161 => ?_) (fun c161 => ?_)
    · replace h := wit_t c161 h
      refine x_iinc (i := 1) (v := (v158 + (1 : Int32))) (l' := [(1, .int (v158 + (1 : Int32))), (0, va_rf r0), (2, .int v159)]) hC dX2_init_168 1 rfl rfl (⟨fun _ => c_rf r0, ⟨fun _ => rfl, ⟨fun _ => rfl, trivial⟩⟩⟩) (by decide) rfl ?_
      refine x_goto (t := 131) hC dX2_init_171 (by decide) ?_
      refine x_sub (l' := [(0, va_rf r0), (1, .int (v158 + (1 : Int32)))]) [1, 0] rfl ?_
      exact hK_131 _ h
    · replace h := wit_f c161 h
      refine x_aload_n (i := 0) hC dX2_init_153 rfl 0 rfl ?_
      obtain ⟨a162, ea163, ha164, h⟩ := h
      refine x_getR hC ea163 ha164 kf_2 10 (by decide) rfl q_56 dX2_init_154 ?_
      refine x_iload_n (i := 2) hC dX2_init_157 rfl 2 rfl ?_
      obtain ⟨a165, ea166, ha167, h⟩ := h
      obtain ⟨hc168, h⟩ := h
      refine x_aaload9 hC ea166 ha167 hc168 dX2_init_158 ?_
      refine x_iload_n (i := 1) hC dX2_init_159 rfl 1 rfl ?_
      refine x_iconst (v := (-1 : Int32)) hC dX2_init_160 (by decide) ?_
      obtain ⟨a169, ea170, ha171, h⟩ := h
      obtain ⟨hc172, h⟩ := h
      obtain ⟨S173, hx174, h⟩ := wle_el h
      refine x_iastore hC ea170 ha171 hc172 dX2_init_161 ?_
      refine x_tS hx174 ?_
      refine x_iinc (i := 2) (v := (v159 + (1 : Int32))) (l' := [(2, .int (v159 + (1 : Int32))), (0, va_rf r0), (1, .int v158)]) hC dX2_init_162 2 rfl rfl (⟨fun _ => c_rf r0, ⟨fun _ => rfl, ⟨fun _ => rfl, trivial⟩⟩⟩) (by decide) rfl ?_
      refine x_goto (t := 147) hC dX2_init_165 (by decide) ?_
      refine x_sub (l' := [(0, va_rf r0), (1, .int v158), (2, .int (v159 + (1 : Int32)))]) [1, 2, 0] rfl ?_
      exact hK_147 _ h
theorem dX2_become_0 : decode cX2_become 0 = .ok (.aload_n 1, 1) := by decide +kernel
theorem dX2_become_1 : decode cX2_become 1 = .ok (.getfield 9, 3) := by decide +kernel
theorem dX2_become_4 : decode cX2_become 4 = .ok (.iconst 0, 1) := by decide +kernel
theorem dX2_become_5 : decode cX2_become 5 = .ok (.aload_n 0, 1) := by decide +kernel
theorem dX2_become_6 : decode cX2_become 6 = .ok (.getfield 9, 3) := by decide +kernel
theorem dX2_become_9 : decode cX2_become 9 = .ok (.iconst 0, 1) := by decide +kernel
theorem dX2_become_10 : decode cX2_become 10 = .ok (.bipush 8, 2) := by decide +kernel
theorem dX2_become_12 : decode cX2_become 12 = .ok (.invokestatic 69, 3) := by decide +kernel
theorem dX2_become_15 : decode cX2_become 15 = .ok (.aload_n 1, 1) := by decide +kernel
theorem dX2_become_16 : decode cX2_become 16 = .ok (.getfield 15, 3) := by decide +kernel
theorem dX2_become_19 : decode cX2_become 19 = .ok (.iconst 0, 1) := by decide +kernel
theorem dX2_become_20 : decode cX2_become 20 = .ok (.aload_n 0, 1) := by decide +kernel
theorem dX2_become_21 : decode cX2_become 21 = .ok (.getfield 15, 3) := by decide +kernel
theorem dX2_become_24 : decode cX2_become 24 = .ok (.iconst 0, 1) := by decide +kernel
theorem dX2_become_25 : decode cX2_become 25 = .ok (.bipush 8, 2) := by decide +kernel
theorem dX2_become_27 : decode cX2_become 27 = .ok (.invokestatic 69, 3) := by decide +kernel
theorem dX2_become_30 : decode cX2_become 30 = .ok (.aload_n 1, 1) := by decide +kernel
theorem dX2_become_31 : decode cX2_become 31 = .ok (.getfield 18, 3) := by decide +kernel
theorem dX2_become_34 : decode cX2_become 34 = .ok (.iconst 0, 1) := by decide +kernel
theorem dX2_become_35 : decode cX2_become 35 = .ok (.aload_n 0, 1) := by decide +kernel
theorem dX2_become_36 : decode cX2_become 36 = .ok (.getfield 18, 3) := by decide +kernel
theorem dX2_become_39 : decode cX2_become 39 = .ok (.iconst 0, 1) := by decide +kernel
theorem dX2_become_40 : decode cX2_become 40 = .ok (.bipush 8, 2) := by decide +kernel
theorem dX2_become_42 : decode cX2_become 42 = .ok (.invokestatic 69, 3) := by decide +kernel
theorem dX2_become_45 : decode cX2_become 45 = .ok (.aload_n 1, 1) := by decide +kernel
theorem dX2_become_46 : decode cX2_become 46 = .ok (.getfield 21, 3) := by decide +kernel
theorem dX2_become_49 : decode cX2_become 49 = .ok (.iconst 0, 1) := by decide +kernel
theorem dX2_become_50 : decode cX2_become 50 = .ok (.aload_n 0, 1) := by decide +kernel
theorem dX2_become_51 : decode cX2_become 51 = .ok (.getfield 21, 3) := by decide +kernel
theorem dX2_become_54 : decode cX2_become 54 = .ok (.iconst 0, 1) := by decide +kernel
theorem dX2_become_55 : decode cX2_become 55 = .ok (.bipush 8, 2) := by decide +kernel
theorem dX2_become_57 : decode cX2_become 57 = .ok (.invokestatic 69, 3) := by decide +kernel
theorem dX2_become_60 : decode cX2_become 60 = .ok (.aload_n 1, 1) := by decide +kernel
theorem dX2_become_61 : decode cX2_become 61 = .ok (.getfield 24, 3) := by decide +kernel
theorem dX2_become_64 : decode cX2_become 64 = .ok (.iconst 0, 1) := by decide +kernel
theorem dX2_become_65 : decode cX2_become 65 = .ok (.aload_n 0, 1) := by decide +kernel
theorem dX2_become_66 : decode cX2_become 66 = .ok (.getfield 24, 3) := by decide +kernel
theorem dX2_become_69 : decode cX2_become 69 = .ok (.iconst 0, 1) := by decide +kernel
theorem dX2_become_70 : decode cX2_become 70 = .ok (.bipush 8, 2) := by decide +kernel
theorem dX2_become_72 : decode cX2_become 72 = .ok (.invokestatic 69, 3) := by decide +kernel
theorem dX2_become_75 : decode cX2_become 75 = .ok (.aload_n 1, 1) := by decide +kernel
theorem dX2_become_76 : decode cX2_become 76 = .ok (.getfield 27, 3) := by decide +kernel
theorem dX2_become_79 : decode cX2_become 79 = .ok (.iconst 0, 1) := by decide +kernel
theorem dX2_become_80 : decode cX2_become 80 = .ok (.aload_n 0, 1) := by decide +kernel
theorem dX2_become_81 : decode cX2_become 81 = .ok (.getfield 27, 3) := by decide +kernel
theorem dX2_become_84 : decode cX2_become 84 = .ok (.iconst 0, 1) := by decide +kernel
theorem dX2_become_85 : decode cX2_become 85 = .ok (.bipush 8, 2) := by decide +kernel
theorem dX2_become_87 : decode cX2_become 87 = .ok (.invokestatic 69, 3) := by decide +kernel
theorem dX2_become_90 : decode cX2_become 90 = .ok (.aload_n 1, 1) := by decide +kernel
theorem dX2_become_91 : decode cX2_become 91 = .ok (.getfield 30, 3) := by decide +kernel
theorem dX2_become_94 : decode cX2_become 94 = .ok (.iconst 0, 1) := by decide +kernel
theorem dX2_become_95 : decode cX2_become 95 = .ok (.aload_n 0, 1) := by decide +kernel
theorem dX2_become_96 : decode cX2_become 96 = .ok (.getfield 30, 3) := by decide +kernel
theorem dX2_become_99 : decode cX2_become 99 = .ok (.iconst 0, 1) := by decide +kernel
theorem dX2_become_100 : decode cX2_become 100 = .ok (.bipush 8, 2) := by decide +kernel
theorem dX2_become_102 : decode cX2_become 102 = .ok (.invokestatic 69, 3) := by decide +kernel
theorem dX2_become_105 : decode cX2_become 105 = .ok (.aload_n 1, 1) := by decide +kernel
theorem dX2_become_106 : decode cX2_become 106 = .ok (.getfield 33, 3) := by decide +kernel
theorem dX2_become_109 : decode cX2_become 109 = .ok (.iconst 0, 1) := by decide +kernel
theorem dX2_become_110 : decode cX2_become 110 = .ok (.aload_n 0, 1) := by decide +kernel
theorem dX2_become_111 : decode cX2_become 111 = .ok (.getfield 33, 3) := by decide +kernel
theorem dX2_become_114 : decode cX2_become 114 = .ok (.iconst 0, 1) := by decide +kernel
theorem dX2_become_115 : decode cX2_become 115 = .ok (.bipush 8, 2) := by decide +kernel
theorem dX2_become_117 : decode cX2_become 117 = .ok (.invokestatic 69, 3) := by decide +kernel
theorem dX2_become_120 : decode cX2_become 120 = .ok (.aload_n 1, 1) := by decide +kernel
theorem dX2_become_121 : decode cX2_become 121 = .ok (.getfield 36, 3) := by decide +kernel
theorem dX2_become_124 : decode cX2_become 124 = .ok (.iconst 0, 1) := by decide +kernel
theorem dX2_become_125 : decode cX2_become 125 = .ok (.aload_n 0, 1) := by decide +kernel
theorem dX2_become_126 : decode cX2_become 126 = .ok (.getfield 36, 3) := by decide +kernel
theorem dX2_become_129 : decode cX2_become 129 = .ok (.iconst 0, 1) := by decide +kernel
theorem dX2_become_130 : decode cX2_become 130 = .ok (.bipush 8, 2) := by decide +kernel
theorem dX2_become_132 : decode cX2_become 132 = .ok (.invokestatic 69, 3) := by decide +kernel
theorem dX2_become_135 : decode cX2_become 135 = .ok (.aload_n 1, 1) := by decide +kernel
theorem dX2_become_136 : decode cX2_become 136 = .ok (.getfield 39, 3) := by decide +kernel
theorem dX2_become_139 : decode cX2_become 139 = .ok (.iconst 0, 1) := by decide +kernel
theorem dX2_become_140 : decode cX2_become 140 = .ok (.aload_n 0, 1) := by decide +kernel
theorem dX2_become_141 : decode cX2_become 141 = .ok (.getfield 39, 3) := by decide +kernel
theorem dX2_become_144 : decode cX2_become 144 = .ok (.iconst 0, 1) := by decide +kernel
theorem dX2_become_145 : decode cX2_become 145 = .ok (.bipush 8, 2) := by decide +kernel
theorem dX2_become_147 : decode cX2_become 147 = .ok (.invokestatic 69, 3) := by decide +kernel
theorem dX2_become_150 : decode cX2_become 150 = .ok (.iconst 0, 1) := by decide +kernel
theorem dX2_become_151 : decode cX2_become 151 = .ok (.istore_n 2, 1) := by decide +kernel
theorem dX2_become_152 : decode cX2_become 152 = .ok (.iload_n 2, 1) := by decide +kernel
theorem dX2_become_153 : decode cX2_become 153 = .ok (.bipush 8, 2) := by decide +kernel
theorem dX2_become_155 : decode cX2_become 155 = .ok (.if_icmp .ge 28, 3) := by decide +kernel
theorem dX2_become_158 : decode cX2_become 158 = .ok (.aload_n 1, 1) := by decide +kernel
theorem dX2_become_159 : decode cX2_become 159 = .ok (.getfield 44, 3) := by decide +kernel
theorem dX2_become_162 : decode cX2_become 162 = .ok (.iload_n 2, 1) := by decide +kernel
theorem dX2_become_163 : decode cX2_become 163 = .ok (.aaload, 1) := by decide +kernel
theorem dX2_become_164 : decode cX2_become 164 = .ok (.iconst 0, 1) := by decide +kernel
theorem dX2_become_165 : decode cX2_become 165 = .ok (.aload_n 0, 1) := by decide +kernel
theorem dX2_become_166 : decode cX2_become 166 = .ok (.getfield 44, 3) := by decide +kernel
theorem dX2_become_169 : decode cX2_become 169 = .ok (.iload_n 2, 1) := by decide +kernel
theorem dX2_become_170 : decode cX2_become 170 = .ok (.aaload, 1) := by decide +kernel
theorem dX2_become_171 : decode cX2_become 171 = .ok (.iconst 0, 1) := by decide +kernel
theorem dX2_become_172 : decode cX2_become 172 = .ok (.bipush 8, 2) := by decide +kernel
theorem dX2_become_174 : decode cX2_become 174 = .ok (.invokestatic 69, 3) := by decide +kernel
theorem dX2_become_177 : decode cX2_become 177 = .ok (.iinc 2 1, 3) := by decide +kernel
theorem dX2_become_180 : decode cX2_become 180 = .ok (.goto (-28), 3) := by decide +kernel
theorem dX2_become_183 : decode cX2_become 183 = .ok (.aload_n 1, 1) := by decide +kernel
theorem dX2_become_184 : decode cX2_become 184 = .ok (.getfield 47, 3) := by decide +kernel
theorem dX2_become_187 : decode cX2_become 187 = .ok (.iconst 0, 1) := by decide +kernel
theorem dX2_become_188 : decode cX2_become 188 = .ok (.aload_n 0, 1) := by decide +kernel
theorem dX2_become_189 : decode cX2_become 189 = .ok (.getfield 47, 3) := by decide +kernel
theorem dX2_become_192 : decode cX2_become 192 = .ok (.iconst 0, 1) := by decide +kernel
theorem dX2_become_193 : decode cX2_become 193 = .ok (.iconst 4, 1) := by decide +kernel
theorem dX2_become_194 : decode cX2_become 194 = .ok (.invokestatic 69, 3) := by decide +kernel
theorem dX2_become_197 : decode cX2_become 197 = .ok (.aload_n 0, 1) := by decide +kernel
theorem dX2_become_198 : decode cX2_become 198 = .ok (.aload_n 1, 1) := by decide +kernel
theorem dX2_become_199 : decode cX2_become 199 = .ok (.getfield 50, 3) := by decide +kernel
theorem dX2_become_202 : decode cX2_become 202 = .ok (.putfield 50, 3) := by decide +kernel
theorem dX2_become_205 : decode cX2_become 205 = .ok (.aload_n 0, 1) := by decide +kernel
theorem dX2_become_206 : decode cX2_become 206 = .ok (.aload_n 1, 1) := by decide +kernel
theorem dX2_become_207 : decode cX2_become 207 = .ok (.getfield 54, 3) := by decide +kernel
theorem dX2_become_210 : decode cX2_become 210 = .ok (.putfield 54, 3) := by decide +kernel
theorem dX2_become_213 : decode cX2_become 213 = .ok (.aload_n 0, 1) := by decide +kernel
theorem dX2_become_214 : decode cX2_become 214 = .ok (.aload_n 1, 1) := by decide +kernel
theorem dX2_become_215 : decode cX2_become 215 = .ok (.getfield 57, 3) := by decide +kernel
theorem dX2_become_218 : decode cX2_become 218 = .ok (.putfield 57, 3) := by decide +kernel
theorem dX2_become_221 : decode cX2_become 221 = .ok (.aload_n 0, 1) := by decide +kernel
theorem dX2_become_222 : decode cX2_become 222 = .ok (.aload_n 1, 1) := by decide +kernel
theorem dX2_become_223 : decode cX2_become 223 = .ok (.getfield 60, 3) := by decide +kernel
theorem dX2_become_226 : decode cX2_become 226 = .ok (.putfield 60, 3) := by decide +kernel
theorem dX2_become_229 : decode cX2_become 229 = .ok (.aload_n 0, 1) := by decide +kernel
theorem dX2_become_230 : decode cX2_become 230 = .ok (.aload_n 1, 1) := by decide +kernel
theorem dX2_become_231 : decode cX2_become 231 = .ok (.getfield 63, 3) := by decide +kernel
theorem dX2_become_234 : decode cX2_become 234 = .ok (.putfield 63, 3) := by decide +kernel
theorem dX2_become_237 : decode cX2_become 237 = .ok (.return_, 1) := by decide +kernel
set_option maxRecDepth 100000 in
set_option maxHeartbeats 4000000 in
theorem mt_X2_become (r0 : Option Nat) (r1 : Option Nat) (S0 : PH) (y : Unit × PH) (h : m_X2_become r0 r1 S0 = some y) : MT yX2_become (.code yX2_become cX2_become 3 (Option.none : Option FieldType)) 1 60 0 0 [va_rf r0, va_rf r1] S0 (oQ e_V (qN y)) := by
  refine mt_of (own := RX2) (l0 := [(0, va_rf r0), (1, va_rf r1)]) rfl rfl (by cases r0 <;> cases r1 <;> exact Nat.le_of_ble_eq_true rfl) (by cases r0 <;> cases r1 <;> rfl) ?_
  intro Z hC hQ hE hN
  unfold m_X2_become at h
  refine x_aload_n (i := 1) hC dX2_become_0 rfl 1 rfl ?_
  replace h := dr_el h
  obtain ⟨a1, ea2, ha3, h⟩ := h
  refine x_getR hC ea2 ha3 kf_2 0 (by decide) rfl q_36 dX2_become_1 ?_
  refine x_iconst (v := (0 : Int32)) hC dX2_become_4 (by decide) ?_
  refine x_aload_n (i := 0) hC dX2_become_5 rfl 0 rfl ?_
  replace h := dr_el h
  obtain ⟨a4, ea5, ha6, h⟩ := h
  refine x_getR hC ea5 ha6 kf_2 0 (by decide) rfl q_36 dX2_become_6 ?_
  refine x_iconst (v := (0 : Int32)) hC dX2_become_9 (by decide) ?_
  refine x_bipush (v := (8 : Int32)) hC dX2_become_10 (by decide) ?_
  replace h := dr_el h
  obtain ⟨a7, ea8, ha9, h⟩ := h
  replace h := dr_el h
  obtain ⟨a10, ea11, ha12, h⟩ := h
  replace h := ck_el h
  obtain ⟨hc13, h⟩ := h
  replace h := ck_el h
  obtain ⟨hc14, h⟩ := h
  replace h := le_el h
  obtain ⟨S15, hx16, h⟩ := h
  refine x_copy hC q_33 q_cpn q_cps q_sys ea8 ha9 ea11 ha12 (by decide) (by decide) (by decide) (of_decide_eq_true hc13) (of_decide_eq_true hc14) (Nat.le_of_ble_eq_true rfl) (Nat.le_of_ble_eq_true rfl) (Nat.le_of_ble_eq_true rfl) dX2_become_12 ?_
  refine x_tS hx16 ?_
  refine x_aload_n (i := 1) hC dX2_become_15 rfl 1 rfl ?_
  replace h := dr_el h
  obtain ⟨a17, ea18, ha19, h⟩ := h
  refine x_getR hC ea18 ha19 kf_2 1 (by decide) rfl q_38 dX2_become_16 ?_
  refine x_iconst (v := (0 : Int32)) hC dX2_become_19 (by decide) ?_
  refine x_aload_n (i := 0) hC dX2_become_20 rfl 0 rfl ?_
  replace h := dr_el h
  obtain ⟨a20, ea21, ha22, h⟩ := h
  refine x_getR hC ea21 ha22 kf_2 1 (by decide) rfl q_38 dX2_become_21 ?_
  refine x_iconst (v := (0 : Int32)) hC dX2_become_24 (by decide) ?_
  refine x_bipush (v := (8 : Int32)) hC dX2_become_25 (by decide) ?_
  replace h := dr_el h
  obtain ⟨a23, ea24, ha25, h⟩ := h
  replace h := dr_el h
  obtain ⟨a26, ea27, ha28, h⟩ := h
  replace h := ck_el h
  obtain ⟨hc29, h⟩ := h
  replace h := ck_el h
  obtain ⟨hc30, h⟩ := h
  replace h := le_el h
  obtain ⟨S31, hx32, h⟩ := h
  refine x_copy hC q_33 q_cpn q_cps q_sys ea24 ha25 ea27 ha28 (by decide) (by decide) (by decide) (of_decide_eq_true hc29) (of_decide_eq_true hc30) (Nat.le_of_ble_eq_true rfl) (Nat.le_of_ble_eq_true rfl) (Nat.le_of_ble_eq_true rfl) dX2_become_27 ?_
  refine x_tS hx32 ?_
  refine x_aload_n (i := 1) hC dX2_become_30 rfl 1 rfl ?_
  replace h := dr_el h
  obtain ⟨a33, ea34, ha35, h⟩ := h
  refine x_getR hC ea34 ha35 kf_2 2 (by decide) rfl q_40 dX2_become_31 ?_
  refine x_iconst (v := (0 : Int32)) hC dX2_become_34 (by decide) ?_
  refine x_aload_n (i := 0) hC dX2_become_35 rfl 0 rfl ?_
  replace h := dr_el h
  obtain ⟨a36, ea37, ha38, h⟩ := h
  refine x_getR hC ea37 ha38 kf_2 2 (by decide) rfl q_40 dX2_become_36 ?_
  refine x_iconst (v := (0 : Int32)) hC dX2_become_39 (by decide) ?_
  refine x_bipush (v := (8 : Int32)) hC dX2_become_40 (by decide) ?_
  replace h := dr_el h
  obtain ⟨a39, ea40, ha41, h⟩ := h
  replace h := dr_el h
  obtain ⟨a42, ea43, ha44, h⟩ := h
  replace h := ck_el h
  obtain ⟨hc45, h⟩ := h
  replace h := ck_el h
  obtain ⟨hc46, h⟩ := h
  replace h := le_el h
  obtain ⟨S47, hx48, h⟩ := h
  refine x_copy hC q_33 q_cpn q_cps q_sys ea40 ha41 ea43 ha44 (by decide) (by decide) (by decide) (of_decide_eq_true hc45) (of_decide_eq_true hc46) (Nat.le_of_ble_eq_true rfl) (Nat.le_of_ble_eq_true rfl) (Nat.le_of_ble_eq_true rfl) dX2_become_42 ?_
  refine x_tS hx48 ?_
  refine x_aload_n (i := 1) hC dX2_become_45 rfl 1 rfl ?_
  replace h := dr_el h
  obtain ⟨a49, ea50, ha51, h⟩ := h
  refine x_getR hC ea50 ha51 kf_2 3 (by decide) rfl q_42 dX2_become_46 ?_
  refine x_iconst (v := (0 : Int32)) hC dX2_become_49 (by decide) ?_
  refine x_aload_n (i := 0) hC dX2_become_50 rfl 0 rfl ?_
  replace h := dr_el h
  obtain ⟨a52, ea53, ha54, h⟩ := h
  refine x_getR hC ea53 ha54 kf_2 3 (by decide) rfl q_42 dX2_become_51 ?_
  refine x_iconst (v := (0 : Int32)) hC dX2_become_54 (by decide) ?_
  refine x_bipush (v := (8 : Int32)) hC dX2_become_55 (by decide) ?_
  replace h := dr_el h
  obtain ⟨a55, ea56, ha57, h⟩ := h
  replace h := dr_el h
  obtain ⟨a58, ea59, ha60, h⟩ := h
  replace h := ck_el h
  obtain ⟨hc61, h⟩ := h
  replace h := ck_el h
  obtain ⟨hc62, h⟩ := h
  replace h := le_el h
  obtain ⟨S63, hx64, h⟩ := h
  refine x_copy hC q_33 q_cpn q_cps q_sys ea56 ha57 ea59 ha60 (by decide) (by decide) (by decide) (of_decide_eq_true hc61) (of_decide_eq_true hc62) (Nat.le_of_ble_eq_true rfl) (Nat.le_of_ble_eq_true rfl) (Nat.le_of_ble_eq_true rfl) dX2_become_57 ?_
  refine x_tS hx64 ?_
  refine x_aload_n (i := 1) hC dX2_become_60 rfl 1 rfl ?_
  replace h := dr_el h
  obtain ⟨a65, ea66, ha67, h⟩ := h
  refine x_getR hC ea66 ha67 kf_2 4 (by decide) rfl q_44 dX2_become_61 ?_
  refine x_iconst (v := (0 : Int32)) hC dX2_become_64 (by decide) ?_
  refine x_aload_n (i := 0) hC dX2_become_65 rfl 0 rfl ?_
  replace h := dr_el h
  obtain ⟨a68, ea69, ha70, h⟩ := h
  refine x_getR hC ea69 ha70 kf_2 4 (by decide) rfl q_44 dX2_become_66 ?_
  refine x_iconst (v := (0 : Int32)) hC dX2_become_69 (by decide) ?_
  refine x_bipush (v := (8 : Int32)) hC dX2_become_70 (by decide) ?_
  replace h := dr_el h
  obtain ⟨a71, ea72, ha73, h⟩ := h
  replace h := dr_el h
  obtain ⟨a74, ea75, ha76, h⟩ := h
  replace h := ck_el h
  obtain ⟨hc77, h⟩ := h
  replace h := ck_el h
  obtain ⟨hc78, h⟩ := h
  replace h := le_el h
  obtain ⟨S79, hx80, h⟩ := h
  refine x_copy hC q_33 q_cpn q_cps q_sys ea72 ha73 ea75 ha76 (by decide) (by decide) (by decide) (of_decide_eq_true hc77) (of_decide_eq_true hc78) (Nat.le_of_ble_eq_true rfl) (Nat.le_of_ble_eq_true rfl) (Nat.le_of_ble_eq_true rfl) dX2_become_72 ?_
  refine x_tS hx80 ?_
  refine x_aload_n (i := 1) hC dX2_become_75 rfl 1 rfl ?_
  replace h := dr_el h
  obtain ⟨a81, ea82, ha83, h⟩ := h
  refine x_getR hC ea82 ha83 kf_2 5 (by decide) rfl q_46 dX2_become_76 ?_
  refine x_iconst (v := (0 : Int32)) hC dX2_become_79 (by decide) ?_
  refine x_aload_n (i := 0) hC dX2_become_80 rfl 0 rfl ?_
  replace h := dr_el h
  obtain ⟨a84, ea85, ha86, h⟩ := h
  refine x_getR hC ea85 ha86 kf_2 5 (by decide) rfl q_46 dX2_become_81 ?_
  refine x_iconst (v := (0 : Int32)) hC dX2_become_84 (by decide) ?_
  refine x_bipush (v := (8 : Int32)) hC dX2_become_85 (by decide) ?_
  replace h := dr_el h
  obtain ⟨a87, ea88, ha89, h⟩ := h
  replace h := dr_el h
  obtain ⟨a90, ea91, ha92, h⟩ := h
  replace h := ck_el h
  obtain ⟨hc93, h⟩ := h
  replace h := ck_el h
  obtain ⟨hc94, h⟩ := h
  replace h := le_el h
  obtain ⟨S95, hx96, h⟩ := h
  refine x_copy hC q_33 q_cpn q_cps q_sys ea88 ha89 ea91 ha92 (by decide) (by decide) (by decide) (of_decide_eq_true hc93) (of_decide_eq_true hc94) (Nat.le_of_ble_eq_true rfl) (Nat.le_of_ble_eq_true rfl) (Nat.le_of_ble_eq_true rfl) dX2_become_87 ?_
  refine x_tS hx96 ?_
  refine x_aload_n (i := 1) hC dX2_become_90 rfl 1 rfl ?_
  replace h := dr_el h
  obtain ⟨a97, ea98, ha99, h⟩ := h
  refine x_getR hC ea98 ha99 kf_2 6 (by decide) rfl q_48 dX2_become_91 ?_
  refine x_iconst (v := (0 : Int32)) hC dX2_become_94 (by decide) ?_
  refine x_aload_n (i := 0) hC dX2_become_95 rfl 0 rfl ?_
  replace h := dr_el h
  obtain ⟨a100, ea101, ha102, h⟩ := h
  refine x_getR hC ea101 ha102 kf_2 6 (by decide) rfl q_48 dX2_become_96 ?_
  refine x_iconst (v := (0 : Int32)) hC dX2_become_99 (by decide) ?_
  refine x_bipush (v := (8 : Int32)) hC dX2_become_100 (by decide) ?_
  replace h := dr_el h
  obtain ⟨a103, ea104, ha105, h⟩ := h
  replace h := dr_el h
  obtain ⟨a106, ea107, ha108, h⟩ := h
  replace h := ck_el h
  obtain ⟨hc109, h⟩ := h
  replace h := ck_el h
  obtain ⟨hc110, h⟩ := h
  replace h := le_el h
  obtain ⟨S111, hx112, h⟩ := h
  refine x_copy hC q_33 q_cpn q_cps q_sys ea104 ha105 ea107 ha108 (by decide) (by decide) (by decide) (of_decide_eq_true hc109) (of_decide_eq_true hc110) (Nat.le_of_ble_eq_true rfl) (Nat.le_of_ble_eq_true rfl) (Nat.le_of_ble_eq_true rfl) dX2_become_102 ?_
  refine x_tS hx112 ?_
  refine x_aload_n (i := 1) hC dX2_become_105 rfl 1 rfl ?_
  replace h := dr_el h
  obtain ⟨a113, ea114, ha115, h⟩ := h
  refine x_getR hC ea114 ha115 kf_2 7 (by decide) rfl q_50 dX2_become_106 ?_
  refine x_iconst (v := (0 : Int32)) hC dX2_become_109 (by decide) ?_
  refine x_aload_n (i := 0) hC dX2_become_110 rfl 0 rfl ?_
  replace h := dr_el h
  obtain ⟨a116, ea117, ha118, h⟩ := h
  refine x_getR hC ea117 ha118 kf_2 7 (by decide) rfl q_50 dX2_become_111 ?_
  refine x_iconst (v := (0 : Int32)) hC dX2_become_114 (by decide) ?_
  refine x_bipush (v := (8 : Int32)) hC dX2_become_115 (by decide) ?_
  replace h := dr_el h
  obtain ⟨a119, ea120, ha121, h⟩ := h
  replace h := dr_el h
  obtain ⟨a122, ea123, ha124, h⟩ := h
  replace h := ck_el h
  obtain ⟨hc125, h⟩ := h
  replace h := ck_el h
  obtain ⟨hc126, h⟩ := h
  replace h := le_el h
  obtain ⟨S127, hx128, h⟩ := h
  refine x_copy hC q_33 q_cpn q_cps q_sys ea120 ha121 ea123 ha124 (by decide) (by decide) (by decide) (of_decide_eq_true hc125) (of_decide_eq_true hc126) (Nat.le_of_ble_eq_true rfl) (Nat.le_of_ble_eq_true rfl) (Nat.le_of_ble_eq_true rfl) dX2_become_117 ?_
  refine x_tS hx128 ?_
  refine x_aload_n (i := 1) hC dX2_become_120 rfl 1 rfl ?_
  replace h := dr_el h
  obtain ⟨a129, ea130, ha131, h⟩ := h
  refine x_getR hC ea130 ha131 kf_2 8 (by decide) rfl q_52 dX2_become_121 ?_
  refine x_iconst (v := (0 : Int32)) hC dX2_become_124 (by decide) ?_
  refine x_aload_n (i := 0) hC dX2_become_125 rfl 0 rfl ?_
  replace h := dr_el h
  obtain ⟨a132, ea133, ha134, h⟩ := h
  refine x_getR hC ea133 ha134 kf_2 8 (by decide) rfl q_52 dX2_become_126 ?_
  refine x_iconst (v := (0 : Int32)) hC dX2_become_129 (by decide) ?_
  refine x_bipush (v := (8 : Int32)) hC dX2_become_130 (by decide) ?_
  replace h := dr_el h
  obtain ⟨a135, ea136, ha137, h⟩ := h
  replace h := dr_el h
  obtain ⟨a138, ea139, ha140, h⟩ := h
  replace h := ck_el h
  obtain ⟨hc141, h⟩ := h
  replace h := ck_el h
  obtain ⟨hc142, h⟩ := h
  replace h := le_el h
  obtain ⟨S143, hx144, h⟩ := h
  refine x_copy hC q_33 q_cpn q_cps q_sys ea136 ha137 ea139 ha140 (by decide) (by decide) (by decide) (of_decide_eq_true hc141) (of_decide_eq_true hc142) (Nat.le_of_ble_eq_true rfl) (Nat.le_of_ble_eq_true rfl) (Nat.le_of_ble_eq_true rfl) dX2_become_132 ?_
  refine x_tS hx144 ?_
  refine x_aload_n (i := 1) hC dX2_become_135 rfl 1 rfl ?_
  replace h := dr_el h
  obtain ⟨a145, ea146, ha147, h⟩ := h
  refine x_getR hC ea146 ha147 kf_2 9 (by decide) rfl q_54 dX2_become_136 ?_
  refine x_iconst (v := (0 : Int32)) hC dX2_become_139 (by decide) ?_
  refine x_aload_n (i := 0) hC dX2_become_140 rfl 0 rfl ?_
  replace h := dr_el h
  obtain ⟨a148, ea149, ha150, h⟩ := h
  refine x_getR hC ea149 ha150 kf_2 9 (by decide) rfl q_54 dX2_become_141 ?_
  refine x_iconst (v := (0 : Int32)) hC dX2_become_144 (by decide) ?_
  refine x_bipush (v := (8 : Int32)) hC dX2_become_145 (by decide) ?_
  replace h := dr_el h
  obtain ⟨a151, ea152, ha153, h⟩ := h
  replace h := dr_el h
  obtain ⟨a154, ea155, ha156, h⟩ := h
  replace h := ck_el h
  obtain ⟨hc157, h⟩ := h
  replace h := ck_el h
  obtain ⟨hc158, h⟩ := h
  replace h := le_el h
  obtain ⟨S159, hx160, h⟩ := h
  refine x_copy hC q_33 q_cpn q_cps q_sys ea152 ha153 ea155 ha156 (by decide) (by decide) (by decide) (of_decide_eq_true hc157) (of_decide_eq_true hc158) (Nat.le_of_ble_eq_true rfl) (Nat.le_of_ble_eq_true rfl) (Nat.le_of_ble_eq_true rfl) dX2_become_147 ?_
  refine x_tS hx160 ?_
  refine x_iconst (v := (0 : Int32)) hC dX2_become_150 (by decide) ?_
  refine x_istore_n (i := 2) (l' := [(2, .int (0 : Int32)), (0, va_rf r0), (1, va_rf r1)]) hC dX2_become_151 rfl (⟨fun _ => c_rf r0, ⟨fun _ => c_rf r1, trivial⟩⟩) (by decide) rfl ?_
  refine x_sub (l' := [(0, va_rf r0), (1, va_rf r1), (2, .int (0 : Int32))]) [1, 2, 0] rfl ?_
  refine lp_sim (P := fun (t : (Int32 × PH)) => PX Z 3 t.2 0 0 152 [(0, va_rf r0), (1, va_rf r1), (2, .int t.1)] []) (G := fun r => r = y) ?_ h rfl
  clear h
  intro t x_152 h hg_152
  obtain ⟨v161, S162⟩ := t
  show PX Z 3 S162 0 0 152 [(0, va_rf r0), (1, va_rf r1), (2, .int v161)] []
  unfold st_X2_become_152 at h
  refine x_iload_n (i := 2) hC dX2_become_152 rfl 2 rfl ?_
  refine x_bipush (v := (8 : Int32)) hC dX2_become_153 (by decide) ?_
  refine x_icmp_ge (t := 183) hC dX2_become_155 (by decide) (fun c163 => ?_) (fun c163 => ?_)
  · replace h := it_t c163 h
    replace h := ir_x h hg_152
    refine x_aload_n (i := 1) hC dX2_become_183 rfl 1 rfl ?_
    replace h := dr_el h
    obtain ⟨a164, ea165, ha166, h⟩ := h
    refine x_getR hC ea165 ha166 kf_2 11 (by decide) rfl q_58 dX2_become_184 ?_
    refine x_iconst (v := (0 : Int32)) hC dX2_become_187 (by decide) ?_
    refine x_aload_n (i := 0) hC dX2_become_188 rfl 0 rfl ?_
    replace h := dr_el h
    obtain ⟨a167, ea168, ha169, h⟩ := h
    refine x_getR hC ea168 ha169 kf_2 11 (by decide) rfl q_58 dX2_become_189 ?_
    refine x_iconst (v := (0 : Int32)) hC dX2_become_192 (by decide) ?_
    refine x_iconst (v := (4 : Int32)) hC dX2_become_193 (by decide) ?_
    replace h := dr_el h
    obtain ⟨a170, ea171, ha172, h⟩ := h
    replace h := dr_el h
    obtain ⟨a173, ea174, ha175, h⟩ := h
    replace h := ck_el h
    obtain ⟨hc176, h⟩ := h
    replace h := ck_el h
    obtain ⟨hc177, h⟩ := h
    replace h := le_el h
    obtain ⟨S178, hx179, h⟩ := h
    refine x_copy hC q_33 q_cpn q_cps q_sys ea171 ha172 ea174 ha175 (by decide) (by decide) (by decide) (of_decide_eq_true hc176) (of_decide_eq_true hc177) (Nat.le_of_ble_eq_true rfl) (Nat.le_of_ble_eq_true rfl) (Nat.le_of_ble_eq_true rfl) dX2_become_194 ?_
    refine x_tS hx179 ?_
    refine x_aload_n (i := 0) hC dX2_become_197 rfl 0 rfl ?_
    refine x_aload_n (i := 1) hC dX2_become_198 rfl 1 rfl ?_
    replace h := dr_el h
    obtain ⟨a180, ea181, ha182, h⟩ := h
    refine x_getI hC ea181 ha182 kf_2 12 (by decide) rfl q_60 dX2_become_199 ?_
    replace h := dr_el h
    obtain ⟨a183, ea184, ha185, h⟩ := h
    replace h := le_el h
    obtain ⟨S186, hx187, h⟩ := h
    refine x_putI hC ea184 ha185 kf_2 12 (by decide) rfl rfl q_60 (Or.inl rfl) dX2_become_202 ?_
    refine x_tS hx187 ?_
    refine x_aload_n (i := 0) hC dX2_become_205 rfl 0 rfl ?_
    refine x_aload_n (i := 1) hC dX2_become_206 rfl 1 rfl ?_
    replace h := dr_el h
    obtain ⟨a188, ea189, ha190, h⟩ := h
    refine x_getI hC ea189 ha190 kf_2 13 (by decide) rfl q_62 dX2_become_207 ?_
    replace h := dr_el h
    obtain ⟨a191, ea192, ha193, h⟩ := h
    replace h := le_el h
    obtain ⟨S194, hx195, h⟩ := h
    refine x_putI hC ea192 ha193 kf_2 13 (by decide) rfl rfl q_62 (Or.inl rfl) dX2_become_210 ?_
    refine x_tS hx195 ?_
    refine x_aload_n (i := 0) hC dX2_become_213 rfl 0 rfl ?_
    refine x_aload_n (i := 1) hC dX2_become_214 rfl 1 rfl ?_
    replace h := dr_el h
    obtain ⟨a196, ea197, ha198, h⟩ := h
    refine x_getI hC ea197 ha198 kf_2 14 (by decide) rfl q_64 dX2_become_215 ?_
    replace h := dr_el h
    obtain ⟨a199, ea200, ha201, h⟩ := h
    replace h := le_el h
    obtain ⟨S202, hx203, h⟩ := h
    refine x_putI hC ea200 ha201 kf_2 14 (by decide) rfl rfl q_64 (Or.inl rfl) dX2_become_218 ?_
    refine x_tS hx203 ?_
    refine x_aload_n (i := 0) hC dX2_become_221 rfl 0 rfl ?_
    refine x_aload_n (i := 1) hC dX2_become_222 rfl 1 rfl ?_
    replace h := dr_el h
    obtain ⟨a204, ea205, ha206, h⟩ := h
    refine x_getI hC ea205 ha206 kf_2 15 (by decide) rfl q_66 dX2_become_223 ?_
    replace h := dr_el h
    obtain ⟨a207, ea208, ha209, h⟩ := h
    replace h := le_el h
    obtain ⟨S210, hx211, h⟩ := h
    refine x_putI hC ea208 ha209 kf_2 15 (by decide) rfl rfl q_66 (Or.inl rfl) dX2_become_226 ?_
    refine x_tS hx211 ?_
    refine x_aload_n (i := 0) hC dX2_become_229 rfl 0 rfl ?_
    refine x_aload_n (i := 1) hC dX2_become_230 rfl 1 rfl ?_
    replace h := dr_el h
    obtain ⟨a212, ea213, ha214, h⟩ := h
    refine x_getI hC ea213 ha214 kf_2 16 (by decide) rfl q_68 dX2_become_231 ?_
    replace h := dr_el h
    obtain ⟨a215, ea216, ha217, h⟩ := h
    replace h := le_el h
    obtain ⟨S218, hx219, h⟩ := h
    refine x_putI hC ea216 ha217 kf_2 16 (by decide) rfl rfl q_68 (Or.inl rfl) dX2_become_234 ?_
    refine x_tS hx219 ?_
    exact x_vret hC hQ (z_N (v := ()) (Option.some.inj h)) (Nat.le_of_ble_eq_true rfl) (Nat.le_of_ble_eq_true rfl) dX2_become_237
  · replace h := it_f c163 h
    refine x_aload_n (i := 1) hC dX2_become_158 rfl 1 rfl ?_
    replace h := dr_el h
    obtain ⟨a220, ea221, ha222, h⟩ := h
    refine x_getR hC ea221 ha222 kf_2 10 (by decide) rfl q_56 dX2_become_159 ?_
    refine x_iload_n (i := 2) hC dX2_become_162 rfl 2 rfl ?_
    replace h := dr_el h
    obtain ⟨a223, ea224, ha225, h⟩ := h
    replace h := ck_el h
    obtain ⟨hc226, h⟩ := h
    refine x_aaload9 hC ea224 ha225 hc226 dX2_become_163 ?_
    refine x_iconst (v := (0 : Int32)) hC dX2_become_164 (by decide) ?_
    refine x_aload_n (i := 0) hC dX2_become_165 rfl 0 rfl ?_
    replace h := dr_el h
    obtain ⟨a227, ea228, ha229, h⟩ := h
    refine x_getR hC ea228 ha229 kf_2 10 (by decide) rfl q_56 dX2_become_166 ?_
    refine x_iload_n (i := 2) hC dX2_become_169 rfl 2 rfl ?_
    replace h := dr_el h
    obtain ⟨a230, ea231, ha232, h⟩ := h
    replace h := ck_el h
    obtain ⟨hc233, h⟩ := h
    refine x_aaload9 hC ea231 ha232 hc233 dX2_become_170 ?_
    refine x_iconst (v := (0 : Int32)) hC dX2_become_171 (by decide) ?_
    refine x_bipush (v := (8 : Int32)) hC dX2_become_172 (by decide) ?_
    replace h := dr_el h
    obtain ⟨a234, ea235, ha236, h⟩ := h
    replace h := dr_el h
    obtain ⟨a237, ea238, ha239, h⟩ := h
    replace h := ck_el h
    obtain ⟨hc240, h⟩ := h
    replace h := ck_el h
    obtain ⟨hc241, h⟩ := h
    replace h := le_el h
    obtain ⟨S242, hx243, h⟩ := h
    refine x_copy hC q_33 q_cpn q_cps q_sys ea235 ha236 ea238 ha239 (by decide) (by decide) (by decide) (of_decide_eq_true hc240) (of_decide_eq_true hc241) (Nat.le_of_ble_eq_true rfl) (Nat.le_of_ble_eq_true rfl) (Nat.le_of_ble_eq_true rfl) dX2_become_174 ?_
    refine x_tS hx243 ?_
    refine x_iinc (i := 2) (v := (v161 + (1 : Int32))) (l' := [(2, .int (v161 + (1 : Int32))), (0, va_rf r0), (1, va_rf r1)]) hC dX2_become_177 2 rfl rfl (⟨fun _ => c_rf r0, ⟨fun _ => c_rf r1, ⟨fun _ => rfl, trivial⟩⟩⟩) (by decide) rfl ?_
    refine x_goto (t := 152) hC dX2_become_180 (by decide) ?_
    refine x_sub (l' := [(0, va_rf r0), (1, va_rf r1), (2, .int (v161 + (1 : Int32)))]) [1, 2, 0] rfl ?_
    have hb := bk_x h hg_152
    exact hb
theorem dX0_save_0 : decode cX0_save 0 = .ok (.aload_n 0, 1) := by decide +kernel
theorem dX0_save_1 : decode cX0_save 1 = .ok (.getfield 11, 3) := by decide +kernel
theorem dX0_save_4 : decode cX0_save 4 = .ok (.aload_n 0, 1) := by decide +kernel
theorem dX0_save_5 : decode cX0_save 5 = .ok (.getfield 17, 3) := by decide +kernel
theorem dX0_save_8 : decode cX0_save 8 = .ok (.aaload, 1) := by decide +kernel
theorem dX0_save_9 : decode cX0_save 9 = .ok (.astore_n 2, 1) := by decide +kernel
theorem dX0_save_10 : decode cX0_save 10 = .ok (.aload_n 2, 1) := by decide +kernel
theorem dX0_save_11 : decode cX0_save 11 = .ok (.ifnonnull 21, 3) := by decide +kernel
theorem dX0_save_14 : decode cX0_save 14 = .ok (.new 9, 3) := by decide +kernel
theorem dX0_save_17 : decode cX0_save 17 = .ok (.dup, 1) := by decide +kernel
theorem dX0_save_18 : decode cX0_save 18 = .ok (.invokespecial 24, 3) := by decide +kernel
theorem dX0_save_21 : decode cX0_save 21 = .ok (.astore_n 2, 1) := by decide +kernel
theorem dX0_save_22 : decode cX0_save 22 = .ok (.aload_n 0, 1) := by decide +kernel
theorem dX0_save_23 : decode cX0_save 23 = .ok (.getfield 11, 3) := by decide +kernel
theorem dX0_save_26 : decode cX0_save 26 = .ok (.aload_n 0, 1) := by decide +kernel
theorem dX0_save_27 : decode cX0_save 27 = .ok (.getfield 17, 3) := by decide +kernel
theorem dX0_save_30 : decode cX0_save 30 = .ok (.aload_n 2, 1) := by decide +kernel
theorem dX0_save_31 : decode cX0_save 31 = .ok (.aastore, 1) := by decide +kernel
theorem dX0_save_32 : decode cX0_save 32 = .ok (.aload_n 2, 1) := by decide +kernel
theorem dX0_save_33 : decode cX0_save 33 = .ok (.aload_n 1, 1) := by decide +kernel
theorem dX0_save_34 : decode cX0_save 34 = .ok (.invokevirtual 25, 3) := by decide +kernel
theorem dX0_save_37 : decode cX0_save 37 = .ok (.aload_n 0, 1) := by decide +kernel
theorem dX0_save_38 : decode cX0_save 38 = .ok (.aload_n 0, 1) := by decide +kernel
theorem dX0_save_39 : decode cX0_save 39 = .ok (.getfield 17, 3) := by decide +kernel
theorem dX0_save_42 : decode cX0_save 42 = .ok (.iconst 1, 1) := by decide +kernel
theorem dX0_save_43 : decode cX0_save 43 = .ok (.iadd, 1) := by decide +kernel
theorem dX0_save_44 : decode cX0_save 44 = .ok (.bipush 6, 2) := by decide +kernel
theorem dX0_save_46 : decode cX0_save 46 = .ok (.if_icmp .ge 12, 3) := by decide +kernel
theorem dX0_save_49 : decode cX0_save 49 = .ok (.aload_n 0, 1) := by decide +kernel
theorem dX0_save_50 : decode cX0_save 50 = .ok (.getfield 17, 3) := by decide +kernel
theorem dX0_save_53 : decode cX0_save 53 = .ok (.iconst 1, 1) := by decide +kernel
theorem dX0_save_54 : decode cX0_save 54 = .ok (.iadd, 1) := by decide +kernel
theorem dX0_save_55 : decode cX0_save 55 = .ok (.goto 4, 3) := by decide +kernel
theorem dX0_save_58 : decode cX0_save 58 = .ok (.iconst 0, 1) := by decide +kernel
theorem dX0_save_59 : decode cX0_save 59 = .ok (.putfield 17, 3) := by decide +kernel
theorem dX0_save_62 : decode cX0_save 62 = .ok (.aload_n 0, 1) := by decide +kernel
theorem dX0_save_63 : decode cX0_save 63 = .ok (.bipush 6, 2) := by decide +kernel
theorem dX0_save_65 : decode cX0_save 65 = .ok (.aload_n 0, 1) := by decide +kernel
theorem dX0_save_66 : decode cX0_save 66 = .ok (.getfield 21, 3) := by decide +kernel
theorem dX0_save_69 : decode cX0_save 69 = .ok (.iconst 1, 1) := by decide +kernel
theorem dX0_save_70 : decode cX0_save 70 = .ok (.iadd, 1) := by decide +kernel
theorem dX0_save_71 : decode cX0_save 71 = .ok (.invokestatic 29, 3) := by decide +kernel
theorem dX0_save_74 : decode cX0_save 74 = .ok (.putfield 21, 3) := by decide +kernel
theorem dX0_save_77 : decode cX0_save 77 = .ok (.return_, 1) := by decide +kernel
set_option maxRecDepth 100000 in
set_option maxHeartbeats 4000000 in
theorem mt_X0_save (r0 : Option Nat) (r1 : Option Nat) (S0 : PH) (Q : (Nat ⊕ Unit) → PH → Prop) (h : w_X0_save r0 r1 S0 Q) : MT yX0_save (.code yX0_save cX0_save 3 (Option.none : Option FieldType)) 2 82 21 173 [va_rf r0, va_rf r1] S0 (oQ e_V Q) := by
  refine mt_of (own := RX0) (l0 := [(0, va_rf r0), (1, va_rf r1)]) rfl rfl (by cases r0 <;> cases r1 <;> exact Nat.le_of_ble_eq_true rfl) (by cases r0 <;> cases r1 <;> rfl) ?_
  intro Z hC hQ hE hN
  have J_59 : ∀ (v23 : Option Nat) (v24 : Int32) (S25 : PH), wj_X0_save_59 r0 r1 Q v23 v24 S25 → PX Z 3 S25 21 173 59 [(0, va_rf r0), (1, va_rf r1)] [.int v24, va_rf v23] := by
    intro v23 v24 S25 h
    unfold wj_X0_save_59 at h
    obtain ⟨a26, ea27, ha28, h⟩ := h
    obtain ⟨S29, hx30, h⟩ := wle_el h
    refine x_putI hC ea27 ha28 kf_0 1 (by decide) rfl rfl q_115 (Or.inl rfl) dX0_save_59 ?_
    refine x_tS hx30 ?_
    refine x_aload_n (i := 0) hC dX0_save_62 rfl 0 rfl ?_
    refine x_bipush (v := (6 : Int32)) hC dX0_save_63 (by decide) ?_
    refine x_aload_n (i := 0) hC dX0_save_65 rfl 0 rfl ?_
    obtain ⟨a31, ea32, ha33, h⟩ := h
    refine x_getI hC ea32 ha33 kf_0 2 (by decide) rfl q_116 dX0_save_66 ?_
    refine x_iconst (v := (1 : Int32)) hC dX0_save_69 (by decide) ?_
    refine x_iadd hC dX0_save_70 ?_
    refine x_mm (lo := true) hC q_289 q_mins q_mai q_minc (Nat.le_of_ble_eq_true rfl) ⟨Nat.le_of_ble_eq_true rfl, Nat.le_of_ble_eq_true rfl⟩ ⟨Nat.le_of_ble_eq_true rfl, Nat.le_of_ble_eq_true rfl⟩ dX0_save_71 ?_
    refine x_tI (b := (mmin (6 : Int32) ((p_I S29 a31 2) + (1 : Int32)))) rfl ?_
    obtain ⟨S34, hx35, h⟩ := wle_el h
    refine x_putI hC ea32 ha33 kf_0 2 (by decide) rfl rfl q_116 (Or.inl rfl) dX0_save_74 ?_
    refine x_tS hx35 ?_
    exact x_vret hC hQ (z_W (v := ()) h) (Nat.le_of_ble_eq_true rfl) (Nat.le_of_ble_eq_true rfl) dX0_save_77
  have J_32 : ∀ (v11 : Option Nat) (S12 : PH), wj_X0_save_32 r0 r1 Q v11 S12 → PX Z 3 S12 21 173 32 [(0, va_rf r0), (1, va_rf r1), (2, va_rf v11)] [] := by
    intro v11 S12 h
    unfold wj_X0_save_32 at h
    refine x_aload_n (i := 2) hC dX0_save_32 rfl 2 rfl ?_
    refine x_aload_n (i := 1) hC dX0_save_33 rfl 1 rfl ?_
    obtain ⟨a13, ea14, ha15, h⟩ := h
    obtain ⟨v16, S17, hb18, h⟩ := h
    refine x_callV hC (st := []) (mt_X2_become _ _ _ _ hb18) ea14 ha15 kf_2 q_285 q_286 q_287 q_2 q_288 ⟨rfl, hy_X2_become⟩ ⟨Nat.le_of_ble_eq_true rfl, Nat.le_of_ble_eq_true rfl⟩ ⟨Nat.le_of_ble_eq_true rfl, Nat.le_of_ble_eq_true rfl⟩ rfl (Nat.le_of_ble_eq_true rfl) dX0_save_34 (r_N ?_) r_NX
    show PX Z 3 S17 21 173 37 [(0, va_rf r0), (1, va_rf r1), (2, va_rf v11)] []
    refine x_aload_n (i := 0) hC dX0_save_37 rfl 0 rfl ?_
    refine x_aload_n (i := 0) hC dX0_save_38 rfl 0 rfl ?_
    obtain ⟨a19, ea20, ha21, h⟩ := h
    refine x_getI hC ea20 ha21 kf_0 1 (by decide) rfl q_115 dX0_save_39 ?_
    refine x_iconst (v := (1 : Int32)) hC dX0_save_42 (by decide) ?_
    refine x_iadd hC dX0_save_43 ?_
    refine x_bipush (v := (6 : Int32)) hC dX0_save_44 (by decide) ?_
    refine x_icmp_ge (t := 58) hC dX0_save_46 (by decide) (fun c22 => ?_) (fun c22 => ?_)
    · replace h := wit_t c22 h
      refine x_iconst (v := (0 : Int32)) hC dX0_save_58 (by decide) ?_
      refine x_sub (l' := [(0, va_rf r0), (1, va_rf r1)]) [0, 1] rfl ?_
      exact J_59 _ _ _ h
    · replace h := wit_f c22 h
      refine x_aload_n (i := 0) hC dX0_save_49 rfl 0 rfl ?_
      refine x_getI hC ea20 ha21 kf_0 1 (by decide) rfl q_115 dX0_save_50 ?_
      refine x_iconst (v := (1 : Int32)) hC dX0_save_53 (by decide) ?_
      refine x_iadd hC dX0_save_54 ?_
      refine x_goto (t := 59) hC dX0_save_55 (by decide) ?_
      refine x_sub (l' := [(0, va_rf r0), (1, va_rf r1)]) [0, 1] rfl ?_
      exact J_59 _ _ _ h
  unfold w_X0_save at h
  refine x_aload_n (i := 0) hC dX0_save_0 rfl 0 rfl ?_
  obtain ⟨a1, ea2, ha3, h⟩ := h
  refine x_getR hC ea2 ha3 kf_0 0 (by decide) rfl q_114 dX0_save_1 ?_
  refine x_aload_n (i := 0) hC dX0_save_4 rfl 0 rfl ?_
  refine x_getI hC ea2 ha3 kf_0 1 (by decide) rfl q_115 dX0_save_5 ?_
  obtain ⟨a4, ea5, ha6, h⟩ := h
  obtain ⟨hc7, h⟩ := h
  refine x_aaload8 hC ea5 ha6 hc7 dX0_save_8 ?_
  obtain ⟨r8, hx9, h⟩ := wle_el h
  refine x_tA hx9 ?_
  refine x_astore_n (i := 2) (l' := [(2, va_rf r8), (0, va_rf r0), (1, va_rf r1)]) hC dX0_save_9 rfl (⟨fun _ => c_rf r0, ⟨fun _ => c_rf r1, trivial⟩⟩) (by decide) rfl ?_
  refine x_aload_n (i := 2) hC dX0_save_10 rfl 0 rfl ?_
  refine x_ifnonnull (t := 32) hC dX0_save_11 (by decide) (fun c10 => ?_) (fun c10 => ?_)
  · replace h := wit_t c10 h
    refine x_sub (l' := [(0, va_rf r0), (1, va_rf r1), (2, va_rf r8)]) [1, 2, 0] rfl ?_
    refine x_wid (k' := 21) (n' := 173) (by decide) (by decide) ?_
    exact J_32 _ _ h
  · replace h := wit_f c10 h
    refine x_new hC kf_2 q_112 q_24 q_2 (by decide) (Nat.le_of_ble_eq_true rfl) (Nat.le_of_ble_eq_true rfl) dX0_save_14 (fun q36 hq37 => ?_)
    replace h := h q36 hq37
    obtain ⟨S38, hx39, h⟩ := wle_el h
    refine x_tS hx39 ?_
    refine x_dup hC dX0_save_17 (c_rf (some q36)) ?_
    obtain ⟨a40, ea41, ha42, h⟩ := h
    refine x_callI hC (st := [va_rf (some q36)]) (mt_X2_init _ _ _ h) ea41 q_284 q_26 q_2 q_27 rfl hy_X2_init ⟨Nat.le_of_ble_eq_true rfl, Nat.le_of_ble_eq_true rfl⟩ ⟨Nat.le_of_ble_eq_true rfl, Nat.le_of_ble_eq_true rfl⟩ rfl (Nat.le_of_ble_eq_true rfl) dX0_save_18 (r_W (fun v43 S44 h => ?_)) (r_Wx (fun _ _ h => (wq_l h).elim))
    replace h := wq_r h
    show PX Z 3 S44 21 173 21 [(2, va_rf r8), (0, va_rf r0), (1, va_rf r1)] [va_rf (some q36)]
    obtain ⟨r47, hx48, h⟩ := wle_el h
    refine x_tA hx48 ?_
    refine x_astore_n (i := 2) (l' := [(2, va_rf r47), (0, va_rf r0), (1, va_rf r1)]) hC dX0_save_21 rfl (⟨fun _ => c_rf r8, ⟨fun _ => c_rf r0, ⟨fun _ => c_rf r1, trivial⟩⟩⟩) (by decide) rfl ?_
    refine x_aload_n (i := 0) hC dX0_save_22 rfl 1 rfl ?_
    obtain ⟨a49, ea50, ha51, h⟩ := h
    refine x_getR hC ea50 ha51 kf_0 0 (by decide) rfl q_114 dX0_save_23 ?_
    refine x_aload_n (i := 0) hC dX0_save_26 rfl 1 rfl ?_
    refine x_getI hC ea50 ha51 kf_0 1 (by decide) rfl q_115 dX0_save_27 ?_
    refine x_aload_n (i := 2) hC dX0_save_30 rfl 0 rfl ?_
    obtain ⟨a52, ea53, ha54, h⟩ := h
    obtain ⟨a55, ea56, ha57, h⟩ := h
    obtain ⟨hc58, h⟩ := h
    obtain ⟨S59, hx60, h⟩ := wle_el h
    refine x_aastore8 (v := 0) hC ea53 ha54 ea56 ha57 hc58 dX0_save_31 ?_
    refine x_tS hx60 ?_
    refine x_sub (l' := [(0, va_rf r0), (1, va_rf r1), (2, va_rf r47)]) [1, 2, 0] rfl ?_
    exact J_32 _ _ h
theorem dX0_beforeNext_0 : decode cX0_beforeNext 0 = .ok (.aload_n 0, 1) := by decide +kernel
theorem dX0_beforeNext_1 : decode cX0_beforeNext 1 = .ok (.getfield 17, 3) := by decide +kernel
theorem dX0_beforeNext_4 : decode cX0_beforeNext 4 = .ok (.ifCond .le 12, 3) := by decide +kernel
theorem dX0_beforeNext_7 : decode cX0_beforeNext 7 = .ok (.aload_n 0, 1) := by decide +kernel
theorem dX0_beforeNext_8 : decode cX0_beforeNext 8 = .ok (.getfield 17, 3) := by decide +kernel
theorem dX0_beforeNext_11 : decode cX0_beforeNext 11 = .ok (.iconst 1, 1) := by decide +kernel
theorem dX0_beforeNext_12 : decode cX0_beforeNext 12 = .ok (.isub, 1) := by decide +kernel
theorem dX0_beforeNext_13 : decode cX0_beforeNext 13 = .ok (.goto 4, 3) := by decide +kernel
theorem dX0_beforeNext_16 : decode cX0_beforeNext 16 = .ok (.iconst 5, 1) := by decide +kernel
theorem dX0_beforeNext_17 : decode cX0_beforeNext 17 = .ok (.ireturn, 1) := by decide +kernel
set_option maxRecDepth 100000 in
set_option maxHeartbeats 4000000 in
theorem mt_X0_beforeNext (r0 : Option Nat) (S0 : PH) (y : Int32 × PH) (h : m_X0_beforeNext r0 S0 = some y) : MT yX0_beforeNext (.code yX0_beforeNext cX0_beforeNext 1 (Option.some FieldType.int)) 0 0 0 0 [va_rf r0] S0 (oQ e_I (qN y)) := by
  refine mt_of (own := RX0) (l0 := [(0, va_rf r0)]) rfl rfl (by cases r0 <;> exact Nat.le_of_ble_eq_true rfl) (by cases r0 <;> rfl) ?_
  intro Z hC hQ hE hN
  unfold m_X0_beforeNext at h
  refine x_aload_n (i := 0) hC dX0_beforeNext_0 rfl 0 rfl ?_
  replace h := dr_el h
  obtain ⟨a1, ea2, ha3, h⟩ := h
  refine x_getI hC ea2 ha3 kf_0 1 (by decide) rfl q_115 dX0_beforeNext_1 ?_
  refine x_if_le (t := 16) hC dX0_beforeNext_4 (by decide) (fun c4 => ?_) (fun c4 => ?_)
  · replace h := it_t c4 h
    refine x_iconst (v := (5 : Int32)) hC dX0_beforeNext_16 (by decide) ?_
    exact x_iret hC hQ (z_N (Option.some.inj h)) (Nat.le_of_ble_eq_true rfl) (Nat.le_of_ble_eq_true rfl) dX0_beforeNext_17
  · replace h := it_f c4 h
    refine x_aload_n (i := 0) hC dX0_beforeNext_7 rfl 0 rfl ?_
    refine x_getI hC ea2 ha3 kf_0 1 (by decide) rfl q_115 dX0_beforeNext_8 ?_
    refine x_iconst (v := (1 : Int32)) hC dX0_beforeNext_11 (by decide) ?_
    refine x_isub hC dX0_beforeNext_12 ?_
    refine x_goto (t := 17) hC dX0_beforeNext_13 (by decide) ?_
    exact x_iret hC hQ (z_N (Option.some.inj h)) (Nat.le_of_ble_eq_true rfl) (Nat.le_of_ble_eq_true rfl) dX0_beforeNext_17
theorem dX0_latest_0 : decode cX0_latest 0 = .ok (.aload_n 0, 1) := by decide +kernel
theorem dX0_latest_1 : decode cX0_latest 1 = .ok (.getfield 21, 3) := by decide +kernel
theorem dX0_latest_4 : decode cX0_latest 4 = .ok (.ifCond .le 15, 3) := by decide +kernel
theorem dX0_latest_7 : decode cX0_latest 7 = .ok (.aload_n 0, 1) := by decide +kernel
theorem dX0_latest_8 : decode cX0_latest 8 = .ok (.getfield 11, 3) := by decide +kernel
theorem dX0_latest_11 : decode cX0_latest 11 = .ok (.aload_n 0, 1) := by decide +kernel
theorem dX0_latest_12 : decode cX0_latest 12 = .ok (.invokevirtual 35, 3) := by decide +kernel
theorem dX0_latest_15 : decode cX0_latest 15 = .ok (.aaload, 1) := by decide +kernel
theorem dX0_latest_16 : decode cX0_latest 16 = .ok (.goto 4, 3) := by decide +kernel
theorem dX0_latest_19 : decode cX0_latest 19 = .ok (.aconst_null, 1) := by decide +kernel
theorem dX0_latest_20 : decode cX0_latest 20 = .ok (.areturn, 1) := by decide +kernel
set_option maxRecDepth 100000 in
set_option maxHeartbeats 4000000 in
theorem mt_X0_latest (r0 : Option Nat) (S0 : PH) (y : Option Nat × PH) (h : m_X0_latest r0 S0 = some y) : MT yX0_latest (.code yX0_latest cX0_latest 1 (Option.some (FieldType.object "TokenReviews$State"))) 1 20 0 0 [va_rf r0] S0 (oQ e_A (qN y)) := by
  refine mt_of (own := RX0) (l0 := [(0, va_rf r0)]) rfl rfl (by cases r0 <;> exact Nat.le_of_ble_eq_true rfl) (by cases r0 <;> rfl) ?_
  intro Z hC hQ hE hN
  unfold m_X0_latest at h
  refine x_aload_n (i := 0) hC dX0_latest_0 rfl 0 rfl ?_
  replace h := dr_el h
  obtain ⟨a1, ea2, ha3, h⟩ := h
  refine x_getI hC ea2 ha3 kf_0 2 (by decide) rfl q_116 dX0_latest_1 ?_
  refine x_if_le (t := 19) hC dX0_latest_4 (by decide) (fun c4 => ?_) (fun c4 => ?_)
  · replace h := it_t c4 h
    refine x_null hC dX0_latest_19 ?_
    exact x_aret hC hQ (Or.inl ⟨_, rfl⟩) (z_N (Option.some.inj h)) (Nat.le_of_ble_eq_true rfl) (Nat.le_of_ble_eq_true rfl) dX0_latest_20
  · replace h := it_f c4 h
    refine x_aload_n (i := 0) hC dX0_latest_7 rfl 0 rfl ?_
    refine x_getR hC ea2 ha3 kf_0 0 (by decide) rfl q_114 dX0_latest_8 ?_
    refine x_aload_n (i := 0) hC dX0_latest_11 rfl 0 rfl ?_
    replace h := bd_el h
    obtain ⟨v5, S6, hb7, h⟩ := h
    refine x_callV hC (st := [va_rf (p_R S0 a1 0)]) (mt_X0_beforeNext _ _ _ hb7) ea2 ha3 kf_0 q_394 q_395 q_396 q_4 q_397 ⟨rfl, hy_X0_beforeNext⟩ ⟨Nat.le_of_ble_eq_true rfl, Nat.le_of_ble_eq_true rfl⟩ ⟨Nat.le_of_ble_eq_true rfl, Nat.le_of_ble_eq_true rfl⟩ rfl (Nat.le_of_ble_eq_true rfl) dX0_latest_12 (r_N ?_) r_NX
    show PX Z 1 S6 0 0 15 [(0, va_rf r0)] [.int v5, va_rf (p_R S0 a1 0)]
    replace h := dr_el h
    obtain ⟨a8, ea9, ha10, h⟩ := h
    replace h := ck_el h
    obtain ⟨hc11, h⟩ := h
    refine x_aaload8 hC ea9 ha10 hc11 dX0_latest_15 ?_
    refine x_goto (t := 20) hC dX0_latest_16 (by decide) ?_
    exact x_aret hC hQ (Or.inl ⟨_, rfl⟩) (z_N (Option.some.inj h)) (Nat.le_of_ble_eq_true rfl) (Nat.le_of_ble_eq_true rfl) dX0_latest_20
theorem dX0_dropLatest_0 : decode cX0_dropLatest 0 = .ok (.aload_n 0, 1) := by decide +kernel
theorem dX0_dropLatest_1 : decode cX0_dropLatest 1 = .ok (.aload_n 0, 1) := by decide +kernel
theorem dX0_dropLatest_2 : decode cX0_dropLatest 2 = .ok (.invokevirtual 35, 3) := by decide +kernel
theorem dX0_dropLatest_5 : decode cX0_dropLatest 5 = .ok (.putfield 17, 3) := by decide +kernel
theorem dX0_dropLatest_8 : decode cX0_dropLatest 8 = .ok (.aload_n 0, 1) := by decide +kernel
theorem dX0_dropLatest_9 : decode cX0_dropLatest 9 = .ok (.iconst 0, 1) := by decide +kernel
theorem dX0_dropLatest_10 : decode cX0_dropLatest 10 = .ok (.aload_n 0, 1) := by decide +kernel
theorem dX0_dropLatest_11 : decode cX0_dropLatest 11 = .ok (.getfield 21, 3) := by decide +kernel
theorem dX0_dropLatest_14 : decode cX0_dropLatest 14 = .ok (.iconst 1, 1) := by decide +kernel
theorem dX0_dropLatest_15 : decode cX0_dropLatest 15 = .ok (.isub, 1) := by decide +kernel
theorem dX0_dropLatest_16 : decode cX0_dropLatest 16 = .ok (.invokestatic 39, 3) := by decide +kernel
theorem dX0_dropLatest_19 : decode cX0_dropLatest 19 = .ok (.putfield 21, 3) := by decide +kernel
theorem dX0_dropLatest_22 : decode cX0_dropLatest 22 = .ok (.return_, 1) := by decide +kernel
set_option maxRecDepth 100000 in
set_option maxHeartbeats 4000000 in
theorem mt_X0_dropLatest (r0 : Option Nat) (S0 : PH) (y : Unit × PH) (h : m_X0_dropLatest r0 S0 = some y) : MT yX0_dropLatest (.code yX0_dropLatest cX0_dropLatest 1 (Option.none : Option FieldType)) 1 21 0 0 [va_rf r0] S0 (oQ e_V (qN y)) := by
  refine mt_of (own := RX0) (l0 := [(0, va_rf r0)]) rfl rfl (by cases r0 <;> exact Nat.le_of_ble_eq_true rfl) (by cases r0 <;> rfl) ?_
  intro Z hC hQ hE hN
  unfold m_X0_dropLatest at h
  refine x_aload_n (i := 0) hC dX0_dropLatest_0 rfl 0 rfl ?_
  refine x_aload_n (i := 0) hC dX0_dropLatest_1 rfl 0 rfl ?_
  replace h := dr_el h
  obtain ⟨a1, ea2, ha3, h⟩ := h
  replace h := bd_el h
  obtain ⟨v4, S5, hb6, h⟩ := h
  refine x_callV hC (st := [va_rf r0]) (mt_X0_beforeNext _ _ _ hb6) ea2 ha3 kf_0 q_394 q_395 q_396 q_4 q_397 ⟨rfl, hy_X0_beforeNext⟩ ⟨Nat.le_of_ble_eq_true rfl, Nat.le_of_ble_eq_true rfl⟩ ⟨Nat.le_of_ble_eq_true rfl, Nat.le_of_ble_eq_true rfl⟩ rfl (Nat.le_of_ble_eq_true rfl) dX0_dropLatest_2 (r_N ?_) r_NX
  show PX Z 1 S5 0 0 5 [(0, va_rf r0)] [.int v4, va_rf r0]
  replace h := dr_el h
  obtain ⟨a7, ea8, ha9, h⟩ := h
  replace h := le_el h
  obtain ⟨S10, hx11, h⟩ := h
  refine x_putI hC ea8 ha9 kf_0 1 (by decide) rfl rfl q_115 (Or.inl rfl) dX0_dropLatest_5 ?_
  refine x_tS hx11 ?_
  refine x_aload_n (i := 0) hC dX0_dropLatest_8 rfl 0 rfl ?_
  refine x_iconst (v := (0 : Int32)) hC dX0_dropLatest_9 (by decide) ?_
  refine x_aload_n (i := 0) hC dX0_dropLatest_10 rfl 0 rfl ?_
  replace h := dr_el h
  obtain ⟨a12, ea13, ha14, h⟩ := h
  refine x_getI hC ea13 ha14 kf_0 2 (by decide) rfl q_116 dX0_dropLatest_11 ?_
  refine x_iconst (v := (1 : Int32)) hC dX0_dropLatest_14 (by decide) ?_
  refine x_isub hC dX0_dropLatest_15 ?_
  refine x_mm (lo := false) hC q_403 q_maxs q_mai q_maxc (Nat.le_of_ble_eq_true rfl) ⟨Nat.le_of_ble_eq_true rfl, Nat.le_of_ble_eq_true rfl⟩ ⟨Nat.le_of_ble_eq_true rfl, Nat.le_of_ble_eq_true rfl⟩ dX0_dropLatest_16 ?_
  refine x_tI (b := (mmax (0 : Int32) ((p_I S10 a12 2) - (1 : Int32)))) rfl ?_
  replace h := le_el h
  obtain ⟨S15, hx16, h⟩ := h
  refine x_putI hC ea13 ha14 kf_0 2 (by decide) rfl rfl q_116 (Or.inl rfl) dX0_dropLatest_19 ?_
  refine x_tS hx16 ?_
  exact x_vret hC hQ (z_N (v := ()) (Option.some.inj h)) (Nat.le_of_ble_eq_true rfl) (Nat.le_of_ble_eq_true rfl) dX0_dropLatest_22
theorem dX1_init_0 : decode cX1_init 0 = .ok (.aload_n 0, 1) := by decide +kernel
theorem dX1_init_1 : decode cX1_init 1 = .ok (.invokespecial 3, 3) := by decide +kernel
theorem dX1_init_4 : decode cX1_init 4 = .ok (.aload_n 0, 1) := by decide +kernel
theorem dX1_init_5 : decode cX1_init 5 = .ok (.bipush 8, 2) := by decide +kernel
theorem dX1_init_7 : decode cX1_init 7 = .ok (.newarray .int, 2) := by decide +kernel
theorem dX1_init_9 : decode cX1_init 9 = .ok (.putfield 9, 3) := by decide +kernel
theorem dX1_init_12 : decode cX1_init 12 = .ok (.aload_n 0, 1) := by decide +kernel
theorem dX1_init_13 : decode cX1_init 13 = .ok (.bipush 8, 2) := by decide +kernel
theorem dX1_init_15 : decode cX1_init 15 = .ok (.newarray .int, 2) := by decide +kernel
theorem dX1_init_17 : decode cX1_init 17 = .ok (.putfield 15, 3) := by decide +kernel
theorem dX1_init_20 : decode cX1_init 20 = .ok (.aload_n 0, 1) := by decide +kernel
theorem dX1_init_21 : decode cX1_init 21 = .ok (.bipush 8, 2) := by decide +kernel
theorem dX1_init_23 : decode cX1_init 23 = .ok (.newarray .int, 2) := by decide +kernel
theorem dX1_init_25 : decode cX1_init 25 = .ok (.putfield 18, 3) := by decide +kernel
theorem dX1_init_28 : decode cX1_init 28 = .ok (.aload_n 0, 1) := by decide +kernel
theorem dX1_init_29 : decode cX1_init 29 = .ok (.bipush 8, 2) := by decide +kernel
theorem dX1_init_31 : decode cX1_init 31 = .ok (.newarray .int, 2) := by decide +kernel
theorem dX1_init_33 : decode cX1_init 33 = .ok (.putfield 21, 3) := by decide +kernel
theorem dX1_init_36 : decode cX1_init 36 = .ok (.aload_n 0, 1) := by decide +kernel
theorem dX1_init_37 : decode cX1_init 37 = .ok (.bipush 8, 2) := by decide +kernel
theorem dX1_init_39 : decode cX1_init 39 = .ok (.newarray .int, 2) := by decide +kernel
theorem dX1_init_41 : decode cX1_init 41 = .ok (.putfield 24, 3) := by decide +kernel
theorem dX1_init_44 : decode cX1_init 44 = .ok (.aload_n 0, 1) := by decide +kernel
theorem dX1_init_45 : decode cX1_init 45 = .ok (.bipush 8, 2) := by decide +kernel
theorem dX1_init_47 : decode cX1_init 47 = .ok (.newarray .int, 2) := by decide +kernel
theorem dX1_init_49 : decode cX1_init 49 = .ok (.putfield 27, 3) := by decide +kernel
theorem dX1_init_52 : decode cX1_init 52 = .ok (.aload_n 0, 1) := by decide +kernel
theorem dX1_init_53 : decode cX1_init 53 = .ok (.bipush 8, 2) := by decide +kernel
theorem dX1_init_55 : decode cX1_init 55 = .ok (.newarray .int, 2) := by decide +kernel
theorem dX1_init_57 : decode cX1_init 57 = .ok (.putfield 30, 3) := by decide +kernel
theorem dX1_init_60 : decode cX1_init 60 = .ok (.aload_n 0, 1) := by decide +kernel
theorem dX1_init_61 : decode cX1_init 61 = .ok (.bipush 8, 2) := by decide +kernel
theorem dX1_init_63 : decode cX1_init 63 = .ok (.newarray .int, 2) := by decide +kernel
theorem dX1_init_65 : decode cX1_init 65 = .ok (.putfield 33, 3) := by decide +kernel
theorem dX1_init_68 : decode cX1_init 68 = .ok (.return_, 1) := by decide +kernel
set_option maxRecDepth 100000 in
set_option maxHeartbeats 4000000 in
theorem mt_X1_init (r0 : Option Nat) (S0 : PH) (Q : (Nat ⊕ Unit) → PH → Prop) (h : w_X1_init r0 S0 Q) : MT yX1_init (.code yX1_init cX1_init 1 (Option.none : Option FieldType)) 1 20 8 64 [va_rf r0] S0 (oQ e_V Q) := by
  refine mt_of (own := RX1) (l0 := [(0, va_rf r0)]) rfl rfl (by cases r0 <;> exact Nat.le_of_ble_eq_true rfl) (by cases r0 <;> rfl) ?_
  intro Z hC hQ hE hN
  unfold w_X1_init at h
  refine x_aload_n (i := 0) hC dX1_init_0 rfl 0 rfl ?_
  obtain ⟨a1, ea2, ha3, h⟩ := h
  refine x_objInit hC ea2 q_143 q_obi q_obc (Nat.le_of_ble_eq_true rfl) ⟨Nat.le_of_ble_eq_true rfl, Nat.le_of_ble_eq_true rfl⟩ dX1_init_1 ?_
  refine x_aload_n (i := 0) hC dX1_init_4 rfl 0 rfl ?_
  refine x_bipush (v := (8 : Int32)) hC dX1_init_5 (by decide) ?_
  refine x_newI (N' := 8) hC q_105 (by decide) (by decide) (Nat.le_of_ble_eq_true rfl) (Nat.le_of_ble_eq_true rfl) (Nat.le_of_ble_eq_true rfl) dX1_init_7 (fun q4 hq5 => ?_)
  replace h := h q4 hq5
  obtain ⟨S6, hx7, h⟩ := wle_el h
  refine x_tS hx7 ?_
  obtain ⟨a8, ea9, ha10, h⟩ := h
  obtain ⟨S11, hx12, h⟩ := wle_el h
  refine x_putR hC ea9 ha10 kf_1 0 (by decide) rfl (Or.inl ⟨_, rfl⟩) q_144 (Or.inr ⟨rfl, hN rfl, rfl⟩) dX1_init_9 ?_
  refine x_tS hx12 ?_
  refine x_aload_n (i := 0) hC dX1_init_12 rfl 0 rfl ?_
  refine x_bipush (v := (8 : Int32)) hC dX1_init_13 (by decide) ?_
  refine x_newI (N' := 8) hC q_105 (by decide) (by decide) (Nat.le_of_ble_eq_true rfl) (Nat.le_of_ble_eq_true rfl) (Nat.le_of_ble_eq_true rfl) dX1_init_15 (fun q13 hq14 => ?_)
  replace h := h q13 hq14
  obtain ⟨S15, hx16, h⟩ := wle_el h
  refine x_tS hx16 ?_
  obtain ⟨a17, ea18, ha19, h⟩ := h
  obtain ⟨S20, hx21, h⟩ := wle_el h
  refine x_putR hC ea18 ha19 kf_1 1 (by decide) rfl (Or.inl ⟨_, rfl⟩) q_146 (Or.inr ⟨rfl, hN rfl, rfl⟩) dX1_init_17 ?_
  refine x_tS hx21 ?_
  refine x_aload_n (i := 0) hC dX1_init_20 rfl 0 rfl ?_
  refine x_bipush (v := (8 : Int32)) hC dX1_init_21 (by decide) ?_
  refine x_newI (N' := 8) hC q_105 (by decide) (by decide) (Nat.le_of_ble_eq_true rfl) (Nat.le_of_ble_eq_true rfl) (Nat.le_of_ble_eq_true rfl) dX1_init_23 (fun q22 hq23 => ?_)
  replace h := h q22 hq23
  obtain ⟨S24, hx25, h⟩ := wle_el h
  refine x_tS hx25 ?_
  obtain ⟨a26, ea27, ha28, h⟩ := h
  obtain ⟨S29, hx30, h⟩ := wle_el h
  refine x_putR hC ea27 ha28 kf_1 2 (by decide) rfl (Or.inl ⟨_, rfl⟩) q_148 (Or.inr ⟨rfl, hN rfl, rfl⟩) dX1_init_25 ?_
  refine x_tS hx30 ?_
  refine x_aload_n (i := 0) hC dX1_init_28 rfl 0 rfl ?_
  refine x_bipush (v := (8 : Int32)) hC dX1_init_29 (by decide) ?_
  refine x_newI (N' := 8) hC q_105 (by decide) (by decide) (Nat.le_of_ble_eq_true rfl) (Nat.le_of_ble_eq_true rfl) (Nat.le_of_ble_eq_true rfl) dX1_init_31 (fun q31 hq32 => ?_)
  replace h := h q31 hq32
  obtain ⟨S33, hx34, h⟩ := wle_el h
  refine x_tS hx34 ?_
  obtain ⟨a35, ea36, ha37, h⟩ := h
  obtain ⟨S38, hx39, h⟩ := wle_el h
  refine x_putR hC ea36 ha37 kf_1 3 (by decide) rfl (Or.inl ⟨_, rfl⟩) q_150 (Or.inr ⟨rfl, hN rfl, rfl⟩) dX1_init_33 ?_
  refine x_tS hx39 ?_
  refine x_aload_n (i := 0) hC dX1_init_36 rfl 0 rfl ?_
  refine x_bipush (v := (8 : Int32)) hC dX1_init_37 (by decide) ?_
  refine x_newI (N' := 8) hC q_105 (by decide) (by decide) (Nat.le_of_ble_eq_true rfl) (Nat.le_of_ble_eq_true rfl) (Nat.le_of_ble_eq_true rfl) dX1_init_39 (fun q40 hq41 => ?_)
  replace h := h q40 hq41
  obtain ⟨S42, hx43, h⟩ := wle_el h
  refine x_tS hx43 ?_
  obtain ⟨a44, ea45, ha46, h⟩ := h
  obtain ⟨S47, hx48, h⟩ := wle_el h
  refine x_putR hC ea45 ha46 kf_1 4 (by decide) rfl (Or.inl ⟨_, rfl⟩) q_151 (Or.inr ⟨rfl, hN rfl, rfl⟩) dX1_init_41 ?_
  refine x_tS hx48 ?_
  refine x_aload_n (i := 0) hC dX1_init_44 rfl 0 rfl ?_
  refine x_bipush (v := (8 : Int32)) hC dX1_init_45 (by decide) ?_
  refine x_newI (N' := 8) hC q_105 (by decide) (by decide) (Nat.le_of_ble_eq_true rfl) (Nat.le_of_ble_eq_true rfl) (Nat.le_of_ble_eq_true rfl) dX1_init_47 (fun q49 hq50 => ?_)
  replace h := h q49 hq50
  obtain ⟨S51, hx52, h⟩ := wle_el h
  refine x_tS hx52 ?_
  obtain ⟨a53, ea54, ha55, h⟩ := h
  obtain ⟨S56, hx57, h⟩ := wle_el h
  refine x_putR hC ea54 ha55 kf_1 5 (by decide) rfl (Or.inl ⟨_, rfl⟩) q_152 (Or.inr ⟨rfl, hN rfl, rfl⟩) dX1_init_49 ?_
  refine x_tS hx57 ?_
  refine x_aload_n (i := 0) hC dX1_init_52 rfl 0 rfl ?_
  refine x_bipush (v := (8 : Int32)) hC dX1_init_53 (by decide) ?_
  refine x_newI (N' := 8) hC q_105 (by decide) (by decide) (Nat.le_of_ble_eq_true rfl) (Nat.le_of_ble_eq_true rfl) (Nat.le_of_ble_eq_true rfl) dX1_init_55 (fun q58 hq59 => ?_)
  replace h := h q58 hq59
  obtain ⟨S60, hx61, h⟩ := wle_el h
  refine x_tS hx61 ?_
  obtain ⟨a62, ea63, ha64, h⟩ := h
  obtain ⟨S65, hx66, h⟩ := wle_el h
  refine x_putR hC ea63 ha64 kf_1 6 (by decide) rfl (Or.inl ⟨_, rfl⟩) q_153 (Or.inr ⟨rfl, hN rfl, rfl⟩) dX1_init_57 ?_
  refine x_tS hx66 ?_
  refine x_aload_n (i := 0) hC dX1_init_60 rfl 0 rfl ?_
  refine x_bipush (v := (8 : Int32)) hC dX1_init_61 (by decide) ?_
  refine x_newI (N' := 8) hC q_105 (by decide) (by decide) (Nat.le_of_ble_eq_true rfl) (Nat.le_of_ble_eq_true rfl) (Nat.le_of_ble_eq_true rfl) dX1_init_63 (fun q67 hq68 => ?_)
  replace h := h q67 hq68
  obtain ⟨S69, hx70, h⟩ := wle_el h
  refine x_tS hx70 ?_
  obtain ⟨a71, ea72, ha73, h⟩ := h
  obtain ⟨S74, hx75, h⟩ := wle_el h
  refine x_putR hC ea72 ha73 kf_1 7 (by decide) rfl (Or.inl ⟨_, rfl⟩) q_154 (Or.inr ⟨rfl, hN rfl, rfl⟩) dX1_init_65 ?_
  refine x_tS hx75 ?_
  exact x_vret hC hQ (z_W (v := ()) h) (Nat.le_of_ble_eq_true rfl) (Nat.le_of_ble_eq_true rfl) dX1_init_68
theorem dX4_has_0 : decode cX4_has 0 = .ok (.iload_n 0, 1) := by decide +kernel
theorem dX4_has_1 : decode cX4_has 1 = .ok (.iload_n 1, 1) := by decide +kernel
theorem dX4_has_2 : decode cX4_has 2 = .ok (.ishr, 1) := by decide +kernel
theorem dX4_has_3 : decode cX4_has 3 = .ok (.iconst 1, 1) := by decide +kernel
theorem dX4_has_4 : decode cX4_has 4 = .ok (.iand, 1) := by decide +kernel
theorem dX4_has_5 : decode cX4_has 5 = .ok (.iconst 1, 1) := by decide +kernel
theorem dX4_has_6 : decode cX4_has 6 = .ok (.if_icmp .ne 7, 3) := by decide +kernel
theorem dX4_has_9 : decode cX4_has 9 = .ok (.iconst 1, 1) := by decide +kernel
theorem dX4_has_10 : decode cX4_has 10 = .ok (.goto 4, 3) := by decide +kernel
theorem dX4_has_13 : decode cX4_has 13 = .ok (.iconst 0, 1) := by decide +kernel
theorem dX4_has_14 : decode cX4_has 14 = .ok (.ireturn, 1) := by decide +kernel
set_option maxRecDepth 100000 in
set_option maxHeartbeats 4000000 in
theorem mt_X4_has (i0 : Int32) (i1 : Int32) (S0 : PH) (y : Int32 × PH) (h : m_X4_has i0 i1 S0 = some y) : MT yX4_has (.code yX4_has cX4_has 2 (Option.some FieldType.boolean)) 0 0 0 0 [.int i0, .int i1] S0 (oQ e_I (qN y)) := by
  refine mt_of (own := RX4) (l0 := [(0, .int i0), (1, .int i1)]) rfl rfl (by exact Nat.le_of_ble_eq_true rfl) (by rfl) ?_
  intro Z hC hQ hE hN
  unfold m_X4_has at h
  refine x_iload_n (i := 0) hC dX4_has_0 rfl 0 rfl ?_
  refine x_iload_n (i := 1) hC dX4_has_1 rfl 1 rfl ?_
  refine x_ishr hC dX4_has_2 ?_
  refine x_iconst (v := (1 : Int32)) hC dX4_has_3 (by decide) ?_
  refine x_iand hC dX4_has_4 ?_
  refine x_iconst (v := (1 : Int32)) hC dX4_has_5 (by decide) ?_
  refine x_icmp_ne (t := 13) hC dX4_has_6 (by decide) (fun c1 => ?_) (fun c1 => ?_)
  · replace h := it_f c1 h
    refine x_iconst (v := (0 : Int32)) hC dX4_has_13 (by decide) ?_
    exact x_zret hC hQ (by decide) (z_N (Option.some.inj h)) (Nat.le_of_ble_eq_true rfl) (Nat.le_of_ble_eq_true rfl) dX4_has_14
  · replace h := it_t c1 h
    refine x_iconst (v := (1 : Int32)) hC dX4_has_9 (by decide) ?_
    refine x_goto (t := 14) hC dX4_has_10 (by decide) ?_
    exact x_zret hC hQ (by decide) (z_N (Option.some.inj h)) (Nat.le_of_ble_eq_true rfl) (Nat.le_of_ble_eq_true rfl) dX4_has_14
theorem dX1_exchange_0 : decode cX1_exchange 0 = .ok (.aload_n 0, 1) := by decide +kernel
theorem dX1_exchange_1 : decode cX1_exchange 1 = .ok (.getfield 21, 3) := by decide +kernel
theorem dX1_exchange_4 : decode cX1_exchange 4 = .ok (.iload_n 1, 1) := by decide +kernel
theorem dX1_exchange_5 : decode cX1_exchange 5 = .ok (.dup2, 1) := by decide +kernel
theorem dX1_exchange_6 : decode cX1_exchange 6 = .ok (.iaload, 1) := by decide +kernel
theorem dX1_exchange_7 : decode cX1_exchange 7 = .ok (.iconst 1, 1) := by decide +kernel
theorem dX1_exchange_8 : decode cX1_exchange 8 = .ok (.isub, 1) := by decide +kernel
theorem dX1_exchange_9 : decode cX1_exchange 9 = .ok (.iastore, 1) := by decide +kernel
theorem dX1_exchange_10 : decode cX1_exchange 10 = .ok (.aload_n 0, 1) := by decide +kernel
theorem dX1_exchange_11 : decode cX1_exchange 11 = .ok (.getfield 27, 3) := by decide +kernel
theorem dX1_exchange_14 : decode cX1_exchange 14 = .ok (.iload_n 1, 1) := by decide +kernel
theorem dX1_exchange_15 : decode cX1_exchange 15 = .ok (.iaload, 1) := by decide +kernel
theorem dX1_exchange_16 : decode cX1_exchange 16 = .ok (.istore_n 3, 1) := by decide +kernel
theorem dX1_exchange_17 : decode cX1_exchange 17 = .ok (.aload_n 0, 1) := by decide +kernel
theorem dX1_exchange_18 : decode cX1_exchange 18 = .ok (.getfield 24, 3) := by decide +kernel
theorem dX1_exchange_21 : decode cX1_exchange 21 = .ok (.iload_n 1, 1) := by decide +kernel
theorem dX1_exchange_22 : decode cX1_exchange 22 = .ok (.dup2, 1) := by decide +kernel
theorem dX1_exchange_23 : decode cX1_exchange 23 = .ok (.iaload, 1) := by decide +kernel
theorem dX1_exchange_24 : decode cX1_exchange 24 = .ok (.iconst 1, 1) := by decide +kernel
theorem dX1_exchange_25 : decode cX1_exchange 25 = .ok (.iload_n 3, 1) := by decide +kernel
theorem dX1_exchange_26 : decode cX1_exchange 26 = .ok (.ishl, 1) := by decide +kernel
theorem dX1_exchange_27 : decode cX1_exchange 27 = .ok (.ior, 1) := by decide +kernel
theorem dX1_exchange_28 : decode cX1_exchange 28 = .ok (.iastore, 1) := by decide +kernel
theorem dX1_exchange_29 : decode cX1_exchange 29 = .ok (.iconst 0, 1) := by decide +kernel
theorem dX1_exchange_30 : decode cX1_exchange 30 = .ok (.istore 4, 2) := by decide +kernel
theorem dX1_exchange_32 : decode cX1_exchange 32 = .ok (.iload_n 3, 1) := by decide +kernel
theorem dX1_exchange_33 : decode cX1_exchange 33 = .ok (.iload_n 2, 1) := by decide +kernel
theorem dX1_exchange_34 : decode cX1_exchange 34 = .ok (.if_icmp .eq 60, 3) := by decide +kernel
theorem dX1_exchange_37 : decode cX1_exchange 37 = .ok (.iload 4, 2) := by decide +kernel
theorem dX1_exchange_39 : decode cX1_exchange 39 = .ok (.bipush 8, 2) := by decide +kernel
theorem dX1_exchange_41 : decode cX1_exchange 41 = .ok (.if_icmp .ge 53, 3) := by decide +kernel
theorem dX1_exchange_44 : decode cX1_exchange 44 = .ok (.aload_n 0, 1) := by decide +kernel
theorem dX1_exchange_45 : decode cX1_exchange 45 = .ok (.getfield 30, 3) := by decide +kernel
theorem dX1_exchange_48 : decode cX1_exchange 48 = .ok (.iload_n 3, 1) := by decide +kernel
theorem dX1_exchange_49 : decode cX1_exchange 49 = .ok (.iaload, 1) := by decide +kernel
theorem dX1_exchange_50 : decode cX1_exchange 50 = .ok (.istore 5, 2) := by decide +kernel
theorem dX1_exchange_52 : decode cX1_exchange 52 = .ok (.aload_n 0, 1) := by decide +kernel
theorem dX1_exchange_53 : decode cX1_exchange 53 = .ok (.getfield 24, 3) := by decide +kernel
theorem dX1_exchange_56 : decode cX1_exchange 56 = .ok (.iload 5, 2) := by decide +kernel
theorem dX1_exchange_58 : decode cX1_exchange 58 = .ok (.dup2, 1) := by decide +kernel
theorem dX1_exchange_59 : decode cX1_exchange 59 = .ok (.iaload, 1) := by decide +kernel
theorem dX1_exchange_60 : decode cX1_exchange 60 = .ok (.iconst 1, 1) := by decide +kernel
theorem dX1_exchange_61 : decode cX1_exchange 61 = .ok (.iload_n 3, 1) := by decide +kernel
theorem dX1_exchange_62 : decode cX1_exchange 62 = .ok (.ishl, 1) := by decide +kernel
theorem dX1_exchange_63 : decode cX1_exchange 63 = .ok (.iconst (-1), 1) := by decide +kernel
theorem dX1_exchange_64 : decode cX1_exchange 64 = .ok (.ixor, 1) := by decide +kernel
theorem dX1_exchange_65 : decode cX1_exchange 65 = .ok (.iand, 1) := by decide +kernel
theorem dX1_exchange_66 : decode cX1_exchange 66 = .ok (.iastore, 1) := by decide +kernel
theorem dX1_exchange_67 : decode cX1_exchange 67 = .ok (.aload_n 0, 1) := by decide +kernel
theorem dX1_exchange_68 : decode cX1_exchange 68 = .ok (.getfield 27, 3) := by decide +kernel
theorem dX1_exchange_71 : decode cX1_exchange 71 = .ok (.iload 5, 2) := by decide +kernel
theorem dX1_exchange_73 : decode cX1_exchange 73 = .ok (.iaload, 1) := by decide +kernel
theorem dX1_exchange_74 : decode cX1_exchange 74 = .ok (.istore_n 3, 1) := by decide +kernel
theorem dX1_exchange_75 : decode cX1_exchange 75 = .ok (.aload_n 0, 1) := by decide +kernel
theorem dX1_exchange_76 : decode cX1_exchange 76 = .ok (.getfield 24, 3) := by decide +kernel
theorem dX1_exchange_79 : decode cX1_exchange 79 = .ok (.iload 5, 2) := by decide +kernel
theorem dX1_exchange_81 : decode cX1_exchange 81 = .ok (.dup2, 1) := by decide +kernel
theorem dX1_exchange_82 : decode cX1_exchange 82 = .ok (.iaload, 1) := by decide +kernel
theorem dX1_exchange_83 : decode cX1_exchange 83 = .ok (.iconst 1, 1) := by decide +kernel
theorem dX1_exchange_84 : decode cX1_exchange 84 = .ok (.iload_n 3, 1) := by decide +kernel
theorem dX1_exchange_85 : decode cX1_exchange 85 = .ok (.ishl, 1) := by decide +kernel
theorem dX1_exchange_86 : decode cX1_exchange 86 = .ok (.ior, 1) := by decide +kernel
theorem dX1_exchange_87 : decode cX1_exchange 87 = .ok (.iastore, 1) := by decide +kernel
theorem dX1_exchange_88 : decode cX1_exchange 88 = .ok (.iinc 4 1, 3) := by decide +kernel
theorem dX1_exchange_91 : decode cX1_exchange 91 = .ok (.goto (-59), 3) := by decide +kernel
theorem dX1_exchange_94 : decode cX1_exchange 94 = .ok (.return_, 1) := by decide +kernel
set_option maxRecDepth 100000 in
set_option maxHeartbeats 4000000 in
theorem mt_X1_exchange (r0 : Option Nat) (i1 : Int32) (i2 : Int32) (S0 : PH) (y : Unit × PH) (h : m_X1_exchange r0 i1 i2 S0 = some y) : MT yX1_exchange (.code yX1_exchange cX1_exchange 6 (Option.none : Option FieldType)) 0 0 0 0 [va_rf r0, .int i1, .int i2] S0 (oQ e_V (qN y)) := by
  refine mt_of (own := RX1) (l0 := [(0, va_rf r0), (1, .int i1), (2, .int i2)]) rfl rfl (by cases r0 <;> exact Nat.le_of_ble_eq_true rfl) (by cases r0 <;> rfl) ?_
  intro Z hC hQ hE hN
  unfold m_X1_exchange at h
  refine x_aload_n (i := 0) hC dX1_exchange_0 rfl 0 rfl ?_
  replace h := dr_el h
  obtain ⟨a1, ea2, ha3, h⟩ := h
  refine x_getR hC ea2 ha3 kf_1 3 (by decide) rfl q_150 dX1_exchange_1 ?_
  refine x_iload_n (i := 1) hC dX1_exchange_4 rfl 1 rfl ?_
  refine x_dup2 hC dX1_exchange_5 rfl (c_rf (p_R S0 a1 3)) ?_
  replace h := dr_el h
  obtain ⟨a4, ea5, ha6, h⟩ := h
  replace h := ck_el h
  obtain ⟨hc7, h⟩ := h
  refine x_iaload hC ea5 ha6 hc7 dX1_exchange_6 ?_
  refine x_iconst (v := (1 : Int32)) hC dX1_exchange_7 (by decide) ?_
  refine x_isub hC dX1_exchange_8 ?_
  replace h := ck_el h
  obtain ⟨hc8, h⟩ := h
  replace h := le_el h
  obtain ⟨S9, hx10, h⟩ := h
  refine x_iastore hC ea5 ha6 hc8 dX1_exchange_9 ?_
  refine x_tS hx10 ?_
  refine x_aload_n (i := 0) hC dX1_exchange_10 rfl 0 rfl ?_
  replace h := dr_el h
  obtain ⟨a11, ea12, ha13, h⟩ := h
  refine x_getR hC ea12 ha13 kf_1 5 (by decide) rfl q_152 dX1_exchange_11 ?_
  refine x_iload_n (i := 1) hC dX1_exchange_14 rfl 1 rfl ?_
  replace h := dr_el h
  obtain ⟨a14, ea15, ha16, h⟩ := h
  replace h := ck_el h
  obtain ⟨hc17, h⟩ := h
  refine x_iaload hC ea15 ha16 hc17 dX1_exchange_15 ?_
  replace h := le_el h
  obtain ⟨x18, hx19, h⟩ := h
  refine x_tI hx19 ?_
  refine x_istore_n (i := 3) (l' := [(3, .int x18), (0, va_rf r0), (1, .int i1), (2, .int i2)]) hC dX1_exchange_16 rfl (⟨fun _ => c_rf r0, ⟨fun _ => rfl, ⟨fun _ => rfl, trivial⟩⟩⟩) (by decide) rfl ?_
  refine x_aload_n (i := 0) hC dX1_exchange_17 rfl 1 rfl ?_
  refine x_getR hC ea12 ha13 kf_1 4 (by decide) rfl q_151 dX1_exchange_18 ?_
  refine x_iload_n (i := 1) hC dX1_exchange_21 rfl 2 rfl ?_
  refine x_dup2 hC dX1_exchange_22 rfl (c_rf (p_R S9 a11 4)) ?_
  replace h := dr_el h
  obtain ⟨a20, ea21, ha22, h⟩ := h
  replace h := ck_el h
  obtain ⟨hc23, h⟩ := h
  refine x_iaload hC ea21 ha22 hc23 dX1_exchange_23 ?_
  refine x_iconst (v := (1 : Int32)) hC dX1_exchange_24 (by decide) ?_
  refine x_iload_n (i := 3) hC dX1_exchange_25 rfl 0 rfl ?_
  refine x_ishl hC dX1_exchange_26 ?_
  refine x_ior hC dX1_exchange_27 ?_
  replace h := ck_el h
  obtain ⟨hc24, h⟩ := h
  replace h := le_el h
  obtain ⟨S25, hx26, h⟩ := h
  refine x_iastore hC ea21 ha22 hc24 dX1_exchange_28 ?_
  refine x_tS hx26 ?_
  refine x_iconst (v := (0 : Int32)) hC dX1_exchange_29 (by decide) ?_
  refine x_istore (i := 4) (l' := [(4, .int (0 : Int32)), (3, .int x18), (0, va_rf r0), (1, .int i1), (2, .int i2)]) hC dX1_exchange_30 (⟨fun _ => rfl, ⟨fun _ => c_rf r0, ⟨fun _ => rfl, ⟨fun _ => rfl, trivial⟩⟩⟩⟩) (by decide) rfl ?_
  refine x_sub (l' := [(0, va_rf r0), (1, .int i1), (2, .int i2), (3, .int x18), (4, .int (0 : Int32))]) [2, 3, 4, 1, 0] rfl ?_
  refine lp_sim (P := fun (t : (Int32 × Int32 × PH)) => PX Z 6 t.2.2 0 0 32 [(0, va_rf r0), (1, .int i1), (2, .int i2), (3, .int t.1), (4, .int t.2.1)] []) (G := fun r => r = y) ?_ h rfl
  clear h
  intro t x_32 h hg_32
  obtain ⟨v27, v28, S29⟩ := t
  show PX Z 6 S29 0 0 32 [(0, va_rf r0), (1, .int i1), (2, .int i2), (3, .int v27), (4, .int v28)] []
  unfold st_X1_exchange_32 at h
  refine x_iload_n (i := 3) hC dX1_exchange_32 rfl 3 rfl ?_
  refine x_iload_n (i := 2) hC dX1_exchange_33 rfl 2 rfl ?_
  refine x_icmp_eq (t := 94) hC dX1_exchange_34 (by decide) (fun c30 => ?_) (fun c30 => ?_)
  · replace h := it_t c30 h
    replace h := ir_x h hg_32
    exact x_vret hC hQ (z_N (v := ()) (Option.some.inj h)) (Nat.le_of_ble_eq_true rfl) (Nat.le_of_ble_eq_true rfl) dX1_exchange_94
  · replace h := it_f c30 h
    refine x_iload (i := 4) hC dX1_exchange_37 4 rfl ?_
    refine x_bipush (v := (8 : Int32)) hC dX1_exchange_39 (by decide) ?_
    refine x_icmp_ge (t := 94) hC dX1_exchange_41 (by decide) (fun c31 => ?_) (fun c31 => ?_)
    · replace h := it_t c31 h
      replace h := ir_x h hg_32
      exact x_vret hC hQ (z_N (v := ()) (Option.some.inj h)) (Nat.le_of_ble_eq_true rfl) (Nat.le_of_ble_eq_true rfl) dX1_exchange_94
    · replace h := it_f c31 h
      refine x_aload_n (i := 0) hC dX1_exchange_44 rfl 0 rfl ?_
      replace h := dr_el h
      obtain ⟨a32, ea33, ha34, h⟩ := h
      refine x_getR hC ea33 ha34 kf_1 6 (by decide) rfl q_153 dX1_exchange_45 ?_
      refine x_iload_n (i := 3) hC dX1_exchange_48 rfl 3 rfl ?_
      replace h := dr_el h
      obtain ⟨a35, ea36, ha37, h⟩ := h
      replace h := ck_el h
      obtain ⟨hc38, h⟩ := h
      refine x_iaload hC ea36 ha37 hc38 dX1_exchange_49 ?_
      replace h := le_el h
      obtain ⟨x39, hx40, h⟩ := h
      refine x_tI hx40 ?_
      refine x_istore (i := 5) (l' := [(5, .int x39), (0, va_rf r0), (1, .int i1), (2, .int i2), (3, .int v27), (4, .int v28)]) hC dX1_exchange_50 (⟨fun _ => c_rf r0, ⟨fun _ => rfl, ⟨fun _ => rfl, ⟨fun _ => rfl, ⟨fun _ => rfl, trivial⟩⟩⟩⟩⟩) (by decide) rfl ?_
      refine x_aload_n (i := 0) hC dX1_exchange_52 rfl 1 rfl ?_
      refine x_getR hC ea33 ha34 kf_1 4 (by decide) rfl q_151 dX1_exchange_53 ?_
      refine x_iload (i := 5) hC dX1_exchange_56 0 rfl ?_
      refine x_dup2 hC dX1_exchange_58 rfl (c_rf (p_R S29 a32 4)) ?_
      replace h := dr_el h
      obtain ⟨a41, ea42, ha43, h⟩ := h
      replace h := ck_el h
      obtain ⟨hc44, h⟩ := h
      refine x_iaload hC ea42 ha43 hc44 dX1_exchange_59 ?_
      refine x_iconst (v := (1 : Int32)) hC dX1_exchange_60 (by decide) ?_
      refine x_iload_n (i := 3) hC dX1_exchange_61 rfl 4 rfl ?_
      refine x_ishl hC dX1_exchange_62 ?_
      refine x_iconst (v := (-1 : Int32)) hC dX1_exchange_63 (by decide) ?_
      refine x_ixor hC dX1_exchange_64 ?_
      refine x_iand hC dX1_exchange_65 ?_
      replace h := ck_el h
      obtain ⟨hc45, h⟩ := h
      replace h := le_el h
      obtain ⟨S46, hx47, h⟩ := h
      refine x_iastore hC ea42 ha43 hc45 dX1_exchange_66 ?_
      refine x_tS hx47 ?_
      refine x_aload_n (i := 0) hC dX1_exchange_67 rfl 1 rfl ?_
      replace h := dr_el h
      obtain ⟨a48, ea49, ha50, h⟩ := h
      refine x_getR hC ea49 ha50 kf_1 5 (by decide) rfl q_152 dX1_exchange_68 ?_
      refine x_iload (i := 5) hC dX1_exchange_71 0 rfl ?_
      replace h := dr_el h
      obtain ⟨a51, ea52, ha53, h⟩ := h
      replace h := ck_el h
      obtain ⟨hc54, h⟩ := h
      refine x_iaload hC ea52 ha53 hc54 dX1_exchange_73 ?_
      replace h := le_el h
      obtain ⟨x55, hx56, h⟩ := h
      refine x_tI hx56 ?_
      refine x_istore_n (i := 3) (l' := [(3, .int x55), (5, .int x39), (0, va_rf r0), (1, .int i1), (2, .int i2), (4, .int v28)]) hC dX1_exchange_74 rfl (⟨fun _ => rfl, ⟨fun _ => c_rf r0, ⟨fun _ => rfl, ⟨fun _ => rfl, ⟨fun _ => rfl, ⟨fun _ => rfl, trivial⟩⟩⟩⟩⟩⟩) (by decide) rfl ?_
      refine x_aload_n (i := 0) hC dX1_exchange_75 rfl 2 rfl ?_
      refine x_getR hC ea49 ha50 kf_1 4 (by decide) rfl q_151 dX1_exchange_76 ?_
      refine x_iload (i := 5) hC dX1_exchange_79 1 rfl ?_
      refine x_dup2 hC dX1_exchange_81 rfl (c_rf (p_R S46 a48 4)) ?_
      replace h := dr_el h
      obtain ⟨a57, ea58, ha59, h⟩ := h
      replace h := ck_el h
      obtain ⟨hc60, h⟩ := h
      refine x_iaload hC ea58 ha59 hc60 dX1_exchange_82 ?_
      refine x_iconst (v := (1 : Int32)) hC dX1_exchange_83 (by decide) ?_
      refine x_iload_n (i := 3) hC dX1_exchange_84 rfl 0 rfl ?_
      refine x_ishl hC dX1_exchange_85 ?_
      refine x_ior hC dX1_exchange_86 ?_
      replace h := ck_el h
      obtain ⟨hc61, h⟩ := h
      replace h := le_el h
      obtain ⟨S62, hx63, h⟩ := h
      refine x_iastore hC ea58 ha59 hc61 dX1_exchange_87 ?_
      refine x_tS hx63 ?_
      refine x_iinc (i := 4) (v := (v28 + (1 : Int32))) (l' := [(4, .int (v28 + (1 : Int32))), (3, .int x55), (5, .int x39), (0, va_rf r0), (1, .int i1), (2, .int i2)]) hC dX1_exchange_88 5 rfl rfl (⟨fun _ => rfl, ⟨fun _ => rfl, ⟨fun _ => c_rf r0, ⟨fun _ => rfl, ⟨fun _ => rfl, ⟨fun _ => rfl, trivial⟩⟩⟩⟩⟩⟩) (by decide) rfl ?_
      refine x_goto (t := 32) hC dX1_exchange_91 (by decide) ?_
      refine x_sub (l' := [(0, va_rf r0), (1, .int i1), (2, .int i2), (3, .int x55), (4, .int (v28 + (1 : Int32)))]) [3, 4, 5, 1, 0] rfl ?_
      have hb := bk_x h hg_32
      exact hb
theorem dX1_queueHeld_0 : decode cX1_queueHeld 0 = .ok (.iload_n 3, 1) := by decide +kernel
theorem dX1_queueHeld_1 : decode cX1_queueHeld 1 = .ok (.istore 4, 2) := by decide +kernel
theorem dX1_queueHeld_3 : decode cX1_queueHeld 3 = .ok (.iconst 0, 1) := by decide +kernel
theorem dX1_queueHeld_4 : decode cX1_queueHeld 4 = .ok (.istore 5, 2) := by decide +kernel
theorem dX1_queueHeld_6 : decode cX1_queueHeld 6 = .ok (.iload 5, 2) := by decide +kernel
theorem dX1_queueHeld_8 : decode cX1_queueHeld 8 = .ok (.bipush 8, 2) := by decide +kernel
theorem dX1_queueHeld_10 : decode cX1_queueHeld 10 = .ok (.if_icmp .ge 45, 3) := by decide +kernel
theorem dX1_queueHeld_13 : decode cX1_queueHeld 13 = .ok (.iload_n 2, 1) := by decide +kernel
theorem dX1_queueHeld_14 : decode cX1_queueHeld 14 = .ok (.iload 5, 2) := by decide +kernel
theorem dX1_queueHeld_16 : decode cX1_queueHeld 16 = .ok (.invokestatic 40, 3) := by decide +kernel
theorem dX1_queueHeld_19 : decode cX1_queueHeld 19 = .ok (.ifCond .eq 30, 3) := by decide +kernel
theorem dX1_queueHeld_22 : decode cX1_queueHeld 22 = .ok (.iload 4, 2) := by decide +kernel
theorem dX1_queueHeld_24 : decode cX1_queueHeld 24 = .ok (.bipush 8, 2) := by decide +kernel
theorem dX1_queueHeld_26 : decode cX1_queueHeld 26 = .ok (.if_icmp .ge 23, 3) := by decide +kernel
theorem dX1_queueHeld_29 : decode cX1_queueHeld 29 = .ok (.aload_n 0, 1) := by decide +kernel
theorem dX1_queueHeld_30 : decode cX1_queueHeld 30 = .ok (.getfield 30, 3) := by decide +kernel
theorem dX1_queueHeld_33 : decode cX1_queueHeld 33 = .ok (.iload 5, 2) := by decide +kernel
theorem dX1_queueHeld_35 : decode cX1_queueHeld 35 = .ok (.iload_n 1, 1) := by decide +kernel
theorem dX1_queueHeld_36 : decode cX1_queueHeld 36 = .ok (.iastore, 1) := by decide +kernel
theorem dX1_queueHeld_37 : decode cX1_queueHeld 37 = .ok (.aload_n 0, 1) := by decide +kernel
theorem dX1_queueHeld_38 : decode cX1_queueHeld 38 = .ok (.getfield 33, 3) := by decide +kernel
theorem dX1_queueHeld_41 : decode cX1_queueHeld 41 = .ok (.iload 4, 2) := by decide +kernel
theorem dX1_queueHeld_43 : decode cX1_queueHeld 43 = .ok (.iload 5, 2) := by decide +kernel
theorem dX1_queueHeld_45 : decode cX1_queueHeld 45 = .ok (.iastore, 1) := by decide +kernel
theorem dX1_queueHeld_46 : decode cX1_queueHeld 46 = .ok (.iinc 4 1, 3) := by decide +kernel
theorem dX1_queueHeld_49 : decode cX1_queueHeld 49 = .ok (.iinc 5 1, 3) := by decide +kernel
theorem dX1_queueHeld_52 : decode cX1_queueHeld 52 = .ok (.goto (-46), 3) := by decide +kernel
theorem dX1_queueHeld_55 : decode cX1_queueHeld 55 = .ok (.iload 4, 2) := by decide +kernel
theorem dX1_queueHeld_57 : decode cX1_queueHeld 57 = .ok (.ireturn, 1) := by decide +kernel
set_option maxRecDepth 100000 in
set_option maxHeartbeats 4000000 in
theorem mt_X1_queueHeld (r0 : Option Nat) (i1 : Int32) (i2 : Int32) (i3 : Int32) (S0 : PH) (y : Int32 × PH) (h : m_X1_queueHeld r0 i1 i2 i3 S0 = some y) : MT yX1_queueHeld (.code yX1_queueHeld cX1_queueHeld 6 (Option.some FieldType.int)) 1 21 0 0 [va_rf r0, .int i1, .int i2, .int i3] S0 (oQ e_I (qN y)) := by
  refine mt_of (own := RX1) (l0 := [(0, va_rf r0), (1, .int i1), (2, .int i2), (3, .int i3)]) rfl rfl (by cases r0 <;> exact Nat.le_of_ble_eq_true rfl) (by cases r0 <;> rfl) ?_
  intro Z hC hQ hE hN
  unfold m_X1_queueHeld at h
  refine x_iload_n (i := 3) hC dX1_queueHeld_0 rfl 3 rfl ?_
  refine x_istore (i := 4) (l' := [(4, .int i3), (0, va_rf r0), (1, .int i1), (2, .int i2), (3, .int i3)]) hC dX1_queueHeld_1 (⟨fun _ => c_rf r0, ⟨fun _ => rfl, ⟨fun _ => rfl, ⟨fun _ => rfl, trivial⟩⟩⟩⟩) (by decide) rfl ?_
  refine x_iconst (v := (0 : Int32)) hC dX1_queueHeld_3 (by decide) ?_
  refine x_istore (i := 5) (l' := [(5, .int (0 : Int32)), (4, .int i3), (0, va_rf r0), (1, .int i1), (2, .int i2), (3, .int i3)]) hC dX1_queueHeld_4 (⟨fun _ => rfl, ⟨fun _ => c_rf r0, ⟨fun _ => rfl, ⟨fun _ => rfl, ⟨fun _ => rfl, trivial⟩⟩⟩⟩⟩) (by decide) rfl ?_
  refine x_sub (l' := [(0, va_rf r0), (1, .int i1), (2, .int i2), (3, .int i3), (4, .int i3), (5, .int (0 : Int32))]) [2, 3, 4, 5, 1, 0] rfl ?_
  refine lp_sim (P := fun (t : (Int32 × Int32 × PH)) => PX Z 6 t.2.2 0 0 6 [(0, va_rf r0), (1, .int i1), (2, .int i2), (3, .int i3), (4, .int t.1), (5, .int t.2.1)] []) (G := fun r => r = y) ?_ h rfl
  clear h
  intro t x_6 h hg_6
  obtain ⟨v1, v2, S3⟩ := t
  show PX Z 6 S3 0 0 6 [(0, va_rf r0), (1, .int i1), (2, .int i2), (3, .int i3), (4, .int v1), (5, .int v2)] []
  unfold st_X1_queueHeld_6 at h
  refine x_iload (i := 5) hC dX1_queueHeld_6 5 rfl ?_
  refine x_bipush (v := (8 : Int32)) hC dX1_queueHeld_8 (by decide) ?_
  refine x_icmp_ge (t := 55) hC dX1_queueHeld_10 (by decide) (fun c4 => ?_) (fun c4 => ?_)
  · replace h := it_t c4 h
    replace h := ir_x h hg_6
    refine x_iload (i := 4) hC dX1_queueHeld_55 4 rfl ?_
    exact x_iret hC hQ (z_N (Option.some.inj h)) (Nat.le_of_ble_eq_true rfl) (Nat.le_of_ble_eq_true rfl) dX1_queueHeld_57
  · replace h := it_f c4 h
    refine x_iload_n (i := 2) hC dX1_queueHeld_13 rfl 2 rfl ?_
    refine x_iload (i := 5) hC dX1_queueHeld_14 5 rfl ?_
    replace h := bd_el h
    obtain ⟨v5, S6, hb7, h⟩ := h
    refine x_callSN hC (host := "TokenReviews") (st := []) (mt_X4_has _ _ _ _ hb7) (List.mem_of_getElem? (i := 15) rfl) q_367 q_1 q_368 hy_X4_has ⟨Nat.le_of_ble_eq_true rfl, Nat.le_of_ble_eq_true rfl⟩ ⟨Nat.le_of_ble_eq_true rfl, Nat.le_of_ble_eq_true rfl⟩ rfl (Nat.le_of_ble_eq_true rfl) dX1_queueHeld_16 (r_N ?_) r_NX
    show PX Z 6 S6 0 0 19 [(0, va_rf r0), (1, .int i1), (2, .int i2), (3, .int i3), (4, .int v1), (5, .int v2)] [.int v5]
    refine x_if_eq (t := 49) hC dX1_queueHeld_19 (by decide) (fun c8 => ?_) (fun c8 => ?_)
    · replace h := it_t c8 h
      refine x_iinc (i := 5) (v := (v2 + (1 : Int32))) (l' := [(5, .int (v2 + (1 : Int32))), (0, va_rf r0), (1, .int i1), (2, .int i2), (3, .int i3), (4, .int v1)]) hC dX1_queueHeld_49 5 rfl rfl (⟨fun _ => c_rf r0, ⟨fun _ => rfl, ⟨fun _ => rfl, ⟨fun _ => rfl, ⟨fun _ => rfl, ⟨fun _ => rfl, trivial⟩⟩⟩⟩⟩⟩) (by decide) rfl ?_
      refine x_goto (t := 6) hC dX1_queueHeld_52 (by decide) ?_
      refine x_sub (l' := [(0, va_rf r0), (1, .int i1), (2, .int i2), (3, .int i3), (4, .int v1), (5, .int (v2 + (1 : Int32)))]) [1, 2, 3, 4, 5, 0] rfl ?_
      have hb := bk_x h hg_6
      exact hb
    · replace h := it_f c8 h
      refine x_iload (i := 4) hC dX1_queueHeld_22 4 rfl ?_
      refine x_bipush (v := (8 : Int32)) hC dX1_queueHeld_24 (by decide) ?_
      refine x_icmp_ge (t := 49) hC dX1_queueHeld_26 (by decide) (fun c9 => ?_) (fun c9 => ?_)
      · replace h := it_t c9 h
        refine x_iinc (i := 5) (v := (v2 + (1 : Int32))) (l' := [(5, .int (v2 + (1 : Int32))), (0, va_rf r0), (1, .int i1), (2, .int i2), (3, .int i3), (4, .int v1)]) hC dX1_queueHeld_49 5 rfl rfl (⟨fun _ => c_rf r0, ⟨fun _ => rfl, ⟨fun _ => rfl, ⟨fun _ => rfl, ⟨fun _ => rfl, ⟨fun _ => rfl, trivial⟩⟩⟩⟩⟩⟩) (by decide) rfl ?_
        refine x_goto (t := 6) hC dX1_queueHeld_52 (by decide) ?_
        refine x_sub (l' := [(0, va_rf r0), (1, .int i1), (2, .int i2), (3, .int i3), (4, .int v1), (5, .int (v2 + (1 : Int32)))]) [1, 2, 3, 4, 5, 0] rfl ?_
        have hb := bk_x h hg_6
        exact hb
      · replace h := it_f c9 h
        refine x_aload_n (i := 0) hC dX1_queueHeld_29 rfl 0 rfl ?_
        replace h := dr_el h
        obtain ⟨a10, ea11, ha12, h⟩ := h
        refine x_getR hC ea11 ha12 kf_1 6 (by decide) rfl q_153 dX1_queueHeld_30 ?_
        refine x_iload (i := 5) hC dX1_queueHeld_33 5 rfl ?_
        refine x_iload_n (i := 1) hC dX1_queueHeld_35 rfl 1 rfl ?_
        replace h := dr_el h
        obtain ⟨a13, ea14, ha15, h⟩ := h
        replace h := ck_el h
        obtain ⟨hc16, h⟩ := h
        replace h := le_el h
        obtain ⟨S17, hx18, h⟩ := h
        refine x_iastore hC ea14 ha15 hc16 dX1_queueHeld_36 ?_
        refine x_tS hx18 ?_
        refine x_aload_n (i := 0) hC dX1_queueHeld_37 rfl 0 rfl ?_
        replace h := dr_el h
        obtain ⟨a19, ea20, ha21, h⟩ := h
        refine x_getR hC ea20 ha21 kf_1 7 (by decide) rfl q_154 dX1_queueHeld_38 ?_
        refine x_iload (i := 4) hC dX1_queueHeld_41 4 rfl ?_
        refine x_iload (i := 5) hC dX1_queueHeld_43 5 rfl ?_
        replace h := dr_el h
        obtain ⟨a22, ea23, ha24, h⟩ := h
        replace h := ck_el h
        obtain ⟨hc25, h⟩ := h
        replace h := le_el h
        obtain ⟨S26, hx27, h⟩ := h
        refine x_iastore hC ea23 ha24 hc25 dX1_queueHeld_45 ?_
        refine x_tS hx27 ?_
        refine x_iinc (i := 4) (v := (v1 + (1 : Int32))) (l' := [(4, .int (v1 + (1 : Int32))), (0, va_rf r0), (1, .int i1), (2, .int i2), (3, .int i3), (5, .int v2)]) hC dX1_queueHeld_46 4 rfl rfl (⟨fun _ => c_rf r0, ⟨fun _ => rfl, ⟨fun _ => rfl, ⟨fun _ => rfl, ⟨fun _ => rfl, ⟨fun _ => rfl, trivial⟩⟩⟩⟩⟩⟩) (by decide) rfl ?_
        refine x_iinc (i := 5) (v := (v2 + (1 : Int32))) (l' := [(5, .int (v2 + (1 : Int32))), (4, .int (v1 + (1 : Int32))), (0, va_rf r0), (1, .int i1), (2, .int i2), (3, .int i3)]) hC dX1_queueHeld_49 5 rfl rfl (⟨fun _ => rfl, ⟨fun _ => c_rf r0, ⟨fun _ => rfl, ⟨fun _ => rfl, ⟨fun _ => rfl, ⟨fun _ => rfl, trivial⟩⟩⟩⟩⟩⟩) (by decide) rfl ?_
        refine x_goto (t := 6) hC dX1_queueHeld_52 (by decide) ?_
        refine x_sub (l' := [(0, va_rf r0), (1, .int i1), (2, .int i2), (3, .int i3), (4, .int (v1 + (1 : Int32))), (5, .int (v2 + (1 : Int32)))]) [2, 3, 4, 5, 1, 0] rfl ?_
        have hb := bk_x h hg_6
        exact hb
theorem dX1_findWay_0 : decode cX1_findWay 0 = .ok (.iconst 0, 1) := by decide +kernel
theorem dX1_findWay_1 : decode cX1_findWay 1 = .ok (.istore_n 2, 1) := by decide +kernel
theorem dX1_findWay_2 : decode cX1_findWay 2 = .ok (.iconst 1, 1) := by decide +kernel
theorem dX1_findWay_3 : decode cX1_findWay 3 = .ok (.iload_n 1, 1) := by decide +kernel
theorem dX1_findWay_4 : decode cX1_findWay 4 = .ok (.ishl, 1) := by decide +kernel
theorem dX1_findWay_5 : decode cX1_findWay 5 = .ok (.istore_n 3, 1) := by decide +kernel
theorem dX1_findWay_6 : decode cX1_findWay 6 = .ok (.aload_n 0, 1) := by decide +kernel
theorem dX1_findWay_7 : decode cX1_findWay 7 = .ok (.getfield 33, 3) := by decide +kernel
theorem dX1_findWay_10 : decode cX1_findWay 10 = .ok (.iconst 0, 1) := by decide +kernel
theorem dX1_findWay_11 : decode cX1_findWay 11 = .ok (.iload_n 1, 1) := by decide +kernel
theorem dX1_findWay_12 : decode cX1_findWay 12 = .ok (.iastore, 1) := by decide +kernel
theorem dX1_findWay_13 : decode cX1_findWay 13 = .ok (.iconst 1, 1) := by decide +kernel
theorem dX1_findWay_14 : decode cX1_findWay 14 = .ok (.istore 4, 2) := by decide +kernel
theorem dX1_findWay_16 : decode cX1_findWay 16 = .ok (.iconst 0, 1) := by decide +kernel
theorem dX1_findWay_17 : decode cX1_findWay 17 = .ok (.istore 5, 2) := by decide +kernel
theorem dX1_findWay_19 : decode cX1_findWay 19 = .ok (.iload 5, 2) := by decide +kernel
theorem dX1_findWay_21 : decode cX1_findWay 21 = .ok (.iload 4, 2) := by decide +kernel
theorem dX1_findWay_23 : decode cX1_findWay 23 = .ok (.if_icmp .ge 144, 3) := by decide +kernel
theorem dX1_findWay_26 : decode cX1_findWay 26 = .ok (.iload 5, 2) := by decide +kernel
theorem dX1_findWay_28 : decode cX1_findWay 28 = .ok (.bipush 8, 2) := by decide +kernel
theorem dX1_findWay_30 : decode cX1_findWay 30 = .ok (.if_icmp .ge 137, 3) := by decide +kernel
theorem dX1_findWay_33 : decode cX1_findWay 33 = .ok (.aload_n 0, 1) := by decide +kernel
theorem dX1_findWay_34 : decode cX1_findWay 34 = .ok (.getfield 33, 3) := by decide +kernel
theorem dX1_findWay_37 : decode cX1_findWay 37 = .ok (.iload 5, 2) := by decide +kernel
theorem dX1_findWay_39 : decode cX1_findWay 39 = .ok (.iaload, 1) := by decide +kernel
theorem dX1_findWay_40 : decode cX1_findWay 40 = .ok (.istore 6, 2) := by decide +kernel
theorem dX1_findWay_42 : decode cX1_findWay 42 = .ok (.iconst 0, 1) := by decide +kernel
theorem dX1_findWay_43 : decode cX1_findWay 43 = .ok (.istore 7, 2) := by decide +kernel
theorem dX1_findWay_45 : decode cX1_findWay 45 = .ok (.iload 7, 2) := by decide +kernel
theorem dX1_findWay_47 : decode cX1_findWay 47 = .ok (.bipush 8, 2) := by decide +kernel
theorem dX1_findWay_49 : decode cX1_findWay 49 = .ok (.if_icmp .ge 112, 3) := by decide +kernel
theorem dX1_findWay_52 : decode cX1_findWay 52 = .ok (.iload_n 2, 1) := by decide +kernel
theorem dX1_findWay_53 : decode cX1_findWay 53 = .ok (.iload 7, 2) := by decide +kernel
theorem dX1_findWay_55 : decode cX1_findWay 55 = .ok (.invokestatic 40, 3) := by decide +kernel
theorem dX1_findWay_58 : decode cX1_findWay 58 = .ok (.ifCond .ne 97, 3) := by decide +kernel
theorem dX1_findWay_61 : decode cX1_findWay 61 = .ok (.aload_n 0, 1) := by decide +kernel
theorem dX1_findWay_62 : decode cX1_findWay 62 = .ok (.getfield 15, 3) := by decide +kernel
theorem dX1_findWay_65 : decode cX1_findWay 65 = .ok (.iload 7, 2) := by decide +kernel
theorem dX1_findWay_67 : decode cX1_findWay 67 = .ok (.iaload, 1) := by decide +kernel
theorem dX1_findWay_68 : decode cX1_findWay 68 = .ok (.aload_n 0, 1) := by decide +kernel
theorem dX1_findWay_69 : decode cX1_findWay 69 = .ok (.getfield 24, 3) := by decide +kernel
theorem dX1_findWay_72 : decode cX1_findWay 72 = .ok (.iload 7, 2) := by decide +kernel
theorem dX1_findWay_74 : decode cX1_findWay 74 = .ok (.iaload, 1) := by decide +kernel
theorem dX1_findWay_75 : decode cX1_findWay 75 = .ok (.iconst (-1), 1) := by decide +kernel
theorem dX1_findWay_76 : decode cX1_findWay 76 = .ok (.ixor, 1) := by decide +kernel
theorem dX1_findWay_77 : decode cX1_findWay 77 = .ok (.iand, 1) := by decide +kernel
theorem dX1_findWay_78 : decode cX1_findWay 78 = .ok (.iload 6, 2) := by decide +kernel
theorem dX1_findWay_80 : decode cX1_findWay 80 = .ok (.invokestatic 40, 3) := by decide +kernel
theorem dX1_findWay_83 : decode cX1_findWay 83 = .ok (.ifCond .ne 6, 3) := by decide +kernel
theorem dX1_findWay_86 : decode cX1_findWay 86 = .ok (.goto 69, 3) := by decide +kernel
theorem dX1_findWay_89 : decode cX1_findWay 89 = .ok (.iload_n 2, 1) := by decide +kernel
theorem dX1_findWay_90 : decode cX1_findWay 90 = .ok (.iconst 1, 1) := by decide +kernel
theorem dX1_findWay_91 : decode cX1_findWay 91 = .ok (.iload 7, 2) := by decide +kernel
theorem dX1_findWay_93 : decode cX1_findWay 93 = .ok (.ishl, 1) := by decide +kernel
theorem dX1_findWay_94 : decode cX1_findWay 94 = .ok (.ior, 1) := by decide +kernel
theorem dX1_findWay_95 : decode cX1_findWay 95 = .ok (.istore_n 2, 1) := by decide +kernel
theorem dX1_findWay_96 : decode cX1_findWay 96 = .ok (.aload_n 0, 1) := by decide +kernel
theorem dX1_findWay_97 : decode cX1_findWay 97 = .ok (.getfield 27, 3) := by decide +kernel
theorem dX1_findWay_100 : decode cX1_findWay 100 = .ok (.iload 7, 2) := by decide +kernel
theorem dX1_findWay_102 : decode cX1_findWay 102 = .ok (.iload 6, 2) := by decide +kernel
theorem dX1_findWay_104 : decode cX1_findWay 104 = .ok (.iastore, 1) := by decide +kernel
theorem dX1_findWay_105 : decode cX1_findWay 105 = .ok (.aload_n 0, 1) := by decide +kernel
theorem dX1_findWay_106 : decode cX1_findWay 106 = .ok (.getfield 21, 3) := by decide +kernel
theorem dX1_findWay_109 : decode cX1_findWay 109 = .ok (.iload 7, 2) := by decide +kernel
theorem dX1_findWay_111 : decode cX1_findWay 111 = .ok (.iaload, 1) := by decide +kernel
theorem dX1_findWay_112 : decode cX1_findWay 112 = .ok (.ifCond .le 12, 3) := by decide +kernel
theorem dX1_findWay_115 : decode cX1_findWay 115 = .ok (.aload_n 0, 1) := by decide +kernel
theorem dX1_findWay_116 : decode cX1_findWay 116 = .ok (.iload 7, 2) := by decide +kernel
theorem dX1_findWay_118 : decode cX1_findWay 118 = .ok (.iload_n 1, 1) := by decide +kernel
theorem dX1_findWay_119 : decode cX1_findWay 119 = .ok (.invokevirtual 44, 3) := by decide +kernel
theorem dX1_findWay_122 : decode cX1_findWay 122 = .ok (.iconst 1, 1) := by decide +kernel
theorem dX1_findWay_123 : decode cX1_findWay 123 = .ok (.ireturn, 1) := by decide +kernel
theorem dX1_findWay_124 : decode cX1_findWay 124 = .ok (.aload_n 0, 1) := by decide +kernel
theorem dX1_findWay_125 : decode cX1_findWay 125 = .ok (.iload 7, 2) := by decide +kernel
theorem dX1_findWay_127 : decode cX1_findWay 127 = .ok (.aload_n 0, 1) := by decide +kernel
theorem dX1_findWay_128 : decode cX1_findWay 128 = .ok (.getfield 24, 3) := by decide +kernel
theorem dX1_findWay_131 : decode cX1_findWay 131 = .ok (.iload 7, 2) := by decide +kernel
theorem dX1_findWay_133 : decode cX1_findWay 133 = .ok (.iaload, 1) := by decide +kernel
theorem dX1_findWay_134 : decode cX1_findWay 134 = .ok (.iload_n 3, 1) := by decide +kernel
theorem dX1_findWay_135 : decode cX1_findWay 135 = .ok (.iconst (-1), 1) := by decide +kernel
theorem dX1_findWay_136 : decode cX1_findWay 136 = .ok (.ixor, 1) := by decide +kernel
theorem dX1_findWay_137 : decode cX1_findWay 137 = .ok (.iand, 1) := by decide +kernel
theorem dX1_findWay_138 : decode cX1_findWay 138 = .ok (.iload 4, 2) := by decide +kernel
theorem dX1_findWay_140 : decode cX1_findWay 140 = .ok (.invokevirtual 48, 3) := by decide +kernel
theorem dX1_findWay_143 : decode cX1_findWay 143 = .ok (.istore 4, 2) := by decide +kernel
theorem dX1_findWay_145 : decode cX1_findWay 145 = .ok (.iload_n 3, 1) := by decide +kernel
theorem dX1_findWay_146 : decode cX1_findWay 146 = .ok (.aload_n 0, 1) := by decide +kernel
theorem dX1_findWay_147 : decode cX1_findWay 147 = .ok (.getfield 24, 3) := by decide +kernel
theorem dX1_findWay_150 : decode cX1_findWay 150 = .ok (.iload 7, 2) := by decide +kernel
theorem dX1_findWay_152 : decode cX1_findWay 152 = .ok (.iaload, 1) := by decide +kernel
theorem dX1_findWay_153 : decode cX1_findWay 153 = .ok (.ior, 1) := by decide +kernel
theorem dX1_findWay_154 : decode cX1_findWay 154 = .ok (.istore_n 3, 1) := by decide +kernel
theorem dX1_findWay_155 : decode cX1_findWay 155 = .ok (.iinc 7 1, 3) := by decide +kernel
theorem dX1_findWay_158 : decode cX1_findWay 158 = .ok (.goto (-113), 3) := by decide +kernel
theorem dX1_findWay_161 : decode cX1_findWay 161 = .ok (.iinc 5 1, 3) := by decide +kernel
theorem dX1_findWay_164 : decode cX1_findWay 164 = .ok (.goto (-145), 3) := by decide +kernel
theorem dX1_findWay_167 : decode cX1_findWay 167 = .ok (.iconst 0, 1) := by decide +kernel
theorem dX1_findWay_168 : decode cX1_findWay 168 = .ok (.ireturn, 1) := by decide +kernel
set_option maxRecDepth 100000 in
set_option maxHeartbeats 4000000 in
theorem mt_X1_findWay (r0 : Option Nat) (i1 : Int32) (S0 : PH) (y : Int32 × PH) (h : m_X1_findWay r0 i1 S0 = some y) : MT yX1_findWay (.code yX1_findWay cX1_findWay 8 (Option.some FieldType.boolean)) 2 46 0 0 [va_rf r0, .int i1] S0 (oQ e_I (qN y)) := by
  refine mt_of (own := RX1) (l0 := [(0, va_rf r0), (1, .int i1)]) rfl rfl (by cases r0 <;> exact Nat.le_of_ble_eq_true rfl) (by cases r0 <;> rfl) ?_
  intro Z hC hQ hE hN
  unfold m_X1_findWay at h
  refine x_iconst (v := (0 : Int32)) hC dX1_findWay_0 (by decide) ?_
  refine x_istore_n (i := 2) (l' := [(2, .int (0 : Int32)), (0, va_rf r0), (1, .int i1)]) hC dX1_findWay_1 rfl (⟨fun _ => c_rf r0, ⟨fun _ => rfl, trivial⟩⟩) (by decide) rfl ?_
  refine x_iconst (v := (1 : Int32)) hC dX1_findWay_2 (by decide) ?_
  refine x_iload_n (i := 1) hC dX1_findWay_3 rfl 2 rfl ?_
  refine x_ishl hC dX1_findWay_4 ?_
  replace h := le_el h
  obtain ⟨x1, hx2, h⟩ := h
  refine x_tI hx2 ?_
  refine x_istore_n (i := 3) (l' := [(3, .int x1), (2, .int (0 : Int32)), (0, va_rf r0), (1, .int i1)]) hC dX1_findWay_5 rfl (⟨fun _ => rfl, ⟨fun _ => c_rf r0, ⟨fun _ => rfl, trivial⟩⟩⟩) (by decide) rfl ?_
  refine x_aload_n (i := 0) hC dX1_findWay_6 rfl 2 rfl ?_
  replace h := dr_el h
  obtain ⟨a3, ea4, ha5, h⟩ := h
  refine x_getR hC ea4 ha5 kf_1 7 (by decide) rfl q_154 dX1_findWay_7 ?_
  refine x_iconst (v := (0 : Int32)) hC dX1_findWay_10 (by decide) ?_
  refine x_iload_n (i := 1) hC dX1_findWay_11 rfl 3 rfl ?_
  replace h := dr_el h
  obtain ⟨a6, ea7, ha8, h⟩ := h
  replace h := ck_el h
  obtain ⟨hc9, h⟩ := h
  replace h := le_el h
  obtain ⟨S10, hx11, h⟩ := h
  refine x_iastore hC ea7 ha8 hc9 dX1_findWay_12 ?_
  refine x_tS hx11 ?_
  refine x_iconst (v := (1 : Int32)) hC dX1_findWay_13 (by decide) ?_
  refine x_istore (i := 4) (l' := [(4, .int (1 : Int32)), (3, .int x1), (2, .int (0 : Int32)), (0, va_rf r0), (1, .int i1)]) hC dX1_findWay_14 (⟨fun _ => rfl, ⟨fun _ => rfl, ⟨fun _ => c_rf r0, ⟨fun _ => rfl, trivial⟩⟩⟩⟩) (by decide) rfl ?_
  refine x_iconst (v := (0 : Int32)) hC dX1_findWay_16 (by decide) ?_
  refine x_istore (i := 5) (l' := [(5, .int (0 : Int32)), (4, .int (1 : Int32)), (3, .int x1), (2, .int (0 : Int32)), (0, va_rf r0), (1, .int i1)]) hC dX1_findWay_17 (⟨fun _ => rfl, ⟨fun _ => rfl, ⟨fun _ => rfl, ⟨fun _ => c_rf r0, ⟨fun _ => rfl, trivial⟩⟩⟩⟩⟩) (by decide) rfl ?_
  refine x_sub (l' := [(0, va_rf r0), (1, .int i1), (2, .int (0 : Int32)), (3, .int x1), (4, .int (1 : Int32)), (5, .int (0 : Int32))]) [4, 5, 3, 2, 1, 0] rfl ?_
  refine lp_sim (P := fun (t : (Int32 × Int32 × Int32 × Int32 × PH)) => PX Z 8 t.2.2.2.2 0 0 19 [(0, va_rf r0), (1, .int i1), (2, .int t.1), (3, .int t.2.1), (4, .int t.2.2.1), (5, .int t.2.2.2.1)] []) (G := fun r => r = y) ?_ h rfl
  clear h
  intro t x_19 h hg_19
  obtain ⟨v12, v13, v14, v15, S16⟩ := t
  show PX Z 8 S16 0 0 19 [(0, va_rf r0), (1, .int i1), (2, .int v12), (3, .int v13), (4, .int v14), (5, .int v15)] []
  unfold st_X1_findWay_19 at h
  refine x_iload (i := 5) hC dX1_findWay_19 5 rfl ?_
  refine x_iload (i := 4) hC dX1_findWay_21 4 rfl ?_
  refine x_icmp_ge (t := 167) hC dX1_findWay_23 (by decide) (fun c17 => ?_) (fun c17 => ?_)
  · replace h := it_t c17 h
    replace h := ir_x h hg_19
    refine x_iconst (v := (0 : Int32)) hC dX1_findWay_167 (by decide) ?_
    exact x_zret hC hQ (by decide) (z_N (Option.some.inj h)) (Nat.le_of_ble_eq_true rfl) (Nat.le_of_ble_eq_true rfl) dX1_findWay_168
  · replace h := it_f c17 h
    refine x_iload (i := 5) hC dX1_findWay_26 5 rfl ?_
    refine x_bipush (v := (8 : Int32)) hC dX1_findWay_28 (by decide) ?_
    refine x_icmp_ge (t := 167) hC dX1_findWay_30 (by decide) (fun c18 => ?_) (fun c18 => ?_)
    · replace h := it_t c18 h
      replace h := ir_x h hg_19
      refine x_iconst (v := (0 : Int32)) hC dX1_findWay_167 (by decide) ?_
      exact x_zret hC hQ (by decide) (z_N (Option.some.inj h)) (Nat.le_of_ble_eq_true rfl) (Nat.le_of_ble_eq_true rfl) dX1_findWay_168
    · replace h := it_f c18 h
      refine x_aload_n (i := 0) hC dX1_findWay_33 rfl 0 rfl ?_
      replace h := dr_el h
      obtain ⟨a19, ea20, ha21, h⟩ := h
      refine x_getR hC ea20 ha21 kf_1 7 (by decide) rfl q_154 dX1_findWay_34 ?_
      refine x_iload (i := 5) hC dX1_findWay_37 5 rfl ?_
      replace h := dr_el h
      obtain ⟨a22, ea23, ha24, h⟩ := h
      replace h := ck_el h
      obtain ⟨hc25, h⟩ := h
      refine x_iaload hC ea23 ha24 hc25 dX1_findWay_39 ?_
      replace h := le_el h
      obtain ⟨x26, hx27, h⟩ := h
      refine x_tI hx27 ?_
      refine x_istore (i := 6) (l' := [(6, .int x26), (0, va_rf r0), (1, .int i1), (2, .int v12), (3, .int v13), (4, .int v14), (5, .int v15)]) hC dX1_findWay_40 (⟨fun _ => c_rf r0, ⟨fun _ => rfl, ⟨fun _ => rfl, ⟨fun _ => rfl, ⟨fun _ => rfl, ⟨fun _ => rfl, trivial⟩⟩⟩⟩⟩⟩) (by decide) rfl ?_
      refine x_iconst (v := (0 : Int32)) hC dX1_findWay_42 (by decide) ?_
      refine x_istore (i := 7) (l' := [(7, .int (0 : Int32)), (6, .int x26), (0, va_rf r0), (1, .int i1), (2, .int v12), (3, .int v13), (4, .int v14), (5, .int v15)]) hC dX1_findWay_43 (⟨fun _ => rfl, ⟨fun _ => c_rf r0, ⟨fun _ => rfl, ⟨fun _ => rfl, ⟨fun _ => rfl, ⟨fun _ => rfl, ⟨fun _ => rfl, trivial⟩⟩⟩⟩⟩⟩⟩) (by decide) rfl ?_
      refine x_sub (l' := [(0, va_rf r0), (1, .int i1), (2, .int v12), (3, .int v13), (4, .int v14), (5, .int v15), (6, .int x26), (7, .int (0 : Int32))]) [2, 3, 4, 5, 6, 7, 1, 0] rfl ?_
      refine lp_sim (P := fun (t : (Int32 × Int32 × Int32 × Int32 × Int32 × Int32 × PH)) => PX Z 8 t.2.2.2.2.2.2 0 0 45 [(0, va_rf r0), (1, .int i1), (2, .int t.1), (3, .int t.2.1), (4, .int t.2.2.1), (5, .int t.2.2.2.1), (6, .int t.2.2.2.2.1), (7, .int t.2.2.2.2.2.1)] []) (G := fun r => r = x_19) ?_ h rfl
      clear h
      intro t x_45 h hg_45
      obtain ⟨v28, v29, v30, v31, v32, v33, S34⟩ := t
      show PX Z 8 S34 0 0 45 [(0, va_rf r0), (1, .int i1), (2, .int v28), (3, .int v29), (4, .int v30), (5, .int v31), (6, .int v32), (7, .int v33)] []
      unfold st_X1_findWay_45 at h
      refine x_iload (i := 7) hC dX1_findWay_45 7 rfl ?_
      refine x_bipush (v := (8 : Int32)) hC dX1_findWay_47 (by decide) ?_
      refine x_icmp_ge (t := 161) hC dX1_findWay_49 (by decide) (fun c35 => ?_) (fun c35 => ?_)
      · replace h := it_t c35 h
        replace h := ir_x h hg_45
        refine x_iinc (i := 5) (v := (v31 + (1 : Int32))) (l' := [(5, .int (v31 + (1 : Int32))), (0, va_rf r0), (1, .int i1), (2, .int v28), (3, .int v29), (4, .int v30), (6, .int v32), (7, .int v33)]) hC dX1_findWay_161 5 rfl rfl (⟨fun _ => c_rf r0, ⟨fun _ => rfl, ⟨fun _ => rfl, ⟨fun _ => rfl, ⟨fun _ => rfl, ⟨fun _ => rfl, ⟨fun _ => rfl, ⟨fun _ => rfl, trivial⟩⟩⟩⟩⟩⟩⟩⟩) (by decide) rfl ?_
        refine x_goto (t := 19) hC dX1_findWay_164 (by decide) ?_
        refine x_sub (l' := [(0, va_rf r0), (1, .int i1), (2, .int v28), (3, .int v29), (4, .int v30), (5, .int (v31 + (1 : Int32)))]) [1, 2, 3, 4, 5, 0] rfl ?_
        have hb := bk_x h hg_19
        exact hb
      · replace h := it_f c35 h
        refine x_iload_n (i := 2) hC dX1_findWay_52 rfl 2 rfl ?_
        refine x_iload (i := 7) hC dX1_findWay_53 7 rfl ?_
        replace h := bd_el h
        obtain ⟨v36, S37, hb38, h⟩ := h
        refine x_callSN hC (host := "TokenReviews") (st := []) (mt_X4_has _ _ _ _ hb38) (List.mem_of_getElem? (i := 15) rfl) q_367 q_1 q_368 hy_X4_has ⟨Nat.le_of_ble_eq_true rfl, Nat.le_of_ble_eq_true rfl⟩ ⟨Nat.le_of_ble_eq_true rfl, Nat.le_of_ble_eq_true rfl⟩ rfl (Nat.le_of_ble_eq_true rfl) dX1_findWay_55 (r_N ?_) r_NX
        show PX Z 8 S37 0 0 58 [(0, va_rf r0), (1, .int i1), (2, .int v28), (3, .int v29), (4, .int v30), (5, .int v31), (6, .int v32), (7, .int v33)] [.int v36]
        refine x_if_ne (t := 155) hC dX1_findWay_58 (by decide) (fun c39 => ?_) (fun c39 => ?_)
        · replace h := it_f c39 h
          refine x_iinc (i := 7) (v := (v33 + (1 : Int32))) (l' := [(7, .int (v33 + (1 : Int32))), (0, va_rf r0), (1, .int i1), (2, .int v28), (3, .int v29), (4, .int v30), (5, .int v31), (6, .int v32)]) hC dX1_findWay_155 7 rfl rfl (⟨fun _ => c_rf r0, ⟨fun _ => rfl, ⟨fun _ => rfl, ⟨fun _ => rfl, ⟨fun _ => rfl, ⟨fun _ => rfl, ⟨fun _ => rfl, ⟨fun _ => rfl, trivial⟩⟩⟩⟩⟩⟩⟩⟩) (by decide) rfl ?_
          refine x_goto (t := 45) hC dX1_findWay_158 (by decide) ?_
          refine x_sub (l' := [(0, va_rf r0), (1, .int i1), (2, .int v28), (3, .int v29), (4, .int v30), (5, .int v31), (6, .int v32), (7, .int (v33 + (1 : Int32)))]) [1, 2, 3, 4, 5, 6, 7, 0] rfl ?_
          have hb := bk_x h hg_45
          exact hb
        · replace h := it_t c39 h
          refine x_aload_n (i := 0) hC dX1_findWay_61 rfl 0 rfl ?_
          replace h := dr_el h
          obtain ⟨a40, ea41, ha42, h⟩ := h
          refine x_getR hC ea41 ha42 kf_1 1 (by decide) rfl q_146 dX1_findWay_62 ?_
          refine x_iload (i := 7) hC dX1_findWay_65 7 rfl ?_
          replace h := dr_el h
          obtain ⟨a43, ea44, ha45, h⟩ := h
          replace h := ck_el h
          obtain ⟨hc46, h⟩ := h
          refine x_iaload hC ea44 ha45 hc46 dX1_findWay_67 ?_
          refine x_aload_n (i := 0) hC dX1_findWay_68 rfl 0 rfl ?_
          refine x_getR hC ea41 ha42 kf_1 4 (by decide) rfl q_151 dX1_findWay_69 ?_
          refine x_iload (i := 7) hC dX1_findWay_72 7 rfl ?_
          replace h := dr_el h
          obtain ⟨a47, ea48, ha49, h⟩ := h
          replace h := ck_el h
          obtain ⟨hc50, h⟩ := h
          refine x_iaload hC ea48 ha49 hc50 dX1_findWay_74 ?_
          refine x_iconst (v := (-1 : Int32)) hC dX1_findWay_75 (by decide) ?_
          refine x_ixor hC dX1_findWay_76 ?_
          refine x_iand hC dX1_findWay_77 ?_
          refine x_iload (i := 6) hC dX1_findWay_78 6 rfl ?_
          replace h := bd_el h
          obtain ⟨v51, S52, hb53, h⟩ := h
          refine x_callSN hC (host := "TokenReviews") (st := []) (mt_X4_has _ _ _ _ hb53) (List.mem_of_getElem? (i := 15) rfl) q_367 q_1 q_368 hy_X4_has ⟨Nat.le_of_ble_eq_true rfl, Nat.le_of_ble_eq_true rfl⟩ ⟨Nat.le_of_ble_eq_true rfl, Nat.le_of_ble_eq_true rfl⟩ rfl (Nat.le_of_ble_eq_true rfl) dX1_findWay_80 (r_N ?_) r_NX
          show PX Z 8 S52 0 0 83 [(0, va_rf r0), (1, .int i1), (2, .int v28), (3, .int v29), (4, .int v30), (5, .int v31), (6, .int v32), (7, .int v33)] [.int v51]
          refine x_if_ne (t := 89) hC dX1_findWay_83 (by decide) (fun c54 => ?_) (fun c54 => ?_)
          · replace h := it_f c54 h
            refine x_iload_n (i := 2) hC dX1_findWay_89 rfl 2 rfl ?_
            refine x_iconst (v := (1 : Int32)) hC dX1_findWay_90 (by decide) ?_
            refine x_iload (i := 7) hC dX1_findWay_91 7 rfl ?_
            refine x_ishl hC dX1_findWay_93 ?_
            refine x_ior hC dX1_findWay_94 ?_
            replace h := le_el h
            obtain ⟨x55, hx56, h⟩ := h
            refine x_tI hx56 ?_
            refine x_istore_n (i := 2) (l' := [(2, .int x55), (0, va_rf r0), (1, .int i1), (3, .int v29), (4, .int v30), (5, .int v31), (6, .int v32), (7, .int v33)]) hC dX1_findWay_95 rfl (⟨fun _ => c_rf r0, ⟨fun _ => rfl, ⟨fun _ => rfl, ⟨fun _ => rfl, ⟨fun _ => rfl, ⟨fun _ => rfl, ⟨fun _ => rfl, ⟨fun _ => rfl, trivial⟩⟩⟩⟩⟩⟩⟩⟩) (by decide) rfl ?_
            refine x_aload_n (i := 0) hC dX1_findWay_96 rfl 1 rfl ?_
            replace h := dr_el h
            obtain ⟨a57, ea58, ha59, h⟩ := h
            refine x_getR hC ea58 ha59 kf_1 5 (by decide) rfl q_152 dX1_findWay_97 ?_
            refine x_iload (i := 7) hC dX1_findWay_100 7 rfl ?_
            refine x_iload (i := 6) hC dX1_findWay_102 6 rfl ?_
            replace h := dr_el h
            obtain ⟨a60, ea61, ha62, h⟩ := h
            replace h := ck_el h
            obtain ⟨hc63, h⟩ := h
            replace h := le_el h
            obtain ⟨S64, hx65, h⟩ := h
            refine x_iastore hC ea61 ha62 hc63 dX1_findWay_104 ?_
            refine x_tS hx65 ?_
            refine x_aload_n (i := 0) hC dX1_findWay_105 rfl 1 rfl ?_
            replace h := dr_el h
            obtain ⟨a66, ea67, ha68, h⟩ := h
            refine x_getR hC ea67 ha68 kf_1 3 (by decide) rfl q_150 dX1_findWay_106 ?_
            refine x_iload (i := 7) hC dX1_findWay_109 7 rfl ?_
            replace h := dr_el h
            obtain ⟨a69, ea70, ha71, h⟩ := h
            replace h := ck_el h
            obtain ⟨hc72, h⟩ := h
            refine x_iaload hC ea70 ha71 hc72 dX1_findWay_111 ?_
            refine x_if_le (t := 124) hC dX1_findWay_112 (by decide) (fun c73 => ?_) (fun c73 => ?_)
            · replace h := it_t c73 h
              refine x_aload_n (i := 0) hC dX1_findWay_124 rfl 1 rfl ?_
              refine x_iload (i := 7) hC dX1_findWay_125 7 rfl ?_
              refine x_aload_n (i := 0) hC dX1_findWay_127 rfl 1 rfl ?_
              refine x_getR hC ea67 ha68 kf_1 4 (by decide) rfl q_151 dX1_findWay_128 ?_
              refine x_iload (i := 7) hC dX1_findWay_131 7 rfl ?_
              replace h := dr_el h
              obtain ⟨a74, ea75, ha76, h⟩ := h
              replace h := ck_el h
              obtain ⟨hc77, h⟩ := h
              refine x_iaload hC ea75 ha76 hc77 dX1_findWay_133 ?_
              refine x_iload_n (i := 3) hC dX1_findWay_134 rfl 3 rfl ?_
              refine x_iconst (v := (-1 : Int32)) hC dX1_findWay_135 (by decide) ?_
              refine x_ixor hC dX1_findWay_136 ?_
              refine x_iand hC dX1_findWay_137 ?_
              refine x_iload (i := 4) hC dX1_findWay_138 4 rfl ?_
              replace h := bd_el h
              obtain ⟨v78, S79, hb80, h⟩ := h
              refine x_callV hC (st := []) (mt_X1_queueHeld _ _ _ _ _ _ hb80) ea67 ha68 kf_1 q_475 q_476 q_477 q_6 q_478 ⟨rfl, hy_X1_queueHeld⟩ ⟨Nat.le_of_ble_eq_true rfl, Nat.le_of_ble_eq_true rfl⟩ ⟨Nat.le_of_ble_eq_true rfl, Nat.le_of_ble_eq_true rfl⟩ rfl (Nat.le_of_ble_eq_true rfl) dX1_findWay_140 (r_N ?_) r_NX
              show PX Z 8 S79 0 0 143 [(2, .int x55), (0, va_rf r0), (1, .int i1), (3, .int v29), (4, .int v30), (5, .int v31), (6, .int v32), (7, .int v33)] [.int v78]
              refine x_istore (i := 4) (l' := [(4, .int v78), (2, .int x55), (0, va_rf r0), (1, .int i1), (3, .int v29), (5, .int v31), (6, .int v32), (7, .int v33)]) hC dX1_findWay_143 (⟨fun _ => rfl, ⟨fun _ => c_rf r0, ⟨fun _ => rfl, ⟨fun _ => rfl, ⟨fun _ => rfl, ⟨fun _ => rfl, ⟨fun _ => rfl, ⟨fun _ => rfl, trivial⟩⟩⟩⟩⟩⟩⟩⟩) (by decide) rfl ?_
              refine x_iload_n (i := 3) hC dX1_findWay_145 rfl 4 rfl ?_
              refine x_aload_n (i := 0) hC dX1_findWay_146 rfl 2 rfl ?_
              replace h := dr_el h
              obtain ⟨a81, ea82, ha83, h⟩ := h
              refine x_getR hC ea82 ha83 kf_1 4 (by decide) rfl q_151 dX1_findWay_147 ?_
              refine x_iload (i := 7) hC dX1_findWay_150 7 rfl ?_
              replace h := dr_el h
              obtain ⟨a84, ea85, ha86, h⟩ := h
              replace h := ck_el h
              obtain ⟨hc87, h⟩ := h
              refine x_iaload hC ea85 ha86 hc87 dX1_findWay_152 ?_
              refine x_ior hC dX1_findWay_153 ?_
              replace h := le_el h
              obtain ⟨x88, hx89, h⟩ := h
              refine x_tI hx89 ?_
              refine x_istore_n (i := 3) (l' := [(3, .int x88), (4, .int v78), (2, .int x55), (0, va_rf r0), (1, .int i1), (5, .int v31), (6, .int v32), (7, .int v33)]) hC dX1_findWay_154 rfl (⟨fun _ => rfl, ⟨fun _ => rfl, ⟨fun _ => c_rf r0, ⟨fun _ => rfl, ⟨fun _ => rfl, ⟨fun _ => rfl, ⟨fun _ => rfl, ⟨fun _ => rfl, trivial⟩⟩⟩⟩⟩⟩⟩⟩) (by decide) rfl ?_
              refine x_iinc (i := 7) (v := (v33 + (1 : Int32))) (l' := [(7, .int (v33 + (1 : Int32))), (3, .int x88), (4, .int v78), (2, .int x55), (0, va_rf r0), (1, .int i1), (5, .int v31), (6, .int v32)]) hC dX1_findWay_155 7 rfl rfl (⟨fun _ => rfl, ⟨fun _ => rfl, ⟨fun _ => rfl, ⟨fun _ => c_rf r0, ⟨fun _ => rfl, ⟨fun _ => rfl, ⟨fun _ => rfl, ⟨fun _ => rfl, trivial⟩⟩⟩⟩⟩⟩⟩⟩) (by decide) rfl ?_
              refine x_goto (t := 45) hC dX1_findWay_158 (by decide) ?_
              refine x_sub (l' := [(0, va_rf r0), (1, .int i1), (2, .int x55), (3, .int x88), (4, .int v78), (5, .int v31), (6, .int v32), (7, .int (v33 + (1 : Int32)))]) [4, 5, 3, 1, 2, 6, 7, 0] rfl ?_
              have hb := bk_x h hg_45
              exact hb
            · replace h := it_f c73 h
              replace h := ir_x h hg_45
              replace h := ir_x h hg_19
              refine x_aload_n (i := 0) hC dX1_findWay_115 rfl 1 rfl ?_
              refine x_iload (i := 7) hC dX1_findWay_116 7 rfl ?_
              refine x_iload_n (i := 1) hC dX1_findWay_118 rfl 2 rfl ?_
              replace h := bd_el h
              obtain ⟨v90, S91, hb92, h⟩ := h
              refine x_callV hC (st := []) (mt_X1_exchange _ _ _ _ _ hb92) ea67 ha68 kf_1 q_471 q_472 q_473 q_6 q_474 ⟨rfl, hy_X1_exchange⟩ ⟨Nat.le_of_ble_eq_true rfl, Nat.le_of_ble_eq_true rfl⟩ ⟨Nat.le_of_ble_eq_true rfl, Nat.le_of_ble_eq_true rfl⟩ rfl (Nat.le_of_ble_eq_true rfl) dX1_findWay_119 (r_N ?_) r_NX
              show PX Z 8 S91 0 0 122 [(2, .int x55), (0, va_rf r0), (1, .int i1), (3, .int v29), (4, .int v30), (5, .int v31), (6, .int v32), (7, .int v33)] []
              refine x_iconst (v := (1 : Int32)) hC dX1_findWay_122 (by decide) ?_
              exact x_zret hC hQ (by decide) (z_N (Option.some.inj h)) (Nat.le_of_ble_eq_true rfl) (Nat.le_of_ble_eq_true rfl) dX1_findWay_123
          · replace h := it_t c54 h
            refine x_goto (t := 155) hC dX1_findWay_86 (by decide) ?_
            refine x_iinc (i := 7) (v := (v33 + (1 : Int32))) (l' := [(7, .int (v33 + (1 : Int32))), (0, va_rf r0), (1, .int i1), (2, .int v28), (3, .int v29), (4, .int v30), (5, .int v31), (6, .int v32)]) hC dX1_findWay_155 7 rfl rfl (⟨fun _ => c_rf r0, ⟨fun _ => rfl, ⟨fun _ => rfl, ⟨fun _ => rfl, ⟨fun _ => rfl, ⟨fun _ => rfl, ⟨fun _ => rfl, ⟨fun _ => rfl, trivial⟩⟩⟩⟩⟩⟩⟩⟩) (by decide) rfl ?_
            refine x_goto (t := 45) hC dX1_findWay_158 (by decide) ?_
            refine x_sub (l' := [(0, va_rf r0), (1, .int i1), (2, .int v28), (3, .int v29), (4, .int v30), (5, .int v31), (6, .int v32), (7, .int (v33 + (1 : Int32)))]) [1, 2, 3, 4, 5, 6, 7, 0] rfl ?_
            have hb := bk_x h hg_45
            exact hb
theorem dX1_byWays_0 : decode cX1_byWays 0 = .ok (.iconst 0, 1) := by decide +kernel
theorem dX1_byWays_1 : decode cX1_byWays 1 = .ok (.istore_n 2, 1) := by decide +kernel
theorem dX1_byWays_2 : decode cX1_byWays 2 = .ok (.iload_n 2, 1) := by decide +kernel
theorem dX1_byWays_3 : decode cX1_byWays 3 = .ok (.bipush 8, 2) := by decide +kernel
theorem dX1_byWays_5 : decode cX1_byWays 5 = .ok (.if_icmp .ge 37, 3) := by decide +kernel
theorem dX1_byWays_8 : decode cX1_byWays 8 = .ok (.aload_n 0, 1) := by decide +kernel
theorem dX1_byWays_9 : decode cX1_byWays 9 = .ok (.getfield 21, 3) := by decide +kernel
theorem dX1_byWays_12 : decode cX1_byWays 12 = .ok (.iload_n 2, 1) := by decide +kernel
theorem dX1_byWays_13 : decode cX1_byWays 13 = .ok (.iload_n 2, 1) := by decide +kernel
theorem dX1_byWays_14 : decode cX1_byWays 14 = .ok (.iload_n 1, 1) := by decide +kernel
theorem dX1_byWays_15 : decode cX1_byWays 15 = .ok (.if_icmp .ne 7, 3) := by decide +kernel
theorem dX1_byWays_18 : decode cX1_byWays 18 = .ok (.iconst 0, 1) := by decide +kernel
theorem dX1_byWays_19 : decode cX1_byWays 19 = .ok (.goto 9, 3) := by decide +kernel
theorem dX1_byWays_22 : decode cX1_byWays 22 = .ok (.aload_n 0, 1) := by decide +kernel
theorem dX1_byWays_23 : decode cX1_byWays 23 = .ok (.getfield 9, 3) := by decide +kernel
theorem dX1_byWays_26 : decode cX1_byWays 26 = .ok (.iload_n 2, 1) := by decide +kernel
theorem dX1_byWays_27 : decode cX1_byWays 27 = .ok (.iaload, 1) := by decide +kernel
theorem dX1_byWays_28 : decode cX1_byWays 28 = .ok (.iastore, 1) := by decide +kernel
theorem dX1_byWays_29 : decode cX1_byWays 29 = .ok (.aload_n 0, 1) := by decide +kernel
theorem dX1_byWays_30 : decode cX1_byWays 30 = .ok (.getfield 24, 3) := by decide +kernel
theorem dX1_byWays_33 : decode cX1_byWays 33 = .ok (.iload_n 2, 1) := by decide +kernel
theorem dX1_byWays_34 : decode cX1_byWays 34 = .ok (.iconst 0, 1) := by decide +kernel
theorem dX1_byWays_35 : decode cX1_byWays 35 = .ok (.iastore, 1) := by decide +kernel
theorem dX1_byWays_36 : decode cX1_byWays 36 = .ok (.iinc 2 1, 3) := by decide +kernel
theorem dX1_byWays_39 : decode cX1_byWays 39 = .ok (.goto (-37), 3) := by decide +kernel
theorem dX1_byWays_42 : decode cX1_byWays 42 = .ok (.iconst 0, 1) := by decide +kernel
theorem dX1_byWays_43 : decode cX1_byWays 43 = .ok (.istore_n 2, 1) := by decide +kernel
theorem dX1_byWays_44 : decode cX1_byWays 44 = .ok (.iconst 0, 1) := by decide +kernel
theorem dX1_byWays_45 : decode cX1_byWays 45 = .ok (.istore_n 3, 1) := by decide +kernel
theorem dX1_byWays_46 : decode cX1_byWays 46 = .ok (.iload_n 3, 1) := by decide +kernel
theorem dX1_byWays_47 : decode cX1_byWays 47 = .ok (.bipush 8, 2) := by decide +kernel
theorem dX1_byWays_49 : decode cX1_byWays 49 = .ok (.if_icmp .ge 42, 3) := by decide +kernel
theorem dX1_byWays_52 : decode cX1_byWays 52 = .ok (.iconst 0, 1) := by decide +kernel
theorem dX1_byWays_53 : decode cX1_byWays 53 = .ok (.istore 4, 2) := by decide +kernel
theorem dX1_byWays_55 : decode cX1_byWays 55 = .ok (.iload 4, 2) := by decide +kernel
theorem dX1_byWays_57 : decode cX1_byWays 57 = .ok (.aload_n 0, 1) := by decide +kernel
theorem dX1_byWays_58 : decode cX1_byWays 58 = .ok (.getfield 18, 3) := by decide +kernel
theorem dX1_byWays_61 : decode cX1_byWays 61 = .ok (.iload_n 3, 1) := by decide +kernel
theorem dX1_byWays_62 : decode cX1_byWays 62 = .ok (.iaload, 1) := by decide +kernel
theorem dX1_byWays_63 : decode cX1_byWays 63 = .ok (.if_icmp .ge 17, 3) := by decide +kernel
theorem dX1_byWays_66 : decode cX1_byWays 66 = .ok (.aload_n 0, 1) := by decide +kernel
theorem dX1_byWays_67 : decode cX1_byWays 67 = .ok (.iload_n 3, 1) := by decide +kernel
theorem dX1_byWays_68 : decode cX1_byWays 68 = .ok (.invokevirtual 36, 3) := by decide +kernel
theorem dX1_byWays_71 : decode cX1_byWays 71 = .ok (.ifCond .eq 9, 3) := by decide +kernel
theorem dX1_byWays_74 : decode cX1_byWays 74 = .ok (.iinc 4 1, 3) := by decide +kernel
theorem dX1_byWays_77 : decode cX1_byWays 77 = .ok (.goto (-22), 3) := by decide +kernel
theorem dX1_byWays_80 : decode cX1_byWays 80 = .ok (.iload_n 2, 1) := by decide +kernel
theorem dX1_byWays_81 : decode cX1_byWays 81 = .ok (.iload 4, 2) := by decide +kernel
theorem dX1_byWays_83 : decode cX1_byWays 83 = .ok (.iadd, 1) := by decide +kernel
theorem dX1_byWays_84 : decode cX1_byWays 84 = .ok (.istore_n 2, 1) := by decide +kernel
theorem dX1_byWays_85 : decode cX1_byWays 85 = .ok (.iinc 3 1, 3) := by decide +kernel
theorem dX1_byWays_88 : decode cX1_byWays 88 = .ok (.goto (-42), 3) := by decide +kernel
theorem dX1_byWays_91 : decode cX1_byWays 91 = .ok (.iload_n 2, 1) := by decide +kernel
theorem dX1_byWays_92 : decode cX1_byWays 92 = .ok (.ireturn, 1) := by decide +kernel
set_option maxRecDepth 100000 in
set_option maxHeartbeats 4000000 in
theorem mt_X1_byWays (r0 : Option Nat) (i1 : Int32) (S0 : PH) (y : Int32 × PH) (h : m_X1_byWays r0 i1 S0 = some y) : MT yX1_byWays (.code yX1_byWays cX1_byWays 5 (Option.some FieldType.int)) 3 73 0 0 [va_rf r0, .int i1] S0 (oQ e_I (qN y)) := by
  refine mt_of (own := RX1) (l0 := [(0, va_rf r0), (1, .int i1)]) rfl rfl (by cases r0 <;> exact Nat.le_of_ble_eq_true rfl) (by cases r0 <;> rfl) ?_
  intro Z hC hQ hE hN
  unfold m_X1_byWays at h
  refine x_iconst (v := (0 : Int32)) hC dX1_byWays_0 (by decide) ?_
  refine x_istore_n (i := 2) (l' := [(2, .int (0 : Int32)), (0, va_rf r0), (1, .int i1)]) hC dX1_byWays_1 rfl (⟨fun _ => c_rf r0, ⟨fun _ => rfl, trivial⟩⟩) (by decide) rfl ?_
  refine x_sub (l' := [(0, va_rf r0), (1, .int i1), (2, .int (0 : Int32))]) [1, 2, 0] rfl ?_
  refine lp_sim (P := fun (t : (Int32 × PH)) => PX Z 5 t.2 0 0 2 [(0, va_rf r0), (1, .int i1), (2, .int t.1)] []) (G := fun r => r = y) ?_ h rfl
  clear h
  intro t x_2 h hg_2
  obtain ⟨v1, S2⟩ := t
  show PX Z 5 S2 0 0 2 [(0, va_rf r0), (1, .int i1), (2, .int v1)] []
  have J_28 : ∀ (v36 : Int32) (v37 : Option Nat) (v38 : Int32) (v39 : Int32) (S40 : PH), j_X1_byWays_28 r0 i1 v36 v37 v38 v39 S40 = some x_2 → PX Z 5 S40 0 0 28 [(0, va_rf r0), (1, .int i1), (2, .int v36)] [.int v39, .int v38, va_rf v37] := by
    intro v36 v37 v38 v39 S40 h
    unfold j_X1_byWays_28 at h
    replace h := dr_el h
    obtain ⟨a41, ea42, ha43, h⟩ := h
    replace h := ck_el h
    obtain ⟨hc44, h⟩ := h
    replace h := le_el h
    obtain ⟨S45, hx46, h⟩ := h
    refine x_iastore hC ea42 ha43 hc44 dX1_byWays_28 ?_
    refine x_tS hx46 ?_
    refine x_aload_n (i := 0) hC dX1_byWays_29 rfl 0 rfl ?_
    replace h := dr_el h
    obtain ⟨a47, ea48, ha49, h⟩ := h
    refine x_getR hC ea48 ha49 kf_1 4 (by decide) rfl q_151 dX1_byWays_30 ?_
    refine x_iload_n (i := 2) hC dX1_byWays_33 rfl 2 rfl ?_
    refine x_iconst (v := (0 : Int32)) hC dX1_byWays_34 (by decide) ?_
    replace h := dr_el h
    obtain ⟨a50, ea51, ha52, h⟩ := h
    replace h := ck_el h
    obtain ⟨hc53, h⟩ := h
    replace h := le_el h
    obtain ⟨S54, hx55, h⟩ := h
    refine x_iastore hC ea51 ha52 hc53 dX1_byWays_35 ?_
    refine x_tS hx55 ?_
    refine x_iinc (i := 2) (v := (v36 + (1 : Int32))) (l' := [(2, .int (v36 + (1 : Int32))), (0, va_rf r0), (1, .int i1)]) hC dX1_byWays_36 2 rfl rfl (⟨fun _ => c_rf r0, ⟨fun _ => rfl, ⟨fun _ => rfl, trivial⟩⟩⟩) (by decide) rfl ?_
    refine x_goto (t := 2) hC dX1_byWays_39 (by decide) ?_
    refine x_sub (l' := [(0, va_rf r0), (1, .int i1), (2, .int (v36 + (1 : Int32)))]) [1, 2, 0] rfl ?_
    have hb := bk_x h hg_2
    exact hb
  unfold st_X1_byWays_2 at h
  refine x_iload_n (i := 2) hC dX1_byWays_2 rfl 2 rfl ?_
  refine x_bipush (v := (8 : Int32)) hC dX1_byWays_3 (by decide) ?_
  refine x_icmp_ge (t := 42) hC dX1_byWays_5 (by decide) (fun c3 => ?_) (fun c3 => ?_)
  · replace h := it_t c3 h
    replace h := ir_x h hg_2
    refine x_iconst (v := (0 : Int32)) hC dX1_byWays_42 (by decide) ?_
    refine x_istore_n (i := 2) (l' := [(2, .int (0 : Int32)), (0, va_rf r0), (1, .int i1)]) hC dX1_byWays_43 rfl (⟨fun _ => c_rf r0, ⟨fun _ => rfl, ⟨fun _ => rfl, trivial⟩⟩⟩) (by decide) rfl ?_
    refine x_iconst (v := (0 : Int32)) hC dX1_byWays_44 (by decide) ?_
    refine x_istore_n (i := 3) (l' := [(3, .int (0 : Int32)), (2, .int (0 : Int32)), (0, va_rf r0), (1, .int i1)]) hC dX1_byWays_45 rfl (⟨fun _ => rfl, ⟨fun _ => c_rf r0, ⟨fun _ => rfl, trivial⟩⟩⟩) (by decide) rfl ?_
    refine x_sub (l' := [(0, va_rf r0), (1, .int i1), (2, .int (0 : Int32)), (3, .int (0 : Int32))]) [2, 3, 1, 0] rfl ?_
    refine lp_sim (P := fun (t : (Int32 × Int32 × PH)) => PX Z 5 t.2.2 0 0 46 [(0, va_rf r0), (1, .int i1), (2, .int t.1), (3, .int t.2.1)] []) (G := fun r => r = y) ?_ h rfl
    clear h
    intro t x_46 h hg_46
    obtain ⟨v4, v5, S6⟩ := t
    show PX Z 5 S6 0 0 46 [(0, va_rf r0), (1, .int i1), (2, .int v4), (3, .int v5)] []
    unfold st_X1_byWays_46 at h
    refine x_iload_n (i := 3) hC dX1_byWays_46 rfl 3 rfl ?_
    refine x_bipush (v := (8 : Int32)) hC dX1_byWays_47 (by decide) ?_
    refine x_icmp_ge (t := 91) hC dX1_byWays_49 (by decide) (fun c7 => ?_) (fun c7 => ?_)
    · replace h := it_t c7 h
      replace h := ir_x h hg_46
      refine x_iload_n (i := 2) hC dX1_byWays_91 rfl 2 rfl ?_
      exact x_iret hC hQ (z_N (Option.some.inj h)) (Nat.le_of_ble_eq_true rfl) (Nat.le_of_ble_eq_true rfl) dX1_byWays_92
    · replace h := it_f c7 h
      refine x_iconst (v := (0 : Int32)) hC dX1_byWays_52 (by decide) ?_
      refine x_istore (i := 4) (l' := [(4, .int (0 : Int32)), (0, va_rf r0), (1, .int i1), (2, .int v4), (3, .int v5)]) hC dX1_byWays_53 (⟨fun _ => c_rf r0, ⟨fun _ => rfl, ⟨fun _ => rfl, ⟨fun _ => rfl, trivial⟩⟩⟩⟩) (by decide) rfl ?_
      refine x_sub (l' := [(0, va_rf r0), (1, .int i1), (2, .int v4), (3, .int v5), (4, .int (0 : Int32))]) [1, 2, 3, 4, 0] rfl ?_
      refine lp_sim (P := fun (t : (Int32 × Int32 × Int32 × PH)) => PX Z 5 t.2.2.2 0 0 55 [(0, va_rf r0), (1, .int i1), (2, .int t.1), (3, .int t.2.1), (4, .int t.2.2.1)] []) (G := fun r => r = x_46) ?_ h rfl
      clear h
      intro t x_55 h hg_55
      obtain ⟨v8, v9, v10, S11⟩ := t
      show PX Z 5 S11 0 0 55 [(0, va_rf r0), (1, .int i1), (2, .int v8), (3, .int v9), (4, .int v10)] []
      unfold st_X1_byWays_55 at h
      refine x_iload (i := 4) hC dX1_byWays_55 4 rfl ?_
      refine x_aload_n (i := 0) hC dX1_byWays_57 rfl 0 rfl ?_
      replace h := dr_el h
      obtain ⟨a12, ea13, ha14, h⟩ := h
      refine x_getR hC ea13 ha14 kf_1 2 (by decide) rfl q_148 dX1_byWays_58 ?_
      refine x_iload_n (i := 3) hC dX1_byWays_61 rfl 3 rfl ?_
      replace h := dr_el h
      obtain ⟨a15, ea16, ha17, h⟩ := h
      replace h := ck_el h
      obtain ⟨hc18, h⟩ := h
      refine x_iaload hC ea16 ha17 hc18 dX1_byWays_62 ?_
      refine x_icmp_ge (t := 80) hC dX1_byWays_63 (by decide) (fun c19 => ?_) (fun c19 => ?_)
      · replace h := it_t c19 h
        replace h := ir_x h hg_55
        refine x_iload_n (i := 2) hC dX1_byWays_80 rfl 2 rfl ?_
        refine x_iload (i := 4) hC dX1_byWays_81 4 rfl ?_
        refine x_iadd hC dX1_byWays_83 ?_
        replace h := le_el h
        obtain ⟨x20, hx21, h⟩ := h
        refine x_tI hx21 ?_
        refine x_istore_n (i := 2) (l' := [(2, .int x20), (0, va_rf r0), (1, .int i1), (3, .int v9), (4, .int v10)]) hC dX1_byWays_84 rfl (⟨fun _ => c_rf r0, ⟨fun _ => rfl, ⟨fun _ => rfl, ⟨fun _ => rfl, ⟨fun _ => rfl, trivial⟩⟩⟩⟩⟩) (by decide) rfl ?_
        refine x_iinc (i := 3) (v := (v9 + (1 : Int32))) (l' := [(3, .int (v9 + (1 : Int32))), (2, .int x20), (0, va_rf r0), (1, .int i1), (4, .int v10)]) hC dX1_byWays_85 3 rfl rfl (⟨fun _ => rfl, ⟨fun _ => c_rf r0, ⟨fun _ => rfl, ⟨fun _ => rfl, ⟨fun _ => rfl, trivial⟩⟩⟩⟩⟩) (by decide) rfl ?_
        refine x_goto (t := 46) hC dX1_byWays_88 (by decide) ?_
        refine x_sub (l' := [(0, va_rf r0), (1, .int i1), (2, .int x20), (3, .int (v9 + (1 : Int32)))]) [2, 3, 1, 0] rfl ?_
        have hb := bk_x h hg_46
        exact hb
      · replace h := it_f c19 h
        refine x_aload_n (i := 0) hC dX1_byWays_66 rfl 0 rfl ?_
        refine x_iload_n (i := 3) hC dX1_byWays_67 rfl 3 rfl ?_
        replace h := bd_el h
        obtain ⟨v22, S23, hb24, h⟩ := h
        refine x_callV hC (st := []) (mt_X1_findWay _ _ _ _ hb24) ea13 ha14 kf_1 q_466 q_467 q_468 q_6 q_469 ⟨rfl, hy_X1_findWay⟩ ⟨Nat.le_of_ble_eq_true rfl, Nat.le_of_ble_eq_true rfl⟩ ⟨Nat.le_of_ble_eq_true rfl, Nat.le_of_ble_eq_true rfl⟩ rfl (Nat.le_of_ble_eq_true rfl) dX1_byWays_68 (r_N ?_) r_NX
        show PX Z 5 S23 0 0 71 [(0, va_rf r0), (1, .int i1), (2, .int v8), (3, .int v9), (4, .int v10)] [.int v22]
        refine x_if_eq (t := 80) hC dX1_byWays_71 (by decide) (fun c25 => ?_) (fun c25 => ?_)
        · replace h := it_t c25 h
          replace h := ir_x h hg_55
          refine x_iload_n (i := 2) hC dX1_byWays_80 rfl 2 rfl ?_
          refine x_iload (i := 4) hC dX1_byWays_81 4 rfl ?_
          refine x_iadd hC dX1_byWays_83 ?_
          replace h := le_el h
          obtain ⟨x26, hx27, h⟩ := h
          refine x_tI hx27 ?_
          refine x_istore_n (i := 2) (l' := [(2, .int x26), (0, va_rf r0), (1, .int i1), (3, .int v9), (4, .int v10)]) hC dX1_byWays_84 rfl (⟨fun _ => c_rf r0, ⟨fun _ => rfl, ⟨fun _ => rfl, ⟨fun _ => rfl, ⟨fun _ => rfl, trivial⟩⟩⟩⟩⟩) (by decide) rfl ?_
          refine x_iinc (i := 3) (v := (v9 + (1 : Int32))) (l' := [(3, .int (v9 + (1 : Int32))), (2, .int x26), (0, va_rf r0), (1, .int i1), (4, .int v10)]) hC dX1_byWays_85 3 rfl rfl (⟨fun _ => rfl, ⟨fun _ => c_rf r0, ⟨fun _ => rfl, ⟨fun _ => rfl, ⟨fun _ => rfl, trivial⟩⟩⟩⟩⟩) (by decide) rfl ?_
          refine x_goto (t := 46) hC dX1_byWays_88 (by decide) ?_
          refine x_sub (l' := [(0, va_rf r0), (1, .int i1), (2, .int x26), (3, .int (v9 + (1 : Int32)))]) [2, 3, 1, 0] rfl ?_
          have hb := bk_x h hg_46
          exact hb
        · replace h := it_f c25 h
          refine x_iinc (i := 4) (v := (v10 + (1 : Int32))) (l' := [(4, .int (v10 + (1 : Int32))), (0, va_rf r0), (1, .int i1), (2, .int v8), (3, .int v9)]) hC dX1_byWays_74 4 rfl rfl (⟨fun _ => c_rf r0, ⟨fun _ => rfl, ⟨fun _ => rfl, ⟨fun _ => rfl, ⟨fun _ => rfl, trivial⟩⟩⟩⟩⟩) (by decide) rfl ?_
          refine x_goto (t := 55) hC dX1_byWays_77 (by decide) ?_
          refine x_sub (l' := [(0, va_rf r0), (1, .int i1), (2, .int v8), (3, .int v9), (4, .int (v10 + (1 : Int32)))]) [1, 2, 3, 4, 0] rfl ?_
          have hb := bk_x h hg_55
          exact hb
  · replace h := it_f c3 h
    refine x_aload_n (i := 0) hC dX1_byWays_8 rfl 0 rfl ?_
    replace h := dr_el h
    obtain ⟨a28, ea29, ha30, h⟩ := h
    refine x_getR hC ea29 ha30 kf_1 3 (by decide) rfl q_150 dX1_byWays_9 ?_
    refine x_iload_n (i := 2) hC dX1_byWays_12 rfl 2 rfl ?_
    refine x_iload_n (i := 2) hC dX1_byWays_13 rfl 2 rfl ?_
    refine x_iload_n (i := 1) hC dX1_byWays_14 rfl 1 rfl ?_
    refine x_icmp_ne (t := 22) hC dX1_byWays_15 (by decide) (fun c31 => ?_) (fun c31 => ?_)
    · replace h := it_f c31 h
      refine x_aload_n (i := 0) hC dX1_byWays_22 rfl 0 rfl ?_
      refine x_getR hC ea29 ha30 kf_1 0 (by decide) rfl q_144 dX1_byWays_23 ?_
      refine x_iload_n (i := 2) hC dX1_byWays_26 rfl 2 rfl ?_
      replace h := dr_el h
      obtain ⟨a32, ea33, ha34, h⟩ := h
      replace h := ck_el h
      obtain ⟨hc35, h⟩ := h
      refine x_iaload hC ea33 ha34 hc35 dX1_byWays_27 ?_
      exact J_28 _ _ _ _ _ h
    · replace h := it_t c31 h
      refine x_iconst (v := (0 : Int32)) hC dX1_byWays_18 (by decide) ?_
      refine x_goto (t := 28) hC dX1_byWays_19 (by decide) ?_
      exact J_28 _ _ _ _ _ h
theorem dX1_openPapers_0 : decode cX1_openPapers 0 = .ok (.iconst 0, 1) := by decide +kernel
theorem dX1_openPapers_1 : decode cX1_openPapers 1 = .ok (.istore_n 1, 1) := by decide +kernel
theorem dX1_openPapers_2 : decode cX1_openPapers 2 = .ok (.iconst 0, 1) := by decide +kernel
theorem dX1_openPapers_3 : decode cX1_openPapers 3 = .ok (.istore_n 2, 1) := by decide +kernel
theorem dX1_openPapers_4 : decode cX1_openPapers 4 = .ok (.iload_n 2, 1) := by decide +kernel
theorem dX1_openPapers_5 : decode cX1_openPapers 5 = .ok (.bipush 8, 2) := by decide +kernel
theorem dX1_openPapers_7 : decode cX1_openPapers 7 = .ok (.if_icmp .ge 24, 3) := by decide +kernel
theorem dX1_openPapers_10 : decode cX1_openPapers 10 = .ok (.aload_n 0, 1) := by decide +kernel
theorem dX1_openPapers_11 : decode cX1_openPapers 11 = .ok (.getfield 18, 3) := by decide +kernel
theorem dX1_openPapers_14 : decode cX1_openPapers 14 = .ok (.iload_n 2, 1) := by decide +kernel
theorem dX1_openPapers_15 : decode cX1_openPapers 15 = .ok (.iaload, 1) := by decide +kernel
theorem dX1_openPapers_16 : decode cX1_openPapers 16 = .ok (.ifCond .le 9, 3) := by decide +kernel
theorem dX1_openPapers_19 : decode cX1_openPapers 19 = .ok (.iload_n 1, 1) := by decide +kernel
theorem dX1_openPapers_20 : decode cX1_openPapers 20 = .ok (.iconst 1, 1) := by decide +kernel
theorem dX1_openPapers_21 : decode cX1_openPapers 21 = .ok (.iload_n 2, 1) := by decide +kernel
theorem dX1_openPapers_22 : decode cX1_openPapers 22 = .ok (.ishl, 1) := by decide +kernel
theorem dX1_openPapers_23 : decode cX1_openPapers 23 = .ok (.ior, 1) := by decide +kernel
theorem dX1_openPapers_24 : decode cX1_openPapers 24 = .ok (.istore_n 1, 1) := by decide +kernel
theorem dX1_openPapers_25 : decode cX1_openPapers 25 = .ok (.iinc 2 1, 3) := by decide +kernel
theorem dX1_openPapers_28 : decode cX1_openPapers 28 = .ok (.goto (-24), 3) := by decide +kernel
theorem dX1_openPapers_31 : decode cX1_openPapers 31 = .ok (.iload_n 1, 1) := by decide +kernel
theorem dX1_openPapers_32 : decode cX1_openPapers 32 = .ok (.ireturn, 1) := by decide +kernel
set_option maxRecDepth 100000 in
set_option maxHeartbeats 4000000 in
theorem mt_X1_openPapers (r0 : Option Nat) (S0 : PH) (y : Int32 × PH) (h : m_X1_openPapers r0 S0 = some y) : MT yX1_openPapers (.code yX1_openPapers cX1_openPapers 3 (Option.some FieldType.int)) 0 0 0 0 [va_rf r0] S0 (oQ e_I (qN y)) := by
  refine mt_of (own := RX1) (l0 := [(0, va_rf r0)]) rfl rfl (by cases r0 <;> exact Nat.le_of_ble_eq_true rfl) (by cases r0 <;> rfl) ?_
  intro Z hC hQ hE hN
  unfold m_X1_openPapers at h
  refine x_iconst (v := (0 : Int32)) hC dX1_openPapers_0 (by decide) ?_
  refine x_istore_n (i := 1) (l' := [(1, .int (0 : Int32)), (0, va_rf r0)]) hC dX1_openPapers_1 rfl (⟨fun _ => c_rf r0, trivial⟩) (by decide) rfl ?_
  refine x_iconst (v := (0 : Int32)) hC dX1_openPapers_2 (by decide) ?_
  refine x_istore_n (i := 2) (l' := [(2, .int (0 : Int32)), (1, .int (0 : Int32)), (0, va_rf r0)]) hC dX1_openPapers_3 rfl (⟨fun _ => rfl, ⟨fun _ => c_rf r0, trivial⟩⟩) (by decide) rfl ?_
  refine x_sub (l' := [(0, va_rf r0), (1, .int (0 : Int32)), (2, .int (0 : Int32))]) [2, 1, 0] rfl ?_
  refine lp_sim (P := fun (t : (Int32 × Int32 × PH)) => PX Z 3 t.2.2 0 0 4 [(0, va_rf r0), (1, .int t.1), (2, .int t.2.1)] []) (G := fun r => r = y) ?_ h rfl
  clear h
  intro t x_4 h hg_4
  obtain ⟨v1, v2, S3⟩ := t
  show PX Z 3 S3 0 0 4 [(0, va_rf r0), (1, .int v1), (2, .int v2)] []
  unfold st_X1_openPapers_4 at h
  refine x_iload_n (i := 2) hC dX1_openPapers_4 rfl 2 rfl ?_
  refine x_bipush (v := (8 : Int32)) hC dX1_openPapers_5 (by decide) ?_
  refine x_icmp_ge (t := 31) hC dX1_openPapers_7 (by decide) (fun c4 => ?_) (fun c4 => ?_)
  · replace h := it_t c4 h
    replace h := ir_x h hg_4
    refine x_iload_n (i := 1) hC dX1_openPapers_31 rfl 1 rfl ?_
    exact x_iret hC hQ (z_N (Option.some.inj h)) (Nat.le_of_ble_eq_true rfl) (Nat.le_of_ble_eq_true rfl) dX1_openPapers_32
  · replace h := it_f c4 h
    refine x_aload_n (i := 0) hC dX1_openPapers_10 rfl 0 rfl ?_
    replace h := dr_el h
    obtain ⟨a5, ea6, ha7, h⟩ := h
    refine x_getR hC ea6 ha7 kf_1 2 (by decide) rfl q_148 dX1_openPapers_11 ?_
    refine x_iload_n (i := 2) hC dX1_openPapers_14 rfl 2 rfl ?_
    replace h := dr_el h
    obtain ⟨a8, ea9, ha10, h⟩ := h
    replace h := ck_el h
    obtain ⟨hc11, h⟩ := h
    refine x_iaload hC ea9 ha10 hc11 dX1_openPapers_15 ?_
    refine x_if_le (t := 25) hC dX1_openPapers_16 (by decide) (fun c12 => ?_) (fun c12 => ?_)
    · replace h := it_t c12 h
      refine x_iinc (i := 2) (v := (v2 + (1 : Int32))) (l' := [(2, .int (v2 + (1 : Int32))), (0, va_rf r0), (1, .int v1)]) hC dX1_openPapers_25 2 rfl rfl (⟨fun _ => c_rf r0, ⟨fun _ => rfl, ⟨fun _ => rfl, trivial⟩⟩⟩) (by decide) rfl ?_
      refine x_goto (t := 4) hC dX1_openPapers_28 (by decide) ?_
      refine x_sub (l' := [(0, va_rf r0), (1, .int v1), (2, .int (v2 + (1 : Int32)))]) [1, 2, 0] rfl ?_
      have hb := bk_x h hg_4
      exact hb
    · replace h := it_f c12 h
      refine x_iload_n (i := 1) hC dX1_openPapers_19 rfl 1 rfl ?_
      refine x_iconst (v := (1 : Int32)) hC dX1_openPapers_20 (by decide) ?_
      refine x_iload_n (i := 2) hC dX1_openPapers_21 rfl 2 rfl ?_
      refine x_ishl hC dX1_openPapers_22 ?_
      refine x_ior hC dX1_openPapers_23 ?_
      replace h := le_el h
      obtain ⟨x13, hx14, h⟩ := h
      refine x_tI hx14 ?_
      refine x_istore_n (i := 1) (l' := [(1, .int x13), (0, va_rf r0), (2, .int v2)]) hC dX1_openPapers_24 rfl (⟨fun _ => c_rf r0, ⟨fun _ => rfl, ⟨fun _ => rfl, trivial⟩⟩⟩) (by decide) rfl ?_
      refine x_iinc (i := 2) (v := (v2 + (1 : Int32))) (l' := [(2, .int (v2 + (1 : Int32))), (1, .int x13), (0, va_rf r0)]) hC dX1_openPapers_25 2 rfl rfl (⟨fun _ => rfl, ⟨fun _ => c_rf r0, ⟨fun _ => rfl, trivial⟩⟩⟩) (by decide) rfl ?_
      refine x_goto (t := 4) hC dX1_openPapers_28 (by decide) ?_
      refine x_sub (l' := [(0, va_rf r0), (1, .int x13), (2, .int (v2 + (1 : Int32)))]) [2, 1, 0] rfl ?_
      have hb := bk_x h hg_4
      exact hb
theorem dJ6_bitCount_0f7a4_0 : decode cJ6_bitCount_0f7a4 0 = .ok (.iload_n 0, 1) := by decide +kernel
theorem dJ6_bitCount_0f7a4_1 : decode cJ6_bitCount_0f7a4 1 = .ok (.iload_n 0, 1) := by decide +kernel
theorem dJ6_bitCount_0f7a4_2 : decode cJ6_bitCount_0f7a4 2 = .ok (.iconst 1, 1) := by decide +kernel
theorem dJ6_bitCount_0f7a4_3 : decode cJ6_bitCount_0f7a4 3 = .ok (.iushr, 1) := by decide +kernel
theorem dJ6_bitCount_0f7a4_4 : decode cJ6_bitCount_0f7a4 4 = .ok (.ldc_w 265, 3) := by decide +kernel
theorem dJ6_bitCount_0f7a4_7 : decode cJ6_bitCount_0f7a4 7 = .ok (.iand, 1) := by decide +kernel
theorem dJ6_bitCount_0f7a4_8 : decode cJ6_bitCount_0f7a4 8 = .ok (.isub, 1) := by decide +kernel
theorem dJ6_bitCount_0f7a4_9 : decode cJ6_bitCount_0f7a4 9 = .ok (.istore_n 0, 1) := by decide +kernel
theorem dJ6_bitCount_0f7a4_10 : decode cJ6_bitCount_0f7a4 10 = .ok (.iload_n 0, 1) := by decide +kernel
theorem dJ6_bitCount_0f7a4_11 : decode cJ6_bitCount_0f7a4 11 = .ok (.ldc_w 266, 3) := by decide +kernel
theorem dJ6_bitCount_0f7a4_14 : decode cJ6_bitCount_0f7a4 14 = .ok (.iand, 1) := by decide +kernel
theorem dJ6_bitCount_0f7a4_15 : decode cJ6_bitCount_0f7a4 15 = .ok (.iload_n 0, 1) := by decide +kernel
theorem dJ6_bitCount_0f7a4_16 : decode cJ6_bitCount_0f7a4 16 = .ok (.iconst 2, 1) := by decide +kernel
theorem dJ6_bitCount_0f7a4_17 : decode cJ6_bitCount_0f7a4 17 = .ok (.iushr, 1) := by decide +kernel
theorem dJ6_bitCount_0f7a4_18 : decode cJ6_bitCount_0f7a4 18 = .ok (.ldc_w 266, 3) := by decide +kernel
theorem dJ6_bitCount_0f7a4_21 : decode cJ6_bitCount_0f7a4 21 = .ok (.iand, 1) := by decide +kernel
theorem dJ6_bitCount_0f7a4_22 : decode cJ6_bitCount_0f7a4 22 = .ok (.iadd, 1) := by decide +kernel
theorem dJ6_bitCount_0f7a4_23 : decode cJ6_bitCount_0f7a4 23 = .ok (.istore_n 0, 1) := by decide +kernel
theorem dJ6_bitCount_0f7a4_24 : decode cJ6_bitCount_0f7a4 24 = .ok (.iload_n 0, 1) := by decide +kernel
theorem dJ6_bitCount_0f7a4_25 : decode cJ6_bitCount_0f7a4 25 = .ok (.iload_n 0, 1) := by decide +kernel
theorem dJ6_bitCount_0f7a4_26 : decode cJ6_bitCount_0f7a4 26 = .ok (.iconst 4, 1) := by decide +kernel
theorem dJ6_bitCount_0f7a4_27 : decode cJ6_bitCount_0f7a4 27 = .ok (.iushr, 1) := by decide +kernel
theorem dJ6_bitCount_0f7a4_28 : decode cJ6_bitCount_0f7a4 28 = .ok (.iadd, 1) := by decide +kernel
theorem dJ6_bitCount_0f7a4_29 : decode cJ6_bitCount_0f7a4 29 = .ok (.ldc_w 267, 3) := by decide +kernel
theorem dJ6_bitCount_0f7a4_32 : decode cJ6_bitCount_0f7a4 32 = .ok (.iand, 1) := by decide +kernel
theorem dJ6_bitCount_0f7a4_33 : decode cJ6_bitCount_0f7a4 33 = .ok (.istore_n 0, 1) := by decide +kernel
theorem dJ6_bitCount_0f7a4_34 : decode cJ6_bitCount_0f7a4 34 = .ok (.iload_n 0, 1) := by decide +kernel
theorem dJ6_bitCount_0f7a4_35 : decode cJ6_bitCount_0f7a4 35 = .ok (.iload_n 0, 1) := by decide +kernel
theorem dJ6_bitCount_0f7a4_36 : decode cJ6_bitCount_0f7a4 36 = .ok (.bipush 8, 2) := by decide +kernel
theorem dJ6_bitCount_0f7a4_38 : decode cJ6_bitCount_0f7a4 38 = .ok (.iushr, 1) := by decide +kernel
theorem dJ6_bitCount_0f7a4_39 : decode cJ6_bitCount_0f7a4 39 = .ok (.iadd, 1) := by decide +kernel
theorem dJ6_bitCount_0f7a4_40 : decode cJ6_bitCount_0f7a4 40 = .ok (.istore_n 0, 1) := by decide +kernel
theorem dJ6_bitCount_0f7a4_41 : decode cJ6_bitCount_0f7a4 41 = .ok (.iload_n 0, 1) := by decide +kernel
theorem dJ6_bitCount_0f7a4_42 : decode cJ6_bitCount_0f7a4 42 = .ok (.iload_n 0, 1) := by decide +kernel
theorem dJ6_bitCount_0f7a4_43 : decode cJ6_bitCount_0f7a4 43 = .ok (.bipush 16, 2) := by decide +kernel
theorem dJ6_bitCount_0f7a4_45 : decode cJ6_bitCount_0f7a4 45 = .ok (.iushr, 1) := by decide +kernel
theorem dJ6_bitCount_0f7a4_46 : decode cJ6_bitCount_0f7a4 46 = .ok (.iadd, 1) := by decide +kernel
theorem dJ6_bitCount_0f7a4_47 : decode cJ6_bitCount_0f7a4 47 = .ok (.istore_n 0, 1) := by decide +kernel
theorem dJ6_bitCount_0f7a4_48 : decode cJ6_bitCount_0f7a4 48 = .ok (.iload_n 0, 1) := by decide +kernel
theorem dJ6_bitCount_0f7a4_49 : decode cJ6_bitCount_0f7a4 49 = .ok (.bipush 63, 2) := by decide +kernel
theorem dJ6_bitCount_0f7a4_51 : decode cJ6_bitCount_0f7a4 51 = .ok (.iand, 1) := by decide +kernel
theorem dJ6_bitCount_0f7a4_52 : decode cJ6_bitCount_0f7a4 52 = .ok (.ireturn, 1) := by decide +kernel
set_option maxRecDepth 100000 in
set_option maxHeartbeats 4000000 in
theorem mt_J6_bitCount_0f7a4 (i0 : Int32) (S0 : PH) (y : Int32 × PH) (h : m_J6_bitCount_0f7a4 i0 S0 = some y) : MT yJ6_bitCount_0f7a4 (.code yJ6_bitCount_0f7a4 cJ6_bitCount_0f7a4 1 (Option.some FieldType.int)) 0 0 0 0 [.int i0] S0 (oQ e_I (qN y)) := by
  refine mt_of (own := RJ6) (l0 := [(0, .int i0)]) rfl rfl (by exact Nat.le_of_ble_eq_true rfl) (by rfl) ?_
  intro Z hC hQ hE hN
  unfold m_J6_bitCount_0f7a4 at h
  refine x_iload_n (i := 0) hC dJ6_bitCount_0f7a4_0 rfl 0 rfl ?_
  refine x_iload_n (i := 0) hC dJ6_bitCount_0f7a4_1 rfl 0 rfl ?_
  refine x_iconst (v := (1 : Int32)) hC dJ6_bitCount_0f7a4_2 (by decide) ?_
  refine x_iushr (v := ((Int32.toUInt32 i0 >>> (Int32.toUInt32 (1 : Int32) &&& Int32.toUInt32 31)).toInt32)) hC dJ6_bitCount_0f7a4_3 rfl ?_
  refine x_ldcw hC dJ6_bitCount_0f7a4_4 q_355 ?_
  refine x_iand hC dJ6_bitCount_0f7a4_7 ?_
  refine x_isub hC dJ6_bitCount_0f7a4_8 ?_
  replace h := le_el h
  obtain ⟨x1, hx2, h⟩ := h
  refine x_tI hx2 ?_
  refine x_istore_n (i := 0) (l' := [(0, .int x1)]) hC dJ6_bitCount_0f7a4_9 rfl (⟨fun _ => rfl, trivial⟩) (by decide) rfl ?_
  refine x_iload_n (i := 0) hC dJ6_bitCount_0f7a4_10 rfl 0 rfl ?_
  refine x_ldcw hC dJ6_bitCount_0f7a4_11 q_356 ?_
  refine x_iand hC dJ6_bitCount_0f7a4_14 ?_
  refine x_iload_n (i := 0) hC dJ6_bitCount_0f7a4_15 rfl 0 rfl ?_
  refine x_iconst (v := (2 : Int32)) hC dJ6_bitCount_0f7a4_16 (by decide) ?_
  refine x_iushr (v := ((Int32.toUInt32 x1 >>> (Int32.toUInt32 (2 : Int32) &&& Int32.toUInt32 31)).toInt32)) hC dJ6_bitCount_0f7a4_17 rfl ?_
  refine x_ldcw hC dJ6_bitCount_0f7a4_18 q_356 ?_
  refine x_iand hC dJ6_bitCount_0f7a4_21 ?_
  refine x_iadd hC dJ6_bitCount_0f7a4_22 ?_
  replace h := le_el h
  obtain ⟨x3, hx4, h⟩ := h
  refine x_tI hx4 ?_
  refine x_istore_n (i := 0) (l' := [(0, .int x3)]) hC dJ6_bitCount_0f7a4_23 rfl (⟨fun _ => rfl, trivial⟩) (by decide) rfl ?_
  refine x_iload_n (i := 0) hC dJ6_bitCount_0f7a4_24 rfl 0 rfl ?_
  refine x_iload_n (i := 0) hC dJ6_bitCount_0f7a4_25 rfl 0 rfl ?_
  refine x_iconst (v := (4 : Int32)) hC dJ6_bitCount_0f7a4_26 (by decide) ?_
  refine x_iushr (v := ((Int32.toUInt32 x3 >>> (Int32.toUInt32 (4 : Int32) &&& Int32.toUInt32 31)).toInt32)) hC dJ6_bitCount_0f7a4_27 rfl ?_
  refine x_iadd hC dJ6_bitCount_0f7a4_28 ?_
  refine x_ldcw hC dJ6_bitCount_0f7a4_29 q_357 ?_
  refine x_iand hC dJ6_bitCount_0f7a4_32 ?_
  replace h := le_el h
  obtain ⟨x5, hx6, h⟩ := h
  refine x_tI hx6 ?_
  refine x_istore_n (i := 0) (l' := [(0, .int x5)]) hC dJ6_bitCount_0f7a4_33 rfl (⟨fun _ => rfl, trivial⟩) (by decide) rfl ?_
  refine x_iload_n (i := 0) hC dJ6_bitCount_0f7a4_34 rfl 0 rfl ?_
  refine x_iload_n (i := 0) hC dJ6_bitCount_0f7a4_35 rfl 0 rfl ?_
  refine x_bipush (v := (8 : Int32)) hC dJ6_bitCount_0f7a4_36 (by decide) ?_
  refine x_iushr (v := ((Int32.toUInt32 x5 >>> (Int32.toUInt32 (8 : Int32) &&& Int32.toUInt32 31)).toInt32)) hC dJ6_bitCount_0f7a4_38 rfl ?_
  refine x_iadd hC dJ6_bitCount_0f7a4_39 ?_
  replace h := le_el h
  obtain ⟨x7, hx8, h⟩ := h
  refine x_tI hx8 ?_
  refine x_istore_n (i := 0) (l' := [(0, .int x7)]) hC dJ6_bitCount_0f7a4_40 rfl (⟨fun _ => rfl, trivial⟩) (by decide) rfl ?_
  refine x_iload_n (i := 0) hC dJ6_bitCount_0f7a4_41 rfl 0 rfl ?_
  refine x_iload_n (i := 0) hC dJ6_bitCount_0f7a4_42 rfl 0 rfl ?_
  refine x_bipush (v := (16 : Int32)) hC dJ6_bitCount_0f7a4_43 (by decide) ?_
  refine x_iushr (v := ((Int32.toUInt32 x7 >>> (Int32.toUInt32 (16 : Int32) &&& Int32.toUInt32 31)).toInt32)) hC dJ6_bitCount_0f7a4_45 rfl ?_
  refine x_iadd hC dJ6_bitCount_0f7a4_46 ?_
  replace h := le_el h
  obtain ⟨x9, hx10, h⟩ := h
  refine x_tI hx10 ?_
  refine x_istore_n (i := 0) (l' := [(0, .int x9)]) hC dJ6_bitCount_0f7a4_47 rfl (⟨fun _ => rfl, trivial⟩) (by decide) rfl ?_
  refine x_iload_n (i := 0) hC dJ6_bitCount_0f7a4_48 rfl 0 rfl ?_
  refine x_bipush (v := (63 : Int32)) hC dJ6_bitCount_0f7a4_49 (by decide) ?_
  refine x_iand hC dJ6_bitCount_0f7a4_51 ?_
  exact x_iret hC hQ (z_N (Option.some.inj h)) (Nat.le_of_ble_eq_true rfl) (Nat.le_of_ble_eq_true rfl) dJ6_bitCount_0f7a4_52
theorem dX1_costOfCut_0 : decode cX1_costOfCut 0 = .ok (.iconst 0, 1) := by decide +kernel
theorem dX1_costOfCut_1 : decode cX1_costOfCut 1 = .ok (.istore_n 2, 1) := by decide +kernel
theorem dX1_costOfCut_2 : decode cX1_costOfCut 2 = .ok (.iconst 0, 1) := by decide +kernel
theorem dX1_costOfCut_3 : decode cX1_costOfCut 3 = .ok (.istore_n 3, 1) := by decide +kernel
theorem dX1_costOfCut_4 : decode cX1_costOfCut 4 = .ok (.iload_n 3, 1) := by decide +kernel
theorem dX1_costOfCut_5 : decode cX1_costOfCut 5 = .ok (.bipush 8, 2) := by decide +kernel
theorem dX1_costOfCut_7 : decode cX1_costOfCut 7 = .ok (.if_icmp .ge 26, 3) := by decide +kernel
theorem dX1_costOfCut_10 : decode cX1_costOfCut 10 = .ok (.iload_n 1, 1) := by decide +kernel
theorem dX1_costOfCut_11 : decode cX1_costOfCut 11 = .ok (.iload_n 3, 1) := by decide +kernel
theorem dX1_costOfCut_12 : decode cX1_costOfCut 12 = .ok (.invokestatic 40, 3) := by decide +kernel
theorem dX1_costOfCut_15 : decode cX1_costOfCut 15 = .ok (.ifCond .ne 12, 3) := by decide +kernel
theorem dX1_costOfCut_18 : decode cX1_costOfCut 18 = .ok (.iload_n 2, 1) := by decide +kernel
theorem dX1_costOfCut_19 : decode cX1_costOfCut 19 = .ok (.aload_n 0, 1) := by decide +kernel
theorem dX1_costOfCut_20 : decode cX1_costOfCut 20 = .ok (.getfield 18, 3) := by decide +kernel
theorem dX1_costOfCut_23 : decode cX1_costOfCut 23 = .ok (.iload_n 3, 1) := by decide +kernel
theorem dX1_costOfCut_24 : decode cX1_costOfCut 24 = .ok (.iaload, 1) := by decide +kernel
theorem dX1_costOfCut_25 : decode cX1_costOfCut 25 = .ok (.iadd, 1) := by decide +kernel
theorem dX1_costOfCut_26 : decode cX1_costOfCut 26 = .ok (.istore_n 2, 1) := by decide +kernel
theorem dX1_costOfCut_27 : decode cX1_costOfCut 27 = .ok (.iinc 3 1, 3) := by decide +kernel
theorem dX1_costOfCut_30 : decode cX1_costOfCut 30 = .ok (.goto (-26), 3) := by decide +kernel
theorem dX1_costOfCut_33 : decode cX1_costOfCut 33 = .ok (.iconst 0, 1) := by decide +kernel
theorem dX1_costOfCut_34 : decode cX1_costOfCut 34 = .ok (.istore_n 3, 1) := by decide +kernel
theorem dX1_costOfCut_35 : decode cX1_costOfCut 35 = .ok (.iload_n 3, 1) := by decide +kernel
theorem dX1_costOfCut_36 : decode cX1_costOfCut 36 = .ok (.bipush 8, 2) := by decide +kernel
theorem dX1_costOfCut_38 : decode cX1_costOfCut 38 = .ok (.if_icmp .ge 32, 3) := by decide +kernel
theorem dX1_costOfCut_41 : decode cX1_costOfCut 41 = .ok (.iload_n 2, 1) := by decide +kernel
theorem dX1_costOfCut_42 : decode cX1_costOfCut 42 = .ok (.aload_n 0, 1) := by decide +kernel
theorem dX1_costOfCut_43 : decode cX1_costOfCut 43 = .ok (.getfield 9, 3) := by decide +kernel
theorem dX1_costOfCut_46 : decode cX1_costOfCut 46 = .ok (.iload_n 3, 1) := by decide +kernel
theorem dX1_costOfCut_47 : decode cX1_costOfCut 47 = .ok (.iaload, 1) := by decide +kernel
theorem dX1_costOfCut_48 : decode cX1_costOfCut 48 = .ok (.aload_n 0, 1) := by decide +kernel
theorem dX1_costOfCut_49 : decode cX1_costOfCut 49 = .ok (.getfield 15, 3) := by decide +kernel
theorem dX1_costOfCut_52 : decode cX1_costOfCut 52 = .ok (.iload_n 3, 1) := by decide +kernel
theorem dX1_costOfCut_53 : decode cX1_costOfCut 53 = .ok (.iaload, 1) := by decide +kernel
theorem dX1_costOfCut_54 : decode cX1_costOfCut 54 = .ok (.iload_n 1, 1) := by decide +kernel
theorem dX1_costOfCut_55 : decode cX1_costOfCut 55 = .ok (.iand, 1) := by decide +kernel
theorem dX1_costOfCut_56 : decode cX1_costOfCut 56 = .ok (.invokestatic 66, 3) := by decide +kernel
theorem dX1_costOfCut_59 : decode cX1_costOfCut 59 = .ok (.invokestatic 60, 3) := by decide +kernel
theorem dX1_costOfCut_62 : decode cX1_costOfCut 62 = .ok (.iadd, 1) := by decide +kernel
theorem dX1_costOfCut_63 : decode cX1_costOfCut 63 = .ok (.istore_n 2, 1) := by decide +kernel
theorem dX1_costOfCut_64 : decode cX1_costOfCut 64 = .ok (.iinc 3 1, 3) := by decide +kernel
theorem dX1_costOfCut_67 : decode cX1_costOfCut 67 = .ok (.goto (-32), 3) := by decide +kernel
theorem dX1_costOfCut_70 : decode cX1_costOfCut 70 = .ok (.iload_n 2, 1) := by decide +kernel
theorem dX1_costOfCut_71 : decode cX1_costOfCut 71 = .ok (.ireturn, 1) := by decide +kernel
set_option maxRecDepth 100000 in
set_option maxHeartbeats 4000000 in
theorem mt_X1_costOfCut (r0 : Option Nat) (i1 : Int32) (S0 : PH) (y : Int32 × PH) (h : m_X1_costOfCut r0 i1 S0 = some y) : MT yX1_costOfCut (.code yX1_costOfCut cX1_costOfCut 4 (Option.some FieldType.int)) 1 21 0 0 [va_rf r0, .int i1] S0 (oQ e_I (qN y)) := by
  refine mt_of (own := RX1) (l0 := [(0, va_rf r0), (1, .int i1)]) rfl rfl (by cases r0 <;> exact Nat.le_of_ble_eq_true rfl) (by cases r0 <;> rfl) ?_
  intro Z hC hQ hE hN
  unfold m_X1_costOfCut at h
  refine x_iconst (v := (0 : Int32)) hC dX1_costOfCut_0 (by decide) ?_
  refine x_istore_n (i := 2) (l' := [(2, .int (0 : Int32)), (0, va_rf r0), (1, .int i1)]) hC dX1_costOfCut_1 rfl (⟨fun _ => c_rf r0, ⟨fun _ => rfl, trivial⟩⟩) (by decide) rfl ?_
  refine x_iconst (v := (0 : Int32)) hC dX1_costOfCut_2 (by decide) ?_
  refine x_istore_n (i := 3) (l' := [(3, .int (0 : Int32)), (2, .int (0 : Int32)), (0, va_rf r0), (1, .int i1)]) hC dX1_costOfCut_3 rfl (⟨fun _ => rfl, ⟨fun _ => c_rf r0, ⟨fun _ => rfl, trivial⟩⟩⟩) (by decide) rfl ?_
  refine x_sub (l' := [(0, va_rf r0), (1, .int i1), (2, .int (0 : Int32)), (3, .int (0 : Int32))]) [2, 3, 1, 0] rfl ?_
  refine lp_sim (P := fun (t : (Int32 × Int32 × PH)) => PX Z 4 t.2.2 0 0 4 [(0, va_rf r0), (1, .int i1), (2, .int t.1), (3, .int t.2.1)] []) (G := fun r => r = y) ?_ h rfl
  clear h
  intro t x_4 h hg_4
  obtain ⟨v1, v2, S3⟩ := t
  show PX Z 4 S3 0 0 4 [(0, va_rf r0), (1, .int i1), (2, .int v1), (3, .int v2)] []
  unfold st_X1_costOfCut_4 at h
  refine x_iload_n (i := 3) hC dX1_costOfCut_4 rfl 3 rfl ?_
  refine x_bipush (v := (8 : Int32)) hC dX1_costOfCut_5 (by decide) ?_
  refine x_icmp_ge (t := 33) hC dX1_costOfCut_7 (by decide) (fun c4 => ?_) (fun c4 => ?_)
  · replace h := it_t c4 h
    replace h := ir_x h hg_4
    refine x_iconst (v := (0 : Int32)) hC dX1_costOfCut_33 (by decide) ?_
    refine x_istore_n (i := 3) (l' := [(3, .int (0 : Int32)), (0, va_rf r0), (1, .int i1), (2, .int v1)]) hC dX1_costOfCut_34 rfl (⟨fun _ => c_rf r0, ⟨fun _ => rfl, ⟨fun _ => rfl, ⟨fun _ => rfl, trivial⟩⟩⟩⟩) (by decide) rfl ?_
    refine x_sub (l' := [(0, va_rf r0), (1, .int i1), (2, .int v1), (3, .int (0 : Int32))]) [1, 2, 3, 0] rfl ?_
    refine lp_sim (P := fun (t : (Int32 × Int32 × PH)) => PX Z 4 t.2.2 0 0 35 [(0, va_rf r0), (1, .int i1), (2, .int t.1), (3, .int t.2.1)] []) (G := fun r => r = y) ?_ h rfl
    clear h
    intro t x_35 h hg_35
    obtain ⟨v5, v6, S7⟩ := t
    show PX Z 4 S7 0 0 35 [(0, va_rf r0), (1, .int i1), (2, .int v5), (3, .int v6)] []
    unfold st_X1_costOfCut_35 at h
    refine x_iload_n (i := 3) hC dX1_costOfCut_35 rfl 3 rfl ?_
    refine x_bipush (v := (8 : Int32)) hC dX1_costOfCut_36 (by decide) ?_
    refine x_icmp_ge (t := 70) hC dX1_costOfCut_38 (by decide) (fun c8 => ?_) (fun c8 => ?_)
    · replace h := it_t c8 h
      replace h := ir_x h hg_35
      refine x_iload_n (i := 2) hC dX1_costOfCut_70 rfl 2 rfl ?_
      exact x_iret hC hQ (z_N (Option.some.inj h)) (Nat.le_of_ble_eq_true rfl) (Nat.le_of_ble_eq_true rfl) dX1_costOfCut_71
    · replace h := it_f c8 h
      refine x_iload_n (i := 2) hC dX1_costOfCut_41 rfl 2 rfl ?_
      refine x_aload_n (i := 0) hC dX1_costOfCut_42 rfl 0 rfl ?_
      replace h := dr_el h
      obtain ⟨a9, ea10, ha11, h⟩ := h
      refine x_getR hC ea10 ha11 kf_1 0 (by decide) rfl q_144 dX1_costOfCut_43 ?_
      refine x_iload_n (i := 3) hC dX1_costOfCut_46 rfl 3 rfl ?_
      replace h := dr_el h
      obtain ⟨a12, ea13, ha14, h⟩ := h
      replace h := ck_el h
      obtain ⟨hc15, h⟩ := h
      refine x_iaload hC ea13 ha14 hc15 dX1_costOfCut_47 ?_
      refine x_aload_n (i := 0) hC dX1_costOfCut_48 rfl 0 rfl ?_
      refine x_getR hC ea10 ha11 kf_1 1 (by decide) rfl q_146 dX1_costOfCut_49 ?_
      refine x_iload_n (i := 3) hC dX1_costOfCut_52 rfl 3 rfl ?_
      replace h := dr_el h
      obtain ⟨a16, ea17, ha18, h⟩ := h
      replace h := ck_el h
      obtain ⟨hc19, h⟩ := h
      refine x_iaload hC ea17 ha18 hc19 dX1_costOfCut_53 ?_
      refine x_iload_n (i := 1) hC dX1_costOfCut_54 rfl 1 rfl ?_
      refine x_iand hC dX1_costOfCut_55 ?_
      replace h := bd_el h
      obtain ⟨v20, S21, hb22, h⟩ := h
      refine x_callS hC (st := [.int (p_I S7 a12 (Int32.toNatClampNeg v6)), .int v5]) (mt_J6_bitCount_0f7a4 _ _ _ hb22) q_491 q_353 q_13 q_354 hy_J6_bitCount_0f7a4 ⟨Nat.le_of_ble_eq_true rfl, Nat.le_of_ble_eq_true rfl⟩ ⟨Nat.le_of_ble_eq_true rfl, Nat.le_of_ble_eq_true rfl⟩ rfl (Nat.le_of_ble_eq_true rfl) dX1_costOfCut_56 (r_N ?_) r_NX
      show PX Z 4 S21 0 0 59 [(0, va_rf r0), (1, .int i1), (2, .int v5), (3, .int v6)] [.int v20, .int (p_I S7 a12 (Int32.toNatClampNeg v6)), .int v5]
      refine x_mm (lo := true) hC q_492 q_mins q_mai q_minc (Nat.le_of_ble_eq_true rfl) ⟨Nat.le_of_ble_eq_true rfl, Nat.le_of_ble_eq_true rfl⟩ ⟨Nat.le_of_ble_eq_true rfl, Nat.le_of_ble_eq_true rfl⟩ dX1_costOfCut_59 ?_
      refine x_tI (b := (mmin (p_I S7 a12 (Int32.toNatClampNeg v6)) v20)) rfl ?_
      refine x_iadd hC dX1_costOfCut_62 ?_
      replace h := le_el h
      obtain ⟨x23, hx24, h⟩ := h
      refine x_tI hx24 ?_
      refine x_istore_n (i := 2) (l' := [(2, .int x23), (0, va_rf r0), (1, .int i1), (3, .int v6)]) hC dX1_costOfCut_63 rfl (⟨fun _ => c_rf r0, ⟨fun _ => rfl, ⟨fun _ => rfl, ⟨fun _ => rfl, trivial⟩⟩⟩⟩) (by decide) rfl ?_
      refine x_iinc (i := 3) (v := (v6 + (1 : Int32))) (l' := [(3, .int (v6 + (1 : Int32))), (2, .int x23), (0, va_rf r0), (1, .int i1)]) hC dX1_costOfCut_64 3 rfl rfl (⟨fun _ => rfl, ⟨fun _ => c_rf r0, ⟨fun _ => rfl, ⟨fun _ => rfl, trivial⟩⟩⟩⟩) (by decide) rfl ?_
      refine x_goto (t := 35) hC dX1_costOfCut_67 (by decide) ?_
      refine x_sub (l' := [(0, va_rf r0), (1, .int i1), (2, .int x23), (3, .int (v6 + (1 : Int32)))]) [2, 3, 1, 0] rfl ?_
      have hb := bk_x h hg_35
      exact hb
  · replace h := it_f c4 h
    refine x_iload_n (i := 1) hC dX1_costOfCut_10 rfl 1 rfl ?_
    refine x_iload_n (i := 3) hC dX1_costOfCut_11 rfl 3 rfl ?_
    replace h := bd_el h
    obtain ⟨v25, S26, hb27, h⟩ := h
    refine x_callSN hC (host := "TokenReviews") (st := []) (mt_X4_has _ _ _ _ hb27) (List.mem_of_getElem? (i := 15) rfl) q_367 q_1 q_368 hy_X4_has ⟨Nat.le_of_ble_eq_true rfl, Nat.le_of_ble_eq_true rfl⟩ ⟨Nat.le_of_ble_eq_true rfl, Nat.le_of_ble_eq_true rfl⟩ rfl (Nat.le_of_ble_eq_true rfl) dX1_costOfCut_12 (r_N ?_) r_NX
    show PX Z 4 S26 0 0 15 [(0, va_rf r0), (1, .int i1), (2, .int v1), (3, .int v2)] [.int v25]
    refine x_if_ne (t := 27) hC dX1_costOfCut_15 (by decide) (fun c28 => ?_) (fun c28 => ?_)
    · replace h := it_f c28 h
      refine x_iinc (i := 3) (v := (v2 + (1 : Int32))) (l' := [(3, .int (v2 + (1 : Int32))), (0, va_rf r0), (1, .int i1), (2, .int v1)]) hC dX1_costOfCut_27 3 rfl rfl (⟨fun _ => c_rf r0, ⟨fun _ => rfl, ⟨fun _ => rfl, ⟨fun _ => rfl, trivial⟩⟩⟩⟩) (by decide) rfl ?_
      refine x_goto (t := 4) hC dX1_costOfCut_30 (by decide) ?_
      refine x_sub (l' := [(0, va_rf r0), (1, .int i1), (2, .int v1), (3, .int (v2 + (1 : Int32)))]) [1, 2, 3, 0] rfl ?_
      have hb := bk_x h hg_4
      exact hb
    · replace h := it_t c28 h
      refine x_iload_n (i := 2) hC dX1_costOfCut_18 rfl 2 rfl ?_
      refine x_aload_n (i := 0) hC dX1_costOfCut_19 rfl 0 rfl ?_
      replace h := dr_el h
      obtain ⟨a29, ea30, ha31, h⟩ := h
      refine x_getR hC ea30 ha31 kf_1 2 (by decide) rfl q_148 dX1_costOfCut_20 ?_
      refine x_iload_n (i := 3) hC dX1_costOfCut_23 rfl 3 rfl ?_
      replace h := dr_el h
      obtain ⟨a32, ea33, ha34, h⟩ := h
      replace h := ck_el h
      obtain ⟨hc35, h⟩ := h
      refine x_iaload hC ea33 ha34 hc35 dX1_costOfCut_24 ?_
      refine x_iadd hC dX1_costOfCut_25 ?_
      replace h := le_el h
      obtain ⟨x36, hx37, h⟩ := h
      refine x_tI hx37 ?_
      refine x_istore_n (i := 2) (l' := [(2, .int x36), (0, va_rf r0), (1, .int i1), (3, .int v2)]) hC dX1_costOfCut_26 rfl (⟨fun _ => c_rf r0, ⟨fun _ => rfl, ⟨fun _ => rfl, ⟨fun _ => rfl, trivial⟩⟩⟩⟩) (by decide) rfl ?_
      refine x_iinc (i := 3) (v := (v2 + (1 : Int32))) (l' := [(3, .int (v2 + (1 : Int32))), (2, .int x36), (0, va_rf r0), (1, .int i1)]) hC dX1_costOfCut_27 3 rfl rfl (⟨fun _ => rfl, ⟨fun _ => c_rf r0, ⟨fun _ => rfl, ⟨fun _ => rfl, trivial⟩⟩⟩⟩) (by decide) rfl ?_
      refine x_goto (t := 4) hC dX1_costOfCut_30 (by decide) ?_
      refine x_sub (l' := [(0, va_rf r0), (1, .int i1), (2, .int x36), (3, .int (v2 + (1 : Int32)))]) [2, 3, 1, 0] rfl ?_
      have hb := bk_x h hg_4
      exact hb
theorem dX1_byCuts_0 : decode cX1_byCuts 0 = .ok (.aload_n 0, 1) := by decide +kernel
theorem dX1_byCuts_1 : decode cX1_byCuts 1 = .ok (.invokevirtual 52, 3) := by decide +kernel
theorem dX1_byCuts_4 : decode cX1_byCuts 4 = .ok (.istore_n 1, 1) := by decide +kernel
theorem dX1_byCuts_5 : decode cX1_byCuts 5 = .ok (.aload_n 0, 1) := by decide +kernel
theorem dX1_byCuts_6 : decode cX1_byCuts 6 = .ok (.iconst 0, 1) := by decide +kernel
theorem dX1_byCuts_7 : decode cX1_byCuts 7 = .ok (.invokevirtual 56, 3) := by decide +kernel
theorem dX1_byCuts_10 : decode cX1_byCuts 10 = .ok (.istore_n 2, 1) := by decide +kernel
theorem dX1_byCuts_11 : decode cX1_byCuts 11 = .ok (.iconst 1, 1) := by decide +kernel
theorem dX1_byCuts_12 : decode cX1_byCuts 12 = .ok (.istore_n 3, 1) := by decide +kernel
theorem dX1_byCuts_13 : decode cX1_byCuts 13 = .ok (.iload_n 3, 1) := by decide +kernel
theorem dX1_byCuts_14 : decode cX1_byCuts 14 = .ok (.sipush 256, 3) := by decide +kernel
theorem dX1_byCuts_17 : decode cX1_byCuts 17 = .ok (.if_icmp .ge 27, 3) := by decide +kernel
theorem dX1_byCuts_20 : decode cX1_byCuts 20 = .ok (.iload_n 3, 1) := by decide +kernel
theorem dX1_byCuts_21 : decode cX1_byCuts 21 = .ok (.iload_n 1, 1) := by decide +kernel
theorem dX1_byCuts_22 : decode cX1_byCuts 22 = .ok (.iconst (-1), 1) := by decide +kernel
theorem dX1_byCuts_23 : decode cX1_byCuts 23 = .ok (.ixor, 1) := by decide +kernel
theorem dX1_byCuts_24 : decode cX1_byCuts 24 = .ok (.iand, 1) := by decide +kernel
theorem dX1_byCuts_25 : decode cX1_byCuts 25 = .ok (.ifCond .ne 13, 3) := by decide +kernel
theorem dX1_byCuts_28 : decode cX1_byCuts 28 = .ok (.iload_n 2, 1) := by decide +kernel
theorem dX1_byCuts_29 : decode cX1_byCuts 29 = .ok (.aload_n 0, 1) := by decide +kernel
theorem dX1_byCuts_30 : decode cX1_byCuts 30 = .ok (.iload_n 3, 1) := by decide +kernel
theorem dX1_byCuts_31 : decode cX1_byCuts 31 = .ok (.invokevirtual 56, 3) := by decide +kernel
theorem dX1_byCuts_34 : decode cX1_byCuts 34 = .ok (.invokestatic 60, 3) := by decide +kernel
theorem dX1_byCuts_37 : decode cX1_byCuts 37 = .ok (.istore_n 2, 1) := by decide +kernel
theorem dX1_byCuts_38 : decode cX1_byCuts 38 = .ok (.iinc 3 1, 3) := by decide +kernel
theorem dX1_byCuts_41 : decode cX1_byCuts 41 = .ok (.goto (-28), 3) := by decide +kernel
theorem dX1_byCuts_44 : decode cX1_byCuts 44 = .ok (.iload_n 2, 1) := by decide +kernel
theorem dX1_byCuts_45 : decode cX1_byCuts 45 = .ok (.ireturn, 1) := by decide +kernel
set_option maxRecDepth 100000 in
set_option maxHeartbeats 4000000 in
theorem mt_X1_byCuts (r0 : Option Nat) (S0 : PH) (y : Int32 × PH) (h : m_X1_byCuts r0 S0 = some y) : MT yX1_byCuts (.code yX1_byCuts cX1_byCuts 4 (Option.some FieldType.int)) 2 44 0 0 [va_rf r0] S0 (oQ e_I (qN y)) := by
  refine mt_of (own := RX1) (l0 := [(0, va_rf r0)]) rfl rfl (by cases r0 <;> exact Nat.le_of_ble_eq_true rfl) (by cases r0 <;> rfl) ?_
  intro Z hC hQ hE hN
  unfold m_X1_byCuts at h
  refine x_aload_n (i := 0) hC dX1_byCuts_0 rfl 0 rfl ?_
  replace h := dr_el h
  obtain ⟨a1, ea2, ha3, h⟩ := h
  replace h := bd_el h
  obtain ⟨v4, S5, hb6, h⟩ := h
  refine x_callV hC (st := []) (mt_X1_openPapers _ _ _ hb6) ea2 ha3 kf_1 q_483 q_484 q_485 q_6 q_486 ⟨rfl, hy_X1_openPapers⟩ ⟨Nat.le_of_ble_eq_true rfl, Nat.le_of_ble_eq_true rfl⟩ ⟨Nat.le_of_ble_eq_true rfl, Nat.le_of_ble_eq_true rfl⟩ rfl (Nat.le_of_ble_eq_true rfl) dX1_byCuts_1 (r_N ?_) r_NX
  show PX Z 4 S5 0 0 4 [(0, va_rf r0)] [.int v4]
  refine x_istore_n (i := 1) (l' := [(1, .int v4), (0, va_rf r0)]) hC dX1_byCuts_4 rfl (⟨fun _ => c_rf r0, trivial⟩) (by decide) rfl ?_
  refine x_aload_n (i := 0) hC dX1_byCuts_5 rfl 1 rfl ?_
  refine x_iconst (v := (0 : Int32)) hC dX1_byCuts_6 (by decide) ?_
  replace h := dr_el h
  obtain ⟨a7, ea8, ha9, h⟩ := h
  replace h := bd_el h
  obtain ⟨v10, S11, hb12, h⟩ := h
  refine x_callV hC (st := []) (mt_X1_costOfCut _ _ _ _ hb12) ea8 ha9 kf_1 q_487 q_488 q_489 q_6 q_490 ⟨rfl, hy_X1_costOfCut⟩ ⟨Nat.le_of_ble_eq_true rfl, Nat.le_of_ble_eq_true rfl⟩ ⟨Nat.le_of_ble_eq_true rfl, Nat.le_of_ble_eq_true rfl⟩ rfl (Nat.le_of_ble_eq_true rfl) dX1_byCuts_7 (r_N ?_) r_NX
  show PX Z 4 S11 0 0 10 [(1, .int v4), (0, va_rf r0)] [.int v10]
  refine x_istore_n (i := 2) (l' := [(2, .int v10), (1, .int v4), (0, va_rf r0)]) hC dX1_byCuts_10 rfl (⟨fun _ => rfl, ⟨fun _ => c_rf r0, trivial⟩⟩) (by decide) rfl ?_
  refine x_iconst (v := (1 : Int32)) hC dX1_byCuts_11 (by decide) ?_
  refine x_istore_n (i := 3) (l' := [(3, .int (1 : Int32)), (2, .int v10), (1, .int v4), (0, va_rf r0)]) hC dX1_byCuts_12 rfl (⟨fun _ => rfl, ⟨fun _ => rfl, ⟨fun _ => c_rf r0, trivial⟩⟩⟩) (by decide) rfl ?_
  refine x_sub (l' := [(0, va_rf r0), (1, .int v4), (2, .int v10), (3, .int (1 : Int32))]) [3, 2, 1, 0] rfl ?_
  refine lp_sim (P := fun (t : (Int32 × Int32 × Int32 × PH)) => PX Z 4 t.2.2.2 0 0 13 [(0, va_rf r0), (1, .int t.1), (2, .int t.2.1), (3, .int t.2.2.1)] []) (G := fun r => r = y) ?_ h rfl
  clear h
  intro t x_13 h hg_13
  obtain ⟨v13, v14, v15, S16⟩ := t
  show PX Z 4 S16 0 0 13 [(0, va_rf r0), (1, .int v13), (2, .int v14), (3, .int v15)] []
  unfold st_X1_byCuts_13 at h
  refine x_iload_n (i := 3) hC dX1_byCuts_13 rfl 3 rfl ?_
  refine x_sipush (v := (256 : Int32)) hC dX1_byCuts_14 (by decide) ?_
  refine x_icmp_ge (t := 44) hC dX1_byCuts_17 (by decide) (fun c17 => ?_) (fun c17 => ?_)
  · replace h := it_t c17 h
    replace h := ir_x h hg_13
    refine x_iload_n (i := 2) hC dX1_byCuts_44 rfl 2 rfl ?_
    exact x_iret hC hQ (z_N (Option.some.inj h)) (Nat.le_of_ble_eq_true rfl) (Nat.le_of_ble_eq_true rfl) dX1_byCuts_45
  · replace h := it_f c17 h
    refine x_iload_n (i := 3) hC dX1_byCuts_20 rfl 3 rfl ?_
    refine x_iload_n (i := 1) hC dX1_byCuts_21 rfl 1 rfl ?_
    refine x_iconst (v := (-1 : Int32)) hC dX1_byCuts_22 (by decide) ?_
    refine x_ixor hC dX1_byCuts_23 ?_
    refine x_iand hC dX1_byCuts_24 ?_
    refine x_if_ne (t := 38) hC dX1_byCuts_25 (by decide) (fun c18 => ?_) (fun c18 => ?_)
    · replace h := it_f c18 h
      refine x_iinc (i := 3) (v := (v15 + (1 : Int32))) (l' := [(3, .int (v15 + (1 : Int32))), (0, va_rf r0), (1, .int v13), (2, .int v14)]) hC dX1_byCuts_38 3 rfl rfl (⟨fun _ => c_rf r0, ⟨fun _ => rfl, ⟨fun _ => rfl, ⟨fun _ => rfl, trivial⟩⟩⟩⟩) (by decide) rfl ?_
      refine x_goto (t := 13) hC dX1_byCuts_41 (by decide) ?_
      refine x_sub (l' := [(0, va_rf r0), (1, .int v13), (2, .int v14), (3, .int (v15 + (1 : Int32)))]) [1, 2, 3, 0] rfl ?_
      have hb := bk_x h hg_13
      exact hb
    · replace h := it_t c18 h
      refine x_iload_n (i := 2) hC dX1_byCuts_28 rfl 2 rfl ?_
      refine x_aload_n (i := 0) hC dX1_byCuts_29 rfl 0 rfl ?_
      refine x_iload_n (i := 3) hC dX1_byCuts_30 rfl 3 rfl ?_
      replace h := dr_el h
      obtain ⟨a19, ea20, ha21, h⟩ := h
      replace h := bd_el h
      obtain ⟨v22, S23, hb24, h⟩ := h
      refine x_callV hC (st := [.int v14]) (mt_X1_costOfCut _ _ _ _ hb24) ea20 ha21 kf_1 q_487 q_488 q_489 q_6 q_490 ⟨rfl, hy_X1_costOfCut⟩ ⟨Nat.le_of_ble_eq_true rfl, Nat.le_of_ble_eq_true rfl⟩ ⟨Nat.le_of_ble_eq_true rfl, Nat.le_of_ble_eq_true rfl⟩ rfl (Nat.le_of_ble_eq_true rfl) dX1_byCuts_31 (r_N ?_) r_NX
      show PX Z 4 S23 0 0 34 [(0, va_rf r0), (1, .int v13), (2, .int v14), (3, .int v15)] [.int v22, .int v14]
      refine x_mm (lo := true) hC q_492 q_mins q_mai q_minc (Nat.le_of_ble_eq_true rfl) ⟨Nat.le_of_ble_eq_true rfl, Nat.le_of_ble_eq_true rfl⟩ ⟨Nat.le_of_ble_eq_true rfl, Nat.le_of_ble_eq_true rfl⟩ dX1_byCuts_34 ?_
      refine x_tI (b := (mmin v14 v22)) rfl ?_
      replace h := le_el h
      obtain ⟨x25, hx26, h⟩ := h
      refine x_tI hx26 ?_
      refine x_istore_n (i := 2) (l' := [(2, .int x25), (0, va_rf r0), (1, .int v13), (3, .int v15)]) hC dX1_byCuts_37 rfl (⟨fun _ => c_rf r0, ⟨fun _ => rfl, ⟨fun _ => rfl, ⟨fun _ => rfl, trivial⟩⟩⟩⟩) (by decide) rfl ?_
      refine x_iinc (i := 3) (v := (v15 + (1 : Int32))) (l' := [(3, .int (v15 + (1 : Int32))), (2, .int x25), (0, va_rf r0), (1, .int v13)]) hC dX1_byCuts_38 3 rfl rfl (⟨fun _ => rfl, ⟨fun _ => c_rf r0, ⟨fun _ => rfl, ⟨fun _ => rfl, trivial⟩⟩⟩⟩) (by decide) rfl ?_
      refine x_goto (t := 13) hC dX1_byCuts_41 (by decide) ?_
      refine x_sub (l' := [(0, va_rf r0), (1, .int v13), (2, .int x25), (3, .int (v15 + (1 : Int32)))]) [2, 3, 1, 0] rfl ?_
      have hb := bk_x h hg_13
      exact hb
theorem dX3_init_0 : decode cX3_init 0 = .ok (.aload_n 0, 1) := by decide +kernel
theorem dX3_init_1 : decode cX3_init 1 = .ok (.invokespecial 3, 3) := by decide +kernel
theorem dX3_init_4 : decode cX3_init 4 = .ok (.aload_n 0, 1) := by decide +kernel
theorem dX3_init_5 : decode cX3_init 5 = .ok (.bipush 60, 2) := by decide +kernel
theorem dX3_init_7 : decode cX3_init 7 = .ok (.newarray .int, 2) := by decide +kernel
theorem dX3_init_9 : decode cX3_init 9 = .ok (.putfield 9, 3) := by decide +kernel
theorem dX3_init_12 : decode cX3_init 12 = .ok (.aload_n 0, 1) := by decide +kernel
theorem dX3_init_13 : decode cX3_init 13 = .ok (.iconst 0, 1) := by decide +kernel
theorem dX3_init_14 : decode cX3_init 14 = .ok (.putfield 15, 3) := by decide +kernel
theorem dX3_init_17 : decode cX3_init 17 = .ok (.return_, 1) := by decide +kernel
set_option maxRecDepth 100000 in
set_option maxHeartbeats 4000000 in
theorem mt_X3_init (r0 : Option Nat) (S0 : PH) (Q : (Nat ⊕ Unit) → PH → Prop) (h : w_X3_init r0 S0 Q) : MT yX3_init (.code yX3_init cX3_init 1 (Option.none : Option FieldType)) 1 20 1 60 [va_rf r0] S0 (oQ e_V Q) := by
  refine mt_of (own := RX3) (l0 := [(0, va_rf r0)]) rfl rfl (by cases r0 <;> exact Nat.le_of_ble_eq_true rfl) (by cases r0 <;> rfl) ?_
  intro Z hC hQ hE hN
  unfold w_X3_init at h
  refine x_aload_n (i := 0) hC dX3_init_0 rfl 0 rfl ?_
  obtain ⟨a1, ea2, ha3, h⟩ := h
  refine x_objInit hC ea2 q_130 q_obi q_obc (Nat.le_of_ble_eq_true rfl) ⟨Nat.le_of_ble_eq_true rfl, Nat.le_of_ble_eq_true rfl⟩ dX3_init_1 ?_
  refine x_aload_n (i := 0) hC dX3_init_4 rfl 0 rfl ?_
  refine x_bipush (v := (60 : Int32)) hC dX3_init_5 (by decide) ?_
  refine x_newI (N' := 60) hC q_105 (by decide) (by decide) (Nat.le_of_ble_eq_true rfl) (Nat.le_of_ble_eq_true rfl) (Nat.le_of_ble_eq_true rfl) dX3_init_7 (fun q4 hq5 => ?_)
  replace h := h q4 hq5
  obtain ⟨S6, hx7, h⟩ := wle_el h
  refine x_tS hx7 ?_
  obtain ⟨a8, ea9, ha10, h⟩ := h
  obtain ⟨S11, hx12, h⟩ := wle_el h
  refine x_putR hC ea9 ha10 kf_3 0 (by decide) rfl (Or.inl ⟨_, rfl⟩) q_131 (Or.inr ⟨rfl, hN rfl, rfl⟩) dX3_init_9 ?_
  refine x_tS hx12 ?_
  refine x_aload_n (i := 0) hC dX3_init_12 rfl 0 rfl ?_
  refine x_iconst (v := (0 : Int32)) hC dX3_init_13 (by decide) ?_
  obtain ⟨a13, ea14, ha15, h⟩ := h
  obtain ⟨S16, hx17, h⟩ := wle_el h
  refine x_putI hC ea14 ha15 kf_3 1 (by decide) rfl rfl q_132 (Or.inl rfl) dX3_init_14 ?_
  refine x_tS hx17 ?_
  exact x_vret hC hQ (z_W (v := ()) h) (Nat.le_of_ble_eq_true rfl) (Nat.le_of_ble_eq_true rfl) dX3_init_17
theorem dX4_init_0 : decode cX4_init 0 = .ok (.aload_n 0, 1) := by decide +kernel
theorem dX4_init_1 : decode cX4_init 1 = .ok (.invokespecial 1, 3) := by decide +kernel
theorem dX4_init_4 : decode cX4_init 4 = .ok (.aload_n 0, 1) := by decide +kernel
theorem dX4_init_5 : decode cX4_init 5 = .ok (.new 7, 3) := by decide +kernel
theorem dX4_init_8 : decode cX4_init 8 = .ok (.dup, 1) := by decide +kernel
theorem dX4_init_9 : decode cX4_init 9 = .ok (.invokespecial 9, 3) := by decide +kernel
theorem dX4_init_12 : decode cX4_init 12 = .ok (.putfield 10, 3) := by decide +kernel
theorem dX4_init_15 : decode cX4_init 15 = .ok (.aload_n 0, 1) := by decide +kernel
theorem dX4_init_16 : decode cX4_init 16 = .ok (.new 16, 3) := by decide +kernel
theorem dX4_init_19 : decode cX4_init 19 = .ok (.dup, 1) := by decide +kernel
theorem dX4_init_20 : decode cX4_init 20 = .ok (.invokespecial 18, 3) := by decide +kernel
theorem dX4_init_23 : decode cX4_init 23 = .ok (.putfield 19, 3) := by decide +kernel
theorem dX4_init_26 : decode cX4_init 26 = .ok (.aload_n 0, 1) := by decide +kernel
theorem dX4_init_27 : decode cX4_init 27 = .ok (.iconst 2, 1) := by decide +kernel
theorem dX4_init_28 : decode cX4_init 28 = .ok (.anewarray 7, 3) := by decide +kernel
theorem dX4_init_31 : decode cX4_init 31 = .ok (.putfield 23, 3) := by decide +kernel
theorem dX4_init_34 : decode cX4_init 34 = .ok (.aload_n 0, 1) := by decide +kernel
theorem dX4_init_35 : decode cX4_init 35 = .ok (.new 27, 3) := by decide +kernel
theorem dX4_init_38 : decode cX4_init 38 = .ok (.dup, 1) := by decide +kernel
theorem dX4_init_39 : decode cX4_init 39 = .ok (.invokespecial 29, 3) := by decide +kernel
theorem dX4_init_42 : decode cX4_init 42 = .ok (.putfield 30, 3) := by decide +kernel
theorem dX4_init_45 : decode cX4_init 45 = .ok (.aload_n 0, 1) := by decide +kernel
theorem dX4_init_46 : decode cX4_init 46 = .ok (.new 34, 3) := by decide +kernel
theorem dX4_init_49 : decode cX4_init 49 = .ok (.dup, 1) := by decide +kernel
theorem dX4_init_50 : decode cX4_init 50 = .ok (.invokespecial 36, 3) := by decide +kernel
theorem dX4_init_53 : decode cX4_init 53 = .ok (.putfield 37, 3) := by decide +kernel
theorem dX4_init_56 : decode cX4_init 56 = .ok (.aload_n 0, 1) := by decide +kernel
theorem dX4_init_57 : decode cX4_init 57 = .ok (.bipush 8, 2) := by decide +kernel
theorem dX4_init_59 : decode cX4_init 59 = .ok (.newarray .int, 2) := by decide +kernel
theorem dX4_init_61 : decode cX4_init 61 = .ok (.putfield 41, 3) := by decide +kernel
theorem dX4_init_64 : decode cX4_init 64 = .ok (.return_, 1) := by decide +kernel
set_option maxRecDepth 100000 in
set_option maxHeartbeats 4000000 in
theorem mt_X4_init (r0 : Option Nat) (S0 : PH) (Q : (Nat ⊕ Unit) → PH → Prop) (h : w_X4_init r0 S0 Q) : MT yX4_init (.code yX4_init cX4_init 1 (Option.none : Option FieldType)) 2 82 36 326 [va_rf r0] S0 (oQ e_V Q) := by
  refine mt_of (own := RX4) (l0 := [(0, va_rf r0)]) rfl rfl (by cases r0 <;> exact Nat.le_of_ble_eq_true rfl) (by cases r0 <;> rfl) ?_
  intro Z hC hQ hE hN
  unfold w_X4_init at h
  refine x_aload_n (i := 0) hC dX4_init_0 rfl 0 rfl ?_
  obtain ⟨a1, ea2, ha3, h⟩ := h
  refine x_objInit hC ea2 q_20 q_obi q_obc (Nat.le_of_ble_eq_true rfl) ⟨Nat.le_of_ble_eq_true rfl, Nat.le_of_ble_eq_true rfl⟩ dX4_init_1 ?_
  refine x_aload_n (i := 0) hC dX4_init_4 rfl 0 rfl ?_
  refine x_new hC kf_2 q_23 q_24 q_2 (by decide) (Nat.le_of_ble_eq_true rfl) (Nat.le_of_ble_eq_true rfl) dX4_init_5 (fun q4 hq5 => ?_)
  replace h := h q4 hq5
  obtain ⟨S6, hx7, h⟩ := wle_el h
  refine x_tS hx7 ?_
  refine x_dup hC dX4_init_8 (c_rf (some q4)) ?_
  obtain ⟨a8, ea9, ha10, h⟩ := h
  refine x_callI hC (st := [va_rf (some q4), va_rf r0]) (mt_X2_init _ _ _ h) ea9 q_25 q_26 q_2 q_27 rfl hy_X2_init ⟨Nat.le_of_ble_eq_true rfl, Nat.le_of_ble_eq_true rfl⟩ ⟨Nat.le_of_ble_eq_true rfl, Nat.le_of_ble_eq_true rfl⟩ rfl (Nat.le_of_ble_eq_true rfl) dX4_init_9 (r_W (fun v11 S12 h => ?_)) (r_Wx (fun _ _ h => (wq_l h).elim))
  replace h := wq_r h
  show PX Z 1 S12 21 173 12 [(0, va_rf r0)] [va_rf (some q4), va_rf r0]
  obtain ⟨a15, ea16, ha17, h⟩ := h
  obtain ⟨S18, hx19, h⟩ := wle_el h
  refine x_putR hC ea16 ha17 kf_4 0 (by decide) rfl (Or.inr ⟨_, rfl⟩) q_172 (Or.inr ⟨rfl, hN rfl, rfl⟩) dX4_init_12 ?_
  refine x_tS hx19 ?_
  refine x_aload_n (i := 0) hC dX4_init_15 rfl 0 rfl ?_
  refine x_new hC kf_0 q_106 q_107 q_4 (by decide) (Nat.le_of_ble_eq_true rfl) (Nat.le_of_ble_eq_true rfl) dX4_init_16 (fun q20 hq21 => ?_)
  replace h := h q20 hq21
  obtain ⟨S22, hx23, h⟩ := wle_el h
  refine x_tS hx23 ?_
  refine x_dup hC dX4_init_19 (c_rf (some q20)) ?_
  obtain ⟨a24, ea25, ha26, h⟩ := h
  refine x_callIN hC (host := "TokenReviews") (st := [va_rf (some q20), va_rf r0]) (mt_X0_init _ _ _ h) ea25 (List.mem_of_getElem? (i := 2) rfl) q_109 q_4 q_110 rfl hy_X0_init ⟨Nat.le_of_ble_eq_true rfl, Nat.le_of_ble_eq_true rfl⟩ ⟨Nat.le_of_ble_eq_true rfl, Nat.le_of_ble_eq_true rfl⟩ rfl (Nat.le_of_ble_eq_true rfl) dX4_init_20 (r_W (fun v27 S28 h => ?_)) (r_Wx (fun _ _ h => (wq_l h).elim))
  replace h := wq_r h
  show PX Z 1 S28 23 182 23 [(0, va_rf r0)] [va_rf (some q20), va_rf r0]
  obtain ⟨a31, ea32, ha33, h⟩ := h
  obtain ⟨S34, hx35, h⟩ := wle_el h
  refine x_putR hC ea32 ha33 kf_4 1 (by decide) rfl (Or.inr ⟨_, rfl⟩) q_173 (Or.inr ⟨rfl, hN rfl, rfl⟩) dX4_init_23 ?_
  refine x_tS hx35 ?_
  refine x_aload_n (i := 0) hC dX4_init_26 rfl 0 rfl ?_
  refine x_iconst (v := (2 : Int32)) hC dX4_init_27 (by decide) ?_
  refine x_newq (N' := 2) hC q_23 (List.mem_of_getElem? (i := 3) rfl) (by decide) (by decide) (Nat.le_of_ble_eq_true rfl) (Nat.le_of_ble_eq_true rfl) (Nat.le_of_ble_eq_true rfl) dX4_init_28 (fun q36 hq37 => ?_)
  replace h := h q36 hq37
  obtain ⟨S38, hx39, h⟩ := wle_el h
  refine x_tS hx39 ?_
  obtain ⟨a40, ea41, ha42, h⟩ := h
  obtain ⟨S43, hx44, h⟩ := wle_el h
  refine x_putR hC ea41 ha42 kf_4 2 (by decide) rfl (Or.inl ⟨_, rfl⟩) q_174 (Or.inr ⟨rfl, hN rfl, rfl⟩) dX4_init_31 ?_
  refine x_tS hx44 ?_
  refine x_aload_n (i := 0) hC dX4_init_34 rfl 0 rfl ?_
  refine x_new hC kf_3 q_125 q_126 q_5 (by decide) (Nat.le_of_ble_eq_true rfl) (Nat.le_of_ble_eq_true rfl) dX4_init_35 (fun q45 hq46 => ?_)
  replace h := h q45 hq46
  obtain ⟨S47, hx48, h⟩ := wle_el h
  refine x_tS hx48 ?_
  refine x_dup hC dX4_init_38 (c_rf (some q45)) ?_
  obtain ⟨a49, ea50, ha51, h⟩ := h
  refine x_callIN hC (host := "TokenReviews") (st := [va_rf (some q45), va_rf r0]) (mt_X3_init _ _ _ h) ea50 (List.mem_of_getElem? (i := 4) rfl) q_128 q_5 q_129 rfl hy_X3_init ⟨Nat.le_of_ble_eq_true rfl, Nat.le_of_ble_eq_true rfl⟩ ⟨Nat.le_of_ble_eq_true rfl, Nat.le_of_ble_eq_true rfl⟩ rfl (Nat.le_of_ble_eq_true rfl) dX4_init_39 (r_W (fun v52 S53 h => ?_)) (r_Wx (fun _ _ h => (wq_l h).elim))
  replace h := wq_r h
  show PX Z 1 S53 26 246 42 [(0, va_rf r0)] [va_rf (some q45), va_rf r0]
  obtain ⟨a56, ea57, ha58, h⟩ := h
  obtain ⟨S59, hx60, h⟩ := wle_el h
  refine x_putR hC ea57 ha58 kf_4 3 (by decide) rfl (Or.inr ⟨_, rfl⟩) q_175 (Or.inr ⟨rfl, hN rfl, rfl⟩) dX4_init_42 ?_
  refine x_tS hx60 ?_
  refine x_aload_n (i := 0) hC dX4_init_45 rfl 0 rfl ?_
  refine x_new hC kf_1 q_138 q_139 q_6 (by decide) (Nat.le_of_ble_eq_true rfl) (Nat.le_of_ble_eq_true rfl) dX4_init_46 (fun q61 hq62 => ?_)
  replace h := h q61 hq62
  obtain ⟨S63, hx64, h⟩ := wle_el h
  refine x_tS hx64 ?_
  refine x_dup hC dX4_init_49 (c_rf (some q61)) ?_
  obtain ⟨a65, ea66, ha67, h⟩ := h
  refine x_callIN hC (host := "TokenReviews") (st := [va_rf (some q61), va_rf r0]) (mt_X1_init _ _ _ h) ea66 (List.mem_of_getElem? (i := 5) rfl) q_141 q_6 q_142 rfl hy_X1_init ⟨Nat.le_of_ble_eq_true rfl, Nat.le_of_ble_eq_true rfl⟩ ⟨Nat.le_of_ble_eq_true rfl, Nat.le_of_ble_eq_true rfl⟩ rfl (Nat.le_of_ble_eq_true rfl) dX4_init_50 (r_W (fun v68 S69 h => ?_)) (r_Wx (fun _ _ h => (wq_l h).elim))
  replace h := wq_r h
  show PX Z 1 S69 35 318 53 [(0, va_rf r0)] [va_rf (some q61), va_rf r0]
  obtain ⟨a72, ea73, ha74, h⟩ := h
  obtain ⟨S75, hx76, h⟩ := wle_el h
  refine x_putR hC ea73 ha74 kf_4 4 (by decide) rfl (Or.inr ⟨_, rfl⟩) q_176 (Or.inr ⟨rfl, hN rfl, rfl⟩) dX4_init_53 ?_
  refine x_tS hx76 ?_
  refine x_aload_n (i := 0) hC dX4_init_56 rfl 0 rfl ?_
  refine x_bipush (v := (8 : Int32)) hC dX4_init_57 (by decide) ?_
  refine x_newI (N' := 8) hC q_105 (by decide) (by decide) (Nat.le_of_ble_eq_true rfl) (Nat.le_of_ble_eq_true rfl) (Nat.le_of_ble_eq_true rfl) dX4_init_59 (fun q77 hq78 => ?_)
  replace h := h q77 hq78
  obtain ⟨S79, hx80, h⟩ := wle_el h
  refine x_tS hx80 ?_
  obtain ⟨a81, ea82, ha83, h⟩ := h
  obtain ⟨S84, hx85, h⟩ := wle_el h
  refine x_putR hC ea82 ha83 kf_4 5 (by decide) rfl (Or.inl ⟨_, rfl⟩) q_177 (Or.inr ⟨rfl, hN rfl, rfl⟩) dX4_init_61 ?_
  refine x_tS hx85 ?_
  exact x_vret hC hQ (z_W (v := ()) h) (Nat.le_of_ble_eq_true rfl) (Nat.le_of_ble_eq_true rfl) dX4_init_64
theorem dX4_paper_0 : decode cX4_paper 0 = .ok (.iload_n 1, 1) := by decide +kernel
theorem dX4_paper_1 : decode cX4_paper 1 = .ok (.ifCond .lt 8, 3) := by decide +kernel
theorem dX4_paper_4 : decode cX4_paper 4 = .ok (.iload_n 1, 1) := by decide +kernel
theorem dX4_paper_5 : decode cX4_paper 5 = .ok (.iconst 4, 1) := by decide +kernel
theorem dX4_paper_6 : decode cX4_paper 6 = .ok (.if_icmp .lt 13, 3) := by decide +kernel
theorem dX4_paper_9 : decode cX4_paper 9 = .ok (.new 45, 3) := by decide +kernel
theorem dX4_paper_12 : decode cX4_paper 12 = .ok (.dup, 1) := by decide +kernel
theorem dX4_paper_13 : decode cX4_paper 13 = .ok (.ldc 47, 2) := by decide +kernel
theorem dX4_paper_15 : decode cX4_paper 15 = .ok (.invokespecial 49, 3) := by decide +kernel
theorem dX4_paper_18 : decode cX4_paper 18 = .ok (.athrow, 1) := by decide +kernel
theorem dX4_paper_19 : decode cX4_paper 19 = .ok (.iload_n 2, 1) := by decide +kernel
theorem dX4_paper_20 : decode cX4_paper 20 = .ok (.iconst 1, 1) := by decide +kernel
theorem dX4_paper_21 : decode cX4_paper 21 = .ok (.if_icmp .lt 10, 3) := by decide +kernel
theorem dX4_paper_24 : decode cX4_paper 24 = .ok (.iload_n 2, 1) := by decide +kernel
theorem dX4_paper_25 : decode cX4_paper 25 = .ok (.sipush 255, 3) := by decide +kernel
theorem dX4_paper_28 : decode cX4_paper 28 = .ok (.if_icmp .le 13, 3) := by decide +kernel
theorem dX4_paper_31 : decode cX4_paper 31 = .ok (.new 45, 3) := by decide +kernel
theorem dX4_paper_34 : decode cX4_paper 34 = .ok (.dup, 1) := by decide +kernel
theorem dX4_paper_35 : decode cX4_paper 35 = .ok (.ldc 52, 2) := by decide +kernel
theorem dX4_paper_37 : decode cX4_paper 37 = .ok (.invokespecial 49, 3) := by decide +kernel
theorem dX4_paper_40 : decode cX4_paper 40 = .ok (.athrow, 1) := by decide +kernel
theorem dX4_paper_41 : decode cX4_paper 41 = .ok (.aload_n 0, 1) := by decide +kernel
theorem dX4_paper_42 : decode cX4_paper 42 = .ok (.getfield 10, 3) := by decide +kernel
theorem dX4_paper_45 : decode cX4_paper 45 = .ok (.getfield 54, 3) := by decide +kernel
theorem dX4_paper_48 : decode cX4_paper 48 = .ok (.istore_n 3, 1) := by decide +kernel
theorem dX4_paper_49 : decode cX4_paper 49 = .ok (.iload_n 3, 1) := by decide +kernel
theorem dX4_paper_50 : decode cX4_paper 50 = .ok (.ifCond .lt 9, 3) := by decide +kernel
theorem dX4_paper_53 : decode cX4_paper 53 = .ok (.iload_n 3, 1) := by decide +kernel
theorem dX4_paper_54 : decode cX4_paper 54 = .ok (.bipush 8, 2) := by decide +kernel
theorem dX4_paper_56 : decode cX4_paper 56 = .ok (.if_icmp .lt 13, 3) := by decide +kernel
theorem dX4_paper_59 : decode cX4_paper 59 = .ok (.new 58, 3) := by decide +kernel
theorem dX4_paper_62 : decode cX4_paper 62 = .ok (.dup, 1) := by decide +kernel
theorem dX4_paper_63 : decode cX4_paper 63 = .ok (.ldc 60, 2) := by decide +kernel
theorem dX4_paper_65 : decode cX4_paper 65 = .ok (.invokespecial 62, 3) := by decide +kernel
theorem dX4_paper_68 : decode cX4_paper 68 = .ok (.athrow, 1) := by decide +kernel
theorem dX4_paper_69 : decode cX4_paper 69 = .ok (.aload_n 0, 1) := by decide +kernel
theorem dX4_paper_70 : decode cX4_paper 70 = .ok (.getfield 19, 3) := by decide +kernel
theorem dX4_paper_73 : decode cX4_paper 73 = .ok (.aload_n 0, 1) := by decide +kernel
theorem dX4_paper_74 : decode cX4_paper 74 = .ok (.getfield 10, 3) := by decide +kernel
theorem dX4_paper_77 : decode cX4_paper 77 = .ok (.invokevirtual 63, 3) := by decide +kernel
theorem dX4_paper_80 : decode cX4_paper 80 = .ok (.aload_n 0, 1) := by decide +kernel
theorem dX4_paper_81 : decode cX4_paper 81 = .ok (.getfield 10, 3) := by decide +kernel
theorem dX4_paper_84 : decode cX4_paper 84 = .ok (.getfield 67, 3) := by decide +kernel
theorem dX4_paper_87 : decode cX4_paper 87 = .ok (.iload_n 3, 1) := by decide +kernel
theorem dX4_paper_88 : decode cX4_paper 88 = .ok (.iload_n 1, 1) := by decide +kernel
theorem dX4_paper_89 : decode cX4_paper 89 = .ok (.iastore, 1) := by decide +kernel
theorem dX4_paper_90 : decode cX4_paper 90 = .ok (.aload_n 0, 1) := by decide +kernel
theorem dX4_paper_91 : decode cX4_paper 91 = .ok (.getfield 10, 3) := by decide +kernel
theorem dX4_paper_94 : decode cX4_paper 94 = .ok (.getfield 70, 3) := by decide +kernel
theorem dX4_paper_97 : decode cX4_paper 97 = .ok (.iload_n 3, 1) := by decide +kernel
theorem dX4_paper_98 : decode cX4_paper 98 = .ok (.iload_n 2, 1) := by decide +kernel
theorem dX4_paper_99 : decode cX4_paper 99 = .ok (.iastore, 1) := by decide +kernel
theorem dX4_paper_100 : decode cX4_paper 100 = .ok (.aload_n 0, 1) := by decide +kernel
theorem dX4_paper_101 : decode cX4_paper 101 = .ok (.getfield 10, 3) := by decide +kernel
theorem dX4_paper_104 : decode cX4_paper 104 = .ok (.iload_n 3, 1) := by decide +kernel
theorem dX4_paper_105 : decode cX4_paper 105 = .ok (.iconst 1, 1) := by decide +kernel
theorem dX4_paper_106 : decode cX4_paper 106 = .ok (.iadd, 1) := by decide +kernel
theorem dX4_paper_107 : decode cX4_paper 107 = .ok (.putfield 54, 3) := by decide +kernel
theorem dX4_paper_110 : decode cX4_paper 110 = .ok (.iload_n 3, 1) := by decide +kernel
theorem dX4_paper_111 : decode cX4_paper 111 = .ok (.ireturn, 1) := by decide +kernel
set_option maxRecDepth 100000 in
set_option maxHeartbeats 4000000 in
theorem mt_X4_paper (r0 : Option Nat) (i1 : Int32) (i2 : Int32) (S0 : PH) (Q : (Nat ⊕ Int32) → PH → Prop) (h : w_X4_paper r0 i1 i2 S0 Q) : MT yX4_paper (.code yX4_paper cX4_paper 4 (Option.some FieldType.int)) 6 104 21 173 [va_rf r0, .int i1, .int i2] S0 (oQ e_I Q) := by
  refine mt_of (own := RX4) (l0 := [(0, va_rf r0), (1, .int i1), (2, .int i2)]) rfl rfl (by cases r0 <;> exact Nat.le_of_ble_eq_true rfl) (by cases r0 <;> rfl) ?_
  intro Z hC hQ hE hN
  have J_9 : ∀ (S2 : PH), wj_X4_paper_9 r0 i1 i2 Q S2 → PX Z 4 S2 0 0 9 [(0, va_rf r0), (1, .int i1), (2, .int i2)] [] := by
    intro S2 h
    unfold wj_X4_paper_9 at h
    exact x_throw hC hQ hE (j := 0) (z_Y h) tx_45_49_0 (List.mem_of_getElem? (i := 0) rfl) (Nat.le_of_ble_eq_true rfl) ⟨Nat.le_of_ble_eq_true rfl, Nat.le_of_ble_eq_true rfl⟩ ⟨Nat.le_of_ble_eq_true rfl, Nat.le_of_ble_eq_true rfl⟩ (Nat.le_of_ble_eq_true rfl) (Nat.le_of_ble_eq_true rfl) dX4_paper_9 dX4_paper_12 dX4_paper_13 dX4_paper_15 dX4_paper_18
  have J_31 : ∀ (S5 : PH), wj_X4_paper_31 r0 i1 i2 Q S5 → PX Z 4 S5 0 0 31 [(0, va_rf r0), (1, .int i1), (2, .int i2)] [] := by
    intro S5 h
    unfold wj_X4_paper_31 at h
    exact x_throw hC hQ hE (j := 0) (z_Y h) tx_45_49_0 (List.mem_of_getElem? (i := 1) rfl) (Nat.le_of_ble_eq_true rfl) ⟨Nat.le_of_ble_eq_true rfl, Nat.le_of_ble_eq_true rfl⟩ ⟨Nat.le_of_ble_eq_true rfl, Nat.le_of_ble_eq_true rfl⟩ (Nat.le_of_ble_eq_true rfl) (Nat.le_of_ble_eq_true rfl) dX4_paper_31 dX4_paper_34 dX4_paper_35 dX4_paper_37 dX4_paper_40
  have J_59 : ∀ (S16 : PH), wj_X4_paper_59 r0 i1 i2 Q S16 → PX Z 4 S16 0 0 59 [(0, va_rf r0), (1, .int i1), (2, .int i2)] [] := by
    intro S16 h
    unfold wj_X4_paper_59 at h
    exact x_throw hC hQ hE (j := 1) (z_Y h) tx_58_62_1 (List.mem_of_getElem? (i := 2) rfl) (Nat.le_of_ble_eq_true rfl) ⟨Nat.le_of_ble_eq_true rfl, Nat.le_of_ble_eq_true rfl⟩ ⟨Nat.le_of_ble_eq_true rfl, Nat.le_of_ble_eq_true rfl⟩ (Nat.le_of_ble_eq_true rfl) (Nat.le_of_ble_eq_true rfl) dX4_paper_59 dX4_paper_62 dX4_paper_63 dX4_paper_65 dX4_paper_68
  unfold w_X4_paper at h
  refine x_iload_n (i := 1) hC dX4_paper_0 rfl 1 rfl ?_
  refine x_if_lt (t := 9) hC dX4_paper_1 (by decide) (fun c1 => ?_) (fun c1 => ?_)
  · replace h := wit_t c1 h
    exact J_9 _ h
  · replace h := wit_f c1 h
    refine x_iload_n (i := 1) hC dX4_paper_4 rfl 1 rfl ?_
    refine x_iconst (v := (4 : Int32)) hC dX4_paper_5 (by decide) ?_
    refine x_icmp_lt (t := 19) hC dX4_paper_6 (by decide) (fun c3 => ?_) (fun c3 => ?_)
    · replace h := wit_t c3 h
      refine x_iload_n (i := 2) hC dX4_paper_19 rfl 2 rfl ?_
      refine x_iconst (v := (1 : Int32)) hC dX4_paper_20 (by decide) ?_
      refine x_icmp_lt (t := 31) hC dX4_paper_21 (by decide) (fun c4 => ?_) (fun c4 => ?_)
      · replace h := wit_t c4 h
        exact J_31 _ h
      · replace h := wit_f c4 h
        refine x_iload_n (i := 2) hC dX4_paper_24 rfl 2 rfl ?_
        refine x_sipush (v := (255 : Int32)) hC dX4_paper_25 (by decide) ?_
        refine x_icmp_le (t := 41) hC dX4_paper_28 (by decide) (fun c6 => ?_) (fun c6 => ?_)
        · replace h := wit_t c6 h
          refine x_aload_n (i := 0) hC dX4_paper_41 rfl 0 rfl ?_
          obtain ⟨a7, ea8, ha9, h⟩ := h
          refine x_getR hC ea8 ha9 kf_4 0 (by decide) rfl q_172 dX4_paper_42 ?_
          obtain ⟨a10, ea11, ha12, h⟩ := h
          refine x_getI hC ea11 ha12 kf_2 12 (by decide) rfl q_61 dX4_paper_45 ?_
          obtain ⟨x13, hx14, h⟩ := wle_el h
          refine x_tI hx14 ?_
          refine x_istore_n (i := 3) (l' := [(3, .int x13), (0, va_rf r0), (1, .int i1), (2, .int i2)]) hC dX4_paper_48 rfl (⟨fun _ => c_rf r0, ⟨fun _ => rfl, ⟨fun _ => rfl, trivial⟩⟩⟩) (by decide) rfl ?_
          refine x_iload_n (i := 3) hC dX4_paper_49 rfl 0 rfl ?_
          refine x_if_lt (t := 59) hC dX4_paper_50 (by decide) (fun c15 => ?_) (fun c15 => ?_)
          · replace h := wit_t c15 h
            refine x_sub (l' := [(0, va_rf r0), (1, .int i1), (2, .int i2)]) [1, 2, 3] rfl ?_
            exact J_59 _ h
          · replace h := wit_f c15 h
            refine x_iload_n (i := 3) hC dX4_paper_53 rfl 0 rfl ?_
            refine x_bipush (v := (8 : Int32)) hC dX4_paper_54 (by decide) ?_
            refine x_icmp_lt (t := 69) hC dX4_paper_56 (by decide) (fun c17 => ?_) (fun c17 => ?_)
            · replace h := wit_t c17 h
              refine x_aload_n (i := 0) hC dX4_paper_69 rfl 1 rfl ?_
              refine x_getR hC ea8 ha9 kf_4 1 (by decide) rfl q_173 dX4_paper_70 ?_
              refine x_aload_n (i := 0) hC dX4_paper_73 rfl 1 rfl ?_
              refine x_getR hC ea8 ha9 kf_4 0 (by decide) rfl q_172 dX4_paper_74 ?_
              obtain ⟨a18, ea19, ha20, h⟩ := h
              refine x_callV hC (st := []) (mt_X0_save _ _ _ _ h) ea19 ha20 kf_0 q_280 q_281 q_282 q_4 q_283 ⟨rfl, hy_X0_save⟩ ⟨Nat.le_of_ble_eq_true rfl, Nat.le_of_ble_eq_true rfl⟩ ⟨Nat.le_of_ble_eq_true rfl, Nat.le_of_ble_eq_true rfl⟩ rfl (Nat.le_of_ble_eq_true rfl) dX4_paper_77 (r_W (fun v21 S22 h => ?_)) (r_Wx (fun _ _ h => (wq_l h).elim))
              replace h := wq_r h
              show PX Z 4 S22 21 173 80 [(3, .int x13), (0, va_rf r0), (1, .int i1), (2, .int i2)] []
              refine x_aload_n (i := 0) hC dX4_paper_80 rfl 1 rfl ?_
              obtain ⟨a25, ea26, ha27, h⟩ := h
              refine x_getR hC ea26 ha27 kf_4 0 (by decide) rfl q_172 dX4_paper_81 ?_
              obtain ⟨a28, ea29, ha30, h⟩ := h
              refine x_getR hC ea29 ha30 kf_2 5 (by decide) rfl q_47 dX4_paper_84 ?_
              refine x_iload_n (i := 3) hC dX4_paper_87 rfl 0 rfl ?_
              refine x_iload_n (i := 1) hC dX4_paper_88 rfl 2 rfl ?_
              obtain ⟨a31, ea32, ha33, h⟩ := h
              obtain ⟨hc34, h⟩ := h
              obtain ⟨S35, hx36, h⟩ := wle_el h
              refine x_iastore hC ea32 ha33 hc34 dX4_paper_89 ?_
              refine x_tS hx36 ?_
              refine x_aload_n (i := 0) hC dX4_paper_90 rfl 1 rfl ?_
              obtain ⟨a37, ea38, ha39, h⟩ := h
              refine x_getR hC ea38 ha39 kf_4 0 (by decide) rfl q_172 dX4_paper_91 ?_
              obtain ⟨a40, ea41, ha42, h⟩ := h
              refine x_getR hC ea41 ha42 kf_2 6 (by decide) rfl q_49 dX4_paper_94 ?_
              refine x_iload_n (i := 3) hC dX4_paper_97 rfl 0 rfl ?_
              refine x_iload_n (i := 2) hC dX4_paper_98 rfl 3 rfl ?_
              obtain ⟨a43, ea44, ha45, h⟩ := h
              obtain ⟨hc46, h⟩ := h
              obtain ⟨S47, hx48, h⟩ := wle_el h
              refine x_iastore hC ea44 ha45 hc46 dX4_paper_99 ?_
              refine x_tS hx48 ?_
              refine x_aload_n (i := 0) hC dX4_paper_100 rfl 1 rfl ?_
              obtain ⟨a49, ea50, ha51, h⟩ := h
              refine x_getR hC ea50 ha51 kf_4 0 (by decide) rfl q_172 dX4_paper_101 ?_
              refine x_iload_n (i := 3) hC dX4_paper_104 rfl 0 rfl ?_
              refine x_iconst (v := (1 : Int32)) hC dX4_paper_105 (by decide) ?_
              refine x_iadd hC dX4_paper_106 ?_
              obtain ⟨a52, ea53, ha54, h⟩ := h
              obtain ⟨S55, hx56, h⟩ := wle_el h
              refine x_putI hC ea53 ha54 kf_2 12 (by decide) rfl rfl q_61 (Or.inl rfl) dX4_paper_107 ?_
              refine x_tS hx56 ?_
              refine x_iload_n (i := 3) hC dX4_paper_110 rfl 0 rfl ?_
              exact x_iret hC hQ (z_W h) (Nat.le_of_ble_eq_true rfl) (Nat.le_of_ble_eq_true rfl) dX4_paper_111
            · replace h := wit_f c17 h
              refine x_sub (l' := [(0, va_rf r0), (1, .int i1), (2, .int i2)]) [1, 2, 3] rfl ?_
              exact J_59 _ h
        · replace h := wit_f c6 h
          exact J_31 _ h
    · replace h := wit_f c3 h
      exact J_9 _ h
theorem dX4_requirePerson_0 : decode cX4_requirePerson 0 = .ok (.iload_n 0, 1) := by decide +kernel
theorem dX4_requirePerson_1 : decode cX4_requirePerson 1 = .ok (.ifCond .lt 9, 3) := by decide +kernel
theorem dX4_requirePerson_4 : decode cX4_requirePerson 4 = .ok (.iload_n 0, 1) := by decide +kernel
theorem dX4_requirePerson_5 : decode cX4_requirePerson 5 = .ok (.bipush 8, 2) := by decide +kernel
theorem dX4_requirePerson_7 : decode cX4_requirePerson 7 = .ok (.if_icmp .lt 14, 3) := by decide +kernel
theorem dX4_requirePerson_10 : decode cX4_requirePerson 10 = .ok (.new 289, 3) := by decide +kernel
theorem dX4_requirePerson_13 : decode cX4_requirePerson 13 = .ok (.dup, 1) := by decide +kernel
theorem dX4_requirePerson_14 : decode cX4_requirePerson 14 = .ok (.ldc_w 291, 3) := by decide +kernel
theorem dX4_requirePerson_17 : decode cX4_requirePerson 17 = .ok (.invokespecial 293, 3) := by decide +kernel
theorem dX4_requirePerson_20 : decode cX4_requirePerson 20 = .ok (.athrow, 1) := by decide +kernel
theorem dX4_requirePerson_21 : decode cX4_requirePerson 21 = .ok (.return_, 1) := by decide +kernel
set_option maxRecDepth 100000 in
set_option maxHeartbeats 4000000 in
theorem mt_X4_requirePerson (i0 : Int32) (S0 : PH) (y : (Nat ⊕ Unit) × PH) (h : m_X4_requirePerson i0 S0 = some y) : MT yX4_requirePerson (.code yX4_requirePerson cX4_requirePerson 1 (Option.none : Option FieldType)) 6 90 1 6 [.int i0] S0 (oQ e_V (qT y)) := by
  refine mt_of (own := RX4) (l0 := [(0, .int i0)]) rfl rfl (by exact Nat.le_of_ble_eq_true rfl) (by rfl) ?_
  intro Z hC hQ hE hN
  have J_10 : ∀ (S2 : PH), j_X4_requirePerson_10 i0 S2 = some y → PX Z 1 S2 0 0 10 [(0, .int i0)] [] := by
    intro S2 h
    unfold j_X4_requirePerson_10 at h
    exact x_throwW hC hQ hE (j := 2) (z_X (Option.some.inj h)) tx_289_293_2 (List.mem_of_getElem? (i := 4) rfl) (Nat.le_of_ble_eq_true rfl) ⟨Nat.le_of_ble_eq_true rfl, Nat.le_of_ble_eq_true rfl⟩ ⟨Nat.le_of_ble_eq_true rfl, Nat.le_of_ble_eq_true rfl⟩ (Nat.le_of_ble_eq_true rfl) (Nat.le_of_ble_eq_true rfl) dX4_requirePerson_10 dX4_requirePerson_13 dX4_requirePerson_14 dX4_requirePerson_17 dX4_requirePerson_20
  unfold m_X4_requirePerson at h
  refine x_iload_n (i := 0) hC dX4_requirePerson_0 rfl 0 rfl ?_
  refine x_if_lt (t := 10) hC dX4_requirePerson_1 (by decide) (fun c1 => ?_) (fun c1 => ?_)
  · replace h := it_t c1 h
    exact J_10 _ h
  · replace h := it_f c1 h
    refine x_iload_n (i := 0) hC dX4_requirePerson_4 rfl 0 rfl ?_
    refine x_bipush (v := (8 : Int32)) hC dX4_requirePerson_5 (by decide) ?_
    refine x_icmp_lt (t := 21) hC dX4_requirePerson_7 (by decide) (fun c3 => ?_) (fun c3 => ?_)
    · replace h := it_t c3 h
      exact x_vret hC hQ (z_T (v := ()) (Option.some.inj h)) (Nat.le_of_ble_eq_true rfl) (Nat.le_of_ble_eq_true rfl) dX4_requirePerson_21
    · replace h := it_f c3 h
      exact J_10 _ h
set_option maxRecDepth 100000 in
set_option maxHeartbeats 4000000 in
theorem mtr_X4_requirePerson (i0 : Int32) (S0 : PH) (y0 : Unit × PH) (h : m_X4_requirePerson i0 S0 = some (.inr y0.1, y0.2)) : MT yX4_requirePerson (.code yX4_requirePerson cX4_requirePerson 1 (Option.none : Option FieldType)) 6 90 0 0 [.int i0] S0 (oQ e_V (qN y0)) := by
  generalize hyr : ((.inr y0.1 : Nat ⊕ Unit), y0.2) = y at h
  refine mt_of (own := RX4) (l0 := [(0, .int i0)]) rfl rfl (by exact Nat.le_of_ble_eq_true rfl) (by rfl) ?_
  intro Z hC hQ hE hN
  have J_10 : ∀ (S2 : PH), j_X4_requirePerson_10 i0 S2 = some y → PX Z 1 S2 0 0 10 [(0, .int i0)] [] := by
    intro S2 h
    unfold j_X4_requirePerson_10 at h
    exact z_no hyr (Option.some.inj h)
  unfold m_X4_requirePerson at h
  refine x_iload_n (i := 0) hC dX4_requirePerson_0 rfl 0 rfl ?_
  refine x_if_lt (t := 10) hC dX4_requirePerson_1 (by decide) (fun c1 => ?_) (fun c1 => ?_)
  · replace h := it_t c1 h
    exact J_10 _ h
  · replace h := it_f c1 h
    refine x_iload_n (i := 0) hC dX4_requirePerson_4 rfl 0 rfl ?_
    refine x_bipush (v := (8 : Int32)) hC dX4_requirePerson_5 (by decide) ?_
    refine x_icmp_lt (t := 21) hC dX4_requirePerson_7 (by decide) (fun c3 => ?_) (fun c3 => ?_)
    · replace h := it_t c3 h
      exact x_vret hC hQ (z_R (v := ()) hyr (Option.some.inj h)) (Nat.le_of_ble_eq_true rfl) (Nat.le_of_ble_eq_true rfl) dX4_requirePerson_21
    · replace h := it_f c3 h
      exact J_10 _ h
theorem dX4_topics_0 : decode cX4_topics 0 = .ok (.iload_n 1, 1) := by decide +kernel
theorem dX4_topics_1 : decode cX4_topics 1 = .ok (.invokestatic 73, 3) := by decide +kernel
theorem dX4_topics_4 : decode cX4_topics 4 = .ok (.iload_n 2, 1) := by decide +kernel
theorem dX4_topics_5 : decode cX4_topics 5 = .ok (.ifCond .lt 9, 3) := by decide +kernel
theorem dX4_topics_8 : decode cX4_topics 8 = .ok (.iload_n 2, 1) := by decide +kernel
theorem dX4_topics_9 : decode cX4_topics 9 = .ok (.bipush 15, 2) := by decide +kernel
theorem dX4_topics_11 : decode cX4_topics 11 = .ok (.if_icmp .le 13, 3) := by decide +kernel
theorem dX4_topics_14 : decode cX4_topics 14 = .ok (.new 45, 3) := by decide +kernel
theorem dX4_topics_17 : decode cX4_topics 17 = .ok (.dup, 1) := by decide +kernel
theorem dX4_topics_18 : decode cX4_topics 18 = .ok (.ldc 77, 2) := by decide +kernel
theorem dX4_topics_20 : decode cX4_topics 20 = .ok (.invokespecial 49, 3) := by decide +kernel
theorem dX4_topics_23 : decode cX4_topics 23 = .ok (.athrow, 1) := by decide +kernel
theorem dX4_topics_24 : decode cX4_topics 24 = .ok (.aload_n 0, 1) := by decide +kernel
theorem dX4_topics_25 : decode cX4_topics 25 = .ok (.getfield 19, 3) := by decide +kernel
theorem dX4_topics_28 : decode cX4_topics 28 = .ok (.aload_n 0, 1) := by decide +kernel
theorem dX4_topics_29 : decode cX4_topics 29 = .ok (.getfield 10, 3) := by decide +kernel
theorem dX4_topics_32 : decode cX4_topics 32 = .ok (.invokevirtual 63, 3) := by decide +kernel
theorem dX4_topics_35 : decode cX4_topics 35 = .ok (.aload_n 0, 1) := by decide +kernel
theorem dX4_topics_36 : decode cX4_topics 36 = .ok (.getfield 10, 3) := by decide +kernel
theorem dX4_topics_39 : decode cX4_topics 39 = .ok (.getfield 79, 3) := by decide +kernel
theorem dX4_topics_42 : decode cX4_topics 42 = .ok (.iload_n 1, 1) := by decide +kernel
theorem dX4_topics_43 : decode cX4_topics 43 = .ok (.iaload, 1) := by decide +kernel
theorem dX4_topics_44 : decode cX4_topics 44 = .ok (.istore_n 3, 1) := by decide +kernel
theorem dX4_topics_45 : decode cX4_topics 45 = .ok (.aload_n 0, 1) := by decide +kernel
theorem dX4_topics_46 : decode cX4_topics 46 = .ok (.getfield 10, 3) := by decide +kernel
theorem dX4_topics_49 : decode cX4_topics 49 = .ok (.getfield 79, 3) := by decide +kernel
theorem dX4_topics_52 : decode cX4_topics 52 = .ok (.iload_n 1, 1) := by decide +kernel
theorem dX4_topics_53 : decode cX4_topics 53 = .ok (.iload_n 2, 1) := by decide +kernel
theorem dX4_topics_54 : decode cX4_topics 54 = .ok (.iastore, 1) := by decide +kernel
theorem dX4_topics_55 : decode cX4_topics 55 = .ok (.iload_n 3, 1) := by decide +kernel
theorem dX4_topics_56 : decode cX4_topics 56 = .ok (.ireturn, 1) := by decide +kernel
set_option maxRecDepth 100000 in
set_option maxHeartbeats 4000000 in
theorem mt_X4_topics (r0 : Option Nat) (i1 : Int32) (i2 : Int32) (S0 : PH) (Q : (Nat ⊕ Int32) → PH → Prop) (h : w_X4_topics r0 i1 i2 S0 Q) : MT yX4_topics (.code yX4_topics cX4_topics 4 (Option.some FieldType.int)) 7 110 21 173 [va_rf r0, .int i1, .int i2] S0 (oQ e_I Q) := by
  refine mt_of (own := RX4) (l0 := [(0, va_rf r0), (1, .int i1), (2, .int i2)]) rfl rfl (by cases r0 <;> exact Nat.le_of_ble_eq_true rfl) (by cases r0 <;> rfl) ?_
  intro Z hC hQ hE hN
  have J_14 : ∀ (S6 : PH), wj_X4_topics_14 r0 i1 i2 Q S6 → PX Z 4 S6 0 0 14 [(0, va_rf r0), (1, .int i1), (2, .int i2)] [] := by
    intro S6 h
    unfold wj_X4_topics_14 at h
    exact x_throw hC hQ hE (j := 0) (z_Y h) tx_45_49_0 (List.mem_of_getElem? (i := 13) rfl) (Nat.le_of_ble_eq_true rfl) ⟨Nat.le_of_ble_eq_true rfl, Nat.le_of_ble_eq_true rfl⟩ ⟨Nat.le_of_ble_eq_true rfl, Nat.le_of_ble_eq_true rfl⟩ (Nat.le_of_ble_eq_true rfl) (Nat.le_of_ble_eq_true rfl) dX4_topics_14 dX4_topics_17 dX4_topics_18 dX4_topics_20 dX4_topics_23
  unfold w_X4_topics at h
  refine x_iload_n (i := 1) hC dX4_topics_0 rfl 1 rfl ?_
  replace h := wbt_el h
  obtain ⟨v1, S2, hb33, h⟩ | ⟨j3, S4, hb33, h⟩ := h
  · refine x_callS hC (st := []) (mtr_X4_requirePerson _ _ (v1, S2) hb33) q_313 q_314 q_1 q_315 hy_X4_requirePerson ⟨Nat.le_of_ble_eq_true rfl, Nat.le_of_ble_eq_true rfl⟩ ⟨Nat.le_of_ble_eq_true rfl, Nat.le_of_ble_eq_true rfl⟩ rfl (Nat.le_of_ble_eq_true rfl) dX4_topics_1 (r_N ?_) r_NX
    show PX Z 4 S2 0 0 4 [(0, va_rf r0), (1, .int i1), (2, .int i2)] []
    refine x_iload_n (i := 2) hC dX4_topics_4 rfl 2 rfl ?_
    refine x_if_lt (t := 14) hC dX4_topics_5 (by decide) (fun c5 => ?_) (fun c5 => ?_)
    · replace h := wit_t c5 h
      exact J_14 _ h
    · replace h := wit_f c5 h
      refine x_iload_n (i := 2) hC dX4_topics_8 rfl 2 rfl ?_
      refine x_bipush (v := (15 : Int32)) hC dX4_topics_9 (by decide) ?_
      refine x_icmp_le (t := 24) hC dX4_topics_11 (by decide) (fun c7 => ?_) (fun c7 => ?_)
      · replace h := wit_t c7 h
        refine x_aload_n (i := 0) hC dX4_topics_24 rfl 0 rfl ?_
        obtain ⟨a8, ea9, ha10, h⟩ := h
        refine x_getR hC ea9 ha10 kf_4 1 (by decide) rfl q_173 dX4_topics_25 ?_
        refine x_aload_n (i := 0) hC dX4_topics_28 rfl 0 rfl ?_
        refine x_getR hC ea9 ha10 kf_4 0 (by decide) rfl q_172 dX4_topics_29 ?_
        obtain ⟨a11, ea12, ha13, h⟩ := h
        refine x_callV hC (st := []) (mt_X0_save _ _ _ _ h) ea12 ha13 kf_0 q_280 q_281 q_282 q_4 q_283 ⟨rfl, hy_X0_save⟩ ⟨Nat.le_of_ble_eq_true rfl, Nat.le_of_ble_eq_true rfl⟩ ⟨Nat.le_of_ble_eq_true rfl, Nat.le_of_ble_eq_true rfl⟩ rfl (Nat.le_of_ble_eq_true rfl) dX4_topics_32 (r_W (fun v14 S15 h => ?_)) (r_Wx (fun _ _ h => (wq_l h).elim))
        replace h := wq_r h
        show PX Z 4 S15 21 173 35 [(0, va_rf r0), (1, .int i1), (2, .int i2)] []
        refine x_aload_n (i := 0) hC dX4_topics_35 rfl 0 rfl ?_
        obtain ⟨a18, ea19, ha20, h⟩ := h
        refine x_getR hC ea19 ha20 kf_4 0 (by decide) rfl q_172 dX4_topics_36 ?_
        obtain ⟨a21, ea22, ha23, h⟩ := h
        refine x_getR hC ea22 ha23 kf_2 0 (by decide) rfl q_37 dX4_topics_39 ?_
        refine x_iload_n (i := 1) hC dX4_topics_42 rfl 1 rfl ?_
        obtain ⟨a24, ea25, ha26, h⟩ := h
        obtain ⟨hc27, h⟩ := h
        refine x_iaload hC ea25 ha26 hc27 dX4_topics_43 ?_
        obtain ⟨x28, hx29, h⟩ := wle_el h
        refine x_tI hx29 ?_
        refine x_istore_n (i := 3) (l' := [(3, .int x28), (0, va_rf r0), (1, .int i1), (2, .int i2)]) hC dX4_topics_44 rfl (⟨fun _ => c_rf r0, ⟨fun _ => rfl, ⟨fun _ => rfl, trivial⟩⟩⟩) (by decide) rfl ?_
        refine x_aload_n (i := 0) hC dX4_topics_45 rfl 1 rfl ?_
        refine x_getR hC ea19 ha20 kf_4 0 (by decide) rfl q_172 dX4_topics_46 ?_
        refine x_getR hC ea22 ha23 kf_2 0 (by decide) rfl q_37 dX4_topics_49 ?_
        refine x_iload_n (i := 1) hC dX4_topics_52 rfl 2 rfl ?_
        refine x_iload_n (i := 2) hC dX4_topics_53 rfl 3 rfl ?_
        obtain ⟨hc30, h⟩ := h
        obtain ⟨S31, hx32, h⟩ := wle_el h
        refine x_iastore hC ea25 ha26 hc30 dX4_topics_54 ?_
        refine x_tS hx32 ?_
        refine x_iload_n (i := 3) hC dX4_topics_55 rfl 0 rfl ?_
        exact x_iret hC hQ (z_W h) (Nat.le_of_ble_eq_true rfl) (Nat.le_of_ble_eq_true rfl) dX4_topics_56
      · replace h := wit_f c7 h
        exact J_14 _ h
  · refine x_callS hC (st := []) (mt_X4_requirePerson _ _ _ hb33) q_313 q_314 q_1 q_315 hy_X4_requirePerson ⟨Nat.le_of_ble_eq_true rfl, Nat.le_of_ble_eq_true rfl⟩ ⟨Nat.le_of_ble_eq_true rfl, Nat.le_of_ble_eq_true rfl⟩ rfl (Nat.le_of_ble_eq_true rfl) dX4_topics_1 r_X (r_XX ?_)
    exact x_out hC hQ hE (z_Y h) (Nat.le_of_ble_eq_true rfl) (Nat.le_of_ble_eq_true rfl)
