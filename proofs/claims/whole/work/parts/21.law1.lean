def wc_law_1126 (xs : Nat → Int32) (L : Nat) (r1 r2 r3 r4 : Option Nat) (i5 : Int32) (S0 : PH) (K : Int32 → PH → Prop) : Prop := wck (ix (i5 + (1 : Int32)) L) <| w_L_goBack r1 (xs (Int32.toNatClampNeg (i5 + (1 : Int32)))) r3 S0 (wq (fun v2 S3 => wck (ix (i5 + (1 : Int32)) L) <| wdr S3 5 r2 fun a7 => wbd (m_X5_goBack r2 (xs (Int32.toNatClampNeg (i5 + (1 : Int32)))) S3) fun v10 S11 => wdr S11 5 r2 fun a13 => wbd (m_X5_thrown r2 S11) fun v16 S17 => if v16 = v2 then (if v2 = 0 then (wdr S17 10 r3 fun a21 => wck (ix (0 : Int32) (p_N S17 a21)) <| if (lg_cmp (p_J S17 a21 0) (Int32.toInt64 v10)) = 0 then (K (i5 + (4 : Int32)) S17) else ((0 : Int32) = (1 : Int32))) else (K (i5 + (4 : Int32)) S17)) else ((0 : Int32) = (1 : Int32))) (fun _ _ => False))
theorem dL_law_1126 : decode cL_law 1126 = .ok (.aload_n 1, 1) := by decide +kernel
theorem dL_law_1127 : decode cL_law 1127 = .ok (.aload_n 0, 1) := by decide +kernel
theorem dL_law_1128 : decode cL_law 1128 = .ok (.iload 5, 2) := by decide +kernel
theorem dL_law_1130 : decode cL_law 1130 = .ok (.iconst 1, 1) := by decide +kernel
theorem dL_law_1131 : decode cL_law 1131 = .ok (.iadd, 1) := by decide +kernel
theorem dL_law_1132 : decode cL_law 1132 = .ok (.iaload, 1) := by decide +kernel
theorem dL_law_1133 : decode cL_law 1133 = .ok (.aload_n 3, 1) := by decide +kernel
theorem dL_law_1134 : decode cL_law 1134 = .ok (.invokestatic 167, 3) := by decide +kernel
theorem dL_law_1137 : decode cL_law 1137 = .ok (.istore 6, 2) := by decide +kernel
theorem dL_law_1139 : decode cL_law 1139 = .ok (.aload_n 2, 1) := by decide +kernel
theorem dL_law_1140 : decode cL_law 1140 = .ok (.aload_n 0, 1) := by decide +kernel
theorem dL_law_1141 : decode cL_law 1141 = .ok (.iload 5, 2) := by decide +kernel
theorem dL_law_1143 : decode cL_law 1143 = .ok (.iconst 1, 1) := by decide +kernel
theorem dL_law_1144 : decode cL_law 1144 = .ok (.iadd, 1) := by decide +kernel
theorem dL_law_1145 : decode cL_law 1145 = .ok (.iaload, 1) := by decide +kernel
theorem dL_law_1146 : decode cL_law 1146 = .ok (.invokevirtual 169, 3) := by decide +kernel
theorem dL_law_1149 : decode cL_law 1149 = .ok (.istore 7, 2) := by decide +kernel
theorem dL_law_1151 : decode cL_law 1151 = .ok (.aload_n 2, 1) := by decide +kernel
theorem dL_law_1152 : decode cL_law 1152 = .ok (.invokevirtual 111, 3) := by decide +kernel
theorem dL_law_1155 : decode cL_law 1155 = .ok (.iload 6, 2) := by decide +kernel
theorem dL_law_1157 : decode cL_law 1157 = .ok (.if_icmp .eq 5, 3) := by decide +kernel
theorem dL_law_1162 : decode cL_law 1162 = .ok (.iload 6, 2) := by decide +kernel
theorem dL_law_1164 : decode cL_law 1164 = .ok (.ifCond .ne 15, 3) := by decide +kernel
theorem dL_law_1179 : decode cL_law 1179 = .ok (.goto 746, 3) := by decide +kernel
theorem dL_law_1167 : decode cL_law 1167 = .ok (.aload_n 3, 1) := by decide +kernel
theorem dL_law_1168 : decode cL_law 1168 = .ok (.iconst 0, 1) := by decide +kernel
theorem dL_law_1169 : decode cL_law 1169 = .ok (.laload, 1) := by decide +kernel
theorem dL_law_1170 : decode cL_law 1170 = .ok (.iload 7, 2) := by decide +kernel
theorem dL_law_1172 : decode cL_law 1172 = .ok (.i2l, 1) := by decide +kernel
theorem dL_law_1173 : decode cL_law 1173 = .ok (.lcmp, 1) := by decide +kernel
theorem dL_law_1174 : decode cL_law 1174 = .ok (.ifCond .eq 5, 3) := by decide +kernel
theorem dL_law_1177 : decode cL_law 1177 = .ok (.iconst 0, 1) := by decide +kernel
theorem dL_law_1178 : decode cL_law 1178 = .ok (.ireturn, 1) := by decide +kernel
theorem dL_law_1160 : decode cL_law 1160 = .ok (.iconst 0, 1) := by decide +kernel
theorem dL_law_1161 : decode cL_law 1161 = .ok (.ireturn, 1) := by decide +kernel
set_option maxRecDepth 100000 in
set_option maxHeartbeats 4000000 in
theorem wk_law_1126 {Z : ZT} {b L : Nat} {xs : Nat → Int32} (hC : CX Z cL_law RL 10 room_1) (hX : SX Z b L xs) (hEnd : EL Z) {k0 n0 : Nat} (hk : k0 + 40 ≤ 601024) (hn : n0 + 400 ≤ 7293034) (r1 r2 r3 r4 : Option Nat) (i5 : Int32) (S0 : PH) (K : Int32 → PH → Prop) (hK : ∀ i S, K i S → PX Z 10 S (k0 + 40) (n0 + 400) 28 [(0, va_rf (some b)), (1, va_rf r1), (2, va_rf r2), (3, va_rf r3), (4, va_rf r4), (5, .int i)] []) (h : wc_law_1126 xs L r1 r2 r3 r4 i5 S0 K) : PX Z 10 S0 k0 n0 1126 [(0, va_rf (some b)), (1, va_rf r1), (2, va_rf r2), (3, va_rf r3), (4, va_rf r4), (5, .int i5)] [] := by
  refine x_wid (k' := k0 + 0) (n' := n0 + 0) (Nat.le_refl _) (Nat.le_refl _) ?_
  unfold wc_law_1126 at h
  refine x_aload_n (i := 1) hC dL_law_1126 rfl 1 rfl ?_
  refine x_aload_n (i := 0) hC dL_law_1127 rfl 0 rfl ?_
  refine x_iload (i := 5) hC dL_law_1128 5 rfl ?_
  refine x_iconst (v := (1 : Int32)) hC dL_law_1130 (by decide) ?_
  refine x_iadd hC dL_law_1131 ?_
  obtain ⟨hc1, h⟩ := h
  refine x_sld hC hX hc1 dL_law_1132 ?_
  refine x_aload_n (i := 3) hC dL_law_1133 rfl 3 rfl ?_
  refine x_callSX hC (st := []) (mt_L_goBack _ _ _ _ _ h) q_754 q_755 q_0 q_756 hy_L_goBack ⟨Nat.le_of_ble_eq_true rfl, Nat.le_of_ble_eq_true rfl⟩ ⟨(show k0 + 0 + 22 ≤ 601024 from by omega), (show n0 + 0 + 179 ≤ 7293034 from by omega)⟩ rfl (Nat.le_of_ble_eq_true rfl) dL_law_1134 (r_W (fun v2 S3 h => ?_)) (r_Wx (fun _ _ h => (wq_l h).elim))
  replace h := wq_r h
  show PX Z 10 S3 (k0 + 22) (n0 + 179) 1137 [(0, va_rf (some b)), (1, va_rf r1), (2, va_rf r2), (3, va_rf r3), (4, va_rf r4), (5, .int i5)] [.int v2]
  refine x_istore (i := 6) (l' := [(6, .int v2), (0, va_rf (some b)), (1, va_rf r1), (2, va_rf r2), (3, va_rf r3), (4, va_rf r4), (5, .int i5)]) hC dL_law_1137 (⟨fun _ => c_rf (some b), ⟨fun _ => c_rf r1, ⟨fun _ => c_rf r2, ⟨fun _ => c_rf r3, ⟨fun _ => c_rf r4, ⟨fun _ => rfl, trivial⟩⟩⟩⟩⟩⟩) (by decide) rfl ?_
  refine x_aload_n (i := 2) hC dL_law_1139 rfl 3 rfl ?_
  refine x_aload_n (i := 0) hC dL_law_1140 rfl 1 rfl ?_
  refine x_iload (i := 5) hC dL_law_1141 6 rfl ?_
  refine x_iconst (v := (1 : Int32)) hC dL_law_1143 (by decide) ?_
  refine x_iadd hC dL_law_1144 ?_
  obtain ⟨hc6, h⟩ := h
  refine x_sld hC hX hc6 dL_law_1145 ?_
  obtain ⟨a7, ea8, ha9, h⟩ := h
  obtain ⟨v10, S11, hb12, h⟩ := h
  refine x_callV hC (st := []) (mt_X5_goBack _ _ _ _ hb12) ea8 ha9 kf_5 q_1115 q_1116 q_1117 q_7 q_1118 ⟨rfl, hy_X5_goBack⟩ ⟨Nat.le_of_ble_eq_true rfl, Nat.le_of_ble_eq_true rfl⟩ ⟨(show k0 + 22 + 0 ≤ 601024 from by omega), (show n0 + 179 + 0 ≤ 7293034 from by omega)⟩ rfl (Nat.le_of_ble_eq_true rfl) dL_law_1146 (r_N ?_) r_NX
  show PX Z 10 S11 (k0 + 22) (n0 + 179) 1149 [(6, .int v2), (0, va_rf (some b)), (1, va_rf r1), (2, va_rf r2), (3, va_rf r3), (4, va_rf r4), (5, .int i5)] [.int v10]
  refine x_istore (i := 7) (l' := [(7, .int v10), (6, .int v2), (0, va_rf (some b)), (1, va_rf r1), (2, va_rf r2), (3, va_rf r3), (4, va_rf r4), (5, .int i5)]) hC dL_law_1149 (⟨fun _ => rfl, ⟨fun _ => c_rf (some b), ⟨fun _ => c_rf r1, ⟨fun _ => c_rf r2, ⟨fun _ => c_rf r3, ⟨fun _ => c_rf r4, ⟨fun _ => rfl, trivial⟩⟩⟩⟩⟩⟩⟩) (by decide) rfl ?_
  refine x_aload_n (i := 2) hC dL_law_1151 rfl 4 rfl ?_
  obtain ⟨a13, ea14, ha15, h⟩ := h
  obtain ⟨v16, S17, hb18, h⟩ := h
  refine x_callV hC (st := []) (mt_X5_thrown _ _ _ hb18) ea14 ha15 kf_5 q_904 q_905 q_906 q_7 q_907 ⟨rfl, hy_X5_thrown⟩ ⟨Nat.le_of_ble_eq_true rfl, Nat.le_of_ble_eq_true rfl⟩ ⟨(show k0 + 22 + 0 ≤ 601024 from by omega), (show n0 + 179 + 0 ≤ 7293034 from by omega)⟩ rfl (Nat.le_of_ble_eq_true rfl) dL_law_1152 (r_N ?_) r_NX
  show PX Z 10 S17 (k0 + 22) (n0 + 179) 1155 [(7, .int v10), (6, .int v2), (0, va_rf (some b)), (1, va_rf r1), (2, va_rf r2), (3, va_rf r3), (4, va_rf r4), (5, .int i5)] [.int v16]
  refine x_iload (i := 6) hC dL_law_1155 1 rfl ?_
  refine x_icmp_eq (t := 1162) hC dL_law_1157 (by decide) (fun c19 => ?_) (fun c19 => ?_)
  · replace h := wit_t c19 h
    refine x_iload (i := 6) hC dL_law_1162 1 rfl ?_
    refine x_if_ne (t := 1179) hC dL_law_1164 (by decide) (fun c20 => ?_) (fun c20 => ?_)
    · replace h := wit_f c20 h
      refine x_goto (t := 1925) hC dL_law_1179 (by decide) ?_
      refine x_iinc (i := 5) (v := (i5 + (4 : Int32))) (l' := [(5, .int (i5 + (4 : Int32))), (7, .int v10), (6, .int v2), (0, va_rf (some b)), (1, va_rf r1), (2, va_rf r2), (3, va_rf r3), (4, va_rf r4)]) hC dL_law_1925 7 rfl rfl (⟨fun _ => rfl, ⟨fun _ => rfl, ⟨fun _ => c_rf (some b), ⟨fun _ => c_rf r1, ⟨fun _ => c_rf r2, ⟨fun _ => c_rf r3, ⟨fun _ => c_rf r4, ⟨fun _ => rfl, trivial⟩⟩⟩⟩⟩⟩⟩⟩) (by decide) rfl ?_
      refine x_goto (t := 28) hC dL_law_1928 (by decide) ?_
      refine x_sub (l' := [(0, va_rf (some b)), (1, va_rf r1), (2, va_rf r2), (3, va_rf r3), (4, va_rf r4), (5, .int (i5 + (4 : Int32)))]) [3, 4, 5, 6, 7, 0] rfl ?_
      refine x_wid (k' := k0 + 40) (n' := n0 + 400) (by omega) (by omega) ?_
      exact hK _ _ h
    · replace h := wit_t c20 h
      refine x_aload_n (i := 3) hC dL_law_1167 rfl 5 rfl ?_
      refine x_iconst (v := (0 : Int32)) hC dL_law_1168 (by decide) ?_
      obtain ⟨a21, ea22, ha23, h⟩ := h
      obtain ⟨hc24, h⟩ := h
      refine x_laload hC ea22 ha23 hc24 dL_law_1169 ?_
      refine x_tJ (b := (p_J S17 a21 0)) rfl ?_
      refine x_iload (i := 7) hC dL_law_1170 0 rfl ?_
      refine x_i2l hC dL_law_1172 ?_
      refine x_lcmp hC dL_law_1173 ?_
      refine x_if_eq (t := 1179) hC dL_law_1174 (by decide) (fun c25 => ?_) (fun c25 => ?_)
      · replace h := wit_t c25 h
        refine x_goto (t := 1925) hC dL_law_1179 (by decide) ?_
        refine x_iinc (i := 5) (v := (i5 + (4 : Int32))) (l' := [(5, .int (i5 + (4 : Int32))), (7, .int v10), (6, .int v2), (0, va_rf (some b)), (1, va_rf r1), (2, va_rf r2), (3, va_rf r3), (4, va_rf r4)]) hC dL_law_1925 7 rfl rfl (⟨fun _ => rfl, ⟨fun _ => rfl, ⟨fun _ => c_rf (some b), ⟨fun _ => c_rf r1, ⟨fun _ => c_rf r2, ⟨fun _ => c_rf r3, ⟨fun _ => c_rf r4, ⟨fun _ => rfl, trivial⟩⟩⟩⟩⟩⟩⟩⟩) (by decide) rfl ?_
        refine x_goto (t := 28) hC dL_law_1928 (by decide) ?_
        refine x_sub (l' := [(0, va_rf (some b)), (1, va_rf r1), (2, va_rf r2), (3, va_rf r3), (4, va_rf r4), (5, .int (i5 + (4 : Int32)))]) [3, 4, 5, 6, 7, 0] rfl ?_
        refine x_wid (k' := k0 + 40) (n' := n0 + 400) (by omega) (by omega) ?_
        exact hK _ _ h
      · replace h := wit_f c25 h
        refine x_iconst (v := (0 : Int32)) hC dL_law_1177 (by decide) ?_
        refine x_tI (show (0 : Int32) = (1 : Int32) from h) ?_
        exact hEnd _ _ _ _ _ (by omega) (by omega) dL_law_1178
  · replace h := wit_f c19 h
    refine x_iconst (v := (0 : Int32)) hC dL_law_1160 (by decide) ?_
    refine x_tI (show (0 : Int32) = (1 : Int32) from h) ?_
    exact hEnd _ _ _ _ _ (by omega) (by omega) dL_law_1161
def wc_law_1182 (xs : Nat → Int32) (L : Nat) (r1 r2 r3 r4 : Option Nat) (i5 : Int32) (S0 : PH) (K : Int32 → PH → Prop) : Prop := wbd (m_L_undo r1 r3 S0) fun v1 S2 => wdr S2 5 r2 fun a4 => wbd (m_X5_undo r2 S2) fun v7 S8 => wdr S8 5 r2 fun a10 => wbd (m_X5_thrown r2 S8) fun v13 S14 => if v13 = v1 then (if v1 = 0 then (wdr S14 10 r3 fun a18 => wck (ix (0 : Int32) (p_N S14 a18)) <| if (lg_cmp (p_J S14 a18 0) (Int32.toInt64 v7)) = 0 then (K (i5 + (4 : Int32)) S14) else ((0 : Int32) = (1 : Int32))) else (K (i5 + (4 : Int32)) S14)) else ((0 : Int32) = (1 : Int32))
theorem dL_law_1182 : decode cL_law 1182 = .ok (.aload_n 1, 1) := by decide +kernel
theorem dL_law_1183 : decode cL_law 1183 = .ok (.aload_n 3, 1) := by decide +kernel
theorem dL_law_1184 : decode cL_law 1184 = .ok (.invokestatic 170, 3) := by decide +kernel
theorem dL_law_1187 : decode cL_law 1187 = .ok (.istore 6, 2) := by decide +kernel
theorem dL_law_1189 : decode cL_law 1189 = .ok (.aload_n 2, 1) := by decide +kernel
theorem dL_law_1190 : decode cL_law 1190 = .ok (.invokevirtual 172, 3) := by decide +kernel
theorem dL_law_1193 : decode cL_law 1193 = .ok (.istore 7, 2) := by decide +kernel
theorem dL_law_1195 : decode cL_law 1195 = .ok (.aload_n 2, 1) := by decide +kernel
theorem dL_law_1196 : decode cL_law 1196 = .ok (.invokevirtual 111, 3) := by decide +kernel
theorem dL_law_1199 : decode cL_law 1199 = .ok (.iload 6, 2) := by decide +kernel
theorem dL_law_1201 : decode cL_law 1201 = .ok (.if_icmp .eq 5, 3) := by decide +kernel
theorem dL_law_1206 : decode cL_law 1206 = .ok (.iload 6, 2) := by decide +kernel
theorem dL_law_1208 : decode cL_law 1208 = .ok (.ifCond .ne 15, 3) := by decide +kernel
theorem dL_law_1223 : decode cL_law 1223 = .ok (.goto 702, 3) := by decide +kernel
theorem dL_law_1211 : decode cL_law 1211 = .ok (.aload_n 3, 1) := by decide +kernel
theorem dL_law_1212 : decode cL_law 1212 = .ok (.iconst 0, 1) := by decide +kernel
theorem dL_law_1213 : decode cL_law 1213 = .ok (.laload, 1) := by decide +kernel
theorem dL_law_1214 : decode cL_law 1214 = .ok (.iload 7, 2) := by decide +kernel
theorem dL_law_1216 : decode cL_law 1216 = .ok (.i2l, 1) := by decide +kernel
theorem dL_law_1217 : decode cL_law 1217 = .ok (.lcmp, 1) := by decide +kernel
theorem dL_law_1218 : decode cL_law 1218 = .ok (.ifCond .eq 5, 3) := by decide +kernel
theorem dL_law_1221 : decode cL_law 1221 = .ok (.iconst 0, 1) := by decide +kernel
theorem dL_law_1222 : decode cL_law 1222 = .ok (.ireturn, 1) := by decide +kernel
theorem dL_law_1204 : decode cL_law 1204 = .ok (.iconst 0, 1) := by decide +kernel
theorem dL_law_1205 : decode cL_law 1205 = .ok (.ireturn, 1) := by decide +kernel
set_option maxRecDepth 100000 in
set_option maxHeartbeats 4000000 in
theorem wk_law_1182 {Z : ZT} {b L : Nat} {xs : Nat → Int32} (hC : CX Z cL_law RL 10 room_1) (hX : SX Z b L xs) (hEnd : EL Z) {k0 n0 : Nat} (hk : k0 + 40 ≤ 601024) (hn : n0 + 400 ≤ 7293034) (r1 r2 r3 r4 : Option Nat) (i5 : Int32) (S0 : PH) (K : Int32 → PH → Prop) (hK : ∀ i S, K i S → PX Z 10 S (k0 + 40) (n0 + 400) 28 [(0, va_rf (some b)), (1, va_rf r1), (2, va_rf r2), (3, va_rf r3), (4, va_rf r4), (5, .int i)] []) (h : wc_law_1182 xs L r1 r2 r3 r4 i5 S0 K) : PX Z 10 S0 k0 n0 1182 [(0, va_rf (some b)), (1, va_rf r1), (2, va_rf r2), (3, va_rf r3), (4, va_rf r4), (5, .int i5)] [] := by
  refine x_wid (k' := k0 + 0) (n' := n0 + 0) (Nat.le_refl _) (Nat.le_refl _) ?_
  unfold wc_law_1182 at h
  refine x_aload_n (i := 1) hC dL_law_1182 rfl 1 rfl ?_
  refine x_aload_n (i := 3) hC dL_law_1183 rfl 3 rfl ?_
  obtain ⟨v1, S2, hb3, h⟩ := h
  refine x_callSX hC (st := []) (mt_L_undo _ _ _ _ hb3) q_762 q_763 q_0 q_764 hy_L_undo ⟨Nat.le_of_ble_eq_true rfl, Nat.le_of_ble_eq_true rfl⟩ ⟨(show k0 + 0 + 1 ≤ 601024 from by omega), (show n0 + 0 + 6 ≤ 7293034 from by omega)⟩ rfl (Nat.le_of_ble_eq_true rfl) dL_law_1184 (r_N ?_) r_NX
  show PX Z 10 S2 (k0 + 1) (n0 + 6) 1187 [(0, va_rf (some b)), (1, va_rf r1), (2, va_rf r2), (3, va_rf r3), (4, va_rf r4), (5, .int i5)] [.int v1]
  refine x_istore (i := 6) (l' := [(6, .int v1), (0, va_rf (some b)), (1, va_rf r1), (2, va_rf r2), (3, va_rf r3), (4, va_rf r4), (5, .int i5)]) hC dL_law_1187 (⟨fun _ => c_rf (some b), ⟨fun _ => c_rf r1, ⟨fun _ => c_rf r2, ⟨fun _ => c_rf r3, ⟨fun _ => c_rf r4, ⟨fun _ => rfl, trivial⟩⟩⟩⟩⟩⟩) (by decide) rfl ?_
  refine x_aload_n (i := 2) hC dL_law_1189 rfl 3 rfl ?_
  obtain ⟨a4, ea5, ha6, h⟩ := h
  obtain ⟨v7, S8, hb9, h⟩ := h
  refine x_callV hC (st := []) (mt_X5_undo _ _ _ hb9) ea5 ha6 kf_5 q_1119 q_1120 q_1121 q_7 q_1122 ⟨rfl, hy_X5_undo⟩ ⟨Nat.le_of_ble_eq_true rfl, Nat.le_of_ble_eq_true rfl⟩ ⟨(show k0 + 1 + 0 ≤ 601024 from by omega), (show n0 + 6 + 0 ≤ 7293034 from by omega)⟩ rfl (Nat.le_of_ble_eq_true rfl) dL_law_1190 (r_N ?_) r_NX
  show PX Z 10 S8 (k0 + 1) (n0 + 6) 1193 [(6, .int v1), (0, va_rf (some b)), (1, va_rf r1), (2, va_rf r2), (3, va_rf r3), (4, va_rf r4), (5, .int i5)] [.int v7]
  refine x_istore (i := 7) (l' := [(7, .int v7), (6, .int v1), (0, va_rf (some b)), (1, va_rf r1), (2, va_rf r2), (3, va_rf r3), (4, va_rf r4), (5, .int i5)]) hC dL_law_1193 (⟨fun _ => rfl, ⟨fun _ => c_rf (some b), ⟨fun _ => c_rf r1, ⟨fun _ => c_rf r2, ⟨fun _ => c_rf r3, ⟨fun _ => c_rf r4, ⟨fun _ => rfl, trivial⟩⟩⟩⟩⟩⟩⟩) (by decide) rfl ?_
  refine x_aload_n (i := 2) hC dL_law_1195 rfl 4 rfl ?_
  obtain ⟨a10, ea11, ha12, h⟩ := h
  obtain ⟨v13, S14, hb15, h⟩ := h
  refine x_callV hC (st := []) (mt_X5_thrown _ _ _ hb15) ea11 ha12 kf_5 q_904 q_905 q_906 q_7 q_907 ⟨rfl, hy_X5_thrown⟩ ⟨Nat.le_of_ble_eq_true rfl, Nat.le_of_ble_eq_true rfl⟩ ⟨(show k0 + 1 + 0 ≤ 601024 from by omega), (show n0 + 6 + 0 ≤ 7293034 from by omega)⟩ rfl (Nat.le_of_ble_eq_true rfl) dL_law_1196 (r_N ?_) r_NX
  show PX Z 10 S14 (k0 + 1) (n0 + 6) 1199 [(7, .int v7), (6, .int v1), (0, va_rf (some b)), (1, va_rf r1), (2, va_rf r2), (3, va_rf r3), (4, va_rf r4), (5, .int i5)] [.int v13]
  refine x_iload (i := 6) hC dL_law_1199 1 rfl ?_
  refine x_icmp_eq (t := 1206) hC dL_law_1201 (by decide) (fun c16 => ?_) (fun c16 => ?_)
  · replace h := wit_t c16 h
    refine x_iload (i := 6) hC dL_law_1206 1 rfl ?_
    refine x_if_ne (t := 1223) hC dL_law_1208 (by decide) (fun c17 => ?_) (fun c17 => ?_)
    · replace h := wit_f c17 h
      refine x_goto (t := 1925) hC dL_law_1223 (by decide) ?_
      refine x_iinc (i := 5) (v := (i5 + (4 : Int32))) (l' := [(5, .int (i5 + (4 : Int32))), (7, .int v7), (6, .int v1), (0, va_rf (some b)), (1, va_rf r1), (2, va_rf r2), (3, va_rf r3), (4, va_rf r4)]) hC dL_law_1925 7 rfl rfl (⟨fun _ => rfl, ⟨fun _ => rfl, ⟨fun _ => c_rf (some b), ⟨fun _ => c_rf r1, ⟨fun _ => c_rf r2, ⟨fun _ => c_rf r3, ⟨fun _ => c_rf r4, ⟨fun _ => rfl, trivial⟩⟩⟩⟩⟩⟩⟩⟩) (by decide) rfl ?_
      refine x_goto (t := 28) hC dL_law_1928 (by decide) ?_
      refine x_sub (l' := [(0, va_rf (some b)), (1, va_rf r1), (2, va_rf r2), (3, va_rf r3), (4, va_rf r4), (5, .int (i5 + (4 : Int32)))]) [3, 4, 5, 6, 7, 0] rfl ?_
      refine x_wid (k' := k0 + 40) (n' := n0 + 400) (by omega) (by omega) ?_
      exact hK _ _ h
    · replace h := wit_t c17 h
      refine x_aload_n (i := 3) hC dL_law_1211 rfl 5 rfl ?_
      refine x_iconst (v := (0 : Int32)) hC dL_law_1212 (by decide) ?_
      obtain ⟨a18, ea19, ha20, h⟩ := h
      obtain ⟨hc21, h⟩ := h
      refine x_laload hC ea19 ha20 hc21 dL_law_1213 ?_
      refine x_tJ (b := (p_J S14 a18 0)) rfl ?_
      refine x_iload (i := 7) hC dL_law_1214 0 rfl ?_
      refine x_i2l hC dL_law_1216 ?_
      refine x_lcmp hC dL_law_1217 ?_
      refine x_if_eq (t := 1223) hC dL_law_1218 (by decide) (fun c22 => ?_) (fun c22 => ?_)
      · replace h := wit_t c22 h
        refine x_goto (t := 1925) hC dL_law_1223 (by decide) ?_
        refine x_iinc (i := 5) (v := (i5 + (4 : Int32))) (l' := [(5, .int (i5 + (4 : Int32))), (7, .int v7), (6, .int v1), (0, va_rf (some b)), (1, va_rf r1), (2, va_rf r2), (3, va_rf r3), (4, va_rf r4)]) hC dL_law_1925 7 rfl rfl (⟨fun _ => rfl, ⟨fun _ => rfl, ⟨fun _ => c_rf (some b), ⟨fun _ => c_rf r1, ⟨fun _ => c_rf r2, ⟨fun _ => c_rf r3, ⟨fun _ => c_rf r4, ⟨fun _ => rfl, trivial⟩⟩⟩⟩⟩⟩⟩⟩) (by decide) rfl ?_
        refine x_goto (t := 28) hC dL_law_1928 (by decide) ?_
        refine x_sub (l' := [(0, va_rf (some b)), (1, va_rf r1), (2, va_rf r2), (3, va_rf r3), (4, va_rf r4), (5, .int (i5 + (4 : Int32)))]) [3, 4, 5, 6, 7, 0] rfl ?_
        refine x_wid (k' := k0 + 40) (n' := n0 + 400) (by omega) (by omega) ?_
        exact hK _ _ h
      · replace h := wit_f c22 h
        refine x_iconst (v := (0 : Int32)) hC dL_law_1221 (by decide) ?_
        refine x_tI (show (0 : Int32) = (1 : Int32) from h) ?_
        exact hEnd _ _ _ _ _ (by omega) (by omega) dL_law_1222
  · replace h := wit_f c16 h
    refine x_iconst (v := (0 : Int32)) hC dL_law_1204 (by decide) ?_
    refine x_tI (show (0 : Int32) = (1 : Int32) from h) ?_
    exact hEnd _ _ _ _ _ (by omega) (by omega) dL_law_1205
def wc_law_1226 (xs : Nat → Int32) (L : Nat) (r1 r2 r3 r4 : Option Nat) (i5 : Int32) (S0 : PH) (K : Int32 → PH → Prop) : Prop := wck (ix (i5 + (1 : Int32)) L) <| wck (ix (i5 + (2 : Int32)) L) <| wbd (m_L_personOf r1 (xs (Int32.toNatClampNeg (i5 + (1 : Int32)))) (xs (Int32.toNatClampNeg (i5 + (2 : Int32)))) r3 S0) fun v3 S4 => wck (ix (i5 + (1 : Int32)) L) <| wck (ix (i5 + (2 : Int32)) L) <| wdr S4 5 r2 fun a8 => wbd (m_X5_personOf r2 (xs (Int32.toNatClampNeg (i5 + (1 : Int32)))) (xs (Int32.toNatClampNeg (i5 + (2 : Int32)))) S4) fun v11 S12 => wdr S12 5 r2 fun a14 => wbd (m_X5_thrown r2 S12) fun v17 S18 => if v17 = v3 then (if v3 = 0 then (wdr S18 10 r3 fun a22 => wck (ix (0 : Int32) (p_N S18 a22)) <| if (lg_cmp (p_J S18 a22 0) (Int32.toInt64 v11)) = 0 then (K (i5 + (4 : Int32)) S18) else ((0 : Int32) = (1 : Int32))) else (K (i5 + (4 : Int32)) S18)) else ((0 : Int32) = (1 : Int32))
theorem dL_law_1226 : decode cL_law 1226 = .ok (.aload_n 1, 1) := by decide +kernel
theorem dL_law_1227 : decode cL_law 1227 = .ok (.aload_n 0, 1) := by decide +kernel
theorem dL_law_1228 : decode cL_law 1228 = .ok (.iload 5, 2) := by decide +kernel
theorem dL_law_1230 : decode cL_law 1230 = .ok (.iconst 1, 1) := by decide +kernel
theorem dL_law_1231 : decode cL_law 1231 = .ok (.iadd, 1) := by decide +kernel
theorem dL_law_1232 : decode cL_law 1232 = .ok (.iaload, 1) := by decide +kernel
theorem dL_law_1233 : decode cL_law 1233 = .ok (.aload_n 0, 1) := by decide +kernel
theorem dL_law_1234 : decode cL_law 1234 = .ok (.iload 5, 2) := by decide +kernel
theorem dL_law_1236 : decode cL_law 1236 = .ok (.iconst 2, 1) := by decide +kernel
theorem dL_law_1237 : decode cL_law 1237 = .ok (.iadd, 1) := by decide +kernel
theorem dL_law_1238 : decode cL_law 1238 = .ok (.iaload, 1) := by decide +kernel
theorem dL_law_1239 : decode cL_law 1239 = .ok (.aload_n 3, 1) := by decide +kernel
theorem dL_law_1240 : decode cL_law 1240 = .ok (.invokestatic 173, 3) := by decide +kernel
theorem dL_law_1243 : decode cL_law 1243 = .ok (.istore 6, 2) := by decide +kernel
theorem dL_law_1245 : decode cL_law 1245 = .ok (.aload_n 2, 1) := by decide +kernel
theorem dL_law_1246 : decode cL_law 1246 = .ok (.aload_n 0, 1) := by decide +kernel
theorem dL_law_1247 : decode cL_law 1247 = .ok (.iload 5, 2) := by decide +kernel
theorem dL_law_1249 : decode cL_law 1249 = .ok (.iconst 1, 1) := by decide +kernel
theorem dL_law_1250 : decode cL_law 1250 = .ok (.iadd, 1) := by decide +kernel
theorem dL_law_1251 : decode cL_law 1251 = .ok (.iaload, 1) := by decide +kernel
theorem dL_law_1252 : decode cL_law 1252 = .ok (.aload_n 0, 1) := by decide +kernel
theorem dL_law_1253 : decode cL_law 1253 = .ok (.iload 5, 2) := by decide +kernel
theorem dL_law_1255 : decode cL_law 1255 = .ok (.iconst 2, 1) := by decide +kernel
theorem dL_law_1256 : decode cL_law 1256 = .ok (.iadd, 1) := by decide +kernel
theorem dL_law_1257 : decode cL_law 1257 = .ok (.iaload, 1) := by decide +kernel
theorem dL_law_1258 : decode cL_law 1258 = .ok (.invokevirtual 175, 3) := by decide +kernel
theorem dL_law_1261 : decode cL_law 1261 = .ok (.istore 7, 2) := by decide +kernel
theorem dL_law_1263 : decode cL_law 1263 = .ok (.aload_n 2, 1) := by decide +kernel
theorem dL_law_1264 : decode cL_law 1264 = .ok (.invokevirtual 111, 3) := by decide +kernel
theorem dL_law_1267 : decode cL_law 1267 = .ok (.iload 6, 2) := by decide +kernel
theorem dL_law_1269 : decode cL_law 1269 = .ok (.if_icmp .eq 5, 3) := by decide +kernel
theorem dL_law_1274 : decode cL_law 1274 = .ok (.iload 6, 2) := by decide +kernel
theorem dL_law_1276 : decode cL_law 1276 = .ok (.ifCond .ne 15, 3) := by decide +kernel
theorem dL_law_1291 : decode cL_law 1291 = .ok (.goto 634, 3) := by decide +kernel
theorem dL_law_1279 : decode cL_law 1279 = .ok (.aload_n 3, 1) := by decide +kernel
theorem dL_law_1280 : decode cL_law 1280 = .ok (.iconst 0, 1) := by decide +kernel
theorem dL_law_1281 : decode cL_law 1281 = .ok (.laload, 1) := by decide +kernel
theorem dL_law_1282 : decode cL_law 1282 = .ok (.iload 7, 2) := by decide +kernel
theorem dL_law_1284 : decode cL_law 1284 = .ok (.i2l, 1) := by decide +kernel
theorem dL_law_1285 : decode cL_law 1285 = .ok (.lcmp, 1) := by decide +kernel
theorem dL_law_1286 : decode cL_law 1286 = .ok (.ifCond .eq 5, 3) := by decide +kernel
theorem dL_law_1289 : decode cL_law 1289 = .ok (.iconst 0, 1) := by decide +kernel
theorem dL_law_1290 : decode cL_law 1290 = .ok (.ireturn, 1) := by decide +kernel
theorem dL_law_1272 : decode cL_law 1272 = .ok (.iconst 0, 1) := by decide +kernel
theorem dL_law_1273 : decode cL_law 1273 = .ok (.ireturn, 1) := by decide +kernel
set_option maxRecDepth 100000 in
set_option maxHeartbeats 4000000 in
theorem wk_law_1226 {Z : ZT} {b L : Nat} {xs : Nat → Int32} (hC : CX Z cL_law RL 10 room_1) (hX : SX Z b L xs) (hEnd : EL Z) {k0 n0 : Nat} (hk : k0 + 40 ≤ 601024) (hn : n0 + 400 ≤ 7293034) (r1 r2 r3 r4 : Option Nat) (i5 : Int32) (S0 : PH) (K : Int32 → PH → Prop) (hK : ∀ i S, K i S → PX Z 10 S (k0 + 40) (n0 + 400) 28 [(0, va_rf (some b)), (1, va_rf r1), (2, va_rf r2), (3, va_rf r3), (4, va_rf r4), (5, .int i)] []) (h : wc_law_1226 xs L r1 r2 r3 r4 i5 S0 K) : PX Z 10 S0 k0 n0 1226 [(0, va_rf (some b)), (1, va_rf r1), (2, va_rf r2), (3, va_rf r3), (4, va_rf r4), (5, .int i5)] [] := by
  refine x_wid (k' := k0 + 0) (n' := n0 + 0) (Nat.le_refl _) (Nat.le_refl _) ?_
  unfold wc_law_1226 at h
  refine x_aload_n (i := 1) hC dL_law_1226 rfl 1 rfl ?_
  refine x_aload_n (i := 0) hC dL_law_1227 rfl 0 rfl ?_
  refine x_iload (i := 5) hC dL_law_1228 5 rfl ?_
  refine x_iconst (v := (1 : Int32)) hC dL_law_1230 (by decide) ?_
  refine x_iadd hC dL_law_1231 ?_
  obtain ⟨hc1, h⟩ := h
  refine x_sld hC hX hc1 dL_law_1232 ?_
  refine x_aload_n (i := 0) hC dL_law_1233 rfl 0 rfl ?_
  refine x_iload (i := 5) hC dL_law_1234 5 rfl ?_
  refine x_iconst (v := (2 : Int32)) hC dL_law_1236 (by decide) ?_
  refine x_iadd hC dL_law_1237 ?_
  obtain ⟨hc2, h⟩ := h
  refine x_sld hC hX hc2 dL_law_1238 ?_
  refine x_aload_n (i := 3) hC dL_law_1239 rfl 3 rfl ?_
  obtain ⟨v3, S4, hb5, h⟩ := h
  refine x_callSX hC (st := []) (mt_L_personOf _ _ _ _ _ _ hb5) q_783 q_784 q_0 q_785 hy_L_personOf ⟨Nat.le_of_ble_eq_true rfl, Nat.le_of_ble_eq_true rfl⟩ ⟨(show k0 + 0 + 2 ≤ 601024 from by omega), (show n0 + 0 + 12 ≤ 7293034 from by omega)⟩ rfl (Nat.le_of_ble_eq_true rfl) dL_law_1240 (r_N ?_) r_NX
  show PX Z 10 S4 (k0 + 2) (n0 + 12) 1243 [(0, va_rf (some b)), (1, va_rf r1), (2, va_rf r2), (3, va_rf r3), (4, va_rf r4), (5, .int i5)] [.int v3]
  refine x_istore (i := 6) (l' := [(6, .int v3), (0, va_rf (some b)), (1, va_rf r1), (2, va_rf r2), (3, va_rf r3), (4, va_rf r4), (5, .int i5)]) hC dL_law_1243 (⟨fun _ => c_rf (some b), ⟨fun _ => c_rf r1, ⟨fun _ => c_rf r2, ⟨fun _ => c_rf r3, ⟨fun _ => c_rf r4, ⟨fun _ => rfl, trivial⟩⟩⟩⟩⟩⟩) (by decide) rfl ?_
  refine x_aload_n (i := 2) hC dL_law_1245 rfl 3 rfl ?_
  refine x_aload_n (i := 0) hC dL_law_1246 rfl 1 rfl ?_
  refine x_iload (i := 5) hC dL_law_1247 6 rfl ?_
  refine x_iconst (v := (1 : Int32)) hC dL_law_1249 (by decide) ?_
  refine x_iadd hC dL_law_1250 ?_
  obtain ⟨hc6, h⟩ := h
  refine x_sld hC hX hc6 dL_law_1251 ?_
  refine x_aload_n (i := 0) hC dL_law_1252 rfl 1 rfl ?_
  refine x_iload (i := 5) hC dL_law_1253 6 rfl ?_
  refine x_iconst (v := (2 : Int32)) hC dL_law_1255 (by decide) ?_
  refine x_iadd hC dL_law_1256 ?_
  obtain ⟨hc7, h⟩ := h
  refine x_sld hC hX hc7 dL_law_1257 ?_
  obtain ⟨a8, ea9, ha10, h⟩ := h
  obtain ⟨v11, S12, hb13, h⟩ := h
  refine x_callV hC (st := []) (mt_X5_personOf _ _ _ _ _ hb13) ea9 ha10 kf_5 q_1123 q_1124 q_1125 q_7 q_1126 ⟨rfl, hy_X5_personOf⟩ ⟨Nat.le_of_ble_eq_true rfl, Nat.le_of_ble_eq_true rfl⟩ ⟨(show k0 + 2 + 0 ≤ 601024 from by omega), (show n0 + 12 + 0 ≤ 7293034 from by omega)⟩ rfl (Nat.le_of_ble_eq_true rfl) dL_law_1258 (r_N ?_) r_NX
  show PX Z 10 S12 (k0 + 2) (n0 + 12) 1261 [(6, .int v3), (0, va_rf (some b)), (1, va_rf r1), (2, va_rf r2), (3, va_rf r3), (4, va_rf r4), (5, .int i5)] [.int v11]
  refine x_istore (i := 7) (l' := [(7, .int v11), (6, .int v3), (0, va_rf (some b)), (1, va_rf r1), (2, va_rf r2), (3, va_rf r3), (4, va_rf r4), (5, .int i5)]) hC dL_law_1261 (⟨fun _ => rfl, ⟨fun _ => c_rf (some b), ⟨fun _ => c_rf r1, ⟨fun _ => c_rf r2, ⟨fun _ => c_rf r3, ⟨fun _ => c_rf r4, ⟨fun _ => rfl, trivial⟩⟩⟩⟩⟩⟩⟩) (by decide) rfl ?_
  refine x_aload_n (i := 2) hC dL_law_1263 rfl 4 rfl ?_
  obtain ⟨a14, ea15, ha16, h⟩ := h
  obtain ⟨v17, S18, hb19, h⟩ := h
  refine x_callV hC (st := []) (mt_X5_thrown _ _ _ hb19) ea15 ha16 kf_5 q_904 q_905 q_906 q_7 q_907 ⟨rfl, hy_X5_thrown⟩ ⟨Nat.le_of_ble_eq_true rfl, Nat.le_of_ble_eq_true rfl⟩ ⟨(show k0 + 2 + 0 ≤ 601024 from by omega), (show n0 + 12 + 0 ≤ 7293034 from by omega)⟩ rfl (Nat.le_of_ble_eq_true rfl) dL_law_1264 (r_N ?_) r_NX
  show PX Z 10 S18 (k0 + 2) (n0 + 12) 1267 [(7, .int v11), (6, .int v3), (0, va_rf (some b)), (1, va_rf r1), (2, va_rf r2), (3, va_rf r3), (4, va_rf r4), (5, .int i5)] [.int v17]
  refine x_iload (i := 6) hC dL_law_1267 1 rfl ?_
  refine x_icmp_eq (t := 1274) hC dL_law_1269 (by decide) (fun c20 => ?_) (fun c20 => ?_)
  · replace h := wit_t c20 h
    refine x_iload (i := 6) hC dL_law_1274 1 rfl ?_
    refine x_if_ne (t := 1291) hC dL_law_1276 (by decide) (fun c21 => ?_) (fun c21 => ?_)
    · replace h := wit_f c21 h
      refine x_goto (t := 1925) hC dL_law_1291 (by decide) ?_
      refine x_iinc (i := 5) (v := (i5 + (4 : Int32))) (l' := [(5, .int (i5 + (4 : Int32))), (7, .int v11), (6, .int v3), (0, va_rf (some b)), (1, va_rf r1), (2, va_rf r2), (3, va_rf r3), (4, va_rf r4)]) hC dL_law_1925 7 rfl rfl (⟨fun _ => rfl, ⟨fun _ => rfl, ⟨fun _ => c_rf (some b), ⟨fun _ => c_rf r1, ⟨fun _ => c_rf r2, ⟨fun _ => c_rf r3, ⟨fun _ => c_rf r4, ⟨fun _ => rfl, trivial⟩⟩⟩⟩⟩⟩⟩⟩) (by decide) rfl ?_
      refine x_goto (t := 28) hC dL_law_1928 (by decide) ?_
      refine x_sub (l' := [(0, va_rf (some b)), (1, va_rf r1), (2, va_rf r2), (3, va_rf r3), (4, va_rf r4), (5, .int (i5 + (4 : Int32)))]) [3, 4, 5, 6, 7, 0] rfl ?_
      refine x_wid (k' := k0 + 40) (n' := n0 + 400) (by omega) (by omega) ?_
      exact hK _ _ h
    · replace h := wit_t c21 h
      refine x_aload_n (i := 3) hC dL_law_1279 rfl 5 rfl ?_
      refine x_iconst (v := (0 : Int32)) hC dL_law_1280 (by decide) ?_
      obtain ⟨a22, ea23, ha24, h⟩ := h
      obtain ⟨hc25, h⟩ := h
      refine x_laload hC ea23 ha24 hc25 dL_law_1281 ?_
      refine x_tJ (b := (p_J S18 a22 0)) rfl ?_
      refine x_iload (i := 7) hC dL_law_1282 0 rfl ?_
      refine x_i2l hC dL_law_1284 ?_
      refine x_lcmp hC dL_law_1285 ?_
      refine x_if_eq (t := 1291) hC dL_law_1286 (by decide) (fun c26 => ?_) (fun c26 => ?_)
      · replace h := wit_t c26 h
        refine x_goto (t := 1925) hC dL_law_1291 (by decide) ?_
        refine x_iinc (i := 5) (v := (i5 + (4 : Int32))) (l' := [(5, .int (i5 + (4 : Int32))), (7, .int v11), (6, .int v3), (0, va_rf (some b)), (1, va_rf r1), (2, va_rf r2), (3, va_rf r3), (4, va_rf r4)]) hC dL_law_1925 7 rfl rfl (⟨fun _ => rfl, ⟨fun _ => rfl, ⟨fun _ => c_rf (some b), ⟨fun _ => c_rf r1, ⟨fun _ => c_rf r2, ⟨fun _ => c_rf r3, ⟨fun _ => c_rf r4, ⟨fun _ => rfl, trivial⟩⟩⟩⟩⟩⟩⟩⟩) (by decide) rfl ?_
        refine x_goto (t := 28) hC dL_law_1928 (by decide) ?_
        refine x_sub (l' := [(0, va_rf (some b)), (1, va_rf r1), (2, va_rf r2), (3, va_rf r3), (4, va_rf r4), (5, .int (i5 + (4 : Int32)))]) [3, 4, 5, 6, 7, 0] rfl ?_
        refine x_wid (k' := k0 + 40) (n' := n0 + 400) (by omega) (by omega) ?_
        exact hK _ _ h
      · replace h := wit_f c26 h
        refine x_iconst (v := (0 : Int32)) hC dL_law_1289 (by decide) ?_
        refine x_tI (show (0 : Int32) = (1 : Int32) from h) ?_
        exact hEnd _ _ _ _ _ (by omega) (by omega) dL_law_1290
  · replace h := wit_f c20 h
    refine x_iconst (v := (0 : Int32)) hC dL_law_1272 (by decide) ?_
    refine x_tI (show (0 : Int32) = (1 : Int32) from h) ?_
    exact hEnd _ _ _ _ _ (by omega) (by omega) dL_law_1273
def wc_law_1294 (xs : Nat → Int32) (L : Nat) (r1 r2 r3 r4 : Option Nat) (i5 : Int32) (S0 : PH) (K : Int32 → PH → Prop) : Prop := wck (ix (i5 + (1 : Int32)) L) <| wck (ix (i5 + (2 : Int32)) L) <| wbd (m_L_paperOf r1 (xs (Int32.toNatClampNeg (i5 + (1 : Int32)))) (xs (Int32.toNatClampNeg (i5 + (2 : Int32)))) r3 S0) fun v3 S4 => wck (ix (i5 + (1 : Int32)) L) <| wck (ix (i5 + (2 : Int32)) L) <| wdr S4 5 r2 fun a8 => wbd (m_X5_paperOf r2 (xs (Int32.toNatClampNeg (i5 + (1 : Int32)))) (xs (Int32.toNatClampNeg (i5 + (2 : Int32)))) S4) fun v11 S12 => wdr S12 5 r2 fun a14 => wbd (m_X5_thrown r2 S12) fun v17 S18 => if v17 = v3 then (if v3 = 0 then (wdr S18 10 r3 fun a22 => wck (ix (0 : Int32) (p_N S18 a22)) <| if (lg_cmp (p_J S18 a22 0) (Int32.toInt64 v11)) = 0 then (K (i5 + (4 : Int32)) S18) else ((0 : Int32) = (1 : Int32))) else (K (i5 + (4 : Int32)) S18)) else ((0 : Int32) = (1 : Int32))
theorem dL_law_1294 : decode cL_law 1294 = .ok (.aload_n 1, 1) := by decide +kernel
theorem dL_law_1295 : decode cL_law 1295 = .ok (.aload_n 0, 1) := by decide +kernel
theorem dL_law_1296 : decode cL_law 1296 = .ok (.iload 5, 2) := by decide +kernel
theorem dL_law_1298 : decode cL_law 1298 = .ok (.iconst 1, 1) := by decide +kernel
theorem dL_law_1299 : decode cL_law 1299 = .ok (.iadd, 1) := by decide +kernel
theorem dL_law_1300 : decode cL_law 1300 = .ok (.iaload, 1) := by decide +kernel
theorem dL_law_1301 : decode cL_law 1301 = .ok (.aload_n 0, 1) := by decide +kernel
theorem dL_law_1302 : decode cL_law 1302 = .ok (.iload 5, 2) := by decide +kernel
theorem dL_law_1304 : decode cL_law 1304 = .ok (.iconst 2, 1) := by decide +kernel
theorem dL_law_1305 : decode cL_law 1305 = .ok (.iadd, 1) := by decide +kernel
theorem dL_law_1306 : decode cL_law 1306 = .ok (.iaload, 1) := by decide +kernel
theorem dL_law_1307 : decode cL_law 1307 = .ok (.aload_n 3, 1) := by decide +kernel
theorem dL_law_1308 : decode cL_law 1308 = .ok (.invokestatic 176, 3) := by decide +kernel
theorem dL_law_1311 : decode cL_law 1311 = .ok (.istore 6, 2) := by decide +kernel
theorem dL_law_1313 : decode cL_law 1313 = .ok (.aload_n 2, 1) := by decide +kernel
theorem dL_law_1314 : decode cL_law 1314 = .ok (.aload_n 0, 1) := by decide +kernel
theorem dL_law_1315 : decode cL_law 1315 = .ok (.iload 5, 2) := by decide +kernel
theorem dL_law_1317 : decode cL_law 1317 = .ok (.iconst 1, 1) := by decide +kernel
theorem dL_law_1318 : decode cL_law 1318 = .ok (.iadd, 1) := by decide +kernel
theorem dL_law_1319 : decode cL_law 1319 = .ok (.iaload, 1) := by decide +kernel
theorem dL_law_1320 : decode cL_law 1320 = .ok (.aload_n 0, 1) := by decide +kernel
theorem dL_law_1321 : decode cL_law 1321 = .ok (.iload 5, 2) := by decide +kernel
theorem dL_law_1323 : decode cL_law 1323 = .ok (.iconst 2, 1) := by decide +kernel
theorem dL_law_1324 : decode cL_law 1324 = .ok (.iadd, 1) := by decide +kernel
theorem dL_law_1325 : decode cL_law 1325 = .ok (.iaload, 1) := by decide +kernel
theorem dL_law_1326 : decode cL_law 1326 = .ok (.invokevirtual 178, 3) := by decide +kernel
theorem dL_law_1329 : decode cL_law 1329 = .ok (.istore 7, 2) := by decide +kernel
theorem dL_law_1331 : decode cL_law 1331 = .ok (.aload_n 2, 1) := by decide +kernel
theorem dL_law_1332 : decode cL_law 1332 = .ok (.invokevirtual 111, 3) := by decide +kernel
theorem dL_law_1335 : decode cL_law 1335 = .ok (.iload 6, 2) := by decide +kernel
theorem dL_law_1337 : decode cL_law 1337 = .ok (.if_icmp .eq 5, 3) := by decide +kernel
theorem dL_law_1342 : decode cL_law 1342 = .ok (.iload 6, 2) := by decide +kernel
theorem dL_law_1344 : decode cL_law 1344 = .ok (.ifCond .ne 15, 3) := by decide +kernel
theorem dL_law_1359 : decode cL_law 1359 = .ok (.goto 566, 3) := by decide +kernel
theorem dL_law_1347 : decode cL_law 1347 = .ok (.aload_n 3, 1) := by decide +kernel
theorem dL_law_1348 : decode cL_law 1348 = .ok (.iconst 0, 1) := by decide +kernel
theorem dL_law_1349 : decode cL_law 1349 = .ok (.laload, 1) := by decide +kernel
theorem dL_law_1350 : decode cL_law 1350 = .ok (.iload 7, 2) := by decide +kernel
theorem dL_law_1352 : decode cL_law 1352 = .ok (.i2l, 1) := by decide +kernel
theorem dL_law_1353 : decode cL_law 1353 = .ok (.lcmp, 1) := by decide +kernel
theorem dL_law_1354 : decode cL_law 1354 = .ok (.ifCond .eq 5, 3) := by decide +kernel
theorem dL_law_1357 : decode cL_law 1357 = .ok (.iconst 0, 1) := by decide +kernel
theorem dL_law_1358 : decode cL_law 1358 = .ok (.ireturn, 1) := by decide +kernel
theorem dL_law_1340 : decode cL_law 1340 = .ok (.iconst 0, 1) := by decide +kernel
theorem dL_law_1341 : decode cL_law 1341 = .ok (.ireturn, 1) := by decide +kernel
set_option maxRecDepth 100000 in
set_option maxHeartbeats 4000000 in
theorem wk_law_1294 {Z : ZT} {b L : Nat} {xs : Nat → Int32} (hC : CX Z cL_law RL 10 room_1) (hX : SX Z b L xs) (hEnd : EL Z) {k0 n0 : Nat} (hk : k0 + 40 ≤ 601024) (hn : n0 + 400 ≤ 7293034) (r1 r2 r3 r4 : Option Nat) (i5 : Int32) (S0 : PH) (K : Int32 → PH → Prop) (hK : ∀ i S, K i S → PX Z 10 S (k0 + 40) (n0 + 400) 28 [(0, va_rf (some b)), (1, va_rf r1), (2, va_rf r2), (3, va_rf r3), (4, va_rf r4), (5, .int i)] []) (h : wc_law_1294 xs L r1 r2 r3 r4 i5 S0 K) : PX Z 10 S0 k0 n0 1294 [(0, va_rf (some b)), (1, va_rf r1), (2, va_rf r2), (3, va_rf r3), (4, va_rf r4), (5, .int i5)] [] := by
  refine x_wid (k' := k0 + 0) (n' := n0 + 0) (Nat.le_refl _) (Nat.le_refl _) ?_
  unfold wc_law_1294 at h
  refine x_aload_n (i := 1) hC dL_law_1294 rfl 1 rfl ?_
  refine x_aload_n (i := 0) hC dL_law_1295 rfl 0 rfl ?_
  refine x_iload (i := 5) hC dL_law_1296 5 rfl ?_
  refine x_iconst (v := (1 : Int32)) hC dL_law_1298 (by decide) ?_
  refine x_iadd hC dL_law_1299 ?_
  obtain ⟨hc1, h⟩ := h
  refine x_sld hC hX hc1 dL_law_1300 ?_
  refine x_aload_n (i := 0) hC dL_law_1301 rfl 0 rfl ?_
  refine x_iload (i := 5) hC dL_law_1302 5 rfl ?_
  refine x_iconst (v := (2 : Int32)) hC dL_law_1304 (by decide) ?_
  refine x_iadd hC dL_law_1305 ?_
  obtain ⟨hc2, h⟩ := h
  refine x_sld hC hX hc2 dL_law_1306 ?_
  refine x_aload_n (i := 3) hC dL_law_1307 rfl 3 rfl ?_
  obtain ⟨v3, S4, hb5, h⟩ := h
  refine x_callSX hC (st := []) (mt_L_paperOf _ _ _ _ _ _ hb5) q_791 q_792 q_0 q_793 hy_L_paperOf ⟨Nat.le_of_ble_eq_true rfl, Nat.le_of_ble_eq_true rfl⟩ ⟨(show k0 + 0 + 2 ≤ 601024 from by omega), (show n0 + 0 + 12 ≤ 7293034 from by omega)⟩ rfl (Nat.le_of_ble_eq_true rfl) dL_law_1308 (r_N ?_) r_NX
  show PX Z 10 S4 (k0 + 2) (n0 + 12) 1311 [(0, va_rf (some b)), (1, va_rf r1), (2, va_rf r2), (3, va_rf r3), (4, va_rf r4), (5, .int i5)] [.int v3]
  refine x_istore (i := 6) (l' := [(6, .int v3), (0, va_rf (some b)), (1, va_rf r1), (2, va_rf r2), (3, va_rf r3), (4, va_rf r4), (5, .int i5)]) hC dL_law_1311 (⟨fun _ => c_rf (some b), ⟨fun _ => c_rf r1, ⟨fun _ => c_rf r2, ⟨fun _ => c_rf r3, ⟨fun _ => c_rf r4, ⟨fun _ => rfl, trivial⟩⟩⟩⟩⟩⟩) (by decide) rfl ?_
  refine x_aload_n (i := 2) hC dL_law_1313 rfl 3 rfl ?_
  refine x_aload_n (i := 0) hC dL_law_1314 rfl 1 rfl ?_
  refine x_iload (i := 5) hC dL_law_1315 6 rfl ?_
  refine x_iconst (v := (1 : Int32)) hC dL_law_1317 (by decide) ?_
  refine x_iadd hC dL_law_1318 ?_
  obtain ⟨hc6, h⟩ := h
  refine x_sld hC hX hc6 dL_law_1319 ?_
  refine x_aload_n (i := 0) hC dL_law_1320 rfl 1 rfl ?_
  refine x_iload (i := 5) hC dL_law_1321 6 rfl ?_
  refine x_iconst (v := (2 : Int32)) hC dL_law_1323 (by decide) ?_
  refine x_iadd hC dL_law_1324 ?_
  obtain ⟨hc7, h⟩ := h
  refine x_sld hC hX hc7 dL_law_1325 ?_
  obtain ⟨a8, ea9, ha10, h⟩ := h
  obtain ⟨v11, S12, hb13, h⟩ := h
  refine x_callV hC (st := []) (mt_X5_paperOf _ _ _ _ _ hb13) ea9 ha10 kf_5 q_1139 q_1140 q_1141 q_7 q_1142 ⟨rfl, hy_X5_paperOf⟩ ⟨Nat.le_of_ble_eq_true rfl, Nat.le_of_ble_eq_true rfl⟩ ⟨(show k0 + 2 + 0 ≤ 601024 from by omega), (show n0 + 12 + 0 ≤ 7293034 from by omega)⟩ rfl (Nat.le_of_ble_eq_true rfl) dL_law_1326 (r_N ?_) r_NX
  show PX Z 10 S12 (k0 + 2) (n0 + 12) 1329 [(6, .int v3), (0, va_rf (some b)), (1, va_rf r1), (2, va_rf r2), (3, va_rf r3), (4, va_rf r4), (5, .int i5)] [.int v11]
  refine x_istore (i := 7) (l' := [(7, .int v11), (6, .int v3), (0, va_rf (some b)), (1, va_rf r1), (2, va_rf r2), (3, va_rf r3), (4, va_rf r4), (5, .int i5)]) hC dL_law_1329 (⟨fun _ => rfl, ⟨fun _ => c_rf (some b), ⟨fun _ => c_rf r1, ⟨fun _ => c_rf r2, ⟨fun _ => c_rf r3, ⟨fun _ => c_rf r4, ⟨fun _ => rfl, trivial⟩⟩⟩⟩⟩⟩⟩) (by decide) rfl ?_
  refine x_aload_n (i := 2) hC dL_law_1331 rfl 4 rfl ?_
  obtain ⟨a14, ea15, ha16, h⟩ := h
  obtain ⟨v17, S18, hb19, h⟩ := h
  refine x_callV hC (st := []) (mt_X5_thrown _ _ _ hb19) ea15 ha16 kf_5 q_904 q_905 q_906 q_7 q_907 ⟨rfl, hy_X5_thrown⟩ ⟨Nat.le_of_ble_eq_true rfl, Nat.le_of_ble_eq_true rfl⟩ ⟨(show k0 + 2 + 0 ≤ 601024 from by omega), (show n0 + 12 + 0 ≤ 7293034 from by omega)⟩ rfl (Nat.le_of_ble_eq_true rfl) dL_law_1332 (r_N ?_) r_NX
  show PX Z 10 S18 (k0 + 2) (n0 + 12) 1335 [(7, .int v11), (6, .int v3), (0, va_rf (some b)), (1, va_rf r1), (2, va_rf r2), (3, va_rf r3), (4, va_rf r4), (5, .int i5)] [.int v17]
  refine x_iload (i := 6) hC dL_law_1335 1 rfl ?_
  refine x_icmp_eq (t := 1342) hC dL_law_1337 (by decide) (fun c20 => ?_) (fun c20 => ?_)
  · replace h := wit_t c20 h
    refine x_iload (i := 6) hC dL_law_1342 1 rfl ?_
    refine x_if_ne (t := 1359) hC dL_law_1344 (by decide) (fun c21 => ?_) (fun c21 => ?_)
    · replace h := wit_f c21 h
      refine x_goto (t := 1925) hC dL_law_1359 (by decide) ?_
      refine x_iinc (i := 5) (v := (i5 + (4 : Int32))) (l' := [(5, .int (i5 + (4 : Int32))), (7, .int v11), (6, .int v3), (0, va_rf (some b)), (1, va_rf r1), (2, va_rf r2), (3, va_rf r3), (4, va_rf r4)]) hC dL_law_1925 7 rfl rfl (⟨fun _ => rfl, ⟨fun _ => rfl, ⟨fun _ => c_rf (some b), ⟨fun _ => c_rf r1, ⟨fun _ => c_rf r2, ⟨fun _ => c_rf r3, ⟨fun _ => c_rf r4, ⟨fun _ => rfl, trivial⟩⟩⟩⟩⟩⟩⟩⟩) (by decide) rfl ?_
      refine x_goto (t := 28) hC dL_law_1928 (by decide) ?_
      refine x_sub (l' := [(0, va_rf (some b)), (1, va_rf r1), (2, va_rf r2), (3, va_rf r3), (4, va_rf r4), (5, .int (i5 + (4 : Int32)))]) [3, 4, 5, 6, 7, 0] rfl ?_
      refine x_wid (k' := k0 + 40) (n' := n0 + 400) (by omega) (by omega) ?_
      exact hK _ _ h
    · replace h := wit_t c21 h
      refine x_aload_n (i := 3) hC dL_law_1347 rfl 5 rfl ?_
      refine x_iconst (v := (0 : Int32)) hC dL_law_1348 (by decide) ?_
      obtain ⟨a22, ea23, ha24, h⟩ := h
      obtain ⟨hc25, h⟩ := h
      refine x_laload hC ea23 ha24 hc25 dL_law_1349 ?_
      refine x_tJ (b := (p_J S18 a22 0)) rfl ?_
      refine x_iload (i := 7) hC dL_law_1350 0 rfl ?_
      refine x_i2l hC dL_law_1352 ?_
      refine x_lcmp hC dL_law_1353 ?_
      refine x_if_eq (t := 1359) hC dL_law_1354 (by decide) (fun c26 => ?_) (fun c26 => ?_)
      · replace h := wit_t c26 h
        refine x_goto (t := 1925) hC dL_law_1359 (by decide) ?_
        refine x_iinc (i := 5) (v := (i5 + (4 : Int32))) (l' := [(5, .int (i5 + (4 : Int32))), (7, .int v11), (6, .int v3), (0, va_rf (some b)), (1, va_rf r1), (2, va_rf r2), (3, va_rf r3), (4, va_rf r4)]) hC dL_law_1925 7 rfl rfl (⟨fun _ => rfl, ⟨fun _ => rfl, ⟨fun _ => c_rf (some b), ⟨fun _ => c_rf r1, ⟨fun _ => c_rf r2, ⟨fun _ => c_rf r3, ⟨fun _ => c_rf r4, ⟨fun _ => rfl, trivial⟩⟩⟩⟩⟩⟩⟩⟩) (by decide) rfl ?_
        refine x_goto (t := 28) hC dL_law_1928 (by decide) ?_
        refine x_sub (l' := [(0, va_rf (some b)), (1, va_rf r1), (2, va_rf r2), (3, va_rf r3), (4, va_rf r4), (5, .int (i5 + (4 : Int32)))]) [3, 4, 5, 6, 7, 0] rfl ?_
        refine x_wid (k' := k0 + 40) (n' := n0 + 400) (by omega) (by omega) ?_
        exact hK _ _ h
      · replace h := wit_f c26 h
        refine x_iconst (v := (0 : Int32)) hC dL_law_1357 (by decide) ?_
        refine x_tI (show (0 : Int32) = (1 : Int32) from h) ?_
        exact hEnd _ _ _ _ _ (by omega) (by omega) dL_law_1358
  · replace h := wit_f c20 h
    refine x_iconst (v := (0 : Int32)) hC dL_law_1340 (by decide) ?_
    refine x_tI (show (0 : Int32) = (1 : Int32) from h) ?_
    exact hEnd _ _ _ _ _ (by omega) (by omega) dL_law_1341
def wc_law_1362 (xs : Nat → Int32) (L : Nat) (r1 r2 r3 r4 : Option Nat) (i5 : Int32) (S0 : PH) (K : Int32 → PH → Prop) : Prop := wck (ix (i5 + (1 : Int32)) L) <| wck (ix (i5 + (2 : Int32)) L) <| wbd (m_L_score r1 (xs (Int32.toNatClampNeg (i5 + (1 : Int32)))) (xs (Int32.toNatClampNeg (i5 + (2 : Int32)))) r3 S0) fun v3 S4 => wck (ix (i5 + (1 : Int32)) L) <| wck (ix (i5 + (2 : Int32)) L) <| wdr S4 5 r2 fun a8 => wbd (m_X5_score r2 (xs (Int32.toNatClampNeg (i5 + (1 : Int32)))) (xs (Int32.toNatClampNeg (i5 + (2 : Int32)))) S4) fun v11 S12 => wdr S12 5 r2 fun a14 => wbd (m_X5_thrown r2 S12) fun v17 S18 => if v17 = v3 then (if v3 = 0 then (wdr S18 10 r3 fun a22 => wck (ix (0 : Int32) (p_N S18 a22)) <| if (lg_cmp (p_J S18 a22 0) (Int32.toInt64 v11)) = 0 then (K (i5 + (4 : Int32)) S18) else ((0 : Int32) = (1 : Int32))) else (K (i5 + (4 : Int32)) S18)) else ((0 : Int32) = (1 : Int32))
theorem dL_law_1362 : decode cL_law 1362 = .ok (.aload_n 1, 1) := by decide +kernel
theorem dL_law_1363 : decode cL_law 1363 = .ok (.aload_n 0, 1) := by decide +kernel
theorem dL_law_1364 : decode cL_law 1364 = .ok (.iload 5, 2) := by decide +kernel
theorem dL_law_1366 : decode cL_law 1366 = .ok (.iconst 1, 1) := by decide +kernel
theorem dL_law_1367 : decode cL_law 1367 = .ok (.iadd, 1) := by decide +kernel
theorem dL_law_1368 : decode cL_law 1368 = .ok (.iaload, 1) := by decide +kernel
theorem dL_law_1369 : decode cL_law 1369 = .ok (.aload_n 0, 1) := by decide +kernel
theorem dL_law_1370 : decode cL_law 1370 = .ok (.iload 5, 2) := by decide +kernel
theorem dL_law_1372 : decode cL_law 1372 = .ok (.iconst 2, 1) := by decide +kernel
theorem dL_law_1373 : decode cL_law 1373 = .ok (.iadd, 1) := by decide +kernel
theorem dL_law_1374 : decode cL_law 1374 = .ok (.iaload, 1) := by decide +kernel
theorem dL_law_1375 : decode cL_law 1375 = .ok (.aload_n 3, 1) := by decide +kernel
theorem dL_law_1376 : decode cL_law 1376 = .ok (.invokestatic 179, 3) := by decide +kernel
theorem dL_law_1379 : decode cL_law 1379 = .ok (.istore 6, 2) := by decide +kernel
theorem dL_law_1381 : decode cL_law 1381 = .ok (.aload_n 2, 1) := by decide +kernel
theorem dL_law_1382 : decode cL_law 1382 = .ok (.aload_n 0, 1) := by decide +kernel
theorem dL_law_1383 : decode cL_law 1383 = .ok (.iload 5, 2) := by decide +kernel
theorem dL_law_1385 : decode cL_law 1385 = .ok (.iconst 1, 1) := by decide +kernel
theorem dL_law_1386 : decode cL_law 1386 = .ok (.iadd, 1) := by decide +kernel
theorem dL_law_1387 : decode cL_law 1387 = .ok (.iaload, 1) := by decide +kernel
theorem dL_law_1388 : decode cL_law 1388 = .ok (.aload_n 0, 1) := by decide +kernel
theorem dL_law_1389 : decode cL_law 1389 = .ok (.iload 5, 2) := by decide +kernel
theorem dL_law_1391 : decode cL_law 1391 = .ok (.iconst 2, 1) := by decide +kernel
theorem dL_law_1392 : decode cL_law 1392 = .ok (.iadd, 1) := by decide +kernel
theorem dL_law_1393 : decode cL_law 1393 = .ok (.iaload, 1) := by decide +kernel
theorem dL_law_1394 : decode cL_law 1394 = .ok (.invokevirtual 181, 3) := by decide +kernel
theorem dL_law_1397 : decode cL_law 1397 = .ok (.istore 7, 2) := by decide +kernel
theorem dL_law_1399 : decode cL_law 1399 = .ok (.aload_n 2, 1) := by decide +kernel
theorem dL_law_1400 : decode cL_law 1400 = .ok (.invokevirtual 111, 3) := by decide +kernel
theorem dL_law_1403 : decode cL_law 1403 = .ok (.iload 6, 2) := by decide +kernel
theorem dL_law_1405 : decode cL_law 1405 = .ok (.if_icmp .eq 5, 3) := by decide +kernel
theorem dL_law_1410 : decode cL_law 1410 = .ok (.iload 6, 2) := by decide +kernel
theorem dL_law_1412 : decode cL_law 1412 = .ok (.ifCond .ne 15, 3) := by decide +kernel
theorem dL_law_1427 : decode cL_law 1427 = .ok (.goto 498, 3) := by decide +kernel
theorem dL_law_1415 : decode cL_law 1415 = .ok (.aload_n 3, 1) := by decide +kernel
theorem dL_law_1416 : decode cL_law 1416 = .ok (.iconst 0, 1) := by decide +kernel
theorem dL_law_1417 : decode cL_law 1417 = .ok (.laload, 1) := by decide +kernel
theorem dL_law_1418 : decode cL_law 1418 = .ok (.iload 7, 2) := by decide +kernel
theorem dL_law_1420 : decode cL_law 1420 = .ok (.i2l, 1) := by decide +kernel
theorem dL_law_1421 : decode cL_law 1421 = .ok (.lcmp, 1) := by decide +kernel
theorem dL_law_1422 : decode cL_law 1422 = .ok (.ifCond .eq 5, 3) := by decide +kernel
theorem dL_law_1425 : decode cL_law 1425 = .ok (.iconst 0, 1) := by decide +kernel
theorem dL_law_1426 : decode cL_law 1426 = .ok (.ireturn, 1) := by decide +kernel
theorem dL_law_1408 : decode cL_law 1408 = .ok (.iconst 0, 1) := by decide +kernel
theorem dL_law_1409 : decode cL_law 1409 = .ok (.ireturn, 1) := by decide +kernel
set_option maxRecDepth 100000 in
set_option maxHeartbeats 4000000 in
theorem wk_law_1362 {Z : ZT} {b L : Nat} {xs : Nat → Int32} (hC : CX Z cL_law RL 10 room_1) (hX : SX Z b L xs) (hEnd : EL Z) {k0 n0 : Nat} (hk : k0 + 40 ≤ 601024) (hn : n0 + 400 ≤ 7293034) (r1 r2 r3 r4 : Option Nat) (i5 : Int32) (S0 : PH) (K : Int32 → PH → Prop) (hK : ∀ i S, K i S → PX Z 10 S (k0 + 40) (n0 + 400) 28 [(0, va_rf (some b)), (1, va_rf r1), (2, va_rf r2), (3, va_rf r3), (4, va_rf r4), (5, .int i)] []) (h : wc_law_1362 xs L r1 r2 r3 r4 i5 S0 K) : PX Z 10 S0 k0 n0 1362 [(0, va_rf (some b)), (1, va_rf r1), (2, va_rf r2), (3, va_rf r3), (4, va_rf r4), (5, .int i5)] [] := by
  refine x_wid (k' := k0 + 0) (n' := n0 + 0) (Nat.le_refl _) (Nat.le_refl _) ?_
  unfold wc_law_1362 at h
  refine x_aload_n (i := 1) hC dL_law_1362 rfl 1 rfl ?_
  refine x_aload_n (i := 0) hC dL_law_1363 rfl 0 rfl ?_
  refine x_iload (i := 5) hC dL_law_1364 5 rfl ?_
  refine x_iconst (v := (1 : Int32)) hC dL_law_1366 (by decide) ?_
  refine x_iadd hC dL_law_1367 ?_
  obtain ⟨hc1, h⟩ := h
  refine x_sld hC hX hc1 dL_law_1368 ?_
  refine x_aload_n (i := 0) hC dL_law_1369 rfl 0 rfl ?_
  refine x_iload (i := 5) hC dL_law_1370 5 rfl ?_
  refine x_iconst (v := (2 : Int32)) hC dL_law_1372 (by decide) ?_
  refine x_iadd hC dL_law_1373 ?_
  obtain ⟨hc2, h⟩ := h
  refine x_sld hC hX hc2 dL_law_1374 ?_
  refine x_aload_n (i := 3) hC dL_law_1375 rfl 3 rfl ?_
  obtain ⟨v3, S4, hb5, h⟩ := h
  refine x_callSX hC (st := []) (mt_L_score _ _ _ _ _ _ hb5) q_799 q_800 q_0 q_801 hy_L_score ⟨Nat.le_of_ble_eq_true rfl, Nat.le_of_ble_eq_true rfl⟩ ⟨(show k0 + 0 + 2 ≤ 601024 from by omega), (show n0 + 0 + 12 ≤ 7293034 from by omega)⟩ rfl (Nat.le_of_ble_eq_true rfl) dL_law_1376 (r_N ?_) r_NX
  show PX Z 10 S4 (k0 + 2) (n0 + 12) 1379 [(0, va_rf (some b)), (1, va_rf r1), (2, va_rf r2), (3, va_rf r3), (4, va_rf r4), (5, .int i5)] [.int v3]
  refine x_istore (i := 6) (l' := [(6, .int v3), (0, va_rf (some b)), (1, va_rf r1), (2, va_rf r2), (3, va_rf r3), (4, va_rf r4), (5, .int i5)]) hC dL_law_1379 (⟨fun _ => c_rf (some b), ⟨fun _ => c_rf r1, ⟨fun _ => c_rf r2, ⟨fun _ => c_rf r3, ⟨fun _ => c_rf r4, ⟨fun _ => rfl, trivial⟩⟩⟩⟩⟩⟩) (by decide) rfl ?_
  refine x_aload_n (i := 2) hC dL_law_1381 rfl 3 rfl ?_
  refine x_aload_n (i := 0) hC dL_law_1382 rfl 1 rfl ?_
  refine x_iload (i := 5) hC dL_law_1383 6 rfl ?_
  refine x_iconst (v := (1 : Int32)) hC dL_law_1385 (by decide) ?_
  refine x_iadd hC dL_law_1386 ?_
  obtain ⟨hc6, h⟩ := h
  refine x_sld hC hX hc6 dL_law_1387 ?_
  refine x_aload_n (i := 0) hC dL_law_1388 rfl 1 rfl ?_
  refine x_iload (i := 5) hC dL_law_1389 6 rfl ?_
  refine x_iconst (v := (2 : Int32)) hC dL_law_1391 (by decide) ?_
  refine x_iadd hC dL_law_1392 ?_
  obtain ⟨hc7, h⟩ := h
  refine x_sld hC hX hc7 dL_law_1393 ?_
  obtain ⟨a8, ea9, ha10, h⟩ := h
  obtain ⟨v11, S12, hb13, h⟩ := h
  refine x_callV hC (st := []) (mt_X5_score _ _ _ _ _ hb13) ea9 ha10 kf_5 q_1151 q_1152 q_1153 q_7 q_1154 ⟨rfl, hy_X5_score⟩ ⟨Nat.le_of_ble_eq_true rfl, Nat.le_of_ble_eq_true rfl⟩ ⟨(show k0 + 2 + 0 ≤ 601024 from by omega), (show n0 + 12 + 0 ≤ 7293034 from by omega)⟩ rfl (Nat.le_of_ble_eq_true rfl) dL_law_1394 (r_N ?_) r_NX
  show PX Z 10 S12 (k0 + 2) (n0 + 12) 1397 [(6, .int v3), (0, va_rf (some b)), (1, va_rf r1), (2, va_rf r2), (3, va_rf r3), (4, va_rf r4), (5, .int i5)] [.int v11]
  refine x_istore (i := 7) (l' := [(7, .int v11), (6, .int v3), (0, va_rf (some b)), (1, va_rf r1), (2, va_rf r2), (3, va_rf r3), (4, va_rf r4), (5, .int i5)]) hC dL_law_1397 (⟨fun _ => rfl, ⟨fun _ => c_rf (some b), ⟨fun _ => c_rf r1, ⟨fun _ => c_rf r2, ⟨fun _ => c_rf r3, ⟨fun _ => c_rf r4, ⟨fun _ => rfl, trivial⟩⟩⟩⟩⟩⟩⟩) (by decide) rfl ?_
  refine x_aload_n (i := 2) hC dL_law_1399 rfl 4 rfl ?_
  obtain ⟨a14, ea15, ha16, h⟩ := h
  obtain ⟨v17, S18, hb19, h⟩ := h
  refine x_callV hC (st := []) (mt_X5_thrown _ _ _ hb19) ea15 ha16 kf_5 q_904 q_905 q_906 q_7 q_907 ⟨rfl, hy_X5_thrown⟩ ⟨Nat.le_of_ble_eq_true rfl, Nat.le_of_ble_eq_true rfl⟩ ⟨(show k0 + 2 + 0 ≤ 601024 from by omega), (show n0 + 12 + 0 ≤ 7293034 from by omega)⟩ rfl (Nat.le_of_ble_eq_true rfl) dL_law_1400 (r_N ?_) r_NX
  show PX Z 10 S18 (k0 + 2) (n0 + 12) 1403 [(7, .int v11), (6, .int v3), (0, va_rf (some b)), (1, va_rf r1), (2, va_rf r2), (3, va_rf r3), (4, va_rf r4), (5, .int i5)] [.int v17]
  refine x_iload (i := 6) hC dL_law_1403 1 rfl ?_
  refine x_icmp_eq (t := 1410) hC dL_law_1405 (by decide) (fun c20 => ?_) (fun c20 => ?_)
  · replace h := wit_t c20 h
    refine x_iload (i := 6) hC dL_law_1410 1 rfl ?_
    refine x_if_ne (t := 1427) hC dL_law_1412 (by decide) (fun c21 => ?_) (fun c21 => ?_)
    · replace h := wit_f c21 h
      refine x_goto (t := 1925) hC dL_law_1427 (by decide) ?_
      refine x_iinc (i := 5) (v := (i5 + (4 : Int32))) (l' := [(5, .int (i5 + (4 : Int32))), (7, .int v11), (6, .int v3), (0, va_rf (some b)), (1, va_rf r1), (2, va_rf r2), (3, va_rf r3), (4, va_rf r4)]) hC dL_law_1925 7 rfl rfl (⟨fun _ => rfl, ⟨fun _ => rfl, ⟨fun _ => c_rf (some b), ⟨fun _ => c_rf r1, ⟨fun _ => c_rf r2, ⟨fun _ => c_rf r3, ⟨fun _ => c_rf r4, ⟨fun _ => rfl, trivial⟩⟩⟩⟩⟩⟩⟩⟩) (by decide) rfl ?_
      refine x_goto (t := 28) hC dL_law_1928 (by decide) ?_
      refine x_sub (l' := [(0, va_rf (some b)), (1, va_rf r1), (2, va_rf r2), (3, va_rf r3), (4, va_rf r4), (5, .int (i5 + (4 : Int32)))]) [3, 4, 5, 6, 7, 0] rfl ?_
      refine x_wid (k' := k0 + 40) (n' := n0 + 400) (by omega) (by omega) ?_
      exact hK _ _ h
    · replace h := wit_t c21 h
      refine x_aload_n (i := 3) hC dL_law_1415 rfl 5 rfl ?_
      refine x_iconst (v := (0 : Int32)) hC dL_law_1416 (by decide) ?_
      obtain ⟨a22, ea23, ha24, h⟩ := h
      obtain ⟨hc25, h⟩ := h
      refine x_laload hC ea23 ha24 hc25 dL_law_1417 ?_
      refine x_tJ (b := (p_J S18 a22 0)) rfl ?_
      refine x_iload (i := 7) hC dL_law_1418 0 rfl ?_
      refine x_i2l hC dL_law_1420 ?_
      refine x_lcmp hC dL_law_1421 ?_
      refine x_if_eq (t := 1427) hC dL_law_1422 (by decide) (fun c26 => ?_) (fun c26 => ?_)
      · replace h := wit_t c26 h
        refine x_goto (t := 1925) hC dL_law_1427 (by decide) ?_
        refine x_iinc (i := 5) (v := (i5 + (4 : Int32))) (l' := [(5, .int (i5 + (4 : Int32))), (7, .int v11), (6, .int v3), (0, va_rf (some b)), (1, va_rf r1), (2, va_rf r2), (3, va_rf r3), (4, va_rf r4)]) hC dL_law_1925 7 rfl rfl (⟨fun _ => rfl, ⟨fun _ => rfl, ⟨fun _ => c_rf (some b), ⟨fun _ => c_rf r1, ⟨fun _ => c_rf r2, ⟨fun _ => c_rf r3, ⟨fun _ => c_rf r4, ⟨fun _ => rfl, trivial⟩⟩⟩⟩⟩⟩⟩⟩) (by decide) rfl ?_
        refine x_goto (t := 28) hC dL_law_1928 (by decide) ?_
        refine x_sub (l' := [(0, va_rf (some b)), (1, va_rf r1), (2, va_rf r2), (3, va_rf r3), (4, va_rf r4), (5, .int (i5 + (4 : Int32)))]) [3, 4, 5, 6, 7, 0] rfl ?_
        refine x_wid (k' := k0 + 40) (n' := n0 + 400) (by omega) (by omega) ?_
        exact hK _ _ h
      · replace h := wit_f c26 h
        refine x_iconst (v := (0 : Int32)) hC dL_law_1425 (by decide) ?_
        refine x_tI (show (0 : Int32) = (1 : Int32) from h) ?_
        exact hEnd _ _ _ _ _ (by omega) (by omega) dL_law_1426
  · replace h := wit_f c20 h
    refine x_iconst (v := (0 : Int32)) hC dL_law_1408 (by decide) ?_
    refine x_tI (show (0 : Int32) = (1 : Int32) from h) ?_
    exact hEnd _ _ _ _ _ (by omega) (by omega) dL_law_1409
def wc_law_1430 (xs : Nat → Int32) (L : Nat) (r1 r2 r3 r4 : Option Nat) (i5 : Int32) (S0 : PH) (K : Int32 → PH → Prop) : Prop := wck (ix (i5 + (1 : Int32)) L) <| wbd (m_L_count r1 (xs (Int32.toNatClampNeg (i5 + (1 : Int32)))) r3 S0) fun v2 S3 => wck (ix (i5 + (1 : Int32)) L) <| wdr S3 5 r2 fun a6 => wbd (m_X5_count r2 (xs (Int32.toNatClampNeg (i5 + (1 : Int32)))) S3) fun v9 S10 => wdr S10 5 r2 fun a12 => wbd (m_X5_thrown r2 S10) fun v15 S16 => if v15 = v2 then (if v2 = 0 then (wdr S16 10 r3 fun a20 => wck (ix (0 : Int32) (p_N S16 a20)) <| if (lg_cmp (p_J S16 a20 0) (Int32.toInt64 v9)) = 0 then (K (i5 + (4 : Int32)) S16) else ((0 : Int32) = (1 : Int32))) else (K (i5 + (4 : Int32)) S16)) else ((0 : Int32) = (1 : Int32))
theorem dL_law_1430 : decode cL_law 1430 = .ok (.aload_n 1, 1) := by decide +kernel
theorem dL_law_1431 : decode cL_law 1431 = .ok (.aload_n 0, 1) := by decide +kernel
theorem dL_law_1432 : decode cL_law 1432 = .ok (.iload 5, 2) := by decide +kernel
theorem dL_law_1434 : decode cL_law 1434 = .ok (.iconst 1, 1) := by decide +kernel
theorem dL_law_1435 : decode cL_law 1435 = .ok (.iadd, 1) := by decide +kernel
theorem dL_law_1436 : decode cL_law 1436 = .ok (.iaload, 1) := by decide +kernel
theorem dL_law_1437 : decode cL_law 1437 = .ok (.aload_n 3, 1) := by decide +kernel
theorem dL_law_1438 : decode cL_law 1438 = .ok (.invokestatic 182, 3) := by decide +kernel
theorem dL_law_1441 : decode cL_law 1441 = .ok (.istore 6, 2) := by decide +kernel
theorem dL_law_1443 : decode cL_law 1443 = .ok (.aload_n 2, 1) := by decide +kernel
theorem dL_law_1444 : decode cL_law 1444 = .ok (.aload_n 0, 1) := by decide +kernel
theorem dL_law_1445 : decode cL_law 1445 = .ok (.iload 5, 2) := by decide +kernel
theorem dL_law_1447 : decode cL_law 1447 = .ok (.iconst 1, 1) := by decide +kernel
theorem dL_law_1448 : decode cL_law 1448 = .ok (.iadd, 1) := by decide +kernel
theorem dL_law_1449 : decode cL_law 1449 = .ok (.iaload, 1) := by decide +kernel
theorem dL_law_1450 : decode cL_law 1450 = .ok (.invokevirtual 184, 3) := by decide +kernel
theorem dL_law_1453 : decode cL_law 1453 = .ok (.istore 7, 2) := by decide +kernel
theorem dL_law_1455 : decode cL_law 1455 = .ok (.aload_n 2, 1) := by decide +kernel
theorem dL_law_1456 : decode cL_law 1456 = .ok (.invokevirtual 111, 3) := by decide +kernel
theorem dL_law_1459 : decode cL_law 1459 = .ok (.iload 6, 2) := by decide +kernel
theorem dL_law_1461 : decode cL_law 1461 = .ok (.if_icmp .eq 5, 3) := by decide +kernel
theorem dL_law_1466 : decode cL_law 1466 = .ok (.iload 6, 2) := by decide +kernel
theorem dL_law_1468 : decode cL_law 1468 = .ok (.ifCond .ne 15, 3) := by decide +kernel
theorem dL_law_1483 : decode cL_law 1483 = .ok (.goto 442, 3) := by decide +kernel
theorem dL_law_1471 : decode cL_law 1471 = .ok (.aload_n 3, 1) := by decide +kernel
theorem dL_law_1472 : decode cL_law 1472 = .ok (.iconst 0, 1) := by decide +kernel
theorem dL_law_1473 : decode cL_law 1473 = .ok (.laload, 1) := by decide +kernel
theorem dL_law_1474 : decode cL_law 1474 = .ok (.iload 7, 2) := by decide +kernel
theorem dL_law_1476 : decode cL_law 1476 = .ok (.i2l, 1) := by decide +kernel
theorem dL_law_1477 : decode cL_law 1477 = .ok (.lcmp, 1) := by decide +kernel
theorem dL_law_1478 : decode cL_law 1478 = .ok (.ifCond .eq 5, 3) := by decide +kernel
theorem dL_law_1481 : decode cL_law 1481 = .ok (.iconst 0, 1) := by decide +kernel
theorem dL_law_1482 : decode cL_law 1482 = .ok (.ireturn, 1) := by decide +kernel
theorem dL_law_1464 : decode cL_law 1464 = .ok (.iconst 0, 1) := by decide +kernel
theorem dL_law_1465 : decode cL_law 1465 = .ok (.ireturn, 1) := by decide +kernel
set_option maxRecDepth 100000 in
set_option maxHeartbeats 4000000 in
theorem wk_law_1430 {Z : ZT} {b L : Nat} {xs : Nat → Int32} (hC : CX Z cL_law RL 10 room_1) (hX : SX Z b L xs) (hEnd : EL Z) {k0 n0 : Nat} (hk : k0 + 40 ≤ 601024) (hn : n0 + 400 ≤ 7293034) (r1 r2 r3 r4 : Option Nat) (i5 : Int32) (S0 : PH) (K : Int32 → PH → Prop) (hK : ∀ i S, K i S → PX Z 10 S (k0 + 40) (n0 + 400) 28 [(0, va_rf (some b)), (1, va_rf r1), (2, va_rf r2), (3, va_rf r3), (4, va_rf r4), (5, .int i)] []) (h : wc_law_1430 xs L r1 r2 r3 r4 i5 S0 K) : PX Z 10 S0 k0 n0 1430 [(0, va_rf (some b)), (1, va_rf r1), (2, va_rf r2), (3, va_rf r3), (4, va_rf r4), (5, .int i5)] [] := by
  refine x_wid (k' := k0 + 0) (n' := n0 + 0) (Nat.le_refl _) (Nat.le_refl _) ?_
  unfold wc_law_1430 at h
  refine x_aload_n (i := 1) hC dL_law_1430 rfl 1 rfl ?_
  refine x_aload_n (i := 0) hC dL_law_1431 rfl 0 rfl ?_
  refine x_iload (i := 5) hC dL_law_1432 5 rfl ?_
  refine x_iconst (v := (1 : Int32)) hC dL_law_1434 (by decide) ?_
  refine x_iadd hC dL_law_1435 ?_
  obtain ⟨hc1, h⟩ := h
  refine x_sld hC hX hc1 dL_law_1436 ?_
  refine x_aload_n (i := 3) hC dL_law_1437 rfl 3 rfl ?_
  obtain ⟨v2, S3, hb4, h⟩ := h
  refine x_callSX hC (st := []) (mt_L_count _ _ _ _ _ hb4) q_806 q_807 q_0 q_808 hy_L_count ⟨Nat.le_of_ble_eq_true rfl, Nat.le_of_ble_eq_true rfl⟩ ⟨(show k0 + 0 + 1 ≤ 601024 from by omega), (show n0 + 0 + 6 ≤ 7293034 from by omega)⟩ rfl (Nat.le_of_ble_eq_true rfl) dL_law_1438 (r_N ?_) r_NX
  show PX Z 10 S3 (k0 + 1) (n0 + 6) 1441 [(0, va_rf (some b)), (1, va_rf r1), (2, va_rf r2), (3, va_rf r3), (4, va_rf r4), (5, .int i5)] [.int v2]
  refine x_istore (i := 6) (l' := [(6, .int v2), (0, va_rf (some b)), (1, va_rf r1), (2, va_rf r2), (3, va_rf r3), (4, va_rf r4), (5, .int i5)]) hC dL_law_1441 (⟨fun _ => c_rf (some b), ⟨fun _ => c_rf r1, ⟨fun _ => c_rf r2, ⟨fun _ => c_rf r3, ⟨fun _ => c_rf r4, ⟨fun _ => rfl, trivial⟩⟩⟩⟩⟩⟩) (by decide) rfl ?_
  refine x_aload_n (i := 2) hC dL_law_1443 rfl 3 rfl ?_
  refine x_aload_n (i := 0) hC dL_law_1444 rfl 1 rfl ?_
  refine x_iload (i := 5) hC dL_law_1445 6 rfl ?_
  refine x_iconst (v := (1 : Int32)) hC dL_law_1447 (by decide) ?_
  refine x_iadd hC dL_law_1448 ?_
  obtain ⟨hc5, h⟩ := h
  refine x_sld hC hX hc5 dL_law_1449 ?_
  obtain ⟨a6, ea7, ha8, h⟩ := h
  obtain ⟨v9, S10, hb11, h⟩ := h
  refine x_callV hC (st := []) (mt_X5_count _ _ _ _ hb11) ea7 ha8 kf_5 q_1155 q_1156 q_1157 q_7 q_1158 ⟨rfl, hy_X5_count⟩ ⟨Nat.le_of_ble_eq_true rfl, Nat.le_of_ble_eq_true rfl⟩ ⟨(show k0 + 1 + 0 ≤ 601024 from by omega), (show n0 + 6 + 0 ≤ 7293034 from by omega)⟩ rfl (Nat.le_of_ble_eq_true rfl) dL_law_1450 (r_N ?_) r_NX
  show PX Z 10 S10 (k0 + 1) (n0 + 6) 1453 [(6, .int v2), (0, va_rf (some b)), (1, va_rf r1), (2, va_rf r2), (3, va_rf r3), (4, va_rf r4), (5, .int i5)] [.int v9]
  refine x_istore (i := 7) (l' := [(7, .int v9), (6, .int v2), (0, va_rf (some b)), (1, va_rf r1), (2, va_rf r2), (3, va_rf r3), (4, va_rf r4), (5, .int i5)]) hC dL_law_1453 (⟨fun _ => rfl, ⟨fun _ => c_rf (some b), ⟨fun _ => c_rf r1, ⟨fun _ => c_rf r2, ⟨fun _ => c_rf r3, ⟨fun _ => c_rf r4, ⟨fun _ => rfl, trivial⟩⟩⟩⟩⟩⟩⟩) (by decide) rfl ?_
  refine x_aload_n (i := 2) hC dL_law_1455 rfl 4 rfl ?_
  obtain ⟨a12, ea13, ha14, h⟩ := h
  obtain ⟨v15, S16, hb17, h⟩ := h
  refine x_callV hC (st := []) (mt_X5_thrown _ _ _ hb17) ea13 ha14 kf_5 q_904 q_905 q_906 q_7 q_907 ⟨rfl, hy_X5_thrown⟩ ⟨Nat.le_of_ble_eq_true rfl, Nat.le_of_ble_eq_true rfl⟩ ⟨(show k0 + 1 + 0 ≤ 601024 from by omega), (show n0 + 6 + 0 ≤ 7293034 from by omega)⟩ rfl (Nat.le_of_ble_eq_true rfl) dL_law_1456 (r_N ?_) r_NX
  show PX Z 10 S16 (k0 + 1) (n0 + 6) 1459 [(7, .int v9), (6, .int v2), (0, va_rf (some b)), (1, va_rf r1), (2, va_rf r2), (3, va_rf r3), (4, va_rf r4), (5, .int i5)] [.int v15]
  refine x_iload (i := 6) hC dL_law_1459 1 rfl ?_
  refine x_icmp_eq (t := 1466) hC dL_law_1461 (by decide) (fun c18 => ?_) (fun c18 => ?_)
  · replace h := wit_t c18 h
    refine x_iload (i := 6) hC dL_law_1466 1 rfl ?_
    refine x_if_ne (t := 1483) hC dL_law_1468 (by decide) (fun c19 => ?_) (fun c19 => ?_)
    · replace h := wit_f c19 h
      refine x_goto (t := 1925) hC dL_law_1483 (by decide) ?_
      refine x_iinc (i := 5) (v := (i5 + (4 : Int32))) (l' := [(5, .int (i5 + (4 : Int32))), (7, .int v9), (6, .int v2), (0, va_rf (some b)), (1, va_rf r1), (2, va_rf r2), (3, va_rf r3), (4, va_rf r4)]) hC dL_law_1925 7 rfl rfl (⟨fun _ => rfl, ⟨fun _ => rfl, ⟨fun _ => c_rf (some b), ⟨fun _ => c_rf r1, ⟨fun _ => c_rf r2, ⟨fun _ => c_rf r3, ⟨fun _ => c_rf r4, ⟨fun _ => rfl, trivial⟩⟩⟩⟩⟩⟩⟩⟩) (by decide) rfl ?_
      refine x_goto (t := 28) hC dL_law_1928 (by decide) ?_
      refine x_sub (l' := [(0, va_rf (some b)), (1, va_rf r1), (2, va_rf r2), (3, va_rf r3), (4, va_rf r4), (5, .int (i5 + (4 : Int32)))]) [3, 4, 5, 6, 7, 0] rfl ?_
      refine x_wid (k' := k0 + 40) (n' := n0 + 400) (by omega) (by omega) ?_
      exact hK _ _ h
    · replace h := wit_t c19 h
      refine x_aload_n (i := 3) hC dL_law_1471 rfl 5 rfl ?_
      refine x_iconst (v := (0 : Int32)) hC dL_law_1472 (by decide) ?_
      obtain ⟨a20, ea21, ha22, h⟩ := h
      obtain ⟨hc23, h⟩ := h
      refine x_laload hC ea21 ha22 hc23 dL_law_1473 ?_
      refine x_tJ (b := (p_J S16 a20 0)) rfl ?_
      refine x_iload (i := 7) hC dL_law_1474 0 rfl ?_
      refine x_i2l hC dL_law_1476 ?_
      refine x_lcmp hC dL_law_1477 ?_
      refine x_if_eq (t := 1483) hC dL_law_1478 (by decide) (fun c24 => ?_) (fun c24 => ?_)
      · replace h := wit_t c24 h
        refine x_goto (t := 1925) hC dL_law_1483 (by decide) ?_
        refine x_iinc (i := 5) (v := (i5 + (4 : Int32))) (l' := [(5, .int (i5 + (4 : Int32))), (7, .int v9), (6, .int v2), (0, va_rf (some b)), (1, va_rf r1), (2, va_rf r2), (3, va_rf r3), (4, va_rf r4)]) hC dL_law_1925 7 rfl rfl (⟨fun _ => rfl, ⟨fun _ => rfl, ⟨fun _ => c_rf (some b), ⟨fun _ => c_rf r1, ⟨fun _ => c_rf r2, ⟨fun _ => c_rf r3, ⟨fun _ => c_rf r4, ⟨fun _ => rfl, trivial⟩⟩⟩⟩⟩⟩⟩⟩) (by decide) rfl ?_
        refine x_goto (t := 28) hC dL_law_1928 (by decide) ?_
        refine x_sub (l' := [(0, va_rf (some b)), (1, va_rf r1), (2, va_rf r2), (3, va_rf r3), (4, va_rf r4), (5, .int (i5 + (4 : Int32)))]) [3, 4, 5, 6, 7, 0] rfl ?_
        refine x_wid (k' := k0 + 40) (n' := n0 + 400) (by omega) (by omega) ?_
        exact hK _ _ h
      · replace h := wit_f c24 h
        refine x_iconst (v := (0 : Int32)) hC dL_law_1481 (by decide) ?_
        refine x_tI (show (0 : Int32) = (1 : Int32) from h) ?_
        exact hEnd _ _ _ _ _ (by omega) (by omega) dL_law_1482
  · replace h := wit_f c18 h
    refine x_iconst (v := (0 : Int32)) hC dL_law_1464 (by decide) ?_
    refine x_tI (show (0 : Int32) = (1 : Int32) from h) ?_
    exact hEnd _ _ _ _ _ (by omega) (by omega) dL_law_1465
def wc_law_1486 (xs : Nat → Int32) (L : Nat) (r1 r2 r3 r4 : Option Nat) (i5 : Int32) (S0 : PH) (K : Int32 → PH → Prop) : Prop := wck (ix (i5 + (1 : Int32)) L) <| wbd (m_L_setting r1 (xs (Int32.toNatClampNeg (i5 + (1 : Int32)))) r3 S0) fun v2 S3 => wck (ix (i5 + (1 : Int32)) L) <| wdr S3 5 r2 fun a6 => wbd (m_X5_setting r2 (xs (Int32.toNatClampNeg (i5 + (1 : Int32)))) S3) fun v9 S10 => wdr S10 5 r2 fun a12 => wbd (m_X5_thrown r2 S10) fun v15 S16 => if v15 = v2 then (if v2 = 0 then (wdr S16 10 r3 fun a20 => wck (ix (0 : Int32) (p_N S16 a20)) <| if (lg_cmp (p_J S16 a20 0) (Int32.toInt64 v9)) = 0 then (K (i5 + (4 : Int32)) S16) else ((0 : Int32) = (1 : Int32))) else (K (i5 + (4 : Int32)) S16)) else ((0 : Int32) = (1 : Int32))
theorem dL_law_1486 : decode cL_law 1486 = .ok (.aload_n 1, 1) := by decide +kernel
theorem dL_law_1487 : decode cL_law 1487 = .ok (.aload_n 0, 1) := by decide +kernel
theorem dL_law_1488 : decode cL_law 1488 = .ok (.iload 5, 2) := by decide +kernel
theorem dL_law_1490 : decode cL_law 1490 = .ok (.iconst 1, 1) := by decide +kernel
theorem dL_law_1491 : decode cL_law 1491 = .ok (.iadd, 1) := by decide +kernel
theorem dL_law_1492 : decode cL_law 1492 = .ok (.iaload, 1) := by decide +kernel
theorem dL_law_1493 : decode cL_law 1493 = .ok (.aload_n 3, 1) := by decide +kernel
theorem dL_law_1494 : decode cL_law 1494 = .ok (.invokestatic 185, 3) := by decide +kernel
theorem dL_law_1497 : decode cL_law 1497 = .ok (.istore 6, 2) := by decide +kernel
theorem dL_law_1499 : decode cL_law 1499 = .ok (.aload_n 2, 1) := by decide +kernel
theorem dL_law_1500 : decode cL_law 1500 = .ok (.aload_n 0, 1) := by decide +kernel
theorem dL_law_1501 : decode cL_law 1501 = .ok (.iload 5, 2) := by decide +kernel
theorem dL_law_1503 : decode cL_law 1503 = .ok (.iconst 1, 1) := by decide +kernel
theorem dL_law_1504 : decode cL_law 1504 = .ok (.iadd, 1) := by decide +kernel
theorem dL_law_1505 : decode cL_law 1505 = .ok (.iaload, 1) := by decide +kernel
theorem dL_law_1506 : decode cL_law 1506 = .ok (.invokevirtual 187, 3) := by decide +kernel
theorem dL_law_1509 : decode cL_law 1509 = .ok (.istore 7, 2) := by decide +kernel
theorem dL_law_1511 : decode cL_law 1511 = .ok (.aload_n 2, 1) := by decide +kernel
theorem dL_law_1512 : decode cL_law 1512 = .ok (.invokevirtual 111, 3) := by decide +kernel
theorem dL_law_1515 : decode cL_law 1515 = .ok (.iload 6, 2) := by decide +kernel
theorem dL_law_1517 : decode cL_law 1517 = .ok (.if_icmp .eq 5, 3) := by decide +kernel
theorem dL_law_1522 : decode cL_law 1522 = .ok (.iload 6, 2) := by decide +kernel
theorem dL_law_1524 : decode cL_law 1524 = .ok (.ifCond .ne 15, 3) := by decide +kernel
theorem dL_law_1539 : decode cL_law 1539 = .ok (.goto 386, 3) := by decide +kernel
theorem dL_law_1527 : decode cL_law 1527 = .ok (.aload_n 3, 1) := by decide +kernel
theorem dL_law_1528 : decode cL_law 1528 = .ok (.iconst 0, 1) := by decide +kernel
theorem dL_law_1529 : decode cL_law 1529 = .ok (.laload, 1) := by decide +kernel
theorem dL_law_1530 : decode cL_law 1530 = .ok (.iload 7, 2) := by decide +kernel
theorem dL_law_1532 : decode cL_law 1532 = .ok (.i2l, 1) := by decide +kernel
theorem dL_law_1533 : decode cL_law 1533 = .ok (.lcmp, 1) := by decide +kernel
theorem dL_law_1534 : decode cL_law 1534 = .ok (.ifCond .eq 5, 3) := by decide +kernel
theorem dL_law_1537 : decode cL_law 1537 = .ok (.iconst 0, 1) := by decide +kernel
theorem dL_law_1538 : decode cL_law 1538 = .ok (.ireturn, 1) := by decide +kernel
theorem dL_law_1520 : decode cL_law 1520 = .ok (.iconst 0, 1) := by decide +kernel
theorem dL_law_1521 : decode cL_law 1521 = .ok (.ireturn, 1) := by decide +kernel
set_option maxRecDepth 100000 in
set_option maxHeartbeats 4000000 in
theorem wk_law_1486 {Z : ZT} {b L : Nat} {xs : Nat → Int32} (hC : CX Z cL_law RL 10 room_1) (hX : SX Z b L xs) (hEnd : EL Z) {k0 n0 : Nat} (hk : k0 + 40 ≤ 601024) (hn : n0 + 400 ≤ 7293034) (r1 r2 r3 r4 : Option Nat) (i5 : Int32) (S0 : PH) (K : Int32 → PH → Prop) (hK : ∀ i S, K i S → PX Z 10 S (k0 + 40) (n0 + 400) 28 [(0, va_rf (some b)), (1, va_rf r1), (2, va_rf r2), (3, va_rf r3), (4, va_rf r4), (5, .int i)] []) (h : wc_law_1486 xs L r1 r2 r3 r4 i5 S0 K) : PX Z 10 S0 k0 n0 1486 [(0, va_rf (some b)), (1, va_rf r1), (2, va_rf r2), (3, va_rf r3), (4, va_rf r4), (5, .int i5)] [] := by
  refine x_wid (k' := k0 + 0) (n' := n0 + 0) (Nat.le_refl _) (Nat.le_refl _) ?_
  unfold wc_law_1486 at h
  refine x_aload_n (i := 1) hC dL_law_1486 rfl 1 rfl ?_
  refine x_aload_n (i := 0) hC dL_law_1487 rfl 0 rfl ?_
  refine x_iload (i := 5) hC dL_law_1488 5 rfl ?_
  refine x_iconst (v := (1 : Int32)) hC dL_law_1490 (by decide) ?_
  refine x_iadd hC dL_law_1491 ?_
  obtain ⟨hc1, h⟩ := h
  refine x_sld hC hX hc1 dL_law_1492 ?_
  refine x_aload_n (i := 3) hC dL_law_1493 rfl 3 rfl ?_
  obtain ⟨v2, S3, hb4, h⟩ := h
  refine x_callSX hC (st := []) (mt_L_setting _ _ _ _ _ hb4) q_814 q_815 q_0 q_816 hy_L_setting ⟨Nat.le_of_ble_eq_true rfl, Nat.le_of_ble_eq_true rfl⟩ ⟨(show k0 + 0 + 1 ≤ 601024 from by omega), (show n0 + 0 + 6 ≤ 7293034 from by omega)⟩ rfl (Nat.le_of_ble_eq_true rfl) dL_law_1494 (r_N ?_) r_NX
  show PX Z 10 S3 (k0 + 1) (n0 + 6) 1497 [(0, va_rf (some b)), (1, va_rf r1), (2, va_rf r2), (3, va_rf r3), (4, va_rf r4), (5, .int i5)] [.int v2]
  refine x_istore (i := 6) (l' := [(6, .int v2), (0, va_rf (some b)), (1, va_rf r1), (2, va_rf r2), (3, va_rf r3), (4, va_rf r4), (5, .int i5)]) hC dL_law_1497 (⟨fun _ => c_rf (some b), ⟨fun _ => c_rf r1, ⟨fun _ => c_rf r2, ⟨fun _ => c_rf r3, ⟨fun _ => c_rf r4, ⟨fun _ => rfl, trivial⟩⟩⟩⟩⟩⟩) (by decide) rfl ?_
  refine x_aload_n (i := 2) hC dL_law_1499 rfl 3 rfl ?_
  refine x_aload_n (i := 0) hC dL_law_1500 rfl 1 rfl ?_
  refine x_iload (i := 5) hC dL_law_1501 6 rfl ?_
  refine x_iconst (v := (1 : Int32)) hC dL_law_1503 (by decide) ?_
  refine x_iadd hC dL_law_1504 ?_
  obtain ⟨hc5, h⟩ := h
  refine x_sld hC hX hc5 dL_law_1505 ?_
  obtain ⟨a6, ea7, ha8, h⟩ := h
  obtain ⟨v9, S10, hb11, h⟩ := h
  refine x_callV hC (st := []) (mt_X5_setting _ _ _ _ hb11) ea7 ha8 kf_5 q_1175 q_1176 q_1177 q_7 q_1178 ⟨rfl, hy_X5_setting⟩ ⟨Nat.le_of_ble_eq_true rfl, Nat.le_of_ble_eq_true rfl⟩ ⟨(show k0 + 1 + 0 ≤ 601024 from by omega), (show n0 + 6 + 0 ≤ 7293034 from by omega)⟩ rfl (Nat.le_of_ble_eq_true rfl) dL_law_1506 (r_N ?_) r_NX
  show PX Z 10 S10 (k0 + 1) (n0 + 6) 1509 [(6, .int v2), (0, va_rf (some b)), (1, va_rf r1), (2, va_rf r2), (3, va_rf r3), (4, va_rf r4), (5, .int i5)] [.int v9]
  refine x_istore (i := 7) (l' := [(7, .int v9), (6, .int v2), (0, va_rf (some b)), (1, va_rf r1), (2, va_rf r2), (3, va_rf r3), (4, va_rf r4), (5, .int i5)]) hC dL_law_1509 (⟨fun _ => rfl, ⟨fun _ => c_rf (some b), ⟨fun _ => c_rf r1, ⟨fun _ => c_rf r2, ⟨fun _ => c_rf r3, ⟨fun _ => c_rf r4, ⟨fun _ => rfl, trivial⟩⟩⟩⟩⟩⟩⟩) (by decide) rfl ?_
  refine x_aload_n (i := 2) hC dL_law_1511 rfl 4 rfl ?_
  obtain ⟨a12, ea13, ha14, h⟩ := h
  obtain ⟨v15, S16, hb17, h⟩ := h
  refine x_callV hC (st := []) (mt_X5_thrown _ _ _ hb17) ea13 ha14 kf_5 q_904 q_905 q_906 q_7 q_907 ⟨rfl, hy_X5_thrown⟩ ⟨Nat.le_of_ble_eq_true rfl, Nat.le_of_ble_eq_true rfl⟩ ⟨(show k0 + 1 + 0 ≤ 601024 from by omega), (show n0 + 6 + 0 ≤ 7293034 from by omega)⟩ rfl (Nat.le_of_ble_eq_true rfl) dL_law_1512 (r_N ?_) r_NX
  show PX Z 10 S16 (k0 + 1) (n0 + 6) 1515 [(7, .int v9), (6, .int v2), (0, va_rf (some b)), (1, va_rf r1), (2, va_rf r2), (3, va_rf r3), (4, va_rf r4), (5, .int i5)] [.int v15]
  refine x_iload (i := 6) hC dL_law_1515 1 rfl ?_
  refine x_icmp_eq (t := 1522) hC dL_law_1517 (by decide) (fun c18 => ?_) (fun c18 => ?_)
  · replace h := wit_t c18 h
    refine x_iload (i := 6) hC dL_law_1522 1 rfl ?_
    refine x_if_ne (t := 1539) hC dL_law_1524 (by decide) (fun c19 => ?_) (fun c19 => ?_)
    · replace h := wit_f c19 h
      refine x_goto (t := 1925) hC dL_law_1539 (by decide) ?_
      refine x_iinc (i := 5) (v := (i5 + (4 : Int32))) (l' := [(5, .int (i5 + (4 : Int32))), (7, .int v9), (6, .int v2), (0, va_rf (some b)), (1, va_rf r1), (2, va_rf r2), (3, va_rf r3), (4, va_rf r4)]) hC dL_law_1925 7 rfl rfl (⟨fun _ => rfl, ⟨fun _ => rfl, ⟨fun _ => c_rf (some b), ⟨fun _ => c_rf r1, ⟨fun _ => c_rf r2, ⟨fun _ => c_rf r3, ⟨fun _ => c_rf r4, ⟨fun _ => rfl, trivial⟩⟩⟩⟩⟩⟩⟩⟩) (by decide) rfl ?_
      refine x_goto (t := 28) hC dL_law_1928 (by decide) ?_
      refine x_sub (l' := [(0, va_rf (some b)), (1, va_rf r1), (2, va_rf r2), (3, va_rf r3), (4, va_rf r4), (5, .int (i5 + (4 : Int32)))]) [3, 4, 5, 6, 7, 0] rfl ?_
      refine x_wid (k' := k0 + 40) (n' := n0 + 400) (by omega) (by omega) ?_
      exact hK _ _ h
    · replace h := wit_t c19 h
      refine x_aload_n (i := 3) hC dL_law_1527 rfl 5 rfl ?_
      refine x_iconst (v := (0 : Int32)) hC dL_law_1528 (by decide) ?_
      obtain ⟨a20, ea21, ha22, h⟩ := h
      obtain ⟨hc23, h⟩ := h
      refine x_laload hC ea21 ha22 hc23 dL_law_1529 ?_
      refine x_tJ (b := (p_J S16 a20 0)) rfl ?_
      refine x_iload (i := 7) hC dL_law_1530 0 rfl ?_
      refine x_i2l hC dL_law_1532 ?_
      refine x_lcmp hC dL_law_1533 ?_
      refine x_if_eq (t := 1539) hC dL_law_1534 (by decide) (fun c24 => ?_) (fun c24 => ?_)
      · replace h := wit_t c24 h
        refine x_goto (t := 1925) hC dL_law_1539 (by decide) ?_
        refine x_iinc (i := 5) (v := (i5 + (4 : Int32))) (l' := [(5, .int (i5 + (4 : Int32))), (7, .int v9), (6, .int v2), (0, va_rf (some b)), (1, va_rf r1), (2, va_rf r2), (3, va_rf r3), (4, va_rf r4)]) hC dL_law_1925 7 rfl rfl (⟨fun _ => rfl, ⟨fun _ => rfl, ⟨fun _ => c_rf (some b), ⟨fun _ => c_rf r1, ⟨fun _ => c_rf r2, ⟨fun _ => c_rf r3, ⟨fun _ => c_rf r4, ⟨fun _ => rfl, trivial⟩⟩⟩⟩⟩⟩⟩⟩) (by decide) rfl ?_
        refine x_goto (t := 28) hC dL_law_1928 (by decide) ?_
        refine x_sub (l' := [(0, va_rf (some b)), (1, va_rf r1), (2, va_rf r2), (3, va_rf r3), (4, va_rf r4), (5, .int (i5 + (4 : Int32)))]) [3, 4, 5, 6, 7, 0] rfl ?_
        refine x_wid (k' := k0 + 40) (n' := n0 + 400) (by omega) (by omega) ?_
        exact hK _ _ h
      · replace h := wit_f c24 h
        refine x_iconst (v := (0 : Int32)) hC dL_law_1537 (by decide) ?_
        refine x_tI (show (0 : Int32) = (1 : Int32) from h) ?_
        exact hEnd _ _ _ _ _ (by omega) (by omega) dL_law_1538
  · replace h := wit_f c18 h
    refine x_iconst (v := (0 : Int32)) hC dL_law_1520 (by decide) ?_
    refine x_tI (show (0 : Int32) = (1 : Int32) from h) ?_
    exact hEnd _ _ _ _ _ (by omega) (by omega) dL_law_1521
def wc_law_1542 (xs : Nat → Int32) (L : Nat) (r1 r2 r3 r4 : Option Nat) (i5 : Int32) (S0 : PH) (K : Int32 → PH → Prop) : Prop := wck (ix (i5 + (1 : Int32)) L) <| wck (ix (i5 + (2 : Int32)) L) <| wbd (m_L_whyNot r1 (xs (Int32.toNatClampNeg (i5 + (1 : Int32)))) (xs (Int32.toNatClampNeg (i5 + (2 : Int32)))) r3 S0) fun v3 S4 => wck (ix (i5 + (1 : Int32)) L) <| wck (ix (i5 + (2 : Int32)) L) <| wdr S4 5 r2 fun a8 => wbd (m_X5_whyNot r2 (xs (Int32.toNatClampNeg (i5 + (1 : Int32)))) (xs (Int32.toNatClampNeg (i5 + (2 : Int32)))) S4) fun v11 S12 => wdr S12 5 r2 fun a14 => wbd (m_X5_thrown r2 S12) fun v17 S18 => if v17 = v3 then (if v3 = 0 then (wdr S18 10 r3 fun a22 => wck (ix (0 : Int32) (p_N S18 a22)) <| if (lg_cmp (p_J S18 a22 0) (Int32.toInt64 v11)) = 0 then (K (i5 + (4 : Int32)) S18) else ((0 : Int32) = (1 : Int32))) else (K (i5 + (4 : Int32)) S18)) else ((0 : Int32) = (1 : Int32))
theorem dL_law_1542 : decode cL_law 1542 = .ok (.aload_n 1, 1) := by decide +kernel
theorem dL_law_1543 : decode cL_law 1543 = .ok (.aload_n 0, 1) := by decide +kernel
theorem dL_law_1544 : decode cL_law 1544 = .ok (.iload 5, 2) := by decide +kernel
theorem dL_law_1546 : decode cL_law 1546 = .ok (.iconst 1, 1) := by decide +kernel
theorem dL_law_1547 : decode cL_law 1547 = .ok (.iadd, 1) := by decide +kernel
theorem dL_law_1548 : decode cL_law 1548 = .ok (.iaload, 1) := by decide +kernel
theorem dL_law_1549 : decode cL_law 1549 = .ok (.aload_n 0, 1) := by decide +kernel
theorem dL_law_1550 : decode cL_law 1550 = .ok (.iload 5, 2) := by decide +kernel
theorem dL_law_1552 : decode cL_law 1552 = .ok (.iconst 2, 1) := by decide +kernel
theorem dL_law_1553 : decode cL_law 1553 = .ok (.iadd, 1) := by decide +kernel
theorem dL_law_1554 : decode cL_law 1554 = .ok (.iaload, 1) := by decide +kernel
theorem dL_law_1555 : decode cL_law 1555 = .ok (.aload_n 3, 1) := by decide +kernel
theorem dL_law_1556 : decode cL_law 1556 = .ok (.invokestatic 188, 3) := by decide +kernel
theorem dL_law_1559 : decode cL_law 1559 = .ok (.istore 6, 2) := by decide +kernel
theorem dL_law_1561 : decode cL_law 1561 = .ok (.aload_n 2, 1) := by decide +kernel
theorem dL_law_1562 : decode cL_law 1562 = .ok (.aload_n 0, 1) := by decide +kernel
theorem dL_law_1563 : decode cL_law 1563 = .ok (.iload 5, 2) := by decide +kernel
theorem dL_law_1565 : decode cL_law 1565 = .ok (.iconst 1, 1) := by decide +kernel
theorem dL_law_1566 : decode cL_law 1566 = .ok (.iadd, 1) := by decide +kernel
theorem dL_law_1567 : decode cL_law 1567 = .ok (.iaload, 1) := by decide +kernel
theorem dL_law_1568 : decode cL_law 1568 = .ok (.aload_n 0, 1) := by decide +kernel
theorem dL_law_1569 : decode cL_law 1569 = .ok (.iload 5, 2) := by decide +kernel
theorem dL_law_1571 : decode cL_law 1571 = .ok (.iconst 2, 1) := by decide +kernel
theorem dL_law_1572 : decode cL_law 1572 = .ok (.iadd, 1) := by decide +kernel
theorem dL_law_1573 : decode cL_law 1573 = .ok (.iaload, 1) := by decide +kernel
theorem dL_law_1574 : decode cL_law 1574 = .ok (.invokevirtual 190, 3) := by decide +kernel
theorem dL_law_1577 : decode cL_law 1577 = .ok (.istore 7, 2) := by decide +kernel
theorem dL_law_1579 : decode cL_law 1579 = .ok (.aload_n 2, 1) := by decide +kernel
theorem dL_law_1580 : decode cL_law 1580 = .ok (.invokevirtual 111, 3) := by decide +kernel
theorem dL_law_1583 : decode cL_law 1583 = .ok (.iload 6, 2) := by decide +kernel
theorem dL_law_1585 : decode cL_law 1585 = .ok (.if_icmp .eq 5, 3) := by decide +kernel
theorem dL_law_1590 : decode cL_law 1590 = .ok (.iload 6, 2) := by decide +kernel
theorem dL_law_1592 : decode cL_law 1592 = .ok (.ifCond .ne 15, 3) := by decide +kernel
theorem dL_law_1607 : decode cL_law 1607 = .ok (.goto 318, 3) := by decide +kernel
theorem dL_law_1595 : decode cL_law 1595 = .ok (.aload_n 3, 1) := by decide +kernel
theorem dL_law_1596 : decode cL_law 1596 = .ok (.iconst 0, 1) := by decide +kernel
theorem dL_law_1597 : decode cL_law 1597 = .ok (.laload, 1) := by decide +kernel
theorem dL_law_1598 : decode cL_law 1598 = .ok (.iload 7, 2) := by decide +kernel
theorem dL_law_1600 : decode cL_law 1600 = .ok (.i2l, 1) := by decide +kernel
theorem dL_law_1601 : decode cL_law 1601 = .ok (.lcmp, 1) := by decide +kernel
theorem dL_law_1602 : decode cL_law 1602 = .ok (.ifCond .eq 5, 3) := by decide +kernel
theorem dL_law_1605 : decode cL_law 1605 = .ok (.iconst 0, 1) := by decide +kernel
theorem dL_law_1606 : decode cL_law 1606 = .ok (.ireturn, 1) := by decide +kernel
theorem dL_law_1588 : decode cL_law 1588 = .ok (.iconst 0, 1) := by decide +kernel
theorem dL_law_1589 : decode cL_law 1589 = .ok (.ireturn, 1) := by decide +kernel
set_option maxRecDepth 100000 in
set_option maxHeartbeats 4000000 in
theorem wk_law_1542 {Z : ZT} {b L : Nat} {xs : Nat → Int32} (hC : CX Z cL_law RL 10 room_1) (hX : SX Z b L xs) (hEnd : EL Z) {k0 n0 : Nat} (hk : k0 + 40 ≤ 601024) (hn : n0 + 400 ≤ 7293034) (r1 r2 r3 r4 : Option Nat) (i5 : Int32) (S0 : PH) (K : Int32 → PH → Prop) (hK : ∀ i S, K i S → PX Z 10 S (k0 + 40) (n0 + 400) 28 [(0, va_rf (some b)), (1, va_rf r1), (2, va_rf r2), (3, va_rf r3), (4, va_rf r4), (5, .int i)] []) (h : wc_law_1542 xs L r1 r2 r3 r4 i5 S0 K) : PX Z 10 S0 k0 n0 1542 [(0, va_rf (some b)), (1, va_rf r1), (2, va_rf r2), (3, va_rf r3), (4, va_rf r4), (5, .int i5)] [] := by
  refine x_wid (k' := k0 + 0) (n' := n0 + 0) (Nat.le_refl _) (Nat.le_refl _) ?_
  unfold wc_law_1542 at h
  refine x_aload_n (i := 1) hC dL_law_1542 rfl 1 rfl ?_
  refine x_aload_n (i := 0) hC dL_law_1543 rfl 0 rfl ?_
  refine x_iload (i := 5) hC dL_law_1544 5 rfl ?_
  refine x_iconst (v := (1 : Int32)) hC dL_law_1546 (by decide) ?_
  refine x_iadd hC dL_law_1547 ?_
  obtain ⟨hc1, h⟩ := h
  refine x_sld hC hX hc1 dL_law_1548 ?_
  refine x_aload_n (i := 0) hC dL_law_1549 rfl 0 rfl ?_
  refine x_iload (i := 5) hC dL_law_1550 5 rfl ?_
  refine x_iconst (v := (2 : Int32)) hC dL_law_1552 (by decide) ?_
  refine x_iadd hC dL_law_1553 ?_
  obtain ⟨hc2, h⟩ := h
  refine x_sld hC hX hc2 dL_law_1554 ?_
  refine x_aload_n (i := 3) hC dL_law_1555 rfl 3 rfl ?_
  obtain ⟨v3, S4, hb5, h⟩ := h
  refine x_callSX hC (st := []) (mt_L_whyNot _ _ _ _ _ _ hb5) q_821 q_822 q_0 q_823 hy_L_whyNot ⟨Nat.le_of_ble_eq_true rfl, Nat.le_of_ble_eq_true rfl⟩ ⟨(show k0 + 0 + 2 ≤ 601024 from by omega), (show n0 + 0 + 12 ≤ 7293034 from by omega)⟩ rfl (Nat.le_of_ble_eq_true rfl) dL_law_1556 (r_N ?_) r_NX
  show PX Z 10 S4 (k0 + 2) (n0 + 12) 1559 [(0, va_rf (some b)), (1, va_rf r1), (2, va_rf r2), (3, va_rf r3), (4, va_rf r4), (5, .int i5)] [.int v3]
  refine x_istore (i := 6) (l' := [(6, .int v3), (0, va_rf (some b)), (1, va_rf r1), (2, va_rf r2), (3, va_rf r3), (4, va_rf r4), (5, .int i5)]) hC dL_law_1559 (⟨fun _ => c_rf (some b), ⟨fun _ => c_rf r1, ⟨fun _ => c_rf r2, ⟨fun _ => c_rf r3, ⟨fun _ => c_rf r4, ⟨fun _ => rfl, trivial⟩⟩⟩⟩⟩⟩) (by decide) rfl ?_
  refine x_aload_n (i := 2) hC dL_law_1561 rfl 3 rfl ?_
  refine x_aload_n (i := 0) hC dL_law_1562 rfl 1 rfl ?_
  refine x_iload (i := 5) hC dL_law_1563 6 rfl ?_
  refine x_iconst (v := (1 : Int32)) hC dL_law_1565 (by decide) ?_
  refine x_iadd hC dL_law_1566 ?_
  obtain ⟨hc6, h⟩ := h
  refine x_sld hC hX hc6 dL_law_1567 ?_
  refine x_aload_n (i := 0) hC dL_law_1568 rfl 1 rfl ?_
  refine x_iload (i := 5) hC dL_law_1569 6 rfl ?_
  refine x_iconst (v := (2 : Int32)) hC dL_law_1571 (by decide) ?_
  refine x_iadd hC dL_law_1572 ?_
  obtain ⟨hc7, h⟩ := h
  refine x_sld hC hX hc7 dL_law_1573 ?_
  obtain ⟨a8, ea9, ha10, h⟩ := h
  obtain ⟨v11, S12, hb13, h⟩ := h
  refine x_callV hC (st := []) (mt_X5_whyNot _ _ _ _ _ hb13) ea9 ha10 kf_5 q_1179 q_1180 q_1181 q_7 q_1182 ⟨rfl, hy_X5_whyNot⟩ ⟨Nat.le_of_ble_eq_true rfl, Nat.le_of_ble_eq_true rfl⟩ ⟨(show k0 + 2 + 0 ≤ 601024 from by omega), (show n0 + 12 + 0 ≤ 7293034 from by omega)⟩ rfl (Nat.le_of_ble_eq_true rfl) dL_law_1574 (r_N ?_) r_NX
  show PX Z 10 S12 (k0 + 2) (n0 + 12) 1577 [(6, .int v3), (0, va_rf (some b)), (1, va_rf r1), (2, va_rf r2), (3, va_rf r3), (4, va_rf r4), (5, .int i5)] [.int v11]
  refine x_istore (i := 7) (l' := [(7, .int v11), (6, .int v3), (0, va_rf (some b)), (1, va_rf r1), (2, va_rf r2), (3, va_rf r3), (4, va_rf r4), (5, .int i5)]) hC dL_law_1577 (⟨fun _ => rfl, ⟨fun _ => c_rf (some b), ⟨fun _ => c_rf r1, ⟨fun _ => c_rf r2, ⟨fun _ => c_rf r3, ⟨fun _ => c_rf r4, ⟨fun _ => rfl, trivial⟩⟩⟩⟩⟩⟩⟩) (by decide) rfl ?_
  refine x_aload_n (i := 2) hC dL_law_1579 rfl 4 rfl ?_
  obtain ⟨a14, ea15, ha16, h⟩ := h
  obtain ⟨v17, S18, hb19, h⟩ := h
  refine x_callV hC (st := []) (mt_X5_thrown _ _ _ hb19) ea15 ha16 kf_5 q_904 q_905 q_906 q_7 q_907 ⟨rfl, hy_X5_thrown⟩ ⟨Nat.le_of_ble_eq_true rfl, Nat.le_of_ble_eq_true rfl⟩ ⟨(show k0 + 2 + 0 ≤ 601024 from by omega), (show n0 + 12 + 0 ≤ 7293034 from by omega)⟩ rfl (Nat.le_of_ble_eq_true rfl) dL_law_1580 (r_N ?_) r_NX
  show PX Z 10 S18 (k0 + 2) (n0 + 12) 1583 [(7, .int v11), (6, .int v3), (0, va_rf (some b)), (1, va_rf r1), (2, va_rf r2), (3, va_rf r3), (4, va_rf r4), (5, .int i5)] [.int v17]
  refine x_iload (i := 6) hC dL_law_1583 1 rfl ?_
  refine x_icmp_eq (t := 1590) hC dL_law_1585 (by decide) (fun c20 => ?_) (fun c20 => ?_)
  · replace h := wit_t c20 h
    refine x_iload (i := 6) hC dL_law_1590 1 rfl ?_
    refine x_if_ne (t := 1607) hC dL_law_1592 (by decide) (fun c21 => ?_) (fun c21 => ?_)
    · replace h := wit_f c21 h
      refine x_goto (t := 1925) hC dL_law_1607 (by decide) ?_
      refine x_iinc (i := 5) (v := (i5 + (4 : Int32))) (l' := [(5, .int (i5 + (4 : Int32))), (7, .int v11), (6, .int v3), (0, va_rf (some b)), (1, va_rf r1), (2, va_rf r2), (3, va_rf r3), (4, va_rf r4)]) hC dL_law_1925 7 rfl rfl (⟨fun _ => rfl, ⟨fun _ => rfl, ⟨fun _ => c_rf (some b), ⟨fun _ => c_rf r1, ⟨fun _ => c_rf r2, ⟨fun _ => c_rf r3, ⟨fun _ => c_rf r4, ⟨fun _ => rfl, trivial⟩⟩⟩⟩⟩⟩⟩⟩) (by decide) rfl ?_
      refine x_goto (t := 28) hC dL_law_1928 (by decide) ?_
      refine x_sub (l' := [(0, va_rf (some b)), (1, va_rf r1), (2, va_rf r2), (3, va_rf r3), (4, va_rf r4), (5, .int (i5 + (4 : Int32)))]) [3, 4, 5, 6, 7, 0] rfl ?_
      refine x_wid (k' := k0 + 40) (n' := n0 + 400) (by omega) (by omega) ?_
      exact hK _ _ h
    · replace h := wit_t c21 h
      refine x_aload_n (i := 3) hC dL_law_1595 rfl 5 rfl ?_
      refine x_iconst (v := (0 : Int32)) hC dL_law_1596 (by decide) ?_
      obtain ⟨a22, ea23, ha24, h⟩ := h
      obtain ⟨hc25, h⟩ := h
      refine x_laload hC ea23 ha24 hc25 dL_law_1597 ?_
      refine x_tJ (b := (p_J S18 a22 0)) rfl ?_
      refine x_iload (i := 7) hC dL_law_1598 0 rfl ?_
      refine x_i2l hC dL_law_1600 ?_
      refine x_lcmp hC dL_law_1601 ?_
      refine x_if_eq (t := 1607) hC dL_law_1602 (by decide) (fun c26 => ?_) (fun c26 => ?_)
      · replace h := wit_t c26 h
        refine x_goto (t := 1925) hC dL_law_1607 (by decide) ?_
        refine x_iinc (i := 5) (v := (i5 + (4 : Int32))) (l' := [(5, .int (i5 + (4 : Int32))), (7, .int v11), (6, .int v3), (0, va_rf (some b)), (1, va_rf r1), (2, va_rf r2), (3, va_rf r3), (4, va_rf r4)]) hC dL_law_1925 7 rfl rfl (⟨fun _ => rfl, ⟨fun _ => rfl, ⟨fun _ => c_rf (some b), ⟨fun _ => c_rf r1, ⟨fun _ => c_rf r2, ⟨fun _ => c_rf r3, ⟨fun _ => c_rf r4, ⟨fun _ => rfl, trivial⟩⟩⟩⟩⟩⟩⟩⟩) (by decide) rfl ?_
        refine x_goto (t := 28) hC dL_law_1928 (by decide) ?_
        refine x_sub (l' := [(0, va_rf (some b)), (1, va_rf r1), (2, va_rf r2), (3, va_rf r3), (4, va_rf r4), (5, .int (i5 + (4 : Int32)))]) [3, 4, 5, 6, 7, 0] rfl ?_
        refine x_wid (k' := k0 + 40) (n' := n0 + 400) (by omega) (by omega) ?_
        exact hK _ _ h
      · replace h := wit_f c26 h
        refine x_iconst (v := (0 : Int32)) hC dL_law_1605 (by decide) ?_
        refine x_tI (show (0 : Int32) = (1 : Int32) from h) ?_
        exact hEnd _ _ _ _ _ (by omega) (by omega) dL_law_1606
  · replace h := wit_f c20 h
    refine x_iconst (v := (0 : Int32)) hC dL_law_1588 (by decide) ?_
    refine x_tI (show (0 : Int32) = (1 : Int32) from h) ?_
    exact hEnd _ _ _ _ _ (by omega) (by omega) dL_law_1589
def wc_law_1610 (xs : Nat → Int32) (L : Nat) (r1 r2 r3 r4 : Option Nat) (i5 : Int32) (S0 : PH) (K : Int32 → PH → Prop) : Prop := wck (ix (i5 + (1 : Int32)) L) <| wbd (m_L_bestReviewer r1 (xs (Int32.toNatClampNeg (i5 + (1 : Int32)))) r3 S0) fun v2 S3 => wck (ix (i5 + (1 : Int32)) L) <| wdr S3 5 r2 fun a6 => wbd (m_X5_bestReviewer r2 (xs (Int32.toNatClampNeg (i5 + (1 : Int32)))) S3) fun v9 S10 => wdr S10 5 r2 fun a12 => wbd (m_X5_thrown r2 S10) fun v15 S16 => if v15 = v2 then (if v2 = 0 then (wdr S16 10 r3 fun a20 => wck (ix (0 : Int32) (p_N S16 a20)) <| if (lg_cmp (p_J S16 a20 0) (Int32.toInt64 v9)) = 0 then (K (i5 + (4 : Int32)) S16) else ((0 : Int32) = (1 : Int32))) else (K (i5 + (4 : Int32)) S16)) else ((0 : Int32) = (1 : Int32))
theorem dL_law_1610 : decode cL_law 1610 = .ok (.aload_n 1, 1) := by decide +kernel
theorem dL_law_1611 : decode cL_law 1611 = .ok (.aload_n 0, 1) := by decide +kernel
theorem dL_law_1612 : decode cL_law 1612 = .ok (.iload 5, 2) := by decide +kernel
theorem dL_law_1614 : decode cL_law 1614 = .ok (.iconst 1, 1) := by decide +kernel
theorem dL_law_1615 : decode cL_law 1615 = .ok (.iadd, 1) := by decide +kernel
theorem dL_law_1616 : decode cL_law 1616 = .ok (.iaload, 1) := by decide +kernel
theorem dL_law_1617 : decode cL_law 1617 = .ok (.aload_n 3, 1) := by decide +kernel
theorem dL_law_1618 : decode cL_law 1618 = .ok (.invokestatic 191, 3) := by decide +kernel
theorem dL_law_1621 : decode cL_law 1621 = .ok (.istore 6, 2) := by decide +kernel
theorem dL_law_1623 : decode cL_law 1623 = .ok (.aload_n 2, 1) := by decide +kernel
theorem dL_law_1624 : decode cL_law 1624 = .ok (.aload_n 0, 1) := by decide +kernel
theorem dL_law_1625 : decode cL_law 1625 = .ok (.iload 5, 2) := by decide +kernel
theorem dL_law_1627 : decode cL_law 1627 = .ok (.iconst 1, 1) := by decide +kernel
theorem dL_law_1628 : decode cL_law 1628 = .ok (.iadd, 1) := by decide +kernel
theorem dL_law_1629 : decode cL_law 1629 = .ok (.iaload, 1) := by decide +kernel
theorem dL_law_1630 : decode cL_law 1630 = .ok (.invokevirtual 193, 3) := by decide +kernel
theorem dL_law_1633 : decode cL_law 1633 = .ok (.istore 7, 2) := by decide +kernel
theorem dL_law_1635 : decode cL_law 1635 = .ok (.aload_n 2, 1) := by decide +kernel
theorem dL_law_1636 : decode cL_law 1636 = .ok (.invokevirtual 111, 3) := by decide +kernel
theorem dL_law_1639 : decode cL_law 1639 = .ok (.iload 6, 2) := by decide +kernel
theorem dL_law_1641 : decode cL_law 1641 = .ok (.if_icmp .eq 5, 3) := by decide +kernel
theorem dL_law_1646 : decode cL_law 1646 = .ok (.iload 6, 2) := by decide +kernel
theorem dL_law_1648 : decode cL_law 1648 = .ok (.ifCond .ne 15, 3) := by decide +kernel
theorem dL_law_1663 : decode cL_law 1663 = .ok (.goto 262, 3) := by decide +kernel
theorem dL_law_1651 : decode cL_law 1651 = .ok (.aload_n 3, 1) := by decide +kernel
theorem dL_law_1652 : decode cL_law 1652 = .ok (.iconst 0, 1) := by decide +kernel
theorem dL_law_1653 : decode cL_law 1653 = .ok (.laload, 1) := by decide +kernel
theorem dL_law_1654 : decode cL_law 1654 = .ok (.iload 7, 2) := by decide +kernel
theorem dL_law_1656 : decode cL_law 1656 = .ok (.i2l, 1) := by decide +kernel
theorem dL_law_1657 : decode cL_law 1657 = .ok (.lcmp, 1) := by decide +kernel
theorem dL_law_1658 : decode cL_law 1658 = .ok (.ifCond .eq 5, 3) := by decide +kernel
theorem dL_law_1661 : decode cL_law 1661 = .ok (.iconst 0, 1) := by decide +kernel
theorem dL_law_1662 : decode cL_law 1662 = .ok (.ireturn, 1) := by decide +kernel
theorem dL_law_1644 : decode cL_law 1644 = .ok (.iconst 0, 1) := by decide +kernel
theorem dL_law_1645 : decode cL_law 1645 = .ok (.ireturn, 1) := by decide +kernel
set_option maxRecDepth 100000 in
set_option maxHeartbeats 4000000 in
theorem wk_law_1610 {Z : ZT} {b L : Nat} {xs : Nat → Int32} (hC : CX Z cL_law RL 10 room_1) (hX : SX Z b L xs) (hEnd : EL Z) {k0 n0 : Nat} (hk : k0 + 40 ≤ 601024) (hn : n0 + 400 ≤ 7293034) (r1 r2 r3 r4 : Option Nat) (i5 : Int32) (S0 : PH) (K : Int32 → PH → Prop) (hK : ∀ i S, K i S → PX Z 10 S (k0 + 40) (n0 + 400) 28 [(0, va_rf (some b)), (1, va_rf r1), (2, va_rf r2), (3, va_rf r3), (4, va_rf r4), (5, .int i)] []) (h : wc_law_1610 xs L r1 r2 r3 r4 i5 S0 K) : PX Z 10 S0 k0 n0 1610 [(0, va_rf (some b)), (1, va_rf r1), (2, va_rf r2), (3, va_rf r3), (4, va_rf r4), (5, .int i5)] [] := by
  refine x_wid (k' := k0 + 0) (n' := n0 + 0) (Nat.le_refl _) (Nat.le_refl _) ?_
  unfold wc_law_1610 at h
  refine x_aload_n (i := 1) hC dL_law_1610 rfl 1 rfl ?_
  refine x_aload_n (i := 0) hC dL_law_1611 rfl 0 rfl ?_
  refine x_iload (i := 5) hC dL_law_1612 5 rfl ?_
  refine x_iconst (v := (1 : Int32)) hC dL_law_1614 (by decide) ?_
  refine x_iadd hC dL_law_1615 ?_
  obtain ⟨hc1, h⟩ := h
  refine x_sld hC hX hc1 dL_law_1616 ?_
  refine x_aload_n (i := 3) hC dL_law_1617 rfl 3 rfl ?_
  obtain ⟨v2, S3, hb4, h⟩ := h
  refine x_callSX hC (st := []) (mt_L_bestReviewer _ _ _ _ _ hb4) q_828 q_829 q_0 q_830 hy_L_bestReviewer ⟨Nat.le_of_ble_eq_true rfl, Nat.le_of_ble_eq_true rfl⟩ ⟨(show k0 + 0 + 1 ≤ 601024 from by omega), (show n0 + 0 + 6 ≤ 7293034 from by omega)⟩ rfl (Nat.le_of_ble_eq_true rfl) dL_law_1618 (r_N ?_) r_NX
  show PX Z 10 S3 (k0 + 1) (n0 + 6) 1621 [(0, va_rf (some b)), (1, va_rf r1), (2, va_rf r2), (3, va_rf r3), (4, va_rf r4), (5, .int i5)] [.int v2]
  refine x_istore (i := 6) (l' := [(6, .int v2), (0, va_rf (some b)), (1, va_rf r1), (2, va_rf r2), (3, va_rf r3), (4, va_rf r4), (5, .int i5)]) hC dL_law_1621 (⟨fun _ => c_rf (some b), ⟨fun _ => c_rf r1, ⟨fun _ => c_rf r2, ⟨fun _ => c_rf r3, ⟨fun _ => c_rf r4, ⟨fun _ => rfl, trivial⟩⟩⟩⟩⟩⟩) (by decide) rfl ?_
  refine x_aload_n (i := 2) hC dL_law_1623 rfl 3 rfl ?_
  refine x_aload_n (i := 0) hC dL_law_1624 rfl 1 rfl ?_
  refine x_iload (i := 5) hC dL_law_1625 6 rfl ?_
  refine x_iconst (v := (1 : Int32)) hC dL_law_1627 (by decide) ?_
  refine x_iadd hC dL_law_1628 ?_
  obtain ⟨hc5, h⟩ := h
  refine x_sld hC hX hc5 dL_law_1629 ?_
  obtain ⟨a6, ea7, ha8, h⟩ := h
  obtain ⟨v9, S10, hb11, h⟩ := h
  refine x_callV hC (st := []) (mt_X5_bestReviewer _ _ _ _ hb11) ea7 ha8 kf_5 q_1183 q_1184 q_1185 q_7 q_1186 ⟨rfl, hy_X5_bestReviewer⟩ ⟨Nat.le_of_ble_eq_true rfl, Nat.le_of_ble_eq_true rfl⟩ ⟨(show k0 + 1 + 0 ≤ 601024 from by omega), (show n0 + 6 + 0 ≤ 7293034 from by omega)⟩ rfl (Nat.le_of_ble_eq_true rfl) dL_law_1630 (r_N ?_) r_NX
  show PX Z 10 S10 (k0 + 1) (n0 + 6) 1633 [(6, .int v2), (0, va_rf (some b)), (1, va_rf r1), (2, va_rf r2), (3, va_rf r3), (4, va_rf r4), (5, .int i5)] [.int v9]
  refine x_istore (i := 7) (l' := [(7, .int v9), (6, .int v2), (0, va_rf (some b)), (1, va_rf r1), (2, va_rf r2), (3, va_rf r3), (4, va_rf r4), (5, .int i5)]) hC dL_law_1633 (⟨fun _ => rfl, ⟨fun _ => c_rf (some b), ⟨fun _ => c_rf r1, ⟨fun _ => c_rf r2, ⟨fun _ => c_rf r3, ⟨fun _ => c_rf r4, ⟨fun _ => rfl, trivial⟩⟩⟩⟩⟩⟩⟩) (by decide) rfl ?_
  refine x_aload_n (i := 2) hC dL_law_1635 rfl 4 rfl ?_
  obtain ⟨a12, ea13, ha14, h⟩ := h
  obtain ⟨v15, S16, hb17, h⟩ := h
  refine x_callV hC (st := []) (mt_X5_thrown _ _ _ hb17) ea13 ha14 kf_5 q_904 q_905 q_906 q_7 q_907 ⟨rfl, hy_X5_thrown⟩ ⟨Nat.le_of_ble_eq_true rfl, Nat.le_of_ble_eq_true rfl⟩ ⟨(show k0 + 1 + 0 ≤ 601024 from by omega), (show n0 + 6 + 0 ≤ 7293034 from by omega)⟩ rfl (Nat.le_of_ble_eq_true rfl) dL_law_1636 (r_N ?_) r_NX
  show PX Z 10 S16 (k0 + 1) (n0 + 6) 1639 [(7, .int v9), (6, .int v2), (0, va_rf (some b)), (1, va_rf r1), (2, va_rf r2), (3, va_rf r3), (4, va_rf r4), (5, .int i5)] [.int v15]
  refine x_iload (i := 6) hC dL_law_1639 1 rfl ?_
  refine x_icmp_eq (t := 1646) hC dL_law_1641 (by decide) (fun c18 => ?_) (fun c18 => ?_)
  · replace h := wit_t c18 h
    refine x_iload (i := 6) hC dL_law_1646 1 rfl ?_
    refine x_if_ne (t := 1663) hC dL_law_1648 (by decide) (fun c19 => ?_) (fun c19 => ?_)
    · replace h := wit_f c19 h
      refine x_goto (t := 1925) hC dL_law_1663 (by decide) ?_
      refine x_iinc (i := 5) (v := (i5 + (4 : Int32))) (l' := [(5, .int (i5 + (4 : Int32))), (7, .int v9), (6, .int v2), (0, va_rf (some b)), (1, va_rf r1), (2, va_rf r2), (3, va_rf r3), (4, va_rf r4)]) hC dL_law_1925 7 rfl rfl (⟨fun _ => rfl, ⟨fun _ => rfl, ⟨fun _ => c_rf (some b), ⟨fun _ => c_rf r1, ⟨fun _ => c_rf r2, ⟨fun _ => c_rf r3, ⟨fun _ => c_rf r4, ⟨fun _ => rfl, trivial⟩⟩⟩⟩⟩⟩⟩⟩) (by decide) rfl ?_
      refine x_goto (t := 28) hC dL_law_1928 (by decide) ?_
      refine x_sub (l' := [(0, va_rf (some b)), (1, va_rf r1), (2, va_rf r2), (3, va_rf r3), (4, va_rf r4), (5, .int (i5 + (4 : Int32)))]) [3, 4, 5, 6, 7, 0] rfl ?_
      refine x_wid (k' := k0 + 40) (n' := n0 + 400) (by omega) (by omega) ?_
      exact hK _ _ h
    · replace h := wit_t c19 h
      refine x_aload_n (i := 3) hC dL_law_1651 rfl 5 rfl ?_
      refine x_iconst (v := (0 : Int32)) hC dL_law_1652 (by decide) ?_
      obtain ⟨a20, ea21, ha22, h⟩ := h
      obtain ⟨hc23, h⟩ := h
      refine x_laload hC ea21 ha22 hc23 dL_law_1653 ?_
      refine x_tJ (b := (p_J S16 a20 0)) rfl ?_
      refine x_iload (i := 7) hC dL_law_1654 0 rfl ?_
      refine x_i2l hC dL_law_1656 ?_
      refine x_lcmp hC dL_law_1657 ?_
      refine x_if_eq (t := 1663) hC dL_law_1658 (by decide) (fun c24 => ?_) (fun c24 => ?_)
      · replace h := wit_t c24 h
        refine x_goto (t := 1925) hC dL_law_1663 (by decide) ?_
        refine x_iinc (i := 5) (v := (i5 + (4 : Int32))) (l' := [(5, .int (i5 + (4 : Int32))), (7, .int v9), (6, .int v2), (0, va_rf (some b)), (1, va_rf r1), (2, va_rf r2), (3, va_rf r3), (4, va_rf r4)]) hC dL_law_1925 7 rfl rfl (⟨fun _ => rfl, ⟨fun _ => rfl, ⟨fun _ => c_rf (some b), ⟨fun _ => c_rf r1, ⟨fun _ => c_rf r2, ⟨fun _ => c_rf r3, ⟨fun _ => c_rf r4, ⟨fun _ => rfl, trivial⟩⟩⟩⟩⟩⟩⟩⟩) (by decide) rfl ?_
        refine x_goto (t := 28) hC dL_law_1928 (by decide) ?_
        refine x_sub (l' := [(0, va_rf (some b)), (1, va_rf r1), (2, va_rf r2), (3, va_rf r3), (4, va_rf r4), (5, .int (i5 + (4 : Int32)))]) [3, 4, 5, 6, 7, 0] rfl ?_
        refine x_wid (k' := k0 + 40) (n' := n0 + 400) (by omega) (by omega) ?_
        exact hK _ _ h
      · replace h := wit_f c24 h
        refine x_iconst (v := (0 : Int32)) hC dL_law_1661 (by decide) ?_
        refine x_tI (show (0 : Int32) = (1 : Int32) from h) ?_
        exact hEnd _ _ _ _ _ (by omega) (by omega) dL_law_1662
  · replace h := wit_f c18 h
    refine x_iconst (v := (0 : Int32)) hC dL_law_1644 (by decide) ?_
    refine x_tI (show (0 : Int32) = (1 : Int32) from h) ?_
    exact hEnd _ _ _ _ _ (by omega) (by omega) dL_law_1645
def wc_law_1666 (xs : Nat → Int32) (L : Nat) (r1 r2 r3 r4 : Option Nat) (i5 : Int32) (S0 : PH) (K : Int32 → PH → Prop) : Prop := wck (ix (i5 + (1 : Int32)) L) <| wbd (m_L_most r1 (xs (Int32.toNatClampNeg (i5 + (1 : Int32)))) r3 S0) fun v2 S3 => wck (ix (i5 + (1 : Int32)) L) <| wdr S3 5 r2 fun a6 => wbd (m_X5_most r2 (xs (Int32.toNatClampNeg (i5 + (1 : Int32)))) S3) fun v9 S10 => wdr S10 5 r2 fun a12 => wbd (m_X5_thrown r2 S10) fun v15 S16 => if v15 = v2 then (if v2 = 0 then (wdr S16 10 r3 fun a20 => wck (ix (0 : Int32) (p_N S16 a20)) <| if (lg_cmp (p_J S16 a20 0) (Int32.toInt64 v9)) = 0 then (K (i5 + (4 : Int32)) S16) else ((0 : Int32) = (1 : Int32))) else (K (i5 + (4 : Int32)) S16)) else ((0 : Int32) = (1 : Int32))
theorem dL_law_1666 : decode cL_law 1666 = .ok (.aload_n 1, 1) := by decide +kernel
theorem dL_law_1667 : decode cL_law 1667 = .ok (.aload_n 0, 1) := by decide +kernel
theorem dL_law_1668 : decode cL_law 1668 = .ok (.iload 5, 2) := by decide +kernel
theorem dL_law_1670 : decode cL_law 1670 = .ok (.iconst 1, 1) := by decide +kernel
theorem dL_law_1671 : decode cL_law 1671 = .ok (.iadd, 1) := by decide +kernel
theorem dL_law_1672 : decode cL_law 1672 = .ok (.iaload, 1) := by decide +kernel
theorem dL_law_1673 : decode cL_law 1673 = .ok (.aload_n 3, 1) := by decide +kernel
theorem dL_law_1674 : decode cL_law 1674 = .ok (.invokestatic 194, 3) := by decide +kernel
theorem dL_law_1677 : decode cL_law 1677 = .ok (.istore 6, 2) := by decide +kernel
theorem dL_law_1679 : decode cL_law 1679 = .ok (.aload_n 2, 1) := by decide +kernel
theorem dL_law_1680 : decode cL_law 1680 = .ok (.aload_n 0, 1) := by decide +kernel
theorem dL_law_1681 : decode cL_law 1681 = .ok (.iload 5, 2) := by decide +kernel
theorem dL_law_1683 : decode cL_law 1683 = .ok (.iconst 1, 1) := by decide +kernel
theorem dL_law_1684 : decode cL_law 1684 = .ok (.iadd, 1) := by decide +kernel
theorem dL_law_1685 : decode cL_law 1685 = .ok (.iaload, 1) := by decide +kernel
theorem dL_law_1686 : decode cL_law 1686 = .ok (.invokevirtual 196, 3) := by decide +kernel
theorem dL_law_1689 : decode cL_law 1689 = .ok (.istore 7, 2) := by decide +kernel
theorem dL_law_1691 : decode cL_law 1691 = .ok (.aload_n 2, 1) := by decide +kernel
theorem dL_law_1692 : decode cL_law 1692 = .ok (.invokevirtual 111, 3) := by decide +kernel
theorem dL_law_1695 : decode cL_law 1695 = .ok (.iload 6, 2) := by decide +kernel
theorem dL_law_1697 : decode cL_law 1697 = .ok (.if_icmp .eq 5, 3) := by decide +kernel
theorem dL_law_1702 : decode cL_law 1702 = .ok (.iload 6, 2) := by decide +kernel
theorem dL_law_1704 : decode cL_law 1704 = .ok (.ifCond .ne 15, 3) := by decide +kernel
theorem dL_law_1719 : decode cL_law 1719 = .ok (.goto 206, 3) := by decide +kernel
theorem dL_law_1707 : decode cL_law 1707 = .ok (.aload_n 3, 1) := by decide +kernel
theorem dL_law_1708 : decode cL_law 1708 = .ok (.iconst 0, 1) := by decide +kernel
theorem dL_law_1709 : decode cL_law 1709 = .ok (.laload, 1) := by decide +kernel
theorem dL_law_1710 : decode cL_law 1710 = .ok (.iload 7, 2) := by decide +kernel
theorem dL_law_1712 : decode cL_law 1712 = .ok (.i2l, 1) := by decide +kernel
theorem dL_law_1713 : decode cL_law 1713 = .ok (.lcmp, 1) := by decide +kernel
theorem dL_law_1714 : decode cL_law 1714 = .ok (.ifCond .eq 5, 3) := by decide +kernel
theorem dL_law_1717 : decode cL_law 1717 = .ok (.iconst 0, 1) := by decide +kernel
theorem dL_law_1718 : decode cL_law 1718 = .ok (.ireturn, 1) := by decide +kernel
theorem dL_law_1700 : decode cL_law 1700 = .ok (.iconst 0, 1) := by decide +kernel
theorem dL_law_1701 : decode cL_law 1701 = .ok (.ireturn, 1) := by decide +kernel
set_option maxRecDepth 100000 in
set_option maxHeartbeats 4000000 in
theorem wk_law_1666 {Z : ZT} {b L : Nat} {xs : Nat → Int32} (hC : CX Z cL_law RL 10 room_1) (hX : SX Z b L xs) (hEnd : EL Z) {k0 n0 : Nat} (hk : k0 + 40 ≤ 601024) (hn : n0 + 400 ≤ 7293034) (r1 r2 r3 r4 : Option Nat) (i5 : Int32) (S0 : PH) (K : Int32 → PH → Prop) (hK : ∀ i S, K i S → PX Z 10 S (k0 + 40) (n0 + 400) 28 [(0, va_rf (some b)), (1, va_rf r1), (2, va_rf r2), (3, va_rf r3), (4, va_rf r4), (5, .int i)] []) (h : wc_law_1666 xs L r1 r2 r3 r4 i5 S0 K) : PX Z 10 S0 k0 n0 1666 [(0, va_rf (some b)), (1, va_rf r1), (2, va_rf r2), (3, va_rf r3), (4, va_rf r4), (5, .int i5)] [] := by
  refine x_wid (k' := k0 + 0) (n' := n0 + 0) (Nat.le_refl _) (Nat.le_refl _) ?_
  unfold wc_law_1666 at h
  refine x_aload_n (i := 1) hC dL_law_1666 rfl 1 rfl ?_
  refine x_aload_n (i := 0) hC dL_law_1667 rfl 0 rfl ?_
  refine x_iload (i := 5) hC dL_law_1668 5 rfl ?_
  refine x_iconst (v := (1 : Int32)) hC dL_law_1670 (by decide) ?_
  refine x_iadd hC dL_law_1671 ?_
  obtain ⟨hc1, h⟩ := h
  refine x_sld hC hX hc1 dL_law_1672 ?_
  refine x_aload_n (i := 3) hC dL_law_1673 rfl 3 rfl ?_
  obtain ⟨v2, S3, hb4, h⟩ := h
  refine x_callSX hC (st := []) (mt_L_most _ _ _ _ _ hb4) q_835 q_836 q_0 q_837 hy_L_most ⟨Nat.le_of_ble_eq_true rfl, Nat.le_of_ble_eq_true rfl⟩ ⟨(show k0 + 0 + 1 ≤ 601024 from by omega), (show n0 + 0 + 6 ≤ 7293034 from by omega)⟩ rfl (Nat.le_of_ble_eq_true rfl) dL_law_1674 (r_N ?_) r_NX
  show PX Z 10 S3 (k0 + 1) (n0 + 6) 1677 [(0, va_rf (some b)), (1, va_rf r1), (2, va_rf r2), (3, va_rf r3), (4, va_rf r4), (5, .int i5)] [.int v2]
  refine x_istore (i := 6) (l' := [(6, .int v2), (0, va_rf (some b)), (1, va_rf r1), (2, va_rf r2), (3, va_rf r3), (4, va_rf r4), (5, .int i5)]) hC dL_law_1677 (⟨fun _ => c_rf (some b), ⟨fun _ => c_rf r1, ⟨fun _ => c_rf r2, ⟨fun _ => c_rf r3, ⟨fun _ => c_rf r4, ⟨fun _ => rfl, trivial⟩⟩⟩⟩⟩⟩) (by decide) rfl ?_
  refine x_aload_n (i := 2) hC dL_law_1679 rfl 3 rfl ?_
  refine x_aload_n (i := 0) hC dL_law_1680 rfl 1 rfl ?_
  refine x_iload (i := 5) hC dL_law_1681 6 rfl ?_
  refine x_iconst (v := (1 : Int32)) hC dL_law_1683 (by decide) ?_
  refine x_iadd hC dL_law_1684 ?_
  obtain ⟨hc5, h⟩ := h
  refine x_sld hC hX hc5 dL_law_1685 ?_
  obtain ⟨a6, ea7, ha8, h⟩ := h
  obtain ⟨v9, S10, hb11, h⟩ := h
  refine x_callV hC (st := []) (mt_X5_most _ _ _ _ hb11) ea7 ha8 kf_5 q_1191 q_1192 q_1193 q_7 q_1194 ⟨rfl, hy_X5_most⟩ ⟨Nat.le_of_ble_eq_true rfl, Nat.le_of_ble_eq_true rfl⟩ ⟨(show k0 + 1 + 0 ≤ 601024 from by omega), (show n0 + 6 + 0 ≤ 7293034 from by omega)⟩ rfl (Nat.le_of_ble_eq_true rfl) dL_law_1686 (r_N ?_) r_NX
  show PX Z 10 S10 (k0 + 1) (n0 + 6) 1689 [(6, .int v2), (0, va_rf (some b)), (1, va_rf r1), (2, va_rf r2), (3, va_rf r3), (4, va_rf r4), (5, .int i5)] [.int v9]
  refine x_istore (i := 7) (l' := [(7, .int v9), (6, .int v2), (0, va_rf (some b)), (1, va_rf r1), (2, va_rf r2), (3, va_rf r3), (4, va_rf r4), (5, .int i5)]) hC dL_law_1689 (⟨fun _ => rfl, ⟨fun _ => c_rf (some b), ⟨fun _ => c_rf r1, ⟨fun _ => c_rf r2, ⟨fun _ => c_rf r3, ⟨fun _ => c_rf r4, ⟨fun _ => rfl, trivial⟩⟩⟩⟩⟩⟩⟩) (by decide) rfl ?_
  refine x_aload_n (i := 2) hC dL_law_1691 rfl 4 rfl ?_
  obtain ⟨a12, ea13, ha14, h⟩ := h
  obtain ⟨v15, S16, hb17, h⟩ := h
  refine x_callV hC (st := []) (mt_X5_thrown _ _ _ hb17) ea13 ha14 kf_5 q_904 q_905 q_906 q_7 q_907 ⟨rfl, hy_X5_thrown⟩ ⟨Nat.le_of_ble_eq_true rfl, Nat.le_of_ble_eq_true rfl⟩ ⟨(show k0 + 1 + 0 ≤ 601024 from by omega), (show n0 + 6 + 0 ≤ 7293034 from by omega)⟩ rfl (Nat.le_of_ble_eq_true rfl) dL_law_1692 (r_N ?_) r_NX
  show PX Z 10 S16 (k0 + 1) (n0 + 6) 1695 [(7, .int v9), (6, .int v2), (0, va_rf (some b)), (1, va_rf r1), (2, va_rf r2), (3, va_rf r3), (4, va_rf r4), (5, .int i5)] [.int v15]
  refine x_iload (i := 6) hC dL_law_1695 1 rfl ?_
  refine x_icmp_eq (t := 1702) hC dL_law_1697 (by decide) (fun c18 => ?_) (fun c18 => ?_)
  · replace h := wit_t c18 h
    refine x_iload (i := 6) hC dL_law_1702 1 rfl ?_
    refine x_if_ne (t := 1719) hC dL_law_1704 (by decide) (fun c19 => ?_) (fun c19 => ?_)
    · replace h := wit_f c19 h
      refine x_goto (t := 1925) hC dL_law_1719 (by decide) ?_
      refine x_iinc (i := 5) (v := (i5 + (4 : Int32))) (l' := [(5, .int (i5 + (4 : Int32))), (7, .int v9), (6, .int v2), (0, va_rf (some b)), (1, va_rf r1), (2, va_rf r2), (3, va_rf r3), (4, va_rf r4)]) hC dL_law_1925 7 rfl rfl (⟨fun _ => rfl, ⟨fun _ => rfl, ⟨fun _ => c_rf (some b), ⟨fun _ => c_rf r1, ⟨fun _ => c_rf r2, ⟨fun _ => c_rf r3, ⟨fun _ => c_rf r4, ⟨fun _ => rfl, trivial⟩⟩⟩⟩⟩⟩⟩⟩) (by decide) rfl ?_
      refine x_goto (t := 28) hC dL_law_1928 (by decide) ?_
      refine x_sub (l' := [(0, va_rf (some b)), (1, va_rf r1), (2, va_rf r2), (3, va_rf r3), (4, va_rf r4), (5, .int (i5 + (4 : Int32)))]) [3, 4, 5, 6, 7, 0] rfl ?_
      refine x_wid (k' := k0 + 40) (n' := n0 + 400) (by omega) (by omega) ?_
      exact hK _ _ h
    · replace h := wit_t c19 h
      refine x_aload_n (i := 3) hC dL_law_1707 rfl 5 rfl ?_
      refine x_iconst (v := (0 : Int32)) hC dL_law_1708 (by decide) ?_
      obtain ⟨a20, ea21, ha22, h⟩ := h
      obtain ⟨hc23, h⟩ := h
      refine x_laload hC ea21 ha22 hc23 dL_law_1709 ?_
      refine x_tJ (b := (p_J S16 a20 0)) rfl ?_
      refine x_iload (i := 7) hC dL_law_1710 0 rfl ?_
      refine x_i2l hC dL_law_1712 ?_
      refine x_lcmp hC dL_law_1713 ?_
      refine x_if_eq (t := 1719) hC dL_law_1714 (by decide) (fun c24 => ?_) (fun c24 => ?_)
      · replace h := wit_t c24 h
        refine x_goto (t := 1925) hC dL_law_1719 (by decide) ?_
        refine x_iinc (i := 5) (v := (i5 + (4 : Int32))) (l' := [(5, .int (i5 + (4 : Int32))), (7, .int v9), (6, .int v2), (0, va_rf (some b)), (1, va_rf r1), (2, va_rf r2), (3, va_rf r3), (4, va_rf r4)]) hC dL_law_1925 7 rfl rfl (⟨fun _ => rfl, ⟨fun _ => rfl, ⟨fun _ => c_rf (some b), ⟨fun _ => c_rf r1, ⟨fun _ => c_rf r2, ⟨fun _ => c_rf r3, ⟨fun _ => c_rf r4, ⟨fun _ => rfl, trivial⟩⟩⟩⟩⟩⟩⟩⟩) (by decide) rfl ?_
        refine x_goto (t := 28) hC dL_law_1928 (by decide) ?_
        refine x_sub (l' := [(0, va_rf (some b)), (1, va_rf r1), (2, va_rf r2), (3, va_rf r3), (4, va_rf r4), (5, .int (i5 + (4 : Int32)))]) [3, 4, 5, 6, 7, 0] rfl ?_
        refine x_wid (k' := k0 + 40) (n' := n0 + 400) (by omega) (by omega) ?_
        exact hK _ _ h
      · replace h := wit_f c24 h
        refine x_iconst (v := (0 : Int32)) hC dL_law_1717 (by decide) ?_
        refine x_tI (show (0 : Int32) = (1 : Int32) from h) ?_
        exact hEnd _ _ _ _ _ (by omega) (by omega) dL_law_1718
  · replace h := wit_f c18 h
    refine x_iconst (v := (0 : Int32)) hC dL_law_1700 (by decide) ?_
    refine x_tI (show (0 : Int32) = (1 : Int32) from h) ?_
    exact hEnd _ _ _ _ _ (by omega) (by omega) dL_law_1701
def wc_law_1722 (xs : Nat → Int32) (L : Nat) (r1 r2 r3 r4 : Option Nat) (i5 : Int32) (S0 : PH) (K : Int32 → PH → Prop) : Prop := wdr S0 4 r1 fun a1 => wbd (m_X4_needed r1 S0) fun v4 S5 => wdr S5 5 r2 fun a7 => wbd (m_X5_needed r2 S5) fun v10 S11 => if v4 = v10 then (K (i5 + (4 : Int32)) S11) else ((0 : Int32) = (1 : Int32))
theorem dL_law_1722 : decode cL_law 1722 = .ok (.aload_n 1, 1) := by decide +kernel
theorem dL_law_1723 : decode cL_law 1723 = .ok (.invokevirtual 197, 3) := by decide +kernel
theorem dL_law_1726 : decode cL_law 1726 = .ok (.aload_n 2, 1) := by decide +kernel
theorem dL_law_1727 : decode cL_law 1727 = .ok (.invokevirtual 200, 3) := by decide +kernel
theorem dL_law_1730 : decode cL_law 1730 = .ok (.if_icmp .eq 195, 3) := by decide +kernel
theorem dL_law_1733 : decode cL_law 1733 = .ok (.iconst 0, 1) := by decide +kernel
theorem dL_law_1734 : decode cL_law 1734 = .ok (.ireturn, 1) := by decide +kernel
set_option maxRecDepth 100000 in
set_option maxHeartbeats 4000000 in
theorem wk_law_1722 {Z : ZT} {b L : Nat} {xs : Nat → Int32} (hC : CX Z cL_law RL 10 room_1) (hX : SX Z b L xs) (hEnd : EL Z) {k0 n0 : Nat} (hk : k0 + 40 ≤ 601024) (hn : n0 + 400 ≤ 7293034) (r1 r2 r3 r4 : Option Nat) (i5 : Int32) (S0 : PH) (K : Int32 → PH → Prop) (hK : ∀ i S, K i S → PX Z 10 S (k0 + 40) (n0 + 400) 28 [(0, va_rf (some b)), (1, va_rf r1), (2, va_rf r2), (3, va_rf r3), (4, va_rf r4), (5, .int i)] []) (h : wc_law_1722 xs L r1 r2 r3 r4 i5 S0 K) : PX Z 10 S0 k0 n0 1722 [(0, va_rf (some b)), (1, va_rf r1), (2, va_rf r2), (3, va_rf r3), (4, va_rf r4), (5, .int i5)] [] := by
  refine x_wid (k' := k0 + 0) (n' := n0 + 0) (Nat.le_refl _) (Nat.le_refl _) ?_
  unfold wc_law_1722 at h
  refine x_aload_n (i := 1) hC dL_law_1722 rfl 1 rfl ?_
  obtain ⟨a1, ea2, ha3, h⟩ := h
  obtain ⟨v4, S5, hb6, h⟩ := h
  refine x_callV hC (st := []) (mt_X4_needed _ _ _ hb6) ea2 ha3 kf_4 q_219 q_220 q_221 q_1 q_222 ⟨rfl, hy_X4_needed⟩ ⟨Nat.le_of_ble_eq_true rfl, Nat.le_of_ble_eq_true rfl⟩ ⟨(show k0 + 0 + 0 ≤ 601024 from by omega), (show n0 + 0 + 0 ≤ 7293034 from by omega)⟩ rfl (Nat.le_of_ble_eq_true rfl) dL_law_1723 (r_N ?_) r_NX
  show PX Z 10 S5 (k0 + 0) (n0 + 0) 1726 [(0, va_rf (some b)), (1, va_rf r1), (2, va_rf r2), (3, va_rf r3), (4, va_rf r4), (5, .int i5)] [.int v4]
  refine x_aload_n (i := 2) hC dL_law_1726 rfl 2 rfl ?_
  obtain ⟨a7, ea8, ha9, h⟩ := h
  obtain ⟨v10, S11, hb12, h⟩ := h
  refine x_callV hC (st := [.int v4]) (mt_X5_needed _ _ _ hb12) ea8 ha9 kf_5 q_1203 q_1204 q_1205 q_7 q_1206 ⟨rfl, hy_X5_needed⟩ ⟨Nat.le_of_ble_eq_true rfl, Nat.le_of_ble_eq_true rfl⟩ ⟨(show k0 + 0 + 0 ≤ 601024 from by omega), (show n0 + 0 + 0 ≤ 7293034 from by omega)⟩ rfl (Nat.le_of_ble_eq_true rfl) dL_law_1727 (r_N ?_) r_NX
  show PX Z 10 S11 (k0 + 0) (n0 + 0) 1730 [(0, va_rf (some b)), (1, va_rf r1), (2, va_rf r2), (3, va_rf r3), (4, va_rf r4), (5, .int i5)] [.int v10, .int v4]
  refine x_icmp_eq (t := 1925) hC dL_law_1730 (by decide) (fun c13 => ?_) (fun c13 => ?_)
  · replace h := wit_t c13 h
    refine x_iinc (i := 5) (v := (i5 + (4 : Int32))) (l' := [(5, .int (i5 + (4 : Int32))), (0, va_rf (some b)), (1, va_rf r1), (2, va_rf r2), (3, va_rf r3), (4, va_rf r4)]) hC dL_law_1925 5 rfl rfl (⟨fun _ => c_rf (some b), ⟨fun _ => c_rf r1, ⟨fun _ => c_rf r2, ⟨fun _ => c_rf r3, ⟨fun _ => c_rf r4, ⟨fun _ => rfl, trivial⟩⟩⟩⟩⟩⟩) (by decide) rfl ?_
    refine x_goto (t := 28) hC dL_law_1928 (by decide) ?_
    refine x_sub (l' := [(0, va_rf (some b)), (1, va_rf r1), (2, va_rf r2), (3, va_rf r3), (4, va_rf r4), (5, .int (i5 + (4 : Int32)))]) [1, 2, 3, 4, 5, 0] rfl ?_
    refine x_wid (k' := k0 + 40) (n' := n0 + 400) (by omega) (by omega) ?_
    exact hK _ _ h
  · replace h := wit_f c13 h
    refine x_iconst (v := (0 : Int32)) hC dL_law_1733 (by decide) ?_
    refine x_tI (show (0 : Int32) = (1 : Int32) from h) ?_
    exact hEnd _ _ _ _ _ (by omega) (by omega) dL_law_1734
def wc_law_1735 (xs : Nat → Int32) (L : Nat) (r1 r2 r3 r4 : Option Nat) (i5 : Int32) (S0 : PH) (K : Int32 → PH → Prop) : Prop := wck (ix (i5 + (1 : Int32)) L) <| wbd (m_L_roundsToAgree r1 (xs (Int32.toNatClampNeg (i5 + (1 : Int32)))) r3 S0) fun v2 S3 => wck (ix (i5 + (1 : Int32)) L) <| wdr S3 5 r2 fun a6 => wbd (m_X5_roundsToAgree r2 (xs (Int32.toNatClampNeg (i5 + (1 : Int32)))) S3) fun v9 S10 => wdr S10 5 r2 fun a12 => wbd (m_X5_thrown r2 S10) fun v15 S16 => if v15 = v2 then (if v2 = 0 then (wdr S16 10 r3 fun a20 => wck (ix (0 : Int32) (p_N S16 a20)) <| if (lg_cmp (p_J S16 a20 0) (Int32.toInt64 v9)) = 0 then (K (i5 + (4 : Int32)) S16) else ((0 : Int32) = (1 : Int32))) else (K (i5 + (4 : Int32)) S16)) else ((0 : Int32) = (1 : Int32))
theorem dL_law_1735 : decode cL_law 1735 = .ok (.aload_n 1, 1) := by decide +kernel
theorem dL_law_1736 : decode cL_law 1736 = .ok (.aload_n 0, 1) := by decide +kernel
theorem dL_law_1737 : decode cL_law 1737 = .ok (.iload 5, 2) := by decide +kernel
theorem dL_law_1739 : decode cL_law 1739 = .ok (.iconst 1, 1) := by decide +kernel
theorem dL_law_1740 : decode cL_law 1740 = .ok (.iadd, 1) := by decide +kernel
theorem dL_law_1741 : decode cL_law 1741 = .ok (.iaload, 1) := by decide +kernel
theorem dL_law_1742 : decode cL_law 1742 = .ok (.aload_n 3, 1) := by decide +kernel
theorem dL_law_1743 : decode cL_law 1743 = .ok (.invokestatic 201, 3) := by decide +kernel
theorem dL_law_1746 : decode cL_law 1746 = .ok (.istore 6, 2) := by decide +kernel
theorem dL_law_1748 : decode cL_law 1748 = .ok (.aload_n 2, 1) := by decide +kernel
theorem dL_law_1749 : decode cL_law 1749 = .ok (.aload_n 0, 1) := by decide +kernel
theorem dL_law_1750 : decode cL_law 1750 = .ok (.iload 5, 2) := by decide +kernel
theorem dL_law_1752 : decode cL_law 1752 = .ok (.iconst 1, 1) := by decide +kernel
theorem dL_law_1753 : decode cL_law 1753 = .ok (.iadd, 1) := by decide +kernel
theorem dL_law_1754 : decode cL_law 1754 = .ok (.iaload, 1) := by decide +kernel
theorem dL_law_1755 : decode cL_law 1755 = .ok (.invokevirtual 203, 3) := by decide +kernel
theorem dL_law_1758 : decode cL_law 1758 = .ok (.istore 7, 2) := by decide +kernel
theorem dL_law_1760 : decode cL_law 1760 = .ok (.aload_n 2, 1) := by decide +kernel
theorem dL_law_1761 : decode cL_law 1761 = .ok (.invokevirtual 111, 3) := by decide +kernel
theorem dL_law_1764 : decode cL_law 1764 = .ok (.iload 6, 2) := by decide +kernel
theorem dL_law_1766 : decode cL_law 1766 = .ok (.if_icmp .eq 5, 3) := by decide +kernel
theorem dL_law_1771 : decode cL_law 1771 = .ok (.iload 6, 2) := by decide +kernel
theorem dL_law_1773 : decode cL_law 1773 = .ok (.ifCond .ne 15, 3) := by decide +kernel
theorem dL_law_1788 : decode cL_law 1788 = .ok (.goto 137, 3) := by decide +kernel
theorem dL_law_1776 : decode cL_law 1776 = .ok (.aload_n 3, 1) := by decide +kernel
theorem dL_law_1777 : decode cL_law 1777 = .ok (.iconst 0, 1) := by decide +kernel
theorem dL_law_1778 : decode cL_law 1778 = .ok (.laload, 1) := by decide +kernel
theorem dL_law_1779 : decode cL_law 1779 = .ok (.iload 7, 2) := by decide +kernel
theorem dL_law_1781 : decode cL_law 1781 = .ok (.i2l, 1) := by decide +kernel
theorem dL_law_1782 : decode cL_law 1782 = .ok (.lcmp, 1) := by decide +kernel
theorem dL_law_1783 : decode cL_law 1783 = .ok (.ifCond .eq 5, 3) := by decide +kernel
theorem dL_law_1786 : decode cL_law 1786 = .ok (.iconst 0, 1) := by decide +kernel
theorem dL_law_1787 : decode cL_law 1787 = .ok (.ireturn, 1) := by decide +kernel
theorem dL_law_1769 : decode cL_law 1769 = .ok (.iconst 0, 1) := by decide +kernel
theorem dL_law_1770 : decode cL_law 1770 = .ok (.ireturn, 1) := by decide +kernel
set_option maxRecDepth 100000 in
set_option maxHeartbeats 4000000 in
theorem wk_law_1735 {Z : ZT} {b L : Nat} {xs : Nat → Int32} (hC : CX Z cL_law RL 10 room_1) (hX : SX Z b L xs) (hEnd : EL Z) {k0 n0 : Nat} (hk : k0 + 40 ≤ 601024) (hn : n0 + 400 ≤ 7293034) (r1 r2 r3 r4 : Option Nat) (i5 : Int32) (S0 : PH) (K : Int32 → PH → Prop) (hK : ∀ i S, K i S → PX Z 10 S (k0 + 40) (n0 + 400) 28 [(0, va_rf (some b)), (1, va_rf r1), (2, va_rf r2), (3, va_rf r3), (4, va_rf r4), (5, .int i)] []) (h : wc_law_1735 xs L r1 r2 r3 r4 i5 S0 K) : PX Z 10 S0 k0 n0 1735 [(0, va_rf (some b)), (1, va_rf r1), (2, va_rf r2), (3, va_rf r3), (4, va_rf r4), (5, .int i5)] [] := by
  refine x_wid (k' := k0 + 0) (n' := n0 + 0) (Nat.le_refl _) (Nat.le_refl _) ?_
  unfold wc_law_1735 at h
  refine x_aload_n (i := 1) hC dL_law_1735 rfl 1 rfl ?_
  refine x_aload_n (i := 0) hC dL_law_1736 rfl 0 rfl ?_
  refine x_iload (i := 5) hC dL_law_1737 5 rfl ?_
  refine x_iconst (v := (1 : Int32)) hC dL_law_1739 (by decide) ?_
  refine x_iadd hC dL_law_1740 ?_
  obtain ⟨hc1, h⟩ := h
  refine x_sld hC hX hc1 dL_law_1741 ?_
  refine x_aload_n (i := 3) hC dL_law_1742 rfl 3 rfl ?_
  obtain ⟨v2, S3, hb4, h⟩ := h
  refine x_callSX hC (st := []) (mt_L_roundsToAgree _ _ _ _ _ hb4) q_843 q_844 q_0 q_845 hy_L_roundsToAgree ⟨Nat.le_of_ble_eq_true rfl, Nat.le_of_ble_eq_true rfl⟩ ⟨(show k0 + 0 + 1 ≤ 601024 from by omega), (show n0 + 0 + 6 ≤ 7293034 from by omega)⟩ rfl (Nat.le_of_ble_eq_true rfl) dL_law_1743 (r_N ?_) r_NX
  show PX Z 10 S3 (k0 + 1) (n0 + 6) 1746 [(0, va_rf (some b)), (1, va_rf r1), (2, va_rf r2), (3, va_rf r3), (4, va_rf r4), (5, .int i5)] [.int v2]
  refine x_istore (i := 6) (l' := [(6, .int v2), (0, va_rf (some b)), (1, va_rf r1), (2, va_rf r2), (3, va_rf r3), (4, va_rf r4), (5, .int i5)]) hC dL_law_1746 (⟨fun _ => c_rf (some b), ⟨fun _ => c_rf r1, ⟨fun _ => c_rf r2, ⟨fun _ => c_rf r3, ⟨fun _ => c_rf r4, ⟨fun _ => rfl, trivial⟩⟩⟩⟩⟩⟩) (by decide) rfl ?_
  refine x_aload_n (i := 2) hC dL_law_1748 rfl 3 rfl ?_
  refine x_aload_n (i := 0) hC dL_law_1749 rfl 1 rfl ?_
  refine x_iload (i := 5) hC dL_law_1750 6 rfl ?_
  refine x_iconst (v := (1 : Int32)) hC dL_law_1752 (by decide) ?_
  refine x_iadd hC dL_law_1753 ?_
  obtain ⟨hc5, h⟩ := h
  refine x_sld hC hX hc5 dL_law_1754 ?_
  obtain ⟨a6, ea7, ha8, h⟩ := h
  obtain ⟨v9, S10, hb11, h⟩ := h
  refine x_callV hC (st := []) (mt_X5_roundsToAgree _ _ _ _ hb11) ea7 ha8 kf_5 q_1211 q_1212 q_1213 q_7 q_1214 ⟨rfl, hy_X5_roundsToAgree⟩ ⟨Nat.le_of_ble_eq_true rfl, Nat.le_of_ble_eq_true rfl⟩ ⟨(show k0 + 1 + 0 ≤ 601024 from by omega), (show n0 + 6 + 0 ≤ 7293034 from by omega)⟩ rfl (Nat.le_of_ble_eq_true rfl) dL_law_1755 (r_N ?_) r_NX
  show PX Z 10 S10 (k0 + 1) (n0 + 6) 1758 [(6, .int v2), (0, va_rf (some b)), (1, va_rf r1), (2, va_rf r2), (3, va_rf r3), (4, va_rf r4), (5, .int i5)] [.int v9]
  refine x_istore (i := 7) (l' := [(7, .int v9), (6, .int v2), (0, va_rf (some b)), (1, va_rf r1), (2, va_rf r2), (3, va_rf r3), (4, va_rf r4), (5, .int i5)]) hC dL_law_1758 (⟨fun _ => rfl, ⟨fun _ => c_rf (some b), ⟨fun _ => c_rf r1, ⟨fun _ => c_rf r2, ⟨fun _ => c_rf r3, ⟨fun _ => c_rf r4, ⟨fun _ => rfl, trivial⟩⟩⟩⟩⟩⟩⟩) (by decide) rfl ?_
  refine x_aload_n (i := 2) hC dL_law_1760 rfl 4 rfl ?_
  obtain ⟨a12, ea13, ha14, h⟩ := h
  obtain ⟨v15, S16, hb17, h⟩ := h
  refine x_callV hC (st := []) (mt_X5_thrown _ _ _ hb17) ea13 ha14 kf_5 q_904 q_905 q_906 q_7 q_907 ⟨rfl, hy_X5_thrown⟩ ⟨Nat.le_of_ble_eq_true rfl, Nat.le_of_ble_eq_true rfl⟩ ⟨(show k0 + 1 + 0 ≤ 601024 from by omega), (show n0 + 6 + 0 ≤ 7293034 from by omega)⟩ rfl (Nat.le_of_ble_eq_true rfl) dL_law_1761 (r_N ?_) r_NX
  show PX Z 10 S16 (k0 + 1) (n0 + 6) 1764 [(7, .int v9), (6, .int v2), (0, va_rf (some b)), (1, va_rf r1), (2, va_rf r2), (3, va_rf r3), (4, va_rf r4), (5, .int i5)] [.int v15]
  refine x_iload (i := 6) hC dL_law_1764 1 rfl ?_
  refine x_icmp_eq (t := 1771) hC dL_law_1766 (by decide) (fun c18 => ?_) (fun c18 => ?_)
  · replace h := wit_t c18 h
    refine x_iload (i := 6) hC dL_law_1771 1 rfl ?_
    refine x_if_ne (t := 1788) hC dL_law_1773 (by decide) (fun c19 => ?_) (fun c19 => ?_)
    · replace h := wit_f c19 h
      refine x_goto (t := 1925) hC dL_law_1788 (by decide) ?_
      refine x_iinc (i := 5) (v := (i5 + (4 : Int32))) (l' := [(5, .int (i5 + (4 : Int32))), (7, .int v9), (6, .int v2), (0, va_rf (some b)), (1, va_rf r1), (2, va_rf r2), (3, va_rf r3), (4, va_rf r4)]) hC dL_law_1925 7 rfl rfl (⟨fun _ => rfl, ⟨fun _ => rfl, ⟨fun _ => c_rf (some b), ⟨fun _ => c_rf r1, ⟨fun _ => c_rf r2, ⟨fun _ => c_rf r3, ⟨fun _ => c_rf r4, ⟨fun _ => rfl, trivial⟩⟩⟩⟩⟩⟩⟩⟩) (by decide) rfl ?_
      refine x_goto (t := 28) hC dL_law_1928 (by decide) ?_
      refine x_sub (l' := [(0, va_rf (some b)), (1, va_rf r1), (2, va_rf r2), (3, va_rf r3), (4, va_rf r4), (5, .int (i5 + (4 : Int32)))]) [3, 4, 5, 6, 7, 0] rfl ?_
      refine x_wid (k' := k0 + 40) (n' := n0 + 400) (by omega) (by omega) ?_
      exact hK _ _ h
    · replace h := wit_t c19 h
      refine x_aload_n (i := 3) hC dL_law_1776 rfl 5 rfl ?_
      refine x_iconst (v := (0 : Int32)) hC dL_law_1777 (by decide) ?_
      obtain ⟨a20, ea21, ha22, h⟩ := h
      obtain ⟨hc23, h⟩ := h
      refine x_laload hC ea21 ha22 hc23 dL_law_1778 ?_
      refine x_tJ (b := (p_J S16 a20 0)) rfl ?_
      refine x_iload (i := 7) hC dL_law_1779 0 rfl ?_
      refine x_i2l hC dL_law_1781 ?_
      refine x_lcmp hC dL_law_1782 ?_
      refine x_if_eq (t := 1788) hC dL_law_1783 (by decide) (fun c24 => ?_) (fun c24 => ?_)
      · replace h := wit_t c24 h
        refine x_goto (t := 1925) hC dL_law_1788 (by decide) ?_
        refine x_iinc (i := 5) (v := (i5 + (4 : Int32))) (l' := [(5, .int (i5 + (4 : Int32))), (7, .int v9), (6, .int v2), (0, va_rf (some b)), (1, va_rf r1), (2, va_rf r2), (3, va_rf r3), (4, va_rf r4)]) hC dL_law_1925 7 rfl rfl (⟨fun _ => rfl, ⟨fun _ => rfl, ⟨fun _ => c_rf (some b), ⟨fun _ => c_rf r1, ⟨fun _ => c_rf r2, ⟨fun _ => c_rf r3, ⟨fun _ => c_rf r4, ⟨fun _ => rfl, trivial⟩⟩⟩⟩⟩⟩⟩⟩) (by decide) rfl ?_
        refine x_goto (t := 28) hC dL_law_1928 (by decide) ?_
        refine x_sub (l' := [(0, va_rf (some b)), (1, va_rf r1), (2, va_rf r2), (3, va_rf r3), (4, va_rf r4), (5, .int (i5 + (4 : Int32)))]) [3, 4, 5, 6, 7, 0] rfl ?_
        refine x_wid (k' := k0 + 40) (n' := n0 + 400) (by omega) (by omega) ?_
        exact hK _ _ h
      · replace h := wit_f c24 h
        refine x_iconst (v := (0 : Int32)) hC dL_law_1786 (by decide) ?_
        refine x_tI (show (0 : Int32) = (1 : Int32) from h) ?_
        exact hEnd _ _ _ _ _ (by omega) (by omega) dL_law_1787
  · replace h := wit_f c18 h
    refine x_iconst (v := (0 : Int32)) hC dL_law_1769 (by decide) ?_
    refine x_tI (show (0 : Int32) = (1 : Int32) from h) ?_
    exact hEnd _ _ _ _ _ (by omega) (by omega) dL_law_1770
def wc_law_1791 (xs : Nat → Int32) (L : Nat) (r1 r2 r3 r4 : Option Nat) (i5 : Int32) (S0 : PH) (K : Int32 → PH → Prop) : Prop := wck (ix (i5 + (1 : Int32)) L) <| wbd (m_L_meanScore r1 (xs (Int32.toNatClampNeg (i5 + (1 : Int32)))) r4 S0) fun v2 S3 => wck (ix (i5 + (1 : Int32)) L) <| wdr S3 5 r2 fun a6 => wbd (m_X5_meanScore r2 (xs (Int32.toNatClampNeg (i5 + (1 : Int32)))) S3) fun v9 S10 => wdr S10 5 r2 fun a12 => wbd (m_X5_thrown r2 S10) fun v15 S16 => if v15 = v2 then (if v2 = 0 then (wdr S16 11 r4 fun a20 => wck (ix (0 : Int32) (p_N S16 a20)) <| if (Op.cmpValue (FP.dcmp (p_E S16 a20 0) v9) .l) = 0 then (K (i5 + (4 : Int32)) S16) else (wck (ix (0 : Int32) (p_N S16 a20)) <| wck (ix (0 : Int32) (p_N S16 a20)) <| if (Op.cmpValue (FP.dcmp (p_E S16 a20 0) (p_E S16 a20 0)) .l) = 0 then ((0 : Int32) = (1 : Int32)) else (if (Op.cmpValue (FP.dcmp v9 v9) .l) = 0 then ((0 : Int32) = (1 : Int32)) else (K (i5 + (4 : Int32)) S16)))) else (K (i5 + (4 : Int32)) S16)) else ((0 : Int32) = (1 : Int32))
theorem dL_law_1791 : decode cL_law 1791 = .ok (.aload_n 1, 1) := by decide +kernel
theorem dL_law_1792 : decode cL_law 1792 = .ok (.aload_n 0, 1) := by decide +kernel
theorem dL_law_1793 : decode cL_law 1793 = .ok (.iload 5, 2) := by decide +kernel
theorem dL_law_1795 : decode cL_law 1795 = .ok (.iconst 1, 1) := by decide +kernel
theorem dL_law_1796 : decode cL_law 1796 = .ok (.iadd, 1) := by decide +kernel
theorem dL_law_1797 : decode cL_law 1797 = .ok (.iaload, 1) := by decide +kernel
theorem dL_law_1798 : decode cL_law 1798 = .ok (.aload 4, 2) := by decide +kernel
theorem dL_law_1800 : decode cL_law 1800 = .ok (.invokestatic 204, 3) := by decide +kernel
theorem dL_law_1803 : decode cL_law 1803 = .ok (.istore 6, 2) := by decide +kernel
theorem dL_law_1805 : decode cL_law 1805 = .ok (.aload_n 2, 1) := by decide +kernel
theorem dL_law_1806 : decode cL_law 1806 = .ok (.aload_n 0, 1) := by decide +kernel
theorem dL_law_1807 : decode cL_law 1807 = .ok (.iload 5, 2) := by decide +kernel
theorem dL_law_1809 : decode cL_law 1809 = .ok (.iconst 1, 1) := by decide +kernel
theorem dL_law_1810 : decode cL_law 1810 = .ok (.iadd, 1) := by decide +kernel
theorem dL_law_1811 : decode cL_law 1811 = .ok (.iaload, 1) := by decide +kernel
theorem dL_law_1812 : decode cL_law 1812 = .ok (.invokevirtual 207, 3) := by decide +kernel
theorem dL_law_1815 : decode cL_law 1815 = .ok (.dstore 7, 2) := by decide +kernel
theorem dL_law_1817 : decode cL_law 1817 = .ok (.aload_n 2, 1) := by decide +kernel
theorem dL_law_1818 : decode cL_law 1818 = .ok (.invokevirtual 111, 3) := by decide +kernel
theorem dL_law_1821 : decode cL_law 1821 = .ok (.iload 6, 2) := by decide +kernel
theorem dL_law_1823 : decode cL_law 1823 = .ok (.if_icmp .eq 5, 3) := by decide +kernel
theorem dL_law_1828 : decode cL_law 1828 = .ok (.iload 6, 2) := by decide +kernel
theorem dL_law_1830 : decode cL_law 1830 = .ok (.ifCond .ne 35, 3) := by decide +kernel
theorem dL_law_1865 : decode cL_law 1865 = .ok (.goto 60, 3) := by decide +kernel
theorem dL_law_1833 : decode cL_law 1833 = .ok (.aload 4, 2) := by decide +kernel
theorem dL_law_1835 : decode cL_law 1835 = .ok (.iconst 0, 1) := by decide +kernel
theorem dL_law_1836 : decode cL_law 1836 = .ok (.daload, 1) := by decide +kernel
theorem dL_law_1837 : decode cL_law 1837 = .ok (.dload 7, 2) := by decide +kernel
theorem dL_law_1839 : decode cL_law 1839 = .ok (.dcmp .l, 1) := by decide +kernel
theorem dL_law_1840 : decode cL_law 1840 = .ok (.ifCond .eq 25, 3) := by decide +kernel
theorem dL_law_1843 : decode cL_law 1843 = .ok (.aload 4, 2) := by decide +kernel
theorem dL_law_1845 : decode cL_law 1845 = .ok (.iconst 0, 1) := by decide +kernel
theorem dL_law_1846 : decode cL_law 1846 = .ok (.daload, 1) := by decide +kernel
theorem dL_law_1847 : decode cL_law 1847 = .ok (.aload 4, 2) := by decide +kernel
theorem dL_law_1849 : decode cL_law 1849 = .ok (.iconst 0, 1) := by decide +kernel
theorem dL_law_1850 : decode cL_law 1850 = .ok (.daload, 1) := by decide +kernel
theorem dL_law_1851 : decode cL_law 1851 = .ok (.dcmp .l, 1) := by decide +kernel
theorem dL_law_1852 : decode cL_law 1852 = .ok (.ifCond .eq 11, 3) := by decide +kernel
theorem dL_law_1863 : decode cL_law 1863 = .ok (.iconst 0, 1) := by decide +kernel
theorem dL_law_1864 : decode cL_law 1864 = .ok (.ireturn, 1) := by decide +kernel
theorem dL_law_1855 : decode cL_law 1855 = .ok (.dload 7, 2) := by decide +kernel
theorem dL_law_1857 : decode cL_law 1857 = .ok (.dload 7, 2) := by decide +kernel
theorem dL_law_1859 : decode cL_law 1859 = .ok (.dcmp .l, 1) := by decide +kernel
theorem dL_law_1860 : decode cL_law 1860 = .ok (.ifCond .ne 5, 3) := by decide +kernel
theorem dL_law_1826 : decode cL_law 1826 = .ok (.iconst 0, 1) := by decide +kernel
theorem dL_law_1827 : decode cL_law 1827 = .ok (.ireturn, 1) := by decide +kernel
set_option maxRecDepth 100000 in
set_option maxHeartbeats 4000000 in
theorem wk_law_1791 {Z : ZT} {b L : Nat} {xs : Nat → Int32} (hC : CX Z cL_law RL 10 room_1) (hX : SX Z b L xs) (hEnd : EL Z) {k0 n0 : Nat} (hk : k0 + 40 ≤ 601024) (hn : n0 + 400 ≤ 7293034) (r1 r2 r3 r4 : Option Nat) (i5 : Int32) (S0 : PH) (K : Int32 → PH → Prop) (hK : ∀ i S, K i S → PX Z 10 S (k0 + 40) (n0 + 400) 28 [(0, va_rf (some b)), (1, va_rf r1), (2, va_rf r2), (3, va_rf r3), (4, va_rf r4), (5, .int i)] []) (h : wc_law_1791 xs L r1 r2 r3 r4 i5 S0 K) : PX Z 10 S0 k0 n0 1791 [(0, va_rf (some b)), (1, va_rf r1), (2, va_rf r2), (3, va_rf r3), (4, va_rf r4), (5, .int i5)] [] := by
  refine x_wid (k' := k0 + 0) (n' := n0 + 0) (Nat.le_refl _) (Nat.le_refl _) ?_
  unfold wc_law_1791 at h
  refine x_aload_n (i := 1) hC dL_law_1791 rfl 1 rfl ?_
  refine x_aload_n (i := 0) hC dL_law_1792 rfl 0 rfl ?_
  refine x_iload (i := 5) hC dL_law_1793 5 rfl ?_
  refine x_iconst (v := (1 : Int32)) hC dL_law_1795 (by decide) ?_
  refine x_iadd hC dL_law_1796 ?_
  obtain ⟨hc1, h⟩ := h
  refine x_sld hC hX hc1 dL_law_1797 ?_
  refine x_aload (i := 4) hC dL_law_1798 4 rfl ?_
  obtain ⟨v2, S3, hb4, h⟩ := h
  refine x_callSX hC (st := []) (mt_L_meanScore _ _ _ _ _ hb4) q_850 q_851 q_0 q_852 hy_L_meanScore ⟨Nat.le_of_ble_eq_true rfl, Nat.le_of_ble_eq_true rfl⟩ ⟨(show k0 + 0 + 1 ≤ 601024 from by omega), (show n0 + 0 + 6 ≤ 7293034 from by omega)⟩ rfl (Nat.le_of_ble_eq_true rfl) dL_law_1800 (r_N ?_) r_NX
  show PX Z 10 S3 (k0 + 1) (n0 + 6) 1803 [(0, va_rf (some b)), (1, va_rf r1), (2, va_rf r2), (3, va_rf r3), (4, va_rf r4), (5, .int i5)] [.int v2]
  refine x_istore (i := 6) (l' := [(6, .int v2), (0, va_rf (some b)), (1, va_rf r1), (2, va_rf r2), (3, va_rf r3), (4, va_rf r4), (5, .int i5)]) hC dL_law_1803 (⟨fun _ => c_rf (some b), ⟨fun _ => c_rf r1, ⟨fun _ => c_rf r2, ⟨fun _ => c_rf r3, ⟨fun _ => c_rf r4, ⟨fun _ => rfl, trivial⟩⟩⟩⟩⟩⟩) (by decide) rfl ?_
  refine x_aload_n (i := 2) hC dL_law_1805 rfl 3 rfl ?_
  refine x_aload_n (i := 0) hC dL_law_1806 rfl 1 rfl ?_
  refine x_iload (i := 5) hC dL_law_1807 6 rfl ?_
  refine x_iconst (v := (1 : Int32)) hC dL_law_1809 (by decide) ?_
  refine x_iadd hC dL_law_1810 ?_
  obtain ⟨hc5, h⟩ := h
  refine x_sld hC hX hc5 dL_law_1811 ?_
  obtain ⟨a6, ea7, ha8, h⟩ := h
  obtain ⟨v9, S10, hb11, h⟩ := h
  refine x_callV hC (st := []) (mt_X5_meanScore _ _ _ _ hb11) ea7 ha8 kf_5 q_1223 q_1224 q_1225 q_7 q_1226 ⟨rfl, hy_X5_meanScore⟩ ⟨Nat.le_of_ble_eq_true rfl, Nat.le_of_ble_eq_true rfl⟩ ⟨(show k0 + 1 + 0 ≤ 601024 from by omega), (show n0 + 6 + 0 ≤ 7293034 from by omega)⟩ rfl (Nat.le_of_ble_eq_true rfl) dL_law_1812 (r_N ?_) r_NX
  show PX Z 10 S10 (k0 + 1) (n0 + 6) 1815 [(6, .int v2), (0, va_rf (some b)), (1, va_rf r1), (2, va_rf r2), (3, va_rf r3), (4, va_rf r4), (5, .int i5)] [.double v9]
  refine x_dstore (i := 7) (l' := [(7, .double v9), (6, .int v2), (0, va_rf (some b)), (1, va_rf r1), (2, va_rf r2), (3, va_rf r3), (4, va_rf r4), (5, .int i5)]) hC dL_law_1815 (⟨fun _ => rfl, ⟨fun _ => c_rf (some b), ⟨fun _ => c_rf r1, ⟨fun _ => c_rf r2, ⟨fun _ => c_rf r3, ⟨fun _ => c_rf r4, ⟨fun _ => rfl, trivial⟩⟩⟩⟩⟩⟩⟩) (by decide) rfl ?_
  refine x_aload_n (i := 2) hC dL_law_1817 rfl 4 rfl ?_
  obtain ⟨a12, ea13, ha14, h⟩ := h
  obtain ⟨v15, S16, hb17, h⟩ := h
  refine x_callV hC (st := []) (mt_X5_thrown _ _ _ hb17) ea13 ha14 kf_5 q_904 q_905 q_906 q_7 q_907 ⟨rfl, hy_X5_thrown⟩ ⟨Nat.le_of_ble_eq_true rfl, Nat.le_of_ble_eq_true rfl⟩ ⟨(show k0 + 1 + 0 ≤ 601024 from by omega), (show n0 + 6 + 0 ≤ 7293034 from by omega)⟩ rfl (Nat.le_of_ble_eq_true rfl) dL_law_1818 (r_N ?_) r_NX
  show PX Z 10 S16 (k0 + 1) (n0 + 6) 1821 [(7, .double v9), (6, .int v2), (0, va_rf (some b)), (1, va_rf r1), (2, va_rf r2), (3, va_rf r3), (4, va_rf r4), (5, .int i5)] [.int v15]
  refine x_iload (i := 6) hC dL_law_1821 1 rfl ?_
  refine x_icmp_eq (t := 1828) hC dL_law_1823 (by decide) (fun c18 => ?_) (fun c18 => ?_)
  · replace h := wit_t c18 h
    refine x_iload (i := 6) hC dL_law_1828 1 rfl ?_
    refine x_if_ne (t := 1865) hC dL_law_1830 (by decide) (fun c19 => ?_) (fun c19 => ?_)
    · replace h := wit_f c19 h
      refine x_goto (t := 1925) hC dL_law_1865 (by decide) ?_
      refine x_iinc (i := 5) (v := (i5 + (4 : Int32))) (l' := [(5, .int (i5 + (4 : Int32))), (7, .double v9), (6, .int v2), (0, va_rf (some b)), (1, va_rf r1), (2, va_rf r2), (3, va_rf r3), (4, va_rf r4)]) hC dL_law_1925 7 rfl rfl (⟨fun q => absurd (show (7 : Nat) + 1 = 5 from q) (by decide), ⟨fun _ => rfl, ⟨fun _ => c_rf (some b), ⟨fun _ => c_rf r1, ⟨fun _ => c_rf r2, ⟨fun _ => c_rf r3, ⟨fun _ => c_rf r4, ⟨fun _ => rfl, trivial⟩⟩⟩⟩⟩⟩⟩⟩) (by decide) rfl ?_
      refine x_goto (t := 28) hC dL_law_1928 (by decide) ?_
      refine x_sub (l' := [(0, va_rf (some b)), (1, va_rf r1), (2, va_rf r2), (3, va_rf r3), (4, va_rf r4), (5, .int (i5 + (4 : Int32)))]) [3, 4, 5, 6, 7, 0] rfl ?_
      refine x_wid (k' := k0 + 40) (n' := n0 + 400) (by omega) (by omega) ?_
      exact hK _ _ h
    · replace h := wit_t c19 h
      refine x_aload (i := 4) hC dL_law_1833 6 rfl ?_
      refine x_iconst (v := (0 : Int32)) hC dL_law_1835 (by decide) ?_
      obtain ⟨a20, ea21, ha22, h⟩ := h
      obtain ⟨hc23, h⟩ := h
      refine x_daload hC ea21 ha22 hc23 dL_law_1836 ?_
      refine x_tD (b := (p_E S16 a20 0)) rfl ?_
      refine x_dload (i := 7) hC dL_law_1837 0 rfl ?_
      refine x_dcmp hC dL_law_1839 ?_
      refine x_if_eq (t := 1865) hC dL_law_1840 (by decide) (fun c24 => ?_) (fun c24 => ?_)
      · replace h := wit_t c24 h
        refine x_goto (t := 1925) hC dL_law_1865 (by decide) ?_
        refine x_iinc (i := 5) (v := (i5 + (4 : Int32))) (l' := [(5, .int (i5 + (4 : Int32))), (7, .double v9), (6, .int v2), (0, va_rf (some b)), (1, va_rf r1), (2, va_rf r2), (3, va_rf r3), (4, va_rf r4)]) hC dL_law_1925 7 rfl rfl (⟨fun q => absurd (show (7 : Nat) + 1 = 5 from q) (by decide), ⟨fun _ => rfl, ⟨fun _ => c_rf (some b), ⟨fun _ => c_rf r1, ⟨fun _ => c_rf r2, ⟨fun _ => c_rf r3, ⟨fun _ => c_rf r4, ⟨fun _ => rfl, trivial⟩⟩⟩⟩⟩⟩⟩⟩) (by decide) rfl ?_
        refine x_goto (t := 28) hC dL_law_1928 (by decide) ?_
        refine x_sub (l' := [(0, va_rf (some b)), (1, va_rf r1), (2, va_rf r2), (3, va_rf r3), (4, va_rf r4), (5, .int (i5 + (4 : Int32)))]) [3, 4, 5, 6, 7, 0] rfl ?_
        refine x_wid (k' := k0 + 40) (n' := n0 + 400) (by omega) (by omega) ?_
        exact hK _ _ h
      · replace h := wit_f c24 h
        refine x_aload (i := 4) hC dL_law_1843 6 rfl ?_
        refine x_iconst (v := (0 : Int32)) hC dL_law_1845 (by decide) ?_
        obtain ⟨hc25, h⟩ := h
        refine x_daload hC ea21 ha22 hc25 dL_law_1846 ?_
        refine x_tD (b := (p_E S16 a20 0)) rfl ?_
        refine x_aload (i := 4) hC dL_law_1847 6 rfl ?_
        refine x_iconst (v := (0 : Int32)) hC dL_law_1849 (by decide) ?_
        obtain ⟨hc26, h⟩ := h
        refine x_daload hC ea21 ha22 hc26 dL_law_1850 ?_
        refine x_tD (b := (p_E S16 a20 0)) rfl ?_
        refine x_dcmp hC dL_law_1851 ?_
        refine x_if_eq (t := 1863) hC dL_law_1852 (by decide) (fun c27 => ?_) (fun c27 => ?_)
        · replace h := wit_t c27 h
          refine x_iconst (v := (0 : Int32)) hC dL_law_1863 (by decide) ?_
          refine x_tI (show (0 : Int32) = (1 : Int32) from h) ?_
          exact hEnd _ _ _ _ _ (by omega) (by omega) dL_law_1864
        · replace h := wit_f c27 h
          refine x_dload (i := 7) hC dL_law_1855 0 rfl ?_
          refine x_dload (i := 7) hC dL_law_1857 0 rfl ?_
          refine x_dcmp hC dL_law_1859 ?_
          refine x_if_ne (t := 1865) hC dL_law_1860 (by decide) (fun c28 => ?_) (fun c28 => ?_)
          · replace h := wit_f c28 h
            refine x_goto (t := 1925) hC dL_law_1865 (by decide) ?_
            refine x_iinc (i := 5) (v := (i5 + (4 : Int32))) (l' := [(5, .int (i5 + (4 : Int32))), (7, .double v9), (6, .int v2), (0, va_rf (some b)), (1, va_rf r1), (2, va_rf r2), (3, va_rf r3), (4, va_rf r4)]) hC dL_law_1925 7 rfl rfl (⟨fun q => absurd (show (7 : Nat) + 1 = 5 from q) (by decide), ⟨fun _ => rfl, ⟨fun _ => c_rf (some b), ⟨fun _ => c_rf r1, ⟨fun _ => c_rf r2, ⟨fun _ => c_rf r3, ⟨fun _ => c_rf r4, ⟨fun _ => rfl, trivial⟩⟩⟩⟩⟩⟩⟩⟩) (by decide) rfl ?_
            refine x_goto (t := 28) hC dL_law_1928 (by decide) ?_
            refine x_sub (l' := [(0, va_rf (some b)), (1, va_rf r1), (2, va_rf r2), (3, va_rf r3), (4, va_rf r4), (5, .int (i5 + (4 : Int32)))]) [3, 4, 5, 6, 7, 0] rfl ?_
            refine x_wid (k' := k0 + 40) (n' := n0 + 400) (by omega) (by omega) ?_
            exact hK _ _ h
          · replace h := wit_t c28 h
            refine x_iconst (v := (0 : Int32)) hC dL_law_1863 (by decide) ?_
            refine x_tI (show (0 : Int32) = (1 : Int32) from h) ?_
            exact hEnd _ _ _ _ _ (by omega) (by omega) dL_law_1864
  · replace h := wit_f c18 h
    refine x_iconst (v := (0 : Int32)) hC dL_law_1826 (by decide) ?_
    refine x_tI (show (0 : Int32) = (1 : Int32) from h) ?_
    exact hEnd _ _ _ _ _ (by omega) (by omega) dL_law_1827
def wc_law_1868 (xs : Nat → Int32) (L : Nat) (r1 r2 r3 r4 : Option Nat) (i5 : Int32) (S0 : PH) (K : Int32 → PH → Prop) : Prop := wdr S0 4 r1 fun a1 => wbd (m_X4_spentShare r1 S0) fun v4 S5 => wck (nn64 (FP.f2d v4)) <| wle (FP.f2d v4) fun x8 => wdr S5 5 r2 fun a10 => wbd (m_X5_spentShare r2 S5) fun v13 S14 => wck (nn64 (FP.f2d v13)) <| wle (FP.f2d v13) fun x17 => if (Op.cmpValue (FP.dcmp x8 x17) .l) = 0 then (K (i5 + (4 : Int32)) S14) else (if (Op.cmpValue (FP.dcmp x8 x8) .l) = 0 then ((0 : Int32) = (1 : Int32)) else (if (Op.cmpValue (FP.dcmp x17 x17) .l) = 0 then ((0 : Int32) = (1 : Int32)) else (K (i5 + (4 : Int32)) S14)))
theorem dL_law_1868 : decode cL_law 1868 = .ok (.aload_n 1, 1) := by decide +kernel
theorem dL_law_1869 : decode cL_law 1869 = .ok (.invokevirtual 208, 3) := by decide +kernel
theorem dL_law_1872 : decode cL_law 1872 = .ok (.f2d, 1) := by decide +kernel
theorem dL_law_1873 : decode cL_law 1873 = .ok (.dstore 6, 2) := by decide +kernel
theorem dL_law_1875 : decode cL_law 1875 = .ok (.aload_n 2, 1) := by decide +kernel
theorem dL_law_1876 : decode cL_law 1876 = .ok (.invokevirtual 212, 3) := by decide +kernel
theorem dL_law_1879 : decode cL_law 1879 = .ok (.f2d, 1) := by decide +kernel
theorem dL_law_1880 : decode cL_law 1880 = .ok (.dstore 8, 2) := by decide +kernel
theorem dL_law_1882 : decode cL_law 1882 = .ok (.dload 6, 2) := by decide +kernel
theorem dL_law_1884 : decode cL_law 1884 = .ok (.dload 8, 2) := by decide +kernel
theorem dL_law_1886 : decode cL_law 1886 = .ok (.dcmp .l, 1) := by decide +kernel
theorem dL_law_1887 : decode cL_law 1887 = .ok (.ifCond .eq 21, 3) := by decide +kernel
theorem dL_law_1908 : decode cL_law 1908 = .ok (.goto 17, 3) := by decide +kernel
theorem dL_law_1890 : decode cL_law 1890 = .ok (.dload 6, 2) := by decide +kernel
theorem dL_law_1892 : decode cL_law 1892 = .ok (.dload 6, 2) := by decide +kernel
theorem dL_law_1894 : decode cL_law 1894 = .ok (.dcmp .l, 1) := by decide +kernel
theorem dL_law_1895 : decode cL_law 1895 = .ok (.ifCond .eq 11, 3) := by decide +kernel
theorem dL_law_1906 : decode cL_law 1906 = .ok (.iconst 0, 1) := by decide +kernel
theorem dL_law_1907 : decode cL_law 1907 = .ok (.ireturn, 1) := by decide +kernel
theorem dL_law_1898 : decode cL_law 1898 = .ok (.dload 8, 2) := by decide +kernel
theorem dL_law_1900 : decode cL_law 1900 = .ok (.dload 8, 2) := by decide +kernel
theorem dL_law_1902 : decode cL_law 1902 = .ok (.dcmp .l, 1) := by decide +kernel
theorem dL_law_1903 : decode cL_law 1903 = .ok (.ifCond .ne 5, 3) := by decide +kernel
set_option maxRecDepth 100000 in
set_option maxHeartbeats 4000000 in
theorem wk_law_1868 {Z : ZT} {b L : Nat} {xs : Nat → Int32} (hC : CX Z cL_law RL 10 room_1) (hX : SX Z b L xs) (hEnd : EL Z) {k0 n0 : Nat} (hk : k0 + 40 ≤ 601024) (hn : n0 + 400 ≤ 7293034) (r1 r2 r3 r4 : Option Nat) (i5 : Int32) (S0 : PH) (K : Int32 → PH → Prop) (hK : ∀ i S, K i S → PX Z 10 S (k0 + 40) (n0 + 400) 28 [(0, va_rf (some b)), (1, va_rf r1), (2, va_rf r2), (3, va_rf r3), (4, va_rf r4), (5, .int i)] []) (h : wc_law_1868 xs L r1 r2 r3 r4 i5 S0 K) : PX Z 10 S0 k0 n0 1868 [(0, va_rf (some b)), (1, va_rf r1), (2, va_rf r2), (3, va_rf r3), (4, va_rf r4), (5, .int i5)] [] := by
  refine x_wid (k' := k0 + 0) (n' := n0 + 0) (Nat.le_refl _) (Nat.le_refl _) ?_
  unfold wc_law_1868 at h
  refine x_aload_n (i := 1) hC dL_law_1868 rfl 1 rfl ?_
  obtain ⟨a1, ea2, ha3, h⟩ := h
  obtain ⟨v4, S5, hb6, h⟩ := h
  refine x_callV hC (st := []) (mt_X4_spentShare _ _ _ hb6) ea2 ha3 kf_4 q_280 q_281 q_282 q_1 q_283 ⟨rfl, hy_X4_spentShare⟩ ⟨Nat.le_of_ble_eq_true rfl, Nat.le_of_ble_eq_true rfl⟩ ⟨(show k0 + 0 + 0 ≤ 601024 from by omega), (show n0 + 0 + 0 ≤ 7293034 from by omega)⟩ rfl (Nat.le_of_ble_eq_true rfl) dL_law_1869 (r_N ?_) r_NX
  show PX Z 10 S5 (k0 + 0) (n0 + 0) 1872 [(0, va_rf (some b)), (1, va_rf r1), (2, va_rf r2), (3, va_rf r3), (4, va_rf r4), (5, .int i5)] [.float v4]
  obtain ⟨hc7, h⟩ := h
  refine x_f2d hC dL_law_1872 (nn64_ok hc7) ?_
  obtain ⟨x8, hx9, h⟩ := wle_el h
  refine x_tD hx9 ?_
  refine x_dstore (i := 6) (l' := [(6, .double x8), (0, va_rf (some b)), (1, va_rf r1), (2, va_rf r2), (3, va_rf r3), (4, va_rf r4), (5, .int i5)]) hC dL_law_1873 (⟨fun _ => c_rf (some b), ⟨fun _ => c_rf r1, ⟨fun _ => c_rf r2, ⟨fun _ => c_rf r3, ⟨fun _ => c_rf r4, ⟨fun _ => rfl, trivial⟩⟩⟩⟩⟩⟩) (by decide) rfl ?_
  refine x_aload_n (i := 2) hC dL_law_1875 rfl 3 rfl ?_
  obtain ⟨a10, ea11, ha12, h⟩ := h
  obtain ⟨v13, S14, hb15, h⟩ := h
  refine x_callV hC (st := []) (mt_X5_spentShare _ _ _ hb15) ea11 ha12 kf_5 q_1232 q_1233 q_1234 q_7 q_1235 ⟨rfl, hy_X5_spentShare⟩ ⟨Nat.le_of_ble_eq_true rfl, Nat.le_of_ble_eq_true rfl⟩ ⟨(show k0 + 0 + 0 ≤ 601024 from by omega), (show n0 + 0 + 0 ≤ 7293034 from by omega)⟩ rfl (Nat.le_of_ble_eq_true rfl) dL_law_1876 (r_N ?_) r_NX
  show PX Z 10 S14 (k0 + 0) (n0 + 0) 1879 [(6, .double x8), (0, va_rf (some b)), (1, va_rf r1), (2, va_rf r2), (3, va_rf r3), (4, va_rf r4), (5, .int i5)] [.float v13]
  obtain ⟨hc16, h⟩ := h
  refine x_f2d hC dL_law_1879 (nn64_ok hc16) ?_
  obtain ⟨x17, hx18, h⟩ := wle_el h
  refine x_tD hx18 ?_
  refine x_dstore (i := 8) (l' := [(8, .double x17), (6, .double x8), (0, va_rf (some b)), (1, va_rf r1), (2, va_rf r2), (3, va_rf r3), (4, va_rf r4), (5, .int i5)]) hC dL_law_1880 (⟨fun q => absurd (show (6 : Nat) + 1 = 8 from q) (by decide), ⟨fun _ => c_rf (some b), ⟨fun _ => c_rf r1, ⟨fun _ => c_rf r2, ⟨fun _ => c_rf r3, ⟨fun _ => c_rf r4, ⟨fun _ => rfl, trivial⟩⟩⟩⟩⟩⟩⟩) (by decide) rfl ?_
  refine x_dload (i := 6) hC dL_law_1882 1 rfl ?_
  refine x_dload (i := 8) hC dL_law_1884 0 rfl ?_
  refine x_dcmp hC dL_law_1886 ?_
  refine x_if_eq (t := 1908) hC dL_law_1887 (by decide) (fun c19 => ?_) (fun c19 => ?_)
  · replace h := wit_t c19 h
    refine x_goto (t := 1925) hC dL_law_1908 (by decide) ?_
    refine x_iinc (i := 5) (v := (i5 + (4 : Int32))) (l' := [(5, .int (i5 + (4 : Int32))), (8, .double x17), (6, .double x8), (0, va_rf (some b)), (1, va_rf r1), (2, va_rf r2), (3, va_rf r3), (4, va_rf r4)]) hC dL_law_1925 7 rfl rfl (⟨fun q => absurd (show (8 : Nat) + 1 = 5 from q) (by decide), ⟨fun q => absurd (show (6 : Nat) + 1 = 5 from q) (by decide), ⟨fun _ => c_rf (some b), ⟨fun _ => c_rf r1, ⟨fun _ => c_rf r2, ⟨fun _ => c_rf r3, ⟨fun _ => c_rf r4, ⟨fun _ => rfl, trivial⟩⟩⟩⟩⟩⟩⟩⟩) (by decide) rfl ?_
    refine x_goto (t := 28) hC dL_law_1928 (by decide) ?_
    refine x_sub (l' := [(0, va_rf (some b)), (1, va_rf r1), (2, va_rf r2), (3, va_rf r3), (4, va_rf r4), (5, .int (i5 + (4 : Int32)))]) [3, 4, 5, 6, 7, 0] rfl ?_
    refine x_wid (k' := k0 + 40) (n' := n0 + 400) (by omega) (by omega) ?_
    exact hK _ _ h
  · replace h := wit_f c19 h
    refine x_dload (i := 6) hC dL_law_1890 1 rfl ?_
    refine x_dload (i := 6) hC dL_law_1892 1 rfl ?_
    refine x_dcmp hC dL_law_1894 ?_
    refine x_if_eq (t := 1906) hC dL_law_1895 (by decide) (fun c20 => ?_) (fun c20 => ?_)
    · replace h := wit_t c20 h
      refine x_iconst (v := (0 : Int32)) hC dL_law_1906 (by decide) ?_
      refine x_tI (show (0 : Int32) = (1 : Int32) from h) ?_
      exact hEnd _ _ _ _ _ (by omega) (by omega) dL_law_1907
    · replace h := wit_f c20 h
      refine x_dload (i := 8) hC dL_law_1898 0 rfl ?_
      refine x_dload (i := 8) hC dL_law_1900 0 rfl ?_
      refine x_dcmp hC dL_law_1902 ?_
      refine x_if_ne (t := 1908) hC dL_law_1903 (by decide) (fun c21 => ?_) (fun c21 => ?_)
      · replace h := wit_f c21 h
        refine x_goto (t := 1925) hC dL_law_1908 (by decide) ?_
        refine x_iinc (i := 5) (v := (i5 + (4 : Int32))) (l' := [(5, .int (i5 + (4 : Int32))), (8, .double x17), (6, .double x8), (0, va_rf (some b)), (1, va_rf r1), (2, va_rf r2), (3, va_rf r3), (4, va_rf r4)]) hC dL_law_1925 7 rfl rfl (⟨fun q => absurd (show (8 : Nat) + 1 = 5 from q) (by decide), ⟨fun q => absurd (show (6 : Nat) + 1 = 5 from q) (by decide), ⟨fun _ => c_rf (some b), ⟨fun _ => c_rf r1, ⟨fun _ => c_rf r2, ⟨fun _ => c_rf r3, ⟨fun _ => c_rf r4, ⟨fun _ => rfl, trivial⟩⟩⟩⟩⟩⟩⟩⟩) (by decide) rfl ?_
        refine x_goto (t := 28) hC dL_law_1928 (by decide) ?_
        refine x_sub (l' := [(0, va_rf (some b)), (1, va_rf r1), (2, va_rf r2), (3, va_rf r3), (4, va_rf r4), (5, .int (i5 + (4 : Int32)))]) [3, 4, 5, 6, 7, 0] rfl ?_
        refine x_wid (k' := k0 + 40) (n' := n0 + 400) (by omega) (by omega) ?_
        exact hK _ _ h
      · replace h := wit_t c21 h
        refine x_iconst (v := (0 : Int32)) hC dL_law_1906 (by decide) ?_
        refine x_tI (show (0 : Int32) = (1 : Int32) from h) ?_
        exact hEnd _ _ _ _ _ (by omega) (by omega) dL_law_1907
def wc_law_1911 (xs : Nat → Int32) (L : Nat) (r1 r2 r3 r4 : Option Nat) (i5 : Int32) (S0 : PH) (K : Int32 → PH → Prop) : Prop := wdr S0 4 r1 fun a1 => wbd (m_X4_digest r1 S0) fun v4 S5 => wdr S5 5 r2 fun a7 => wbd (m_X5_digest r2 S5) fun v10 S11 => if (lg_cmp v4 v10) = 0 then (K (i5 + (4 : Int32)) S11) else ((0 : Int32) = (1 : Int32))
theorem dL_law_1911 : decode cL_law 1911 = .ok (.aload_n 1, 1) := by decide +kernel
theorem dL_law_1912 : decode cL_law 1912 = .ok (.invokevirtual 213, 3) := by decide +kernel
theorem dL_law_1915 : decode cL_law 1915 = .ok (.aload_n 2, 1) := by decide +kernel
theorem dL_law_1916 : decode cL_law 1916 = .ok (.invokevirtual 217, 3) := by decide +kernel
theorem dL_law_1919 : decode cL_law 1919 = .ok (.lcmp, 1) := by decide +kernel
theorem dL_law_1920 : decode cL_law 1920 = .ok (.ifCond .eq 5, 3) := by decide +kernel
theorem dL_law_1923 : decode cL_law 1923 = .ok (.iconst 0, 1) := by decide +kernel
theorem dL_law_1924 : decode cL_law 1924 = .ok (.ireturn, 1) := by decide +kernel
set_option maxRecDepth 100000 in
set_option maxHeartbeats 4000000 in
theorem wk_law_1911 {Z : ZT} {b L : Nat} {xs : Nat → Int32} (hC : CX Z cL_law RL 10 room_1) (hX : SX Z b L xs) (hEnd : EL Z) {k0 n0 : Nat} (hk : k0 + 40 ≤ 601024) (hn : n0 + 400 ≤ 7293034) (r1 r2 r3 r4 : Option Nat) (i5 : Int32) (S0 : PH) (K : Int32 → PH → Prop) (hK : ∀ i S, K i S → PX Z 10 S (k0 + 40) (n0 + 400) 28 [(0, va_rf (some b)), (1, va_rf r1), (2, va_rf r2), (3, va_rf r3), (4, va_rf r4), (5, .int i)] []) (h : wc_law_1911 xs L r1 r2 r3 r4 i5 S0 K) : PX Z 10 S0 k0 n0 1911 [(0, va_rf (some b)), (1, va_rf r1), (2, va_rf r2), (3, va_rf r3), (4, va_rf r4), (5, .int i5)] [] := by
  refine x_wid (k' := k0 + 0) (n' := n0 + 0) (Nat.le_refl _) (Nat.le_refl _) ?_
  unfold wc_law_1911 at h
  refine x_aload_n (i := 1) hC dL_law_1911 rfl 1 rfl ?_
  obtain ⟨a1, ea2, ha3, h⟩ := h
  obtain ⟨v4, S5, hb6, h⟩ := h
  refine x_callV hC (st := []) (mt_X4_digest _ _ _ hb6) ea2 ha3 kf_4 q_292 q_293 q_294 q_1 q_295 ⟨rfl, hy_X4_digest⟩ ⟨Nat.le_of_ble_eq_true rfl, Nat.le_of_ble_eq_true rfl⟩ ⟨(show k0 + 0 + 0 ≤ 601024 from by omega), (show n0 + 0 + 0 ≤ 7293034 from by omega)⟩ rfl (Nat.le_of_ble_eq_true rfl) dL_law_1912 (r_N ?_) r_NX
  show PX Z 10 S5 (k0 + 0) (n0 + 0) 1915 [(0, va_rf (some b)), (1, va_rf r1), (2, va_rf r2), (3, va_rf r3), (4, va_rf r4), (5, .int i5)] [.long v4]
  refine x_aload_n (i := 2) hC dL_law_1915 rfl 2 rfl ?_
  obtain ⟨a7, ea8, ha9, h⟩ := h
  obtain ⟨v10, S11, hb12, h⟩ := h
  refine x_callV hC (st := [.long v4]) (mt_X5_digest _ _ _ hb12) ea8 ha9 kf_5 q_1240 q_1241 q_1242 q_7 q_1243 ⟨rfl, hy_X5_digest⟩ ⟨Nat.le_of_ble_eq_true rfl, Nat.le_of_ble_eq_true rfl⟩ ⟨(show k0 + 0 + 0 ≤ 601024 from by omega), (show n0 + 0 + 0 ≤ 7293034 from by omega)⟩ rfl (Nat.le_of_ble_eq_true rfl) dL_law_1916 (r_N ?_) r_NX
  show PX Z 10 S11 (k0 + 0) (n0 + 0) 1919 [(0, va_rf (some b)), (1, va_rf r1), (2, va_rf r2), (3, va_rf r3), (4, va_rf r4), (5, .int i5)] [.long v10, .long v4]
  refine x_lcmp hC dL_law_1919 ?_
  refine x_if_eq (t := 1925) hC dL_law_1920 (by decide) (fun c13 => ?_) (fun c13 => ?_)
  · replace h := wit_t c13 h
    refine x_iinc (i := 5) (v := (i5 + (4 : Int32))) (l' := [(5, .int (i5 + (4 : Int32))), (0, va_rf (some b)), (1, va_rf r1), (2, va_rf r2), (3, va_rf r3), (4, va_rf r4)]) hC dL_law_1925 5 rfl rfl (⟨fun _ => c_rf (some b), ⟨fun _ => c_rf r1, ⟨fun _ => c_rf r2, ⟨fun _ => c_rf r3, ⟨fun _ => c_rf r4, ⟨fun _ => rfl, trivial⟩⟩⟩⟩⟩⟩) (by decide) rfl ?_
    refine x_goto (t := 28) hC dL_law_1928 (by decide) ?_
    refine x_sub (l' := [(0, va_rf (some b)), (1, va_rf r1), (2, va_rf r2), (3, va_rf r3), (4, va_rf r4), (5, .int (i5 + (4 : Int32)))]) [1, 2, 3, 4, 5, 0] rfl ?_
    refine x_wid (k' := k0 + 40) (n' := n0 + 400) (by omega) (by omega) ?_
    exact hK _ _ h
  · replace h := wit_f c13 h
    refine x_iconst (v := (0 : Int32)) hC dL_law_1923 (by decide) ?_
    refine x_tI (show (0 : Int32) = (1 : Int32) from h) ?_
    exact hEnd _ _ _ _ _ (by omega) (by omega) dL_law_1924
def w_law_round (xs : Nat → Int32) (L : Nat) (r1 r2 r3 r4 : Option Nat) (i5 : Int32) (S0 : PH) (K : Int32 → PH → Prop) : Prop := if ((Int32.ofNat L) - (4 : Int32)) < i5 then ((1 : Int32) = (1 : Int32)) else (wck (ix i5 L) <| if ((xs (Int32.toNatClampNeg i5)) &&& (31 : Int32)) = (0 : Int32) then (wc_law_188 xs L r1 r2 r3 r4 i5 S0 K) else (if ((xs (Int32.toNatClampNeg i5)) &&& (31 : Int32)) = (1 : Int32) then (wc_law_256 xs L r1 r2 r3 r4 i5 S0 K) else (if ((xs (Int32.toNatClampNeg i5)) &&& (31 : Int32)) = (2 : Int32) then (wc_law_324 xs L r1 r2 r3 r4 i5 S0 K) else (if ((xs (Int32.toNatClampNeg i5)) &&& (31 : Int32)) = (3 : Int32) then (wc_law_392 xs L r1 r2 r3 r4 i5 S0 K) else (if ((xs (Int32.toNatClampNeg i5)) &&& (31 : Int32)) = (4 : Int32) then (wc_law_460 xs L r1 r2 r3 r4 i5 S0 K) else (if ((xs (Int32.toNatClampNeg i5)) &&& (31 : Int32)) = (5 : Int32) then (wc_law_516 xs L r1 r2 r3 r4 i5 S0 K) else (if ((xs (Int32.toNatClampNeg i5)) &&& (31 : Int32)) = (6 : Int32) then (wc_law_560 xs L r1 r2 r3 r4 i5 S0 K) else (if ((xs (Int32.toNatClampNeg i5)) &&& (31 : Int32)) = (7 : Int32) then (wc_law_628 xs L r1 r2 r3 r4 i5 S0 K) else (if ((xs (Int32.toNatClampNeg i5)) &&& (31 : Int32)) = (8 : Int32) then (wc_law_708 xs L r1 r2 r3 r4 i5 S0 K) else (if ((xs (Int32.toNatClampNeg i5)) &&& (31 : Int32)) = (9 : Int32) then (wc_law_776 xs L r1 r2 r3 r4 i5 S0 K) else (if ((xs (Int32.toNatClampNeg i5)) &&& (31 : Int32)) = (10 : Int32) then (wc_law_832 xs L r1 r2 r3 r4 i5 S0 K) else (if ((xs (Int32.toNatClampNeg i5)) &&& (31 : Int32)) = (11 : Int32) then (wc_law_888 xs L r1 r2 r3 r4 i5 S0 K) else (if ((xs (Int32.toNatClampNeg i5)) &&& (31 : Int32)) = (12 : Int32) then (wc_law_944 xs L r1 r2 r3 r4 i5 S0 K) else (if ((xs (Int32.toNatClampNeg i5)) &&& (31 : Int32)) = (13 : Int32) then (wc_law_1000 xs L r1 r2 r3 r4 i5 S0 K) else (if ((xs (Int32.toNatClampNeg i5)) &&& (31 : Int32)) = (14 : Int32) then (wc_law_1013 xs L r1 r2 r3 r4 i5 S0 K) else (if ((xs (Int32.toNatClampNeg i5)) &&& (31 : Int32)) = (15 : Int32) then (wc_law_1026 xs L r1 r2 r3 r4 i5 S0 K) else (if ((xs (Int32.toNatClampNeg i5)) &&& (31 : Int32)) = (16 : Int32) then (wc_law_1070 xs L r1 r2 r3 r4 i5 S0 K) else (if ((xs (Int32.toNatClampNeg i5)) &&& (31 : Int32)) = (17 : Int32) then (wc_law_1126 xs L r1 r2 r3 r4 i5 S0 K) else (if ((xs (Int32.toNatClampNeg i5)) &&& (31 : Int32)) = (18 : Int32) then (wc_law_1182 xs L r1 r2 r3 r4 i5 S0 K) else (if ((xs (Int32.toNatClampNeg i5)) &&& (31 : Int32)) = (19 : Int32) then (wc_law_1226 xs L r1 r2 r3 r4 i5 S0 K) else (if ((xs (Int32.toNatClampNeg i5)) &&& (31 : Int32)) = (20 : Int32) then (wc_law_1294 xs L r1 r2 r3 r4 i5 S0 K) else (if ((xs (Int32.toNatClampNeg i5)) &&& (31 : Int32)) = (21 : Int32) then (wc_law_1362 xs L r1 r2 r3 r4 i5 S0 K) else (if ((xs (Int32.toNatClampNeg i5)) &&& (31 : Int32)) = (22 : Int32) then (wc_law_1430 xs L r1 r2 r3 r4 i5 S0 K) else (if ((xs (Int32.toNatClampNeg i5)) &&& (31 : Int32)) = (23 : Int32) then (wc_law_1486 xs L r1 r2 r3 r4 i5 S0 K) else (if ((xs (Int32.toNatClampNeg i5)) &&& (31 : Int32)) = (24 : Int32) then (wc_law_1542 xs L r1 r2 r3 r4 i5 S0 K) else (if ((xs (Int32.toNatClampNeg i5)) &&& (31 : Int32)) = (25 : Int32) then (wc_law_1610 xs L r1 r2 r3 r4 i5 S0 K) else (if ((xs (Int32.toNatClampNeg i5)) &&& (31 : Int32)) = (26 : Int32) then (wc_law_1666 xs L r1 r2 r3 r4 i5 S0 K) else (if ((xs (Int32.toNatClampNeg i5)) &&& (31 : Int32)) = (27 : Int32) then (wc_law_1722 xs L r1 r2 r3 r4 i5 S0 K) else (if ((xs (Int32.toNatClampNeg i5)) &&& (31 : Int32)) = (28 : Int32) then (wc_law_1735 xs L r1 r2 r3 r4 i5 S0 K) else (if ((xs (Int32.toNatClampNeg i5)) &&& (31 : Int32)) = (29 : Int32) then (wc_law_1791 xs L r1 r2 r3 r4 i5 S0 K) else (if ((xs (Int32.toNatClampNeg i5)) &&& (31 : Int32)) = (30 : Int32) then (wc_law_1868 xs L r1 r2 r3 r4 i5 S0 K) else (if ((xs (Int32.toNatClampNeg i5)) &&& (31 : Int32)) = (31 : Int32) then (wc_law_1911 xs L r1 r2 r3 r4 i5 S0 K) else (K (i5 + (4 : Int32)) S0)))))))))))))))))))))))))))))))))
theorem dL_law_28 : decode cL_law 28 = .ok (.iload 5, 2) := by decide +kernel
theorem dL_law_30 : decode cL_law 30 = .ok (.aload_n 0, 1) := by decide +kernel
theorem dL_law_31 : decode cL_law 31 = .ok (.arraylength, 1) := by decide +kernel
theorem dL_law_32 : decode cL_law 32 = .ok (.iconst 4, 1) := by decide +kernel
theorem dL_law_33 : decode cL_law 33 = .ok (.isub, 1) := by decide +kernel
theorem dL_law_34 : decode cL_law 34 = .ok (.if_icmp .gt 1897, 3) := by decide +kernel
theorem dL_law_1931 : decode cL_law 1931 = .ok (.iconst 1, 1) := by decide +kernel
theorem dL_law_1932 : decode cL_law 1932 = .ok (.ireturn, 1) := by decide +kernel
theorem dL_law_37 : decode cL_law 37 = .ok (.aload_n 0, 1) := by decide +kernel
theorem dL_law_38 : decode cL_law 38 = .ok (.iload 5, 2) := by decide +kernel
theorem dL_law_40 : decode cL_law 40 = .ok (.iaload, 1) := by decide +kernel
theorem dL_law_41 : decode cL_law 41 = .ok (.bipush 31, 2) := by decide +kernel
theorem dL_law_43 : decode cL_law 43 = .ok (.iand, 1) := by decide +kernel
theorem dL_law_44 : decode cL_law 44 = .ok (.tableswitch 1881 0 31 #[144, 212, 280, 348, 416, 472, 516, 584, 664, 732, 788, 844, 900, 956, 969, 982, 1026, 1082, 1138, 1182, 1250, 1318, 1386, 1442, 1498, 1566, 1622, 1678, 1691, 1747, 1824, 1867], 144) := by decide +kernel
set_option maxRecDepth 100000 in
set_option maxHeartbeats 4000000 in
theorem wk_law_round {Z : ZT} {b L : Nat} {xs : Nat → Int32} (hC : CX Z cL_law RL 10 room_1) (hX : SX Z b L xs) (hEnd : EL Z) {k0 n0 : Nat} (hk : k0 + 40 ≤ 601024) (hn : n0 + 400 ≤ 7293034) (r1 r2 r3 r4 : Option Nat) (i5 : Int32) (S0 : PH) (K : Int32 → PH → Prop) (hK : ∀ i S, K i S → PX Z 10 S (k0 + 40) (n0 + 400) 28 [(0, va_rf (some b)), (1, va_rf r1), (2, va_rf r2), (3, va_rf r3), (4, va_rf r4), (5, .int i)] []) (h : w_law_round xs L r1 r2 r3 r4 i5 S0 K) : PX Z 10 S0 k0 n0 28 [(0, va_rf (some b)), (1, va_rf r1), (2, va_rf r2), (3, va_rf r3), (4, va_rf r4), (5, .int i5)] [] := by
  refine x_wid (k' := k0 + 0) (n' := n0 + 0) (Nat.le_refl _) (Nat.le_refl _) ?_
  unfold w_law_round at h
  refine x_iload (i := 5) hC dL_law_28 5 rfl ?_
  refine x_aload_n (i := 0) hC dL_law_30 rfl 0 rfl ?_
  refine x_slen hC hX dL_law_31 ?_
  refine x_iconst (v := (4 : Int32)) hC dL_law_32 (by decide) ?_
  refine x_isub hC dL_law_33 ?_
  refine x_icmp_gt (t := 1931) hC dL_law_34 (by decide) (fun c1 => ?_) (fun c1 => ?_)
  · replace h := wit_t c1 h
    refine x_iconst (v := (1 : Int32)) hC dL_law_1931 (by decide) ?_
    refine x_tI (show (1 : Int32) = (1 : Int32) from h) ?_
    exact hEnd _ _ _ _ _ (by omega) (by omega) dL_law_1932
  · replace h := wit_f c1 h
    refine x_aload_n (i := 0) hC dL_law_37 rfl 0 rfl ?_
    refine x_iload (i := 5) hC dL_law_38 5 rfl ?_
    obtain ⟨hc2, h⟩ := h
    refine x_sld hC hX hc2 dL_law_40 ?_
    refine x_bipush (v := (31 : Int32)) hC dL_law_41 (by decide) ?_
    refine x_iand hC dL_law_43 ?_
    rcases Decidable.em (((xs (Int32.toNatClampNeg i5)) &&& (31 : Int32)) = (0 : Int32)) with c3 | c3
    · replace h := wit_t c3 h
      refine x_tabIn (off := 144) (t := 188) hC dL_law_44 (by rw [c3]; decide) (by rw [c3]; decide) (by rw [c3]; decide) (by decide) ?_
      exact wk_law_188 hC hX hEnd hk hn _ _ _ _ _ _ K hK h
    replace h := wit_f c3 h
    rcases Decidable.em (((xs (Int32.toNatClampNeg i5)) &&& (31 : Int32)) = (1 : Int32)) with c4 | c4
    · replace h := wit_t c4 h
      refine x_tabIn (off := 212) (t := 256) hC dL_law_44 (by rw [c4]; decide) (by rw [c4]; decide) (by rw [c4]; decide) (by decide) ?_
      exact wk_law_256 hC hX hEnd hk hn _ _ _ _ _ _ K hK h
    replace h := wit_f c4 h
    rcases Decidable.em (((xs (Int32.toNatClampNeg i5)) &&& (31 : Int32)) = (2 : Int32)) with c5 | c5
    · replace h := wit_t c5 h
      refine x_tabIn (off := 280) (t := 324) hC dL_law_44 (by rw [c5]; decide) (by rw [c5]; decide) (by rw [c5]; decide) (by decide) ?_
      exact wk_law_324 hC hX hEnd hk hn _ _ _ _ _ _ K hK h
    replace h := wit_f c5 h
    rcases Decidable.em (((xs (Int32.toNatClampNeg i5)) &&& (31 : Int32)) = (3 : Int32)) with c6 | c6
    · replace h := wit_t c6 h
      refine x_tabIn (off := 348) (t := 392) hC dL_law_44 (by rw [c6]; decide) (by rw [c6]; decide) (by rw [c6]; decide) (by decide) ?_
      exact wk_law_392 hC hX hEnd hk hn _ _ _ _ _ _ K hK h
    replace h := wit_f c6 h
    rcases Decidable.em (((xs (Int32.toNatClampNeg i5)) &&& (31 : Int32)) = (4 : Int32)) with c7 | c7
    · replace h := wit_t c7 h
      refine x_tabIn (off := 416) (t := 460) hC dL_law_44 (by rw [c7]; decide) (by rw [c7]; decide) (by rw [c7]; decide) (by decide) ?_
      exact wk_law_460 hC hX hEnd hk hn _ _ _ _ _ _ K hK h
    replace h := wit_f c7 h
    rcases Decidable.em (((xs (Int32.toNatClampNeg i5)) &&& (31 : Int32)) = (5 : Int32)) with c8 | c8
    · replace h := wit_t c8 h
      refine x_tabIn (off := 472) (t := 516) hC dL_law_44 (by rw [c8]; decide) (by rw [c8]; decide) (by rw [c8]; decide) (by decide) ?_
      exact wk_law_516 hC hX hEnd hk hn _ _ _ _ _ _ K hK h
    replace h := wit_f c8 h
    rcases Decidable.em (((xs (Int32.toNatClampNeg i5)) &&& (31 : Int32)) = (6 : Int32)) with c9 | c9
    · replace h := wit_t c9 h
      refine x_tabIn (off := 516) (t := 560) hC dL_law_44 (by rw [c9]; decide) (by rw [c9]; decide) (by rw [c9]; decide) (by decide) ?_
      exact wk_law_560 hC hX hEnd hk hn _ _ _ _ _ _ K hK h
    replace h := wit_f c9 h
    rcases Decidable.em (((xs (Int32.toNatClampNeg i5)) &&& (31 : Int32)) = (7 : Int32)) with c10 | c10
    · replace h := wit_t c10 h
      refine x_tabIn (off := 584) (t := 628) hC dL_law_44 (by rw [c10]; decide) (by rw [c10]; decide) (by rw [c10]; decide) (by decide) ?_
      exact wk_law_628 hC hX hEnd hk hn _ _ _ _ _ _ K hK h
    replace h := wit_f c10 h
    rcases Decidable.em (((xs (Int32.toNatClampNeg i5)) &&& (31 : Int32)) = (8 : Int32)) with c11 | c11
    · replace h := wit_t c11 h
      refine x_tabIn (off := 664) (t := 708) hC dL_law_44 (by rw [c11]; decide) (by rw [c11]; decide) (by rw [c11]; decide) (by decide) ?_
      exact wk_law_708 hC hX hEnd hk hn _ _ _ _ _ _ K hK h
    replace h := wit_f c11 h
    rcases Decidable.em (((xs (Int32.toNatClampNeg i5)) &&& (31 : Int32)) = (9 : Int32)) with c12 | c12
    · replace h := wit_t c12 h
      refine x_tabIn (off := 732) (t := 776) hC dL_law_44 (by rw [c12]; decide) (by rw [c12]; decide) (by rw [c12]; decide) (by decide) ?_
      exact wk_law_776 hC hX hEnd hk hn _ _ _ _ _ _ K hK h
    replace h := wit_f c12 h
    rcases Decidable.em (((xs (Int32.toNatClampNeg i5)) &&& (31 : Int32)) = (10 : Int32)) with c13 | c13
    · replace h := wit_t c13 h
      refine x_tabIn (off := 788) (t := 832) hC dL_law_44 (by rw [c13]; decide) (by rw [c13]; decide) (by rw [c13]; decide) (by decide) ?_
      exact wk_law_832 hC hX hEnd hk hn _ _ _ _ _ _ K hK h
    replace h := wit_f c13 h
    rcases Decidable.em (((xs (Int32.toNatClampNeg i5)) &&& (31 : Int32)) = (11 : Int32)) with c14 | c14
    · replace h := wit_t c14 h
      refine x_tabIn (off := 844) (t := 888) hC dL_law_44 (by rw [c14]; decide) (by rw [c14]; decide) (by rw [c14]; decide) (by decide) ?_
      exact wk_law_888 hC hX hEnd hk hn _ _ _ _ _ _ K hK h
    replace h := wit_f c14 h
    rcases Decidable.em (((xs (Int32.toNatClampNeg i5)) &&& (31 : Int32)) = (12 : Int32)) with c15 | c15
    · replace h := wit_t c15 h
      refine x_tabIn (off := 900) (t := 944) hC dL_law_44 (by rw [c15]; decide) (by rw [c15]; decide) (by rw [c15]; decide) (by decide) ?_
      exact wk_law_944 hC hX hEnd hk hn _ _ _ _ _ _ K hK h
    replace h := wit_f c15 h
    rcases Decidable.em (((xs (Int32.toNatClampNeg i5)) &&& (31 : Int32)) = (13 : Int32)) with c16 | c16
    · replace h := wit_t c16 h
      refine x_tabIn (off := 956) (t := 1000) hC dL_law_44 (by rw [c16]; decide) (by rw [c16]; decide) (by rw [c16]; decide) (by decide) ?_
      exact wk_law_1000 hC hX hEnd hk hn _ _ _ _ _ _ K hK h
    replace h := wit_f c16 h
    rcases Decidable.em (((xs (Int32.toNatClampNeg i5)) &&& (31 : Int32)) = (14 : Int32)) with c17 | c17
    · replace h := wit_t c17 h
      refine x_tabIn (off := 969) (t := 1013) hC dL_law_44 (by rw [c17]; decide) (by rw [c17]; decide) (by rw [c17]; decide) (by decide) ?_
      exact wk_law_1013 hC hX hEnd hk hn _ _ _ _ _ _ K hK h
    replace h := wit_f c17 h
    rcases Decidable.em (((xs (Int32.toNatClampNeg i5)) &&& (31 : Int32)) = (15 : Int32)) with c18 | c18
    · replace h := wit_t c18 h
      refine x_tabIn (off := 982) (t := 1026) hC dL_law_44 (by rw [c18]; decide) (by rw [c18]; decide) (by rw [c18]; decide) (by decide) ?_
      exact wk_law_1026 hC hX hEnd hk hn _ _ _ _ _ _ K hK h
    replace h := wit_f c18 h
    rcases Decidable.em (((xs (Int32.toNatClampNeg i5)) &&& (31 : Int32)) = (16 : Int32)) with c19 | c19
    · replace h := wit_t c19 h
      refine x_tabIn (off := 1026) (t := 1070) hC dL_law_44 (by rw [c19]; decide) (by rw [c19]; decide) (by rw [c19]; decide) (by decide) ?_
      exact wk_law_1070 hC hX hEnd hk hn _ _ _ _ _ _ K hK h
    replace h := wit_f c19 h
    rcases Decidable.em (((xs (Int32.toNatClampNeg i5)) &&& (31 : Int32)) = (17 : Int32)) with c20 | c20
    · replace h := wit_t c20 h
      refine x_tabIn (off := 1082) (t := 1126) hC dL_law_44 (by rw [c20]; decide) (by rw [c20]; decide) (by rw [c20]; decide) (by decide) ?_
      exact wk_law_1126 hC hX hEnd hk hn _ _ _ _ _ _ K hK h
    replace h := wit_f c20 h
    rcases Decidable.em (((xs (Int32.toNatClampNeg i5)) &&& (31 : Int32)) = (18 : Int32)) with c21 | c21
    · replace h := wit_t c21 h
      refine x_tabIn (off := 1138) (t := 1182) hC dL_law_44 (by rw [c21]; decide) (by rw [c21]; decide) (by rw [c21]; decide) (by decide) ?_
      exact wk_law_1182 hC hX hEnd hk hn _ _ _ _ _ _ K hK h
    replace h := wit_f c21 h
    rcases Decidable.em (((xs (Int32.toNatClampNeg i5)) &&& (31 : Int32)) = (19 : Int32)) with c22 | c22
    · replace h := wit_t c22 h
      refine x_tabIn (off := 1182) (t := 1226) hC dL_law_44 (by rw [c22]; decide) (by rw [c22]; decide) (by rw [c22]; decide) (by decide) ?_
      exact wk_law_1226 hC hX hEnd hk hn _ _ _ _ _ _ K hK h
    replace h := wit_f c22 h
    rcases Decidable.em (((xs (Int32.toNatClampNeg i5)) &&& (31 : Int32)) = (20 : Int32)) with c23 | c23
    · replace h := wit_t c23 h
      refine x_tabIn (off := 1250) (t := 1294) hC dL_law_44 (by rw [c23]; decide) (by rw [c23]; decide) (by rw [c23]; decide) (by decide) ?_
      exact wk_law_1294 hC hX hEnd hk hn _ _ _ _ _ _ K hK h
    replace h := wit_f c23 h
    rcases Decidable.em (((xs (Int32.toNatClampNeg i5)) &&& (31 : Int32)) = (21 : Int32)) with c24 | c24
    · replace h := wit_t c24 h
      refine x_tabIn (off := 1318) (t := 1362) hC dL_law_44 (by rw [c24]; decide) (by rw [c24]; decide) (by rw [c24]; decide) (by decide) ?_
      exact wk_law_1362 hC hX hEnd hk hn _ _ _ _ _ _ K hK h
    replace h := wit_f c24 h
    rcases Decidable.em (((xs (Int32.toNatClampNeg i5)) &&& (31 : Int32)) = (22 : Int32)) with c25 | c25
    · replace h := wit_t c25 h
      refine x_tabIn (off := 1386) (t := 1430) hC dL_law_44 (by rw [c25]; decide) (by rw [c25]; decide) (by rw [c25]; decide) (by decide) ?_
      exact wk_law_1430 hC hX hEnd hk hn _ _ _ _ _ _ K hK h
    replace h := wit_f c25 h
    rcases Decidable.em (((xs (Int32.toNatClampNeg i5)) &&& (31 : Int32)) = (23 : Int32)) with c26 | c26
    · replace h := wit_t c26 h
      refine x_tabIn (off := 1442) (t := 1486) hC dL_law_44 (by rw [c26]; decide) (by rw [c26]; decide) (by rw [c26]; decide) (by decide) ?_
      exact wk_law_1486 hC hX hEnd hk hn _ _ _ _ _ _ K hK h
    replace h := wit_f c26 h
    rcases Decidable.em (((xs (Int32.toNatClampNeg i5)) &&& (31 : Int32)) = (24 : Int32)) with c27 | c27
    · replace h := wit_t c27 h
      refine x_tabIn (off := 1498) (t := 1542) hC dL_law_44 (by rw [c27]; decide) (by rw [c27]; decide) (by rw [c27]; decide) (by decide) ?_
      exact wk_law_1542 hC hX hEnd hk hn _ _ _ _ _ _ K hK h
    replace h := wit_f c27 h
    rcases Decidable.em (((xs (Int32.toNatClampNeg i5)) &&& (31 : Int32)) = (25 : Int32)) with c28 | c28
    · replace h := wit_t c28 h
      refine x_tabIn (off := 1566) (t := 1610) hC dL_law_44 (by rw [c28]; decide) (by rw [c28]; decide) (by rw [c28]; decide) (by decide) ?_
      exact wk_law_1610 hC hX hEnd hk hn _ _ _ _ _ _ K hK h
    replace h := wit_f c28 h
    rcases Decidable.em (((xs (Int32.toNatClampNeg i5)) &&& (31 : Int32)) = (26 : Int32)) with c29 | c29
    · replace h := wit_t c29 h
      refine x_tabIn (off := 1622) (t := 1666) hC dL_law_44 (by rw [c29]; decide) (by rw [c29]; decide) (by rw [c29]; decide) (by decide) ?_
      exact wk_law_1666 hC hX hEnd hk hn _ _ _ _ _ _ K hK h
    replace h := wit_f c29 h
    rcases Decidable.em (((xs (Int32.toNatClampNeg i5)) &&& (31 : Int32)) = (27 : Int32)) with c30 | c30
    · replace h := wit_t c30 h
      refine x_tabIn (off := 1678) (t := 1722) hC dL_law_44 (by rw [c30]; decide) (by rw [c30]; decide) (by rw [c30]; decide) (by decide) ?_
      exact wk_law_1722 hC hX hEnd hk hn _ _ _ _ _ _ K hK h
    replace h := wit_f c30 h
    rcases Decidable.em (((xs (Int32.toNatClampNeg i5)) &&& (31 : Int32)) = (28 : Int32)) with c31 | c31
    · replace h := wit_t c31 h
      refine x_tabIn (off := 1691) (t := 1735) hC dL_law_44 (by rw [c31]; decide) (by rw [c31]; decide) (by rw [c31]; decide) (by decide) ?_
      exact wk_law_1735 hC hX hEnd hk hn _ _ _ _ _ _ K hK h
    replace h := wit_f c31 h
    rcases Decidable.em (((xs (Int32.toNatClampNeg i5)) &&& (31 : Int32)) = (29 : Int32)) with c32 | c32
    · replace h := wit_t c32 h
      refine x_tabIn (off := 1747) (t := 1791) hC dL_law_44 (by rw [c32]; decide) (by rw [c32]; decide) (by rw [c32]; decide) (by decide) ?_
      exact wk_law_1791 hC hX hEnd hk hn _ _ _ _ _ _ K hK h
    replace h := wit_f c32 h
    rcases Decidable.em (((xs (Int32.toNatClampNeg i5)) &&& (31 : Int32)) = (30 : Int32)) with c33 | c33
    · replace h := wit_t c33 h
      refine x_tabIn (off := 1824) (t := 1868) hC dL_law_44 (by rw [c33]; decide) (by rw [c33]; decide) (by rw [c33]; decide) (by decide) ?_
      exact wk_law_1868 hC hX hEnd hk hn _ _ _ _ _ _ K hK h
    replace h := wit_f c33 h
    rcases Decidable.em (((xs (Int32.toNatClampNeg i5)) &&& (31 : Int32)) = (31 : Int32)) with c34 | c34
    · replace h := wit_t c34 h
      refine x_tabIn (off := 1867) (t := 1911) hC dL_law_44 (by rw [c34]; decide) (by rw [c34]; decide) (by rw [c34]; decide) (by decide) ?_
      exact wk_law_1911 hC hX hEnd hk hn _ _ _ _ _ _ K hK h
    replace h := wit_f c34 h
    refine x_tabOut (t := 1925) hC dL_law_44 (tab_o 0 [(0 : Int32), (1 : Int32), (2 : Int32), (3 : Int32), (4 : Int32), (5 : Int32), (6 : Int32), (7 : Int32), (8 : Int32), (9 : Int32), (10 : Int32), (11 : Int32), (12 : Int32), (13 : Int32), (14 : Int32), (15 : Int32), (16 : Int32), (17 : Int32), (18 : Int32), (19 : Int32), (20 : Int32), (21 : Int32), (22 : Int32), (23 : Int32), (24 : Int32), (25 : Int32), (26 : Int32), (27 : Int32), (28 : Int32), (29 : Int32), (30 : Int32), (31 : Int32)] (by decide) (by decide) (List.forall_mem_cons.mpr ⟨c3, List.forall_mem_cons.mpr ⟨c4, List.forall_mem_cons.mpr ⟨c5, List.forall_mem_cons.mpr ⟨c6, List.forall_mem_cons.mpr ⟨c7, List.forall_mem_cons.mpr ⟨c8, List.forall_mem_cons.mpr ⟨c9, List.forall_mem_cons.mpr ⟨c10, List.forall_mem_cons.mpr ⟨c11, List.forall_mem_cons.mpr ⟨c12, List.forall_mem_cons.mpr ⟨c13, List.forall_mem_cons.mpr ⟨c14, List.forall_mem_cons.mpr ⟨c15, List.forall_mem_cons.mpr ⟨c16, List.forall_mem_cons.mpr ⟨c17, List.forall_mem_cons.mpr ⟨c18, List.forall_mem_cons.mpr ⟨c19, List.forall_mem_cons.mpr ⟨c20, List.forall_mem_cons.mpr ⟨c21, List.forall_mem_cons.mpr ⟨c22, List.forall_mem_cons.mpr ⟨c23, List.forall_mem_cons.mpr ⟨c24, List.forall_mem_cons.mpr ⟨c25, List.forall_mem_cons.mpr ⟨c26, List.forall_mem_cons.mpr ⟨c27, List.forall_mem_cons.mpr ⟨c28, List.forall_mem_cons.mpr ⟨c29, List.forall_mem_cons.mpr ⟨c30, List.forall_mem_cons.mpr ⟨c31, List.forall_mem_cons.mpr ⟨c32, List.forall_mem_cons.mpr ⟨c33, List.forall_mem_cons.mpr ⟨c34, fun _ q => nomatch q⟩⟩⟩⟩⟩⟩⟩⟩⟩⟩⟩⟩⟩⟩⟩⟩⟩⟩⟩⟩⟩⟩⟩⟩⟩⟩⟩⟩⟩⟩⟩⟩)) (by decide) ?_
    refine x_iinc (i := 5) (v := (i5 + (4 : Int32))) (l' := [(5, .int (i5 + (4 : Int32))), (0, va_rf (some b)), (1, va_rf r1), (2, va_rf r2), (3, va_rf r3), (4, va_rf r4)]) hC dL_law_1925 5 rfl rfl (⟨fun _ => c_rf (some b), ⟨fun _ => c_rf r1, ⟨fun _ => c_rf r2, ⟨fun _ => c_rf r3, ⟨fun _ => c_rf r4, ⟨fun _ => rfl, trivial⟩⟩⟩⟩⟩⟩) (by decide) rfl ?_
    refine x_goto (t := 28) hC dL_law_1928 (by decide) ?_
    refine x_sub (l' := [(0, va_rf (some b)), (1, va_rf r1), (2, va_rf r2), (3, va_rf r3), (4, va_rf r4), (5, .int (i5 + (4 : Int32)))]) [1, 2, 3, 4, 5, 0] rfl ?_
    refine x_wid (k' := k0 + 40) (n' := n0 + 400) (by omega) (by omega) ?_
    exact hK _ _ h
def w_law_start (S0 : PH) (KH : Option Nat → Option Nat → Option Nat → Option Nat → Int32 → PH → Prop) : Prop := wnw S0 fun q1 => wle (s_N S0 q1 4 0) fun S3 => wdr S3 4 (some q1) fun a5 => w_X4_init (some q1) S3 (wq (fun v8 S9 => wle (some q1) fun r12 => wnw S9 fun q14 => wle (s_N S9 q14 5 0) fun S16 => wdr S16 5 (some q14) fun a18 => w_X5_init (some q14) S16 (wq (fun v21 S22 => wle (some q14) fun r25 => wnw S22 fun q27 => wle (s_N S22 q27 10 1) fun S29 => wle (some q27) fun r31 => wnw S29 fun q33 => wle (s_N S29 q33 11 1) fun S35 => wle (some q33) fun r37 => KH r12 r25 r31 r37 (0 : Int32) S35) (fun _ _ => False))) (fun _ _ => False))
theorem dL_law_0 : decode cL_law 0 = .ok (.new 8, 3) := by decide +kernel
theorem dL_law_3 : decode cL_law 3 = .ok (.dup, 1) := by decide +kernel
theorem dL_law_4 : decode cL_law 4 = .ok (.invokespecial 101, 3) := by decide +kernel
theorem dL_law_7 : decode cL_law 7 = .ok (.astore_n 1, 1) := by decide +kernel
theorem dL_law_8 : decode cL_law 8 = .ok (.new 102, 3) := by decide +kernel
theorem dL_law_11 : decode cL_law 11 = .ok (.dup, 1) := by decide +kernel
theorem dL_law_12 : decode cL_law 12 = .ok (.invokespecial 104, 3) := by decide +kernel
theorem dL_law_15 : decode cL_law 15 = .ok (.astore_n 2, 1) := by decide +kernel
theorem dL_law_16 : decode cL_law 16 = .ok (.iconst 1, 1) := by decide +kernel
theorem dL_law_17 : decode cL_law 17 = .ok (.newarray .long, 2) := by decide +kernel
theorem dL_law_19 : decode cL_law 19 = .ok (.astore_n 3, 1) := by decide +kernel
theorem dL_law_20 : decode cL_law 20 = .ok (.iconst 1, 1) := by decide +kernel
theorem dL_law_21 : decode cL_law 21 = .ok (.newarray .double, 2) := by decide +kernel
theorem dL_law_23 : decode cL_law 23 = .ok (.astore 4, 2) := by decide +kernel
theorem dL_law_25 : decode cL_law 25 = .ok (.iconst 0, 1) := by decide +kernel
theorem dL_law_26 : decode cL_law 26 = .ok (.istore 5, 2) := by decide +kernel
set_option maxRecDepth 100000 in
set_option maxHeartbeats 4000000 in
theorem wk_law_start {Z : ZT} {b : Nat} (hC : CX Z cL_law RL 10 room_1) (S0 : PH) (KH : Option Nat → Option Nat → Option Nat → Option Nat → Int32 → PH → Prop) (hKH : ∀ r1 r2 r3 r4 i S, KH r1 r2 r3 r4 i S → PX Z 10 S 44 1866 28 [(0, va_rf (some b)), (1, va_rf r1), (2, va_rf r2), (3, va_rf r3), (4, va_rf r4), (5, .int i)] []) (h : w_law_start S0 KH) : PX Z 10 S0 0 0 0 [(0, va_rf (some b))] [] := by
  unfold w_law_start at h
  refine x_new hC kf_4 q_16 q_17 q_1 (by decide) (Nat.le_of_ble_eq_true rfl) (Nat.le_of_ble_eq_true rfl) dL_law_0 (fun q1 hq2 => ?_)
  replace h := h q1 hq2
  obtain ⟨S3, hx4, h⟩ := wle_el h
  refine x_tS hx4 ?_
  refine x_dup hC dL_law_3 (c_rf (some q1)) ?_
  obtain ⟨a5, ea6, ha7, h⟩ := h
  refine x_callI hC (st := [va_rf (some q1)]) (mt_X4_init _ _ _ h) ea6 q_18 q_19 q_1 q_20 rfl hy_X4_init ⟨Nat.le_of_ble_eq_true rfl, Nat.le_of_ble_eq_true rfl⟩ ⟨Nat.le_of_ble_eq_true rfl, Nat.le_of_ble_eq_true rfl⟩ rfl (Nat.le_of_ble_eq_true rfl) dL_law_4 (r_W (fun v8 S9 h => ?_)) (r_Wx (fun _ _ h => (wq_l h).elim))
  replace h := wq_r h
  show PX Z 10 S9 37 332 7 [(0, va_rf (some b))] [va_rf (some q1)]
  obtain ⟨r12, hx13, h⟩ := wle_el h
  refine x_tA hx13 ?_
  refine x_astore_n (i := 1) (l' := [(1, va_rf r12), (0, va_rf (some b))]) hC dL_law_7 rfl (⟨fun _ => c_rf (some b), trivial⟩) (by decide) rfl ?_
  refine x_new hC kf_5 q_857 q_858 q_7 (by decide) (Nat.le_of_ble_eq_true rfl) (Nat.le_of_ble_eq_true rfl) dL_law_8 (fun q14 hq15 => ?_)
  replace h := h q14 hq15
  obtain ⟨S16, hx17, h⟩ := wle_el h
  refine x_tS hx17 ?_
  refine x_dup hC dL_law_11 (c_rf (some q14)) ?_
  obtain ⟨a18, ea19, ha20, h⟩ := h
  refine x_callI hC (st := [va_rf (some q14)]) (mt_X5_init _ _ _ h) ea19 q_859 q_860 q_7 q_861 rfl hy_X5_init ⟨Nat.le_of_ble_eq_true rfl, Nat.le_of_ble_eq_true rfl⟩ ⟨Nat.le_of_ble_eq_true rfl, Nat.le_of_ble_eq_true rfl⟩ rfl (Nat.le_of_ble_eq_true rfl) dL_law_12 (r_W (fun v21 S22 h => ?_)) (r_Wx (fun _ _ h => (wq_l h).elim))
  replace h := wq_r h
  show PX Z 10 S22 42 1864 15 [(1, va_rf r12), (0, va_rf (some b))] [va_rf (some q14)]
  obtain ⟨r25, hx26, h⟩ := wle_el h
  refine x_tA hx26 ?_
  refine x_astore_n (i := 2) (l' := [(2, va_rf r25), (1, va_rf r12), (0, va_rf (some b))]) hC dL_law_15 rfl (⟨fun _ => c_rf r12, ⟨fun _ => c_rf (some b), trivial⟩⟩) (by decide) rfl ?_
  refine x_iconst (v := (1 : Int32)) hC dL_law_16 (by decide) ?_
  refine x_newJ (N' := 1) hC q_1263 (by decide) (by decide) (Nat.le_of_ble_eq_true rfl) (Nat.le_of_ble_eq_true rfl) (Nat.le_of_ble_eq_true rfl) dL_law_17 (fun q27 hq28 => ?_)
  replace h := h q27 hq28
  obtain ⟨S29, hx30, h⟩ := wle_el h
  refine x_tS hx30 ?_
  obtain ⟨r31, hx32, h⟩ := wle_el h
  refine x_tA hx32 ?_
  refine x_astore_n (i := 3) (l' := [(3, va_rf r31), (2, va_rf r25), (1, va_rf r12), (0, va_rf (some b))]) hC dL_law_19 rfl (⟨fun _ => c_rf r25, ⟨fun _ => c_rf r12, ⟨fun _ => c_rf (some b), trivial⟩⟩⟩) (by decide) rfl ?_
  refine x_iconst (v := (1 : Int32)) hC dL_law_20 (by decide) ?_
  refine x_newE (N' := 1) hC q_1264 (by decide) (by decide) (Nat.le_of_ble_eq_true rfl) (Nat.le_of_ble_eq_true rfl) (Nat.le_of_ble_eq_true rfl) dL_law_21 (fun q33 hq34 => ?_)
  replace h := h q33 hq34
  obtain ⟨S35, hx36, h⟩ := wle_el h
  refine x_tS hx36 ?_
  obtain ⟨r37, hx38, h⟩ := wle_el h
  refine x_tA hx38 ?_
  refine x_astore (i := 4) (l' := [(4, va_rf r37), (3, va_rf r31), (2, va_rf r25), (1, va_rf r12), (0, va_rf (some b))]) hC dL_law_23 (⟨fun _ => c_rf r31, ⟨fun _ => c_rf r25, ⟨fun _ => c_rf r12, ⟨fun _ => c_rf (some b), trivial⟩⟩⟩⟩) (by decide) rfl ?_
  refine x_iconst (v := (0 : Int32)) hC dL_law_25 (by decide) ?_
  refine x_istore (i := 5) (l' := [(5, .int (0 : Int32)), (4, va_rf r37), (3, va_rf r31), (2, va_rf r25), (1, va_rf r12), (0, va_rf (some b))]) hC dL_law_26 (⟨fun _ => c_rf r37, ⟨fun _ => c_rf r31, ⟨fun _ => c_rf r25, ⟨fun _ => c_rf r12, ⟨fun _ => c_rf (some b), trivial⟩⟩⟩⟩⟩) (by decide) rfl ?_
  refine x_sub (l' := [(0, va_rf (some b)), (1, va_rf r12), (2, va_rf r25), (3, va_rf r31), (4, va_rf r37), (5, .int (0 : Int32))]) [5, 4, 3, 2, 1, 0] rfl ?_
  exact hKH _ _ _ _ _ _ h
