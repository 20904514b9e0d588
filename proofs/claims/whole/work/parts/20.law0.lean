/-! THE LAW: one round of its loop, and its start -/
def SX : ZT → Nat → Nat → (Nat → Int32) → Prop
  | (p, l, e, R, s, m, args, below, meth, c, D, C, A, Q), b, L, xs => va_X b L xs s s.heap ∧ b < s.heap.size ∧ ¬ A b
def EL (Z : ZT) : Prop := ∀ (S : PH) (k n pc : Nat) (l : List (Nat × Value)), k ≤ 601024 → n ≤ 7293034 → decode cL_law pc = .ok (.ireturn, 1) → PX Z 10 S k n pc l [.int 1]
theorem x_sld {Z : ZT} {cc : ByteArray} {own : String} {nL : Nat} {R : Room} {S : PH} {k n pc : Nat} {l : List (Nat × Value)} {st : List Value} {b L : Nat} {xs : Nat → Int32} (h : CX Z cc own nL R) (hX : SX Z b L xs) {i : Int32} (hi : ix i L = true) (d : decode cc pc = .ok (.iaload, 1)) (kk : PX Z nL S k n (pc + 1) l (.int (xs i.toNatClampNeg) :: st)) : PX Z nL S k n pc l (.int i :: va_rf (some b) :: st) := by
  obtain ⟨p, lq, e, R0, s, m, args, below, meth, c, D, C, A, Q⟩ := Z
  exact fun H locs ls hP hD hS hl => va_sld h.1 h.2.1 hX.1 hX.2.1 hX.2.2 hS (ix_in hi) d (kk H locs ls hP hD hS hl)
theorem x_slen {Z : ZT} {cc : ByteArray} {own : String} {nL : Nat} {R : Room} {S : PH} {k n pc : Nat} {l : List (Nat × Value)} {st : List Value} {b L : Nat} {xs : Nat → Int32} (h : CX Z cc own nL R) (hX : SX Z b L xs) (d : decode cc pc = .ok (.arraylength, 1)) (kk : PX Z nL S k n (pc + 1) l (.int (Int32.ofNat L) :: st)) : PX Z nL S k n pc l (va_rf (some b) :: st) := by
  obtain ⟨p, lq, e, R0, s, m, args, below, meth, c, D, C, A, Q⟩ := Z
  exact fun H locs ls hP hD hS hl => va_slen h.1 h.2.1 hX.1 hX.2.1 hX.2.2 hS d (kk H locs ls hP hD hS hl)
def wc_law_188 (xs : Nat → Int32) (L : Nat) (r1 r2 r3 r4 : Option Nat) (i5 : Int32) (S0 : PH) (K : Int32 → PH → Prop) : Prop := wck (ix (i5 + (1 : Int32)) L) <| wck (ix (i5 + (2 : Int32)) L) <| w_L_paper r1 (xs (Int32.toNatClampNeg (i5 + (1 : Int32)))) (xs (Int32.toNatClampNeg (i5 + (2 : Int32)))) r3 S0 (wq (fun v3 S4 => wck (ix (i5 + (1 : Int32)) L) <| wck (ix (i5 + (2 : Int32)) L) <| wdr S4 5 r2 fun a9 => wbd (m_X5_paper r2 (xs (Int32.toNatClampNeg (i5 + (1 : Int32)))) (xs (Int32.toNatClampNeg (i5 + (2 : Int32)))) S4) fun v12 S13 => wdr S13 5 r2 fun a15 => wbd (m_X5_thrown r2 S13) fun v18 S19 => if v18 = v3 then (if v3 = 0 then (wdr S19 10 r3 fun a23 => wck (ix (0 : Int32) (p_N S19 a23)) <| if (lg_cmp (p_J S19 a23 0) (Int32.toInt64 v12)) = 0 then (K (i5 + (4 : Int32)) S19) else ((0 : Int32) = (1 : Int32))) else (K (i5 + (4 : Int32)) S19)) else ((0 : Int32) = (1 : Int32))) (fun _ _ => False))
theorem dL_law_188 : decode cL_law 188 = .ok (.aload_n 1, 1) := by decide +kernel
theorem dL_law_189 : decode cL_law 189 = .ok (.aload_n 0, 1) := by decide +kernel
theorem dL_law_190 : decode cL_law 190 = .ok (.iload 5, 2) := by decide +kernel
theorem dL_law_192 : decode cL_law 192 = .ok (.iconst 1, 1) := by decide +kernel
theorem dL_law_193 : decode cL_law 193 = .ok (.iadd, 1) := by decide +kernel
theorem dL_law_194 : decode cL_law 194 = .ok (.iaload, 1) := by decide +kernel
theorem dL_law_195 : decode cL_law 195 = .ok (.aload_n 0, 1) := by decide +kernel
theorem dL_law_196 : decode cL_law 196 = .ok (.iload 5, 2) := by decide +kernel
theorem dL_law_198 : decode cL_law 198 = .ok (.iconst 2, 1) := by decide +kernel
theorem dL_law_199 : decode cL_law 199 = .ok (.iadd, 1) := by decide +kernel
theorem dL_law_200 : decode cL_law 200 = .ok (.iaload, 1) := by decide +kernel
theorem dL_law_201 : decode cL_law 201 = .ok (.aload_n 3, 1) := by decide +kernel
theorem dL_law_202 : decode cL_law 202 = .ok (.invokestatic 105, 3) := by decide +kernel
theorem dL_law_205 : decode cL_law 205 = .ok (.istore 6, 2) := by decide +kernel
theorem dL_law_207 : decode cL_law 207 = .ok (.aload_n 2, 1) := by decide +kernel
theorem dL_law_208 : decode cL_law 208 = .ok (.aload_n 0, 1) := by decide +kernel
theorem dL_law_209 : decode cL_law 209 = .ok (.iload 5, 2) := by decide +kernel
theorem dL_law_211 : decode cL_law 211 = .ok (.iconst 1, 1) := by decide +kernel
theorem dL_law_212 : decode cL_law 212 = .ok (.iadd, 1) := by decide +kernel
theorem dL_law_213 : decode cL_law 213 = .ok (.iaload, 1) := by decide +kernel
theorem dL_law_214 : decode cL_law 214 = .ok (.aload_n 0, 1) := by decide +kernel
theorem dL_law_215 : decode cL_law 215 = .ok (.iload 5, 2) := by decide +kernel
theorem dL_law_217 : decode cL_law 217 = .ok (.iconst 2, 1) := by decide +kernel
theorem dL_law_218 : decode cL_law 218 = .ok (.iadd, 1) := by decide +kernel
theorem dL_law_219 : decode cL_law 219 = .ok (.iaload, 1) := by decide +kernel
theorem dL_law_220 : decode cL_law 220 = .ok (.invokevirtual 110, 3) := by decide +kernel
theorem dL_law_223 : decode cL_law 223 = .ok (.istore 7, 2) := by decide +kernel
theorem dL_law_225 : decode cL_law 225 = .ok (.aload_n 2, 1) := by decide +kernel
theorem dL_law_226 : decode cL_law 226 = .ok (.invokevirtual 111, 3) := by decide +kernel
theorem dL_law_229 : decode cL_law 229 = .ok (.iload 6, 2) := by decide +kernel
theorem dL_law_231 : decode cL_law 231 = .ok (.if_icmp .eq 5, 3) := by decide +kernel
theorem dL_law_236 : decode cL_law 236 = .ok (.iload 6, 2) := by decide +kernel
theorem dL_law_238 : decode cL_law 238 = .ok (.ifCond .ne 15, 3) := by decide +kernel
theorem dL_law_253 : decode cL_law 253 = .ok (.goto 1672, 3) := by decide +kernel
theorem dL_law_1925 : decode cL_law 1925 = .ok (.iinc 5 4, 3) := by decide +kernel
theorem dL_law_1928 : decode cL_law 1928 = .ok (.goto (-1900), 3) := by decide +kernel
theorem dL_law_241 : decode cL_law 241 = .ok (.aload_n 3, 1) := by decide +kernel
theorem dL_law_242 : decode cL_law 242 = .ok (.iconst 0, 1) := by decide +kernel
theorem dL_law_243 : decode cL_law 243 = .ok (.laload, 1) := by decide +kernel
theorem dL_law_244 : decode cL_law 244 = .ok (.iload 7, 2) := by decide +kernel
theorem dL_law_246 : decode cL_law 246 = .ok (.i2l, 1) := by decide +kernel
theorem dL_law_247 : decode cL_law 247 = .ok (.lcmp, 1) := by decide +kernel
theorem dL_law_248 : decode cL_law 248 = .ok (.ifCond .eq 5, 3) := by decide +kernel
theorem dL_law_251 : decode cL_law 251 = .ok (.iconst 0, 1) := by decide +kernel
theorem dL_law_252 : decode cL_law 252 = .ok (.ireturn, 1) := by decide +kernel
theorem dL_law_234 : decode cL_law 234 = .ok (.iconst 0, 1) := by decide +kernel
theorem dL_law_235 : decode cL_law 235 = .ok (.ireturn, 1) := by decide +kernel
set_option maxRecDepth 100000 in
set_option maxHeartbeats 4000000 in
theorem wk_law_188 {Z : ZT} {b L : Nat} {xs : Nat → Int32} (hC : CX Z cL_law RL 10 room_1) (hX : SX Z b L xs) (hEnd : EL Z) {k0 n0 : Nat} (hk : k0 + 40 ≤ 601024) (hn : n0 + 400 ≤ 7293034) (r1 r2 r3 r4 : Option Nat) (i5 : Int32) (S0 : PH) (K : Int32 → PH → Prop) (hK : ∀ i S, K i S → PX Z 10 S (k0 + 40) (n0 + 400) 28 [(0, va_rf (some b)), (1, va_rf r1), (2, va_rf r2), (3, va_rf r3), (4, va_rf r4), (5, .int i)] []) (h : wc_law_188 xs L r1 r2 r3 r4 i5 S0 K) : PX Z 10 S0 k0 n0 188 [(0, va_rf (some b)), (1, va_rf r1), (2, va_rf r2), (3, va_rf r3), (4, va_rf r4), (5, .int i5)] [] := by
  refine x_wid (k' := k0 + 0) (n' := n0 + 0) (Nat.le_refl _) (Nat.le_refl _) ?_
  unfold wc_law_188 at h
  refine x_aload_n (i := 1) hC dL_law_188 rfl 1 rfl ?_
  refine x_aload_n (i := 0) hC dL_law_189 rfl 0 rfl ?_
  refine x_iload (i := 5) hC dL_law_190 5 rfl ?_
  refine x_iconst (v := (1 : Int32)) hC dL_law_192 (by decide) ?_
  refine x_iadd hC dL_law_193 ?_
  obtain ⟨hc1, h⟩ := h
  refine x_sld hC hX hc1 dL_law_194 ?_
  refine x_aload_n (i := 0) hC dL_law_195 rfl 0 rfl ?_
  refine x_iload (i := 5) hC dL_law_196 5 rfl ?_
  refine x_iconst (v := (2 : Int32)) hC dL_law_198 (by decide) ?_
  refine x_iadd hC dL_law_199 ?_
  obtain ⟨hc2, h⟩ := h
  refine x_sld hC hX hc2 dL_law_200 ?_
  refine x_aload_n (i := 3) hC dL_law_201 rfl 3 rfl ?_
  refine x_callSX hC (st := []) (mt_L_paper _ _ _ _ _ _ h) q_421 q_422 q_0 q_423 hy_L_paper ⟨Nat.le_of_ble_eq_true rfl, Nat.le_of_ble_eq_true rfl⟩ ⟨(show k0 + 0 + 21 ≤ 601024 from by omega), (show n0 + 0 + 173 ≤ 7293034 from by omega)⟩ rfl (Nat.le_of_ble_eq_true rfl) dL_law_202 (r_W (fun v3 S4 h => ?_)) (r_Wx (fun _ _ h => (wq_l h).elim))
  replace h := wq_r h
  show PX Z 10 S4 (k0 + 21) (n0 + 173) 205 [(0, va_rf (some b)), (1, va_rf r1), (2, va_rf r2), (3, va_rf r3), (4, va_rf r4), (5, .int i5)] [.int v3]
  refine x_istore (i := 6) (l' := [(6, .int v3), (0, va_rf (some b)), (1, va_rf r1), (2, va_rf r2), (3, va_rf r3), (4, va_rf r4), (5, .int i5)]) hC dL_law_205 (⟨fun _ => c_rf (some b), ⟨fun _ => c_rf r1, ⟨fun _ => c_rf r2, ⟨fun _ => c_rf r3, ⟨fun _ => c_rf r4, ⟨fun _ => rfl, trivial⟩⟩⟩⟩⟩⟩) (by decide) rfl ?_
  refine x_aload_n (i := 2) hC dL_law_207 rfl 3 rfl ?_
  refine x_aload_n (i := 0) hC dL_law_208 rfl 1 rfl ?_
  refine x_iload (i := 5) hC dL_law_209 6 rfl ?_
  refine x_iconst (v := (1 : Int32)) hC dL_law_211 (by decide) ?_
  refine x_iadd hC dL_law_212 ?_
  obtain ⟨hc7, h⟩ := h
  refine x_sld hC hX hc7 dL_law_213 ?_
  refine x_aload_n (i := 0) hC dL_law_214 rfl 1 rfl ?_
  refine x_iload (i := 5) hC dL_law_215 6 rfl ?_
  refine x_iconst (v := (2 : Int32)) hC dL_law_217 (by decide) ?_
  refine x_iadd hC dL_law_218 ?_
  obtain ⟨hc8, h⟩ := h
  refine x_sld hC hX hc8 dL_law_219 ?_
  obtain ⟨a9, ea10, ha11, h⟩ := h
  obtain ⟨v12, S13, hb14, h⟩ := h
  refine x_callV hC (st := []) (mt_X5_paper _ _ _ _ _ hb14) ea10 ha11 kf_5 q_908 q_909 q_910 q_7 q_911 ⟨rfl, hy_X5_paper⟩ ⟨Nat.le_of_ble_eq_true rfl, Nat.le_of_ble_eq_true rfl⟩ ⟨(show k0 + 21 + 0 ≤ 601024 from by omega), (show n0 + 173 + 0 ≤ 7293034 from by omega)⟩ rfl (Nat.le_of_ble_eq_true rfl) dL_law_220 (r_N ?_) r_NX
  show PX Z 10 S13 (k0 + 21) (n0 + 173) 223 [(6, .int v3), (0, va_rf (some b)), (1, va_rf r1), (2, va_rf r2), (3, va_rf r3), (4, va_rf r4), (5, .int i5)] [.int v12]
  refine x_istore (i := 7) (l' := [(7, .int v12), (6, .int v3), (0, va_rf (some b)), (1, va_rf r1), (2, va_rf r2), (3, va_rf r3), (4, va_rf r4), (5, .int i5)]) hC dL_law_223 (⟨fun _ => rfl, ⟨fun _ => c_rf (some b), ⟨fun _ => c_rf r1, ⟨fun _ => c_rf r2, ⟨fun _ => c_rf r3, ⟨fun _ => c_rf r4, ⟨fun _ => rfl, trivial⟩⟩⟩⟩⟩⟩⟩) (by decide) rfl ?_
  refine x_aload_n (i := 2) hC dL_law_225 rfl 4 rfl ?_
  obtain ⟨a15, ea16, ha17, h⟩ := h
  obtain ⟨v18, S19, hb20, h⟩ := h
  refine x_callV hC (st := []) (mt_X5_thrown _ _ _ hb20) ea16 ha17 kf_5 q_904 q_905 q_906 q_7 q_907 ⟨rfl, hy_X5_thrown⟩ ⟨Nat.le_of_ble_eq_true rfl, Nat.le_of_ble_eq_true rfl⟩ ⟨(show k0 + 21 + 0 ≤ 601024 from by omega), (show n0 + 173 + 0 ≤ 7293034 from by omega)⟩ rfl (Nat.le_of_ble_eq_true rfl) dL_law_226 (r_N ?_) r_NX
  show PX Z 10 S19 (k0 + 21) (n0 + 173) 229 [(7, .int v12), (6, .int v3), (0, va_rf (some b)), (1, va_rf r1), (2, va_rf r2), (3, va_rf r3), (4, va_rf r4), (5, .int i5)] [.int v18]
  refine x_iload (i := 6) hC dL_law_229 1 rfl ?_
  refine x_icmp_eq (t := 236) hC dL_law_231 (by decide) (fun c21 => ?_) (fun c21 => ?_)
  · replace h := wit_t c21 h
    refine x_iload (i := 6) hC dL_law_236 1 rfl ?_
    refine x_if_ne (t := 253) hC dL_law_238 (by decide) (fun c22 => ?_) (fun c22 => ?_)
    · replace h := wit_f c22 h
      refine x_goto (t := 1925) hC dL_law_253 (by decide) ?_
      refine x_iinc (i := 5) (v := (i5 + (4 : Int32))) (l' := [(5, .int (i5 + (4 : Int32))), (7, .int v12), (6, .int v3), (0, va_rf (some b)), (1, va_rf r1), (2, va_rf r2), (3, va_rf r3), (4, va_rf r4)]) hC dL_law_1925 7 rfl rfl (⟨fun _ => rfl, ⟨fun _ => rfl, ⟨fun _ => c_rf (some b), ⟨fun _ => c_rf r1, ⟨fun _ => c_rf r2, ⟨fun _ => c_rf r3, ⟨fun _ => c_rf r4, ⟨fun _ => rfl, trivial⟩⟩⟩⟩⟩⟩⟩⟩) (by decide) rfl ?_
      refine x_goto (t := 28) hC dL_law_1928 (by decide) ?_
      refine x_sub (l' := [(0, va_rf (some b)), (1, va_rf r1), (2, va_rf r2), (3, va_rf r3), (4, va_rf r4), (5, .int (i5 + (4 : Int32)))]) [3, 4, 5, 6, 7, 0] rfl ?_
      refine x_wid (k' := k0 + 40) (n' := n0 + 400) (by omega) (by omega) ?_
      exact hK _ _ h
    · replace h := wit_t c22 h
      refine x_aload_n (i := 3) hC dL_law_241 rfl 5 rfl ?_
      refine x_iconst (v := (0 : Int32)) hC dL_law_242 (by decide) ?_
      obtain ⟨a23, ea24, ha25, h⟩ := h
      obtain ⟨hc26, h⟩ := h
      refine x_laload hC ea24 ha25 hc26 dL_law_243 ?_
      refine x_tJ (b := (p_J S19 a23 0)) rfl ?_
      refine x_iload (i := 7) hC dL_law_244 0 rfl ?_
      refine x_i2l hC dL_law_246 ?_
      refine x_lcmp hC dL_law_247 ?_
      refine x_if_eq (t := 253) hC dL_law_248 (by decide) (fun c27 => ?_) (fun c27 => ?_)
      · replace h := wit_t c27 h
        refine x_goto (t := 1925) hC dL_law_253 (by decide) ?_
        refine x_iinc (i := 5) (v := (i5 + (4 : Int32))) (l' := [(5, .int (i5 + (4 : Int32))), (7, .int v12), (6, .int v3), (0, va_rf (some b)), (1, va_rf r1), (2, va_rf r2), (3, va_rf r3), (4, va_rf r4)]) hC dL_law_1925 7 rfl rfl (⟨fun _ => rfl, ⟨fun _ => rfl, ⟨fun _ => c_rf (some b), ⟨fun _ => c_rf r1, ⟨fun _ => c_rf r2, ⟨fun _ => c_rf r3, ⟨fun _ => c_rf r4, ⟨fun _ => rfl, trivial⟩⟩⟩⟩⟩⟩⟩⟩) (by decide) rfl ?_
        refine x_goto (t := 28) hC dL_law_1928 (by decide) ?_
        refine x_sub (l' := [(0, va_rf (some b)), (1, va_rf r1), (2, va_rf r2), (3, va_rf r3), (4, va_rf r4), (5, .int (i5 + (4 : Int32)))]) [3, 4, 5, 6, 7, 0] rfl ?_
        refine x_wid (k' := k0 + 40) (n' := n0 + 400) (by omega) (by omega) ?_
        exact hK _ _ h
      · replace h := wit_f c27 h
        refine x_iconst (v := (0 : Int32)) hC dL_law_251 (by decide) ?_
        refine x_tI (show (0 : Int32) = (1 : Int32) from h) ?_
        exact hEnd _ _ _ _ _ (by omega) (by omega) dL_law_252
  · replace h := wit_f c21 h
    refine x_iconst (v := (0 : Int32)) hC dL_law_234 (by decide) ?_
    refine x_tI (show (0 : Int32) = (1 : Int32) from h) ?_
    exact hEnd _ _ _ _ _ (by omega) (by omega) dL_law_235
def wc_law_256 (xs : Nat → Int32) (L : Nat) (r1 r2 r3 r4 : Option Nat) (i5 : Int32) (S0 : PH) (K : Int32 → PH → Prop) : Prop := wck (ix (i5 + (1 : Int32)) L) <| wck (ix (i5 + (2 : Int32)) L) <| w_L_topics r1 (xs (Int32.toNatClampNeg (i5 + (1 : Int32)))) (xs (Int32.toNatClampNeg (i5 + (2 : Int32)))) r3 S0 (wq (fun v3 S4 => wck (ix (i5 + (1 : Int32)) L) <| wck (ix (i5 + (2 : Int32)) L) <| wdr S4 5 r2 fun a9 => wbd (m_X5_topics r2 (xs (Int32.toNatClampNeg (i5 + (1 : Int32)))) (xs (Int32.toNatClampNeg (i5 + (2 : Int32)))) S4) fun v12 S13 => wdr S13 5 r2 fun a15 => wbd (m_X5_thrown r2 S13) fun v18 S19 => if v18 = v3 then (if v3 = 0 then (wdr S19 10 r3 fun a23 => wck (ix (0 : Int32) (p_N S19 a23)) <| if (lg_cmp (p_J S19 a23 0) (Int32.toInt64 v12)) = 0 then (K (i5 + (4 : Int32)) S19) else ((0 : Int32) = (1 : Int32))) else (K (i5 + (4 : Int32)) S19)) else ((0 : Int32) = (1 : Int32))) (fun _ _ => False))
theorem dL_law_256 : decode cL_law 256 = .ok (.aload_n 1, 1) := by decide +kernel
theorem dL_law_257 : decode cL_law 257 = .ok (.aload_n 0, 1) := by decide +kernel
theorem dL_law_258 : decode cL_law 258 = .ok (.iload 5, 2) := by decide +kernel
theorem dL_law_260 : decode cL_law 260 = .ok (.iconst 1, 1) := by decide +kernel
theorem dL_law_261 : decode cL_law 261 = .ok (.iadd, 1) := by decide +kernel
theorem dL_law_262 : decode cL_law 262 = .ok (.iaload, 1) := by decide +kernel
theorem dL_law_263 : decode cL_law 263 = .ok (.aload_n 0, 1) := by decide +kernel
theorem dL_law_264 : decode cL_law 264 = .ok (.iload 5, 2) := by decide +kernel
theorem dL_law_266 : decode cL_law 266 = .ok (.iconst 2, 1) := by decide +kernel
theorem dL_law_267 : decode cL_law 267 = .ok (.iadd, 1) := by decide +kernel
theorem dL_law_268 : decode cL_law 268 = .ok (.iaload, 1) := by decide +kernel
theorem dL_law_269 : decode cL_law 269 = .ok (.aload_n 3, 1) := by decide +kernel
theorem dL_law_270 : decode cL_law 270 = .ok (.invokestatic 114, 3) := by decide +kernel
theorem dL_law_273 : decode cL_law 273 = .ok (.istore 6, 2) := by decide +kernel
theorem dL_law_275 : decode cL_law 275 = .ok (.aload_n 2, 1) := by decide +kernel
theorem dL_law_276 : decode cL_law 276 = .ok (.aload_n 0, 1) := by decide +kernel
theorem dL_law_277 : decode cL_law 277 = .ok (.iload 5, 2) := by decide +kernel
theorem dL_law_279 : decode cL_law 279 = .ok (.iconst 1, 1) := by decide +kernel
theorem dL_law_280 : decode cL_law 280 = .ok (.iadd, 1) := by decide +kernel
theorem dL_law_281 : decode cL_law 281 = .ok (.iaload, 1) := by decide +kernel
theorem dL_law_282 : decode cL_law 282 = .ok (.aload_n 0, 1) := by decide +kernel
theorem dL_law_283 : decode cL_law 283 = .ok (.iload 5, 2) := by decide +kernel
theorem dL_law_285 : decode cL_law 285 = .ok (.iconst 2, 1) := by decide +kernel
theorem dL_law_286 : decode cL_law 286 = .ok (.iadd, 1) := by decide +kernel
theorem dL_law_287 : decode cL_law 287 = .ok (.iaload, 1) := by decide +kernel
theorem dL_law_288 : decode cL_law 288 = .ok (.invokevirtual 116, 3) := by decide +kernel
theorem dL_law_291 : decode cL_law 291 = .ok (.istore 7, 2) := by decide +kernel
theorem dL_law_293 : decode cL_law 293 = .ok (.aload_n 2, 1) := by decide +kernel
theorem dL_law_294 : decode cL_law 294 = .ok (.invokevirtual 111, 3) := by decide +kernel
theorem dL_law_297 : decode cL_law 297 = .ok (.iload 6, 2) := by decide +kernel
theorem dL_law_299 : decode cL_law 299 = .ok (.if_icmp .eq 5, 3) := by decide +kernel
theorem dL_law_304 : decode cL_law 304 = .ok (.iload 6, 2) := by decide +kernel
theorem dL_law_306 : decode cL_law 306 = .ok (.ifCond .ne 15, 3) := by decide +kernel
theorem dL_law_321 : decode cL_law 321 = .ok (.goto 1604, 3) := by decide +kernel
theorem dL_law_309 : decode cL_law 309 = .ok (.aload_n 3, 1) := by decide +kernel
theorem dL_law_310 : decode cL_law 310 = .ok (.iconst 0, 1) := by decide +kernel
theorem dL_law_311 : decode cL_law 311 = .ok (.laload, 1) := by decide +kernel
theorem dL_law_312 : decode cL_law 312 = .ok (.iload 7, 2) := by decide +kernel
theorem dL_law_314 : decode cL_law 314 = .ok (.i2l, 1) := by decide +kernel
theorem dL_law_315 : decode cL_law 315 = .ok (.lcmp, 1) := by decide +kernel
theorem dL_law_316 : decode cL_law 316 = .ok (.ifCond .eq 5, 3) := by decide +kernel
theorem dL_law_319 : decode cL_law 319 = .ok (.iconst 0, 1) := by decide +kernel
theorem dL_law_320 : decode cL_law 320 = .ok (.ireturn, 1) := by decide +kernel
theorem dL_law_302 : decode cL_law 302 = .ok (.iconst 0, 1) := by decide +kernel
theorem dL_law_303 : decode cL_law 303 = .ok (.ireturn, 1) := by decide +kernel
set_option maxRecDepth 100000 in
set_option maxHeartbeats 4000000 in
theorem wk_law_256 {Z : ZT} {b L : Nat} {xs : Nat → Int32} (hC : CX Z cL_law RL 10 room_1) (hX : SX Z b L xs) (hEnd : EL Z) {k0 n0 : Nat} (hk : k0 + 40 ≤ 601024) (hn : n0 + 400 ≤ 7293034) (r1 r2 r3 r4 : Option Nat) (i5 : Int32) (S0 : PH) (K : Int32 → PH → Prop) (hK : ∀ i S, K i S → PX Z 10 S (k0 + 40) (n0 + 400) 28 [(0, va_rf (some b)), (1, va_rf r1), (2, va_rf r2), (3, va_rf r3), (4, va_rf r4), (5, .int i)] []) (h : wc_law_256 xs L r1 r2 r3 r4 i5 S0 K) : PX Z 10 S0 k0 n0 256 [(0, va_rf (some b)), (1, va_rf r1), (2, va_rf r2), (3, va_rf r3), (4, va_rf r4), (5, .int i5)] [] := by
  refine x_wid (k' := k0 + 0) (n' := n0 + 0) (Nat.le_refl _) (Nat.le_refl _) ?_
  unfold wc_law_256 at h
  refine x_aload_n (i := 1) hC dL_law_256 rfl 1 rfl ?_
  refine x_aload_n (i := 0) hC dL_law_257 rfl 0 rfl ?_
  refine x_iload (i := 5) hC dL_law_258 5 rfl ?_
  refine x_iconst (v := (1 : Int32)) hC dL_law_260 (by decide) ?_
  refine x_iadd hC dL_law_261 ?_
  obtain ⟨hc1, h⟩ := h
  refine x_sld hC hX hc1 dL_law_262 ?_
  refine x_aload_n (i := 0) hC dL_law_263 rfl 0 rfl ?_
  refine x_iload (i := 5) hC dL_law_264 5 rfl ?_
  refine x_iconst (v := (2 : Int32)) hC dL_law_266 (by decide) ?_
  refine x_iadd hC dL_law_267 ?_
  obtain ⟨hc2, h⟩ := h
  refine x_sld hC hX hc2 dL_law_268 ?_
  refine x_aload_n (i := 3) hC dL_law_269 rfl 3 rfl ?_
  refine x_callSX hC (st := []) (mt_L_topics _ _ _ _ _ _ h) q_525 q_526 q_0 q_527 hy_L_topics ⟨Nat.le_of_ble_eq_true rfl, Nat.le_of_ble_eq_true rfl⟩ ⟨(show k0 + 0 + 22 ≤ 601024 from by omega), (show n0 + 0 + 179 ≤ 7293034 from by omega)⟩ rfl (Nat.le_of_ble_eq_true rfl) dL_law_270 (r_W (fun v3 S4 h => ?_)) (r_Wx (fun _ _ h => (wq_l h).elim))
  replace h := wq_r h
  show PX Z 10 S4 (k0 + 22) (n0 + 179) 273 [(0, va_rf (some b)), (1, va_rf r1), (2, va_rf r2), (3, va_rf r3), (4, va_rf r4), (5, .int i5)] [.int v3]
  refine x_istore (i := 6) (l' := [(6, .int v3), (0, va_rf (some b)), (1, va_rf r1), (2, va_rf r2), (3, va_rf r3), (4, va_rf r4), (5, .int i5)]) hC dL_law_273 (⟨fun _ => c_rf (some b), ⟨fun _ => c_rf r1, ⟨fun _ => c_rf r2, ⟨fun _ => c_rf r3, ⟨fun _ => c_rf r4, ⟨fun _ => rfl, trivial⟩⟩⟩⟩⟩⟩) (by decide) rfl ?_
  refine x_aload_n (i := 2) hC dL_law_275 rfl 3 rfl ?_
  refine x_aload_n (i := 0) hC dL_law_276 rfl 1 rfl ?_
  refine x_iload (i := 5) hC dL_law_277 6 rfl ?_
  refine x_iconst (v := (1 : Int32)) hC dL_law_279 (by decide) ?_
  refine x_iadd hC dL_law_280 ?_
  obtain ⟨hc7, h⟩ := h
  refine x_sld hC hX hc7 dL_law_281 ?_
  refine x_aload_n (i := 0) hC dL_law_282 rfl 1 rfl ?_
  refine x_iload (i := 5) hC dL_law_283 6 rfl ?_
  refine x_iconst (v := (2 : Int32)) hC dL_law_285 (by decide) ?_
  refine x_iadd hC dL_law_286 ?_
  obtain ⟨hc8, h⟩ := h
  refine x_sld hC hX hc8 dL_law_287 ?_
  obtain ⟨a9, ea10, ha11, h⟩ := h
  obtain ⟨v12, S13, hb14, h⟩ := h
  refine x_callV hC (st := []) (mt_X5_topics _ _ _ _ _ hb14) ea10 ha11 kf_5 q_931 q_932 q_933 q_7 q_934 ⟨rfl, hy_X5_topics⟩ ⟨Nat.le_of_ble_eq_true rfl, Nat.le_of_ble_eq_true rfl⟩ ⟨(show k0 + 22 + 0 ≤ 601024 from by omega), (show n0 + 179 + 0 ≤ 7293034 from by omega)⟩ rfl (Nat.le_of_ble_eq_true rfl) dL_law_288 (r_N ?_) r_NX
  show PX Z 10 S13 (k0 + 22) (n0 + 179) 291 [(6, .int v3), (0, va_rf (some b)), (1, va_rf r1), (2, va_rf r2), (3, va_rf r3), (4, va_rf r4), (5, .int i5)] [.int v12]
  refine x_istore (i := 7) (l' := [(7, .int v12), (6, .int v3), (0, va_rf (some b)), (1, va_rf r1), (2, va_rf r2), (3, va_rf r3), (4, va_rf r4), (5, .int i5)]) hC dL_law_291 (⟨fun _ => rfl, ⟨fun _ => c_rf (some b), ⟨fun _ => c_rf r1, ⟨fun _ => c_rf r2, ⟨fun _ => c_rf r3, ⟨fun _ => c_rf r4, ⟨fun _ => rfl, trivial⟩⟩⟩⟩⟩⟩⟩) (by decide) rfl ?_
  refine x_aload_n (i := 2) hC dL_law_293 rfl 4 rfl ?_
  obtain ⟨a15, ea16, ha17, h⟩ := h
  obtain ⟨v18, S19, hb20, h⟩ := h
  refine x_callV hC (st := []) (mt_X5_thrown _ _ _ hb20) ea16 ha17 kf_5 q_904 q_905 q_906 q_7 q_907 ⟨rfl, hy_X5_thrown⟩ ⟨Nat.le_of_ble_eq_true rfl, Nat.le_of_ble_eq_true rfl⟩ ⟨(show k0 + 22 + 0 ≤ 601024 from by omega), (show n0 + 179 + 0 ≤ 7293034 from by omega)⟩ rfl (Nat.le_of_ble_eq_true rfl) dL_law_294 (r_N ?_) r_NX
  show PX Z 10 S19 (k0 + 22) (n0 + 179) 297 [(7, .int v12), (6, .int v3), (0, va_rf (some b)), (1, va_rf r1), (2, va_rf r2), (3, va_rf r3), (4, va_rf r4), (5, .int i5)] [.int v18]
  refine x_iload (i := 6) hC dL_law_297 1 rfl ?_
  refine x_icmp_eq (t := 304) hC dL_law_299 (by decide) (fun c21 => ?_) (fun c21 => ?_)
  · replace h := wit_t c21 h
    refine x_iload (i := 6) hC dL_law_304 1 rfl ?_
    refine x_if_ne (t := 321) hC dL_law_306 (by decide) (fun c22 => ?_) (fun c22 => ?_)
    · replace h := wit_f c22 h
      refine x_goto (t := 1925) hC dL_law_321 (by decide) ?_
      refine x_iinc (i := 5) (v := (i5 + (4 : Int32))) (l' := [(5, .int (i5 + (4 : Int32))), (7, .int v12), (6, .int v3), (0, va_rf (some b)), (1, va_rf r1), (2, va_rf r2), (3, va_rf r3), (4, va_rf r4)]) hC dL_law_1925 7 rfl rfl (⟨fun _ => rfl, ⟨fun _ => rfl, ⟨fun _ => c_rf (some b), ⟨fun _ => c_rf r1, ⟨fun _ => c_rf r2, ⟨fun _ => c_rf r3, ⟨fun _ => c_rf r4, ⟨fun _ => rfl, trivial⟩⟩⟩⟩⟩⟩⟩⟩) (by decide) rfl ?_
      refine x_goto (t := 28) hC dL_law_1928 (by decide) ?_
      refine x_sub (l' := [(0, va_rf (some b)), (1, va_rf r1), (2, va_rf r2), (3, va_rf r3), (4, va_rf r4), (5, .int (i5 + (4 : Int32)))]) [3, 4, 5, 6, 7, 0] rfl ?_
      refine x_wid (k' := k0 + 40) (n' := n0 + 400) (by omega) (by omega) ?_
      exact hK _ _ h
    · replace h := wit_t c22 h
      refine x_aload_n (i := 3) hC dL_law_309 rfl 5 rfl ?_
      refine x_iconst (v := (0 : Int32)) hC dL_law_310 (by decide) ?_
      obtain ⟨a23, ea24, ha25, h⟩ := h
      obtain ⟨hc26, h⟩ := h
      refine x_laload hC ea24 ha25 hc26 dL_law_311 ?_
      refine x_tJ (b := (p_J S19 a23 0)) rfl ?_
      refine x_iload (i := 7) hC dL_law_312 0 rfl ?_
      refine x_i2l hC dL_law_314 ?_
      refine x_lcmp hC dL_law_315 ?_
      refine x_if_eq (t := 321) hC dL_law_316 (by decide) (fun c27 => ?_) (fun c27 => ?_)
      · replace h := wit_t c27 h
        refine x_goto (t := 1925) hC dL_law_321 (by decide) ?_
        refine x_iinc (i := 5) (v := (i5 + (4 : Int32))) (l' := [(5, .int (i5 + (4 : Int32))), (7, .int v12), (6, .int v3), (0, va_rf (some b)), (1, va_rf r1), (2, va_rf r2), (3, va_rf r3), (4, va_rf r4)]) hC dL_law_1925 7 rfl rfl (⟨fun _ => rfl, ⟨fun _ => rfl, ⟨fun _ => c_rf (some b), ⟨fun _ => c_rf r1, ⟨fun _ => c_rf r2, ⟨fun _ => c_rf r3, ⟨fun _ => c_rf r4, ⟨fun _ => rfl, trivial⟩⟩⟩⟩⟩⟩⟩⟩) (by decide) rfl ?_
        refine x_goto (t := 28) hC dL_law_1928 (by decide) ?_
        refine x_sub (l' := [(0, va_rf (some b)), (1, va_rf r1), (2, va_rf r2), (3, va_rf r3), (4, va_rf r4), (5, .int (i5 + (4 : Int32)))]) [3, 4, 5, 6, 7, 0] rfl ?_
        refine x_wid (k' := k0 + 40) (n' := n0 + 400) (by omega) (by omega) ?_
        exact hK _ _ h
      · replace h := wit_f c27 h
        refine x_iconst (v := (0 : Int32)) hC dL_law_319 (by decide) ?_
        refine x_tI (show (0 : Int32) = (1 : Int32) from h) ?_
        exact hEnd _ _ _ _ _ (by omega) (by omega) dL_law_320
  · replace h := wit_f c21 h
    refine x_iconst (v := (0 : Int32)) hC dL_law_302 (by decide) ?_
    refine x_tI (show (0 : Int32) = (1 : Int32) from h) ?_
    exact hEnd _ _ _ _ _ (by omega) (by omega) dL_law_303
def wc_law_324 (xs : Nat → Int32) (L : Nat) (r1 r2 r3 r4 : Option Nat) (i5 : Int32) (S0 : PH) (K : Int32 → PH → Prop) : Prop := wck (ix (i5 + (1 : Int32)) L) <| wck (ix (i5 + (2 : Int32)) L) <| w_L_meet r1 (xs (Int32.toNatClampNeg (i5 + (1 : Int32)))) (xs (Int32.toNatClampNeg (i5 + (2 : Int32)))) r3 S0 (wq (fun v3 S4 => wck (ix (i5 + (1 : Int32)) L) <| wck (ix (i5 + (2 : Int32)) L) <| wdr S4 5 r2 fun a9 => wbd (m_X5_meet r2 (xs (Int32.toNatClampNeg (i5 + (1 : Int32)))) (xs (Int32.toNatClampNeg (i5 + (2 : Int32)))) S4) fun v12 S13 => wdr S13 5 r2 fun a15 => wbd (m_X5_thrown r2 S13) fun v18 S19 => if v18 = v3 then (if v3 = 0 then (wdr S19 10 r3 fun a23 => wck (ix (0 : Int32) (p_N S19 a23)) <| if (lg_cmp (p_J S19 a23 0) (Int32.toInt64 v12)) = 0 then (K (i5 + (4 : Int32)) S19) else ((0 : Int32) = (1 : Int32))) else (K (i5 + (4 : Int32)) S19)) else ((0 : Int32) = (1 : Int32))) (fun _ _ => False))
theorem dL_law_324 : decode cL_law 324 = .ok (.aload_n 1, 1) := by decide +kernel
theorem dL_law_325 : decode cL_law 325 = .ok (.aload_n 0, 1) := by decide +kernel
theorem dL_law_326 : decode cL_law 326 = .ok (.iload 5, 2) := by decide +kernel
theorem dL_law_328 : decode cL_law 328 = .ok (.iconst 1, 1) := by decide +kernel
theorem dL_law_329 : decode cL_law 329 = .ok (.iadd, 1) := by decide +kernel
theorem dL_law_330 : decode cL_law 330 = .ok (.iaload, 1) := by decide +kernel
theorem dL_law_331 : decode cL_law 331 = .ok (.aload_n 0, 1) := by decide +kernel
theorem dL_law_332 : decode cL_law 332 = .ok (.iload 5, 2) := by decide +kernel
theorem dL_law_334 : decode cL_law 334 = .ok (.iconst 2, 1) := by decide +kernel
theorem dL_law_335 : decode cL_law 335 = .ok (.iadd, 1) := by decide +kernel
theorem dL_law_336 : decode cL_law 336 = .ok (.iaload, 1) := by decide +kernel
theorem dL_law_337 : decode cL_law 337 = .ok (.aload_n 3, 1) := by decide +kernel
theorem dL_law_338 : decode cL_law 338 = .ok (.invokestatic 117, 3) := by decide +kernel
theorem dL_law_341 : decode cL_law 341 = .ok (.istore 6, 2) := by decide +kernel
theorem dL_law_343 : decode cL_law 343 = .ok (.aload_n 2, 1) := by decide +kernel
theorem dL_law_344 : decode cL_law 344 = .ok (.aload_n 0, 1) := by decide +kernel
theorem dL_law_345 : decode cL_law 345 = .ok (.iload 5, 2) := by decide +kernel
theorem dL_law_347 : decode cL_law 347 = .ok (.iconst 1, 1) := by decide +kernel
theorem dL_law_348 : decode cL_law 348 = .ok (.iadd, 1) := by decide +kernel
theorem dL_law_349 : decode cL_law 349 = .ok (.iaload, 1) := by decide +kernel
theorem dL_law_350 : decode cL_law 350 = .ok (.aload_n 0, 1) := by decide +kernel
theorem dL_law_351 : decode cL_law 351 = .ok (.iload 5, 2) := by decide +kernel
theorem dL_law_353 : decode cL_law 353 = .ok (.iconst 2, 1) := by decide +kernel
theorem dL_law_354 : decode cL_law 354 = .ok (.iadd, 1) := by decide +kernel
theorem dL_law_355 : decode cL_law 355 = .ok (.iaload, 1) := by decide +kernel
theorem dL_law_356 : decode cL_law 356 = .ok (.invokevirtual 119, 3) := by decide +kernel
theorem dL_law_359 : decode cL_law 359 = .ok (.istore 7, 2) := by decide +kernel
theorem dL_law_361 : decode cL_law 361 = .ok (.aload_n 2, 1) := by decide +kernel
theorem dL_law_362 : decode cL_law 362 = .ok (.invokevirtual 111, 3) := by decide +kernel
theorem dL_law_365 : decode cL_law 365 = .ok (.iload 6, 2) := by decide +kernel
theorem dL_law_367 : decode cL_law 367 = .ok (.if_icmp .eq 5, 3) := by decide +kernel
theorem dL_law_372 : decode cL_law 372 = .ok (.iload 6, 2) := by decide +kernel
theorem dL_law_374 : decode cL_law 374 = .ok (.ifCond .ne 15, 3) := by decide +kernel
theorem dL_law_389 : decode cL_law 389 = .ok (.goto 1536, 3) := by decide +kernel
theorem dL_law_377 : decode cL_law 377 = .ok (.aload_n 3, 1) := by decide +kernel
theorem dL_law_378 : decode cL_law 378 = .ok (.iconst 0, 1) := by decide +kernel
theorem dL_law_379 : decode cL_law 379 = .ok (.laload, 1) := by decide +kernel
theorem dL_law_380 : decode cL_law 380 = .ok (.iload 7, 2) := by decide +kernel
theorem dL_law_382 : decode cL_law 382 = .ok (.i2l, 1) := by decide +kernel
theorem dL_law_383 : decode cL_law 383 = .ok (.lcmp, 1) := by decide +kernel
theorem dL_law_384 : decode cL_law 384 = .ok (.ifCond .eq 5, 3) := by decide +kernel
theorem dL_law_387 : decode cL_law 387 = .ok (.iconst 0, 1) := by decide +kernel
theorem dL_law_388 : decode cL_law 388 = .ok (.ireturn, 1) := by decide +kernel
theorem dL_law_370 : decode cL_law 370 = .ok (.iconst 0, 1) := by decide +kernel
theorem dL_law_371 : decode cL_law 371 = .ok (.ireturn, 1) := by decide +kernel
set_option maxRecDepth 100000 in
set_option maxHeartbeats 4000000 in
theorem wk_law_324 {Z : ZT} {b L : Nat} {xs : Nat → Int32} (hC : CX Z cL_law RL 10 room_1) (hX : SX Z b L xs) (hEnd : EL Z) {k0 n0 : Nat} (hk : k0 + 40 ≤ 601024) (hn : n0 + 400 ≤ 7293034) (r1 r2 r3 r4 : Option Nat) (i5 : Int32) (S0 : PH) (K : Int32 → PH → Prop) (hK : ∀ i S, K i S → PX Z 10 S (k0 + 40) (n0 + 400) 28 [(0, va_rf (some b)), (1, va_rf r1), (2, va_rf r2), (3, va_rf r3), (4, va_rf r4), (5, .int i)] []) (h : wc_law_324 xs L r1 r2 r3 r4 i5 S0 K) : PX Z 10 S0 k0 n0 324 [(0, va_rf (some b)), (1, va_rf r1), (2, va_rf r2), (3, va_rf r3), (4, va_rf r4), (5, .int i5)] [] := by
  refine x_wid (k' := k0 + 0) (n' := n0 + 0) (Nat.le_refl _) (Nat.le_refl _) ?_
  unfold wc_law_324 at h
  refine x_aload_n (i := 1) hC dL_law_324 rfl 1 rfl ?_
  refine x_aload_n (i := 0) hC dL_law_325 rfl 0 rfl ?_
  refine x_iload (i := 5) hC dL_law_326 5 rfl ?_
  refine x_iconst (v := (1 : Int32)) hC dL_law_328 (by decide) ?_
  refine x_iadd hC dL_law_329 ?_
  obtain ⟨hc1, h⟩ := h
  refine x_sld hC hX hc1 dL_law_330 ?_
  refine x_aload_n (i := 0) hC dL_law_331 rfl 0 rfl ?_
  refine x_iload (i := 5) hC dL_law_332 5 rfl ?_
  refine x_iconst (v := (2 : Int32)) hC dL_law_334 (by decide) ?_
  refine x_iadd hC dL_law_335 ?_
  obtain ⟨hc2, h⟩ := h
  refine x_sld hC hX hc2 dL_law_336 ?_
  refine x_aload_n (i := 3) hC dL_law_337 rfl 3 rfl ?_
  refine x_callSX hC (st := []) (mt_L_meet _ _ _ _ _ _ h) q_553 q_554 q_0 q_555 hy_L_meet ⟨Nat.le_of_ble_eq_true rfl, Nat.le_of_ble_eq_true rfl⟩ ⟨(show k0 + 0 + 23 ≤ 601024 from by omega), (show n0 + 0 + 185 ≤ 7293034 from by omega)⟩ rfl (Nat.le_of_ble_eq_true rfl) dL_law_338 (r_W (fun v3 S4 h => ?_)) (r_Wx (fun _ _ h => (wq_l h).elim))
  replace h := wq_r h
  show PX Z 10 S4 (k0 + 23) (n0 + 185) 341 [(0, va_rf (some b)), (1, va_rf r1), (2, va_rf r2), (3, va_rf r3), (4, va_rf r4), (5, .int i5)] [.int v3]
  refine x_istore (i := 6) (l' := [(6, .int v3), (0, va_rf (some b)), (1, va_rf r1), (2, va_rf r2), (3, va_rf r3), (4, va_rf r4), (5, .int i5)]) hC dL_law_341 (⟨fun _ => c_rf (some b), ⟨fun _ => c_rf r1, ⟨fun _ => c_rf r2, ⟨fun _ => c_rf r3, ⟨fun _ => c_rf r4, ⟨fun _ => rfl, trivial⟩⟩⟩⟩⟩⟩) (by decide) rfl ?_
  refine x_aload_n (i := 2) hC dL_law_343 rfl 3 rfl ?_
  refine x_aload_n (i := 0) hC dL_law_344 rfl 1 rfl ?_
  refine x_iload (i := 5) hC dL_law_345 6 rfl ?_
  refine x_iconst (v := (1 : Int32)) hC dL_law_347 (by decide) ?_
  refine x_iadd hC dL_law_348 ?_
  obtain ⟨hc7, h⟩ := h
  refine x_sld hC hX hc7 dL_law_349 ?_
  refine x_aload_n (i := 0) hC dL_law_350 rfl 1 rfl ?_
  refine x_iload (i := 5) hC dL_law_351 6 rfl ?_
  refine x_iconst (v := (2 : Int32)) hC dL_law_353 (by decide) ?_
  refine x_iadd hC dL_law_354 ?_
  obtain ⟨hc8, h⟩ := h
  refine x_sld hC hX hc8 dL_law_355 ?_
  obtain ⟨a9, ea10, ha11, h⟩ := h
  obtain ⟨v12, S13, hb14, h⟩ := h
  refine x_callV hC (st := []) (mt_X5_meet _ _ _ _ _ hb14) ea10 ha11 kf_5 q_938 q_939 q_940 q_7 q_941 ⟨rfl, hy_X5_meet⟩ ⟨Nat.le_of_ble_eq_true rfl, Nat.le_of_ble_eq_true rfl⟩ ⟨(show k0 + 23 + 0 ≤ 601024 from by omega), (show n0 + 185 + 0 ≤ 7293034 from by omega)⟩ rfl (Nat.le_of_ble_eq_true rfl) dL_law_356 (r_N ?_) r_NX
  show PX Z 10 S13 (k0 + 23) (n0 + 185) 359 [(6, .int v3), (0, va_rf (some b)), (1, va_rf r1), (2, va_rf r2), (3, va_rf r3), (4, va_rf r4), (5, .int i5)] [.int v12]
  refine x_istore (i := 7) (l' := [(7, .int v12), (6, .int v3), (0, va_rf (some b)), (1, va_rf r1), (2, va_rf r2), (3, va_rf r3), (4, va_rf r4), (5, .int i5)]) hC dL_law_359 (⟨fun _ => rfl, ⟨fun _ => c_rf (some b), ⟨fun _ => c_rf r1, ⟨fun _ => c_rf r2, ⟨fun _ => c_rf r3, ⟨fun _ => c_rf r4, ⟨fun _ => rfl, trivial⟩⟩⟩⟩⟩⟩⟩) (by decide) rfl ?_
  refine x_aload_n (i := 2) hC dL_law_361 rfl 4 rfl ?_
  obtain ⟨a15, ea16, ha17, h⟩ := h
  obtain ⟨v18, S19, hb20, h⟩ := h
  refine x_callV hC (st := []) (mt_X5_thrown _ _ _ hb20) ea16 ha17 kf_5 q_904 q_905 q_906 q_7 q_907 ⟨rfl, hy_X5_thrown⟩ ⟨Nat.le_of_ble_eq_true rfl, Nat.le_of_ble_eq_true rfl⟩ ⟨(show k0 + 23 + 0 ≤ 601024 from by omega), (show n0 + 185 + 0 ≤ 7293034 from by omega)⟩ rfl (Nat.le_of_ble_eq_true rfl) dL_law_362 (r_N ?_) r_NX
  show PX Z 10 S19 (k0 + 23) (n0 + 185) 365 [(7, .int v12), (6, .int v3), (0, va_rf (some b)), (1, va_rf r1), (2, va_rf r2), (3, va_rf r3), (4, va_rf r4), (5, .int i5)] [.int v18]
  refine x_iload (i := 6) hC dL_law_365 1 rfl ?_
  refine x_icmp_eq (t := 372) hC dL_law_367 (by decide) (fun c21 => ?_) (fun c21 => ?_)
  · replace h := wit_t c21 h
    refine x_iload (i := 6) hC dL_law_372 1 rfl ?_
    refine x_if_ne (t := 389) hC dL_law_374 (by decide) (fun c22 => ?_) (fun c22 => ?_)
    · replace h := wit_f c22 h
      refine x_goto (t := 1925) hC dL_law_389 (by decide) ?_
      refine x_iinc (i := 5) (v := (i5 + (4 : Int32))) (l' := [(5, .int (i5 + (4 : Int32))), (7, .int v12), (6, .int v3), (0, va_rf (some b)), (1, va_rf r1), (2, va_rf r2), (3, va_rf r3), (4, va_rf r4)]) hC dL_law_1925 7 rfl rfl (⟨fun _ => rfl, ⟨fun _ => rfl, ⟨fun _ => c_rf (some b), ⟨fun _ => c_rf r1, ⟨fun _ => c_rf r2, ⟨fun _ => c_rf r3, ⟨fun _ => c_rf r4, ⟨fun _ => rfl, trivial⟩⟩⟩⟩⟩⟩⟩⟩) (by decide) rfl ?_
      refine x_goto (t := 28) hC dL_law_1928 (by decide) ?_
      refine x_sub (l' := [(0, va_rf (some b)), (1, va_rf r1), (2, va_rf r2), (3, va_rf r3), (4, va_rf r4), (5, .int (i5 + (4 : Int32)))]) [3, 4, 5, 6, 7, 0] rfl ?_
      refine x_wid (k' := k0 + 40) (n' := n0 + 400) (by omega) (by omega) ?_
      exact hK _ _ h
    · replace h := wit_t c22 h
      refine x_aload_n (i := 3) hC dL_law_377 rfl 5 rfl ?_
      refine x_iconst (v := (0 : Int32)) hC dL_law_378 (by decide) ?_
      obtain ⟨a23, ea24, ha25, h⟩ := h
      obtain ⟨hc26, h⟩ := h
      refine x_laload hC ea24 ha25 hc26 dL_law_379 ?_
      refine x_tJ (b := (p_J S19 a23 0)) rfl ?_
      refine x_iload (i := 7) hC dL_law_380 0 rfl ?_
      refine x_i2l hC dL_law_382 ?_
      refine x_lcmp hC dL_law_383 ?_
      refine x_if_eq (t := 389) hC dL_law_384 (by decide) (fun c27 => ?_) (fun c27 => ?_)
      · replace h := wit_t c27 h
        refine x_goto (t := 1925) hC dL_law_389 (by decide) ?_
        refine x_iinc (i := 5) (v := (i5 + (4 : Int32))) (l' := [(5, .int (i5 + (4 : Int32))), (7, .int v12), (6, .int v3), (0, va_rf (some b)), (1, va_rf r1), (2, va_rf r2), (3, va_rf r3), (4, va_rf r4)]) hC dL_law_1925 7 rfl rfl (⟨fun _ => rfl, ⟨fun _ => rfl, ⟨fun _ => c_rf (some b), ⟨fun _ => c_rf r1, ⟨fun _ => c_rf r2, ⟨fun _ => c_rf r3, ⟨fun _ => c_rf r4, ⟨fun _ => rfl, trivial⟩⟩⟩⟩⟩⟩⟩⟩) (by decide) rfl ?_
        refine x_goto (t := 28) hC dL_law_1928 (by decide) ?_
        refine x_sub (l' := [(0, va_rf (some b)), (1, va_rf r1), (2, va_rf r2), (3, va_rf r3), (4, va_rf r4), (5, .int (i5 + (4 : Int32)))]) [3, 4, 5, 6, 7, 0] rfl ?_
        refine x_wid (k' := k0 + 40) (n' := n0 + 400) (by omega) (by omega) ?_
        exact hK _ _ h
      · replace h := wit_f c27 h
        refine x_iconst (v := (0 : Int32)) hC dL_law_387 (by decide) ?_
        refine x_tI (show (0 : Int32) = (1 : Int32) from h) ?_
        exact hEnd _ _ _ _ _ (by omega) (by omega) dL_law_388
  · replace h := wit_f c21 h
    refine x_iconst (v := (0 : Int32)) hC dL_law_370 (by decide) ?_
    refine x_tI (show (0 : Int32) = (1 : Int32) from h) ?_
    exact hEnd _ _ _ _ _ (by omega) (by omega) dL_law_371
def wc_law_392 (xs : Nat → Int32) (L : Nat) (r1 r2 r3 r4 : Option Nat) (i5 : Int32) (S0 : PH) (K : Int32 → PH → Prop) : Prop := wck (ix (i5 + (1 : Int32)) L) <| wck (ix (i5 + (2 : Int32)) L) <| w_L_set r1 (xs (Int32.toNatClampNeg (i5 + (1 : Int32)))) (xs (Int32.toNatClampNeg (i5 + (2 : Int32)))) r3 S0 (wq (fun v3 S4 => wck (ix (i5 + (1 : Int32)) L) <| wck (ix (i5 + (2 : Int32)) L) <| wdr S4 5 r2 fun a9 => wbd (m_X5_set r2 (xs (Int32.toNatClampNeg (i5 + (1 : Int32)))) (xs (Int32.toNatClampNeg (i5 + (2 : Int32)))) S4) fun v12 S13 => wdr S13 5 r2 fun a15 => wbd (m_X5_thrown r2 S13) fun v18 S19 => if v18 = v3 then (if v3 = 0 then (wdr S19 10 r3 fun a23 => wck (ix (0 : Int32) (p_N S19 a23)) <| if (lg_cmp (p_J S19 a23 0) (Int32.toInt64 v12)) = 0 then (K (i5 + (4 : Int32)) S19) else ((0 : Int32) = (1 : Int32))) else (K (i5 + (4 : Int32)) S19)) else ((0 : Int32) = (1 : Int32))) (fun _ _ => False))
theorem dL_law_392 : decode cL_law 392 = .ok (.aload_n 1, 1) := by decide +kernel
theorem dL_law_393 : decode cL_law 393 = .ok (.aload_n 0, 1) := by decide +kernel
theorem dL_law_394 : decode cL_law 394 = .ok (.iload 5, 2) := by decide +kernel
theorem dL_law_396 : decode cL_law 396 = .ok (.iconst 1, 1) := by decide +kernel
theorem dL_law_397 : decode cL_law 397 = .ok (.iadd, 1) := by decide +kernel
theorem dL_law_398 : decode cL_law 398 = .ok (.iaload, 1) := by decide +kernel
theorem dL_law_399 : decode cL_law 399 = .ok (.aload_n 0, 1) := by decide +kernel
theorem dL_law_400 : decode cL_law 400 = .ok (.iload 5, 2) := by decide +kernel
theorem dL_law_402 : decode cL_law 402 = .ok (.iconst 2, 1) := by decide +kernel
theorem dL_law_403 : decode cL_law 403 = .ok (.iadd, 1) := by decide +kernel
theorem dL_law_404 : decode cL_law 404 = .ok (.iaload, 1) := by decide +kernel
theorem dL_law_405 : decode cL_law 405 = .ok (.aload_n 3, 1) := by decide +kernel
theorem dL_law_406 : decode cL_law 406 = .ok (.invokestatic 120, 3) := by decide +kernel
theorem dL_law_409 : decode cL_law 409 = .ok (.istore 6, 2) := by decide +kernel
theorem dL_law_411 : decode cL_law 411 = .ok (.aload_n 2, 1) := by decide +kernel
theorem dL_law_412 : decode cL_law 412 = .ok (.aload_n 0, 1) := by decide +kernel
theorem dL_law_413 : decode cL_law 413 = .ok (.iload 5, 2) := by decide +kernel
theorem dL_law_415 : decode cL_law 415 = .ok (.iconst 1, 1) := by decide +kernel
theorem dL_law_416 : decode cL_law 416 = .ok (.iadd, 1) := by decide +kernel
theorem dL_law_417 : decode cL_law 417 = .ok (.iaload, 1) := by decide +kernel
theorem dL_law_418 : decode cL_law 418 = .ok (.aload_n 0, 1) := by decide +kernel
theorem dL_law_419 : decode cL_law 419 = .ok (.iload 5, 2) := by decide +kernel
theorem dL_law_421 : decode cL_law 421 = .ok (.iconst 2, 1) := by decide +kernel
theorem dL_law_422 : decode cL_law 422 = .ok (.iadd, 1) := by decide +kernel
theorem dL_law_423 : decode cL_law 423 = .ok (.iaload, 1) := by decide +kernel
theorem dL_law_424 : decode cL_law 424 = .ok (.invokevirtual 122, 3) := by decide +kernel
theorem dL_law_427 : decode cL_law 427 = .ok (.istore 7, 2) := by decide +kernel
theorem dL_law_429 : decode cL_law 429 = .ok (.aload_n 2, 1) := by decide +kernel
theorem dL_law_430 : decode cL_law 430 = .ok (.invokevirtual 111, 3) := by decide +kernel
theorem dL_law_433 : decode cL_law 433 = .ok (.iload 6, 2) := by decide +kernel
theorem dL_law_435 : decode cL_law 435 = .ok (.if_icmp .eq 5, 3) := by decide +kernel
theorem dL_law_440 : decode cL_law 440 = .ok (.iload 6, 2) := by decide +kernel
theorem dL_law_442 : decode cL_law 442 = .ok (.ifCond .ne 15, 3) := by decide +kernel
theorem dL_law_457 : decode cL_law 457 = .ok (.goto 1468, 3) := by decide +kernel
theorem dL_law_445 : decode cL_law 445 = .ok (.aload_n 3, 1) := by decide +kernel
theorem dL_law_446 : decode cL_law 446 = .ok (.iconst 0, 1) := by decide +kernel
theorem dL_law_447 : decode cL_law 447 = .ok (.laload, 1) := by decide +kernel
theorem dL_law_448 : decode cL_law 448 = .ok (.iload 7, 2) := by decide +kernel
theorem dL_law_450 : decode cL_law 450 = .ok (.i2l, 1) := by decide +kernel
theorem dL_law_451 : decode cL_law 451 = .ok (.lcmp, 1) := by decide +kernel
theorem dL_law_452 : decode cL_law 452 = .ok (.ifCond .eq 5, 3) := by decide +kernel
theorem dL_law_455 : decode cL_law 455 = .ok (.iconst 0, 1) := by decide +kernel
theorem dL_law_456 : decode cL_law 456 = .ok (.ireturn, 1) := by decide +kernel
theorem dL_law_438 : decode cL_law 438 = .ok (.iconst 0, 1) := by decide +kernel
theorem dL_law_439 : decode cL_law 439 = .ok (.ireturn, 1) := by decide +kernel
set_option maxRecDepth 100000 in
set_option maxHeartbeats 4000000 in
theorem wk_law_392 {Z : ZT} {b L : Nat} {xs : Nat → Int32} (hC : CX Z cL_law RL 10 room_1) (hX : SX Z b L xs) (hEnd : EL Z) {k0 n0 : Nat} (hk : k0 + 40 ≤ 601024) (hn : n0 + 400 ≤ 7293034) (r1 r2 r3 r4 : Option Nat) (i5 : Int32) (S0 : PH) (K : Int32 → PH → Prop) (hK : ∀ i S, K i S → PX Z 10 S (k0 + 40) (n0 + 400) 28 [(0, va_rf (some b)), (1, va_rf r1), (2, va_rf r2), (3, va_rf r3), (4, va_rf r4), (5, .int i)] []) (h : wc_law_392 xs L r1 r2 r3 r4 i5 S0 K) : PX Z 10 S0 k0 n0 392 [(0, va_rf (some b)), (1, va_rf r1), (2, va_rf r2), (3, va_rf r3), (4, va_rf r4), (5, .int i5)] [] := by
  refine x_wid (k' := k0 + 0) (n' := n0 + 0) (Nat.le_refl _) (Nat.le_refl _) ?_
  unfold wc_law_392 at h
  refine x_aload_n (i := 1) hC dL_law_392 rfl 1 rfl ?_
  refine x_aload_n (i := 0) hC dL_law_393 rfl 0 rfl ?_
  refine x_iload (i := 5) hC dL_law_394 5 rfl ?_
  refine x_iconst (v := (1 : Int32)) hC dL_law_396 (by decide) ?_
  refine x_iadd hC dL_law_397 ?_
  obtain ⟨hc1, h⟩ := h
  refine x_sld hC hX hc1 dL_law_398 ?_
  refine x_aload_n (i := 0) hC dL_law_399 rfl 0 rfl ?_
  refine x_iload (i := 5) hC dL_law_400 5 rfl ?_
  refine x_iconst (v := (2 : Int32)) hC dL_law_402 (by decide) ?_
  refine x_iadd hC dL_law_403 ?_
  obtain ⟨hc2, h⟩ := h
  refine x_sld hC hX hc2 dL_law_404 ?_
  refine x_aload_n (i := 3) hC dL_law_405 rfl 3 rfl ?_
  refine x_callSX hC (st := []) (mt_L_set _ _ _ _ _ _ h) q_561 q_562 q_0 q_563 hy_L_set ⟨Nat.le_of_ble_eq_true rfl, Nat.le_of_ble_eq_true rfl⟩ ⟨(show k0 + 0 + 22 ≤ 601024 from by omega), (show n0 + 0 + 179 ≤ 7293034 from by omega)⟩ rfl (Nat.le_of_ble_eq_true rfl) dL_law_406 (r_W (fun v3 S4 h => ?_)) (r_Wx (fun _ _ h => (wq_l h).elim))
  replace h := wq_r h
  show PX Z 10 S4 (k0 + 22) (n0 + 179) 409 [(0, va_rf (some b)), (1, va_rf r1), (2, va_rf r2), (3, va_rf r3), (4, va_rf r4), (5, .int i5)] [.int v3]
  refine x_istore (i := 6) (l' := [(6, .int v3), (0, va_rf (some b)), (1, va_rf r1), (2, va_rf r2), (3, va_rf r3), (4, va_rf r4), (5, .int i5)]) hC dL_law_409 (⟨fun _ => c_rf (some b), ⟨fun _ => c_rf r1, ⟨fun _ => c_rf r2, ⟨fun _ => c_rf r3, ⟨fun _ => c_rf r4, ⟨fun _ => rfl, trivial⟩⟩⟩⟩⟩⟩) (by decide) rfl ?_
  refine x_aload_n (i := 2) hC dL_law_411 rfl 3 rfl ?_
  refine x_aload_n (i := 0) hC dL_law_412 rfl 1 rfl ?_
  refine x_iload (i := 5) hC dL_law_413 6 rfl ?_
  refine x_iconst (v := (1 : Int32)) hC dL_law_415 (by decide) ?_
  refine x_iadd hC dL_law_416 ?_
  obtain ⟨hc7, h⟩ := h
  refine x_sld hC hX hc7 dL_law_417 ?_
  refine x_aload_n (i := 0) hC dL_law_418 rfl 1 rfl ?_
  refine x_iload (i := 5) hC dL_law_419 6 rfl ?_
  refine x_iconst (v := (2 : Int32)) hC dL_law_421 (by decide) ?_
  refine x_iadd hC dL_law_422 ?_
  obtain ⟨hc8, h⟩ := h
  refine x_sld hC hX hc8 dL_law_423 ?_
  obtain ⟨a9, ea10, ha11, h⟩ := h
  obtain ⟨v12, S13, hb14, h⟩ := h
  refine x_callV hC (st := []) (mt_X5_set _ _ _ _ _ hb14) ea10 ha11 kf_5 q_942 q_943 q_944 q_7 q_945 ⟨rfl, hy_X5_set⟩ ⟨Nat.le_of_ble_eq_true rfl, Nat.le_of_ble_eq_true rfl⟩ ⟨(show k0 + 22 + 0 ≤ 601024 from by omega), (show n0 + 179 + 0 ≤ 7293034 from by omega)⟩ rfl (Nat.le_of_ble_eq_true rfl) dL_law_424 (r_N ?_) r_NX
  show PX Z 10 S13 (k0 + 22) (n0 + 179) 427 [(6, .int v3), (0, va_rf (some b)), (1, va_rf r1), (2, va_rf r2), (3, va_rf r3), (4, va_rf r4), (5, .int i5)] [.int v12]
  refine x_istore (i := 7) (l' := [(7, .int v12), (6, .int v3), (0, va_rf (some b)), (1, va_rf r1), (2, va_rf r2), (3, va_rf r3), (4, va_rf r4), (5, .int i5)]) hC dL_law_427 (⟨fun _ => rfl, ⟨fun _ => c_rf (some b), ⟨fun _ => c_rf r1, ⟨fun _ => c_rf r2, ⟨fun _ => c_rf r3, ⟨fun _ => c_rf r4, ⟨fun _ => rfl, trivial⟩⟩⟩⟩⟩⟩⟩) (by decide) rfl ?_
  refine x_aload_n (i := 2) hC dL_law_429 rfl 4 rfl ?_
  obtain ⟨a15, ea16, ha17, h⟩ := h
  obtain ⟨v18, S19, hb20, h⟩ := h
  refine x_callV hC (st := []) (mt_X5_thrown _ _ _ hb20) ea16 ha17 kf_5 q_904 q_905 q_906 q_7 q_907 ⟨rfl, hy_X5_thrown⟩ ⟨Nat.le_of_ble_eq_true rfl, Nat.le_of_ble_eq_true rfl⟩ ⟨(show k0 + 22 + 0 ≤ 601024 from by omega), (show n0 + 179 + 0 ≤ 7293034 from by omega)⟩ rfl (Nat.le_of_ble_eq_true rfl) dL_law_430 (r_N ?_) r_NX
  show PX Z 10 S19 (k0 + 22) (n0 + 179) 433 [(7, .int v12), (6, .int v3), (0, va_rf (some b)), (1, va_rf r1), (2, va_rf r2), (3, va_rf r3), (4, va_rf r4), (5, .int i5)] [.int v18]
  refine x_iload (i := 6) hC dL_law_433 1 rfl ?_
  refine x_icmp_eq (t := 440) hC dL_law_435 (by decide) (fun c21 => ?_) (fun c21 => ?_)
  · replace h := wit_t c21 h
    refine x_iload (i := 6) hC dL_law_440 1 rfl ?_
    refine x_if_ne (t := 457) hC dL_law_442 (by decide) (fun c22 => ?_) (fun c22 => ?_)
    · replace h := wit_f c22 h
      refine x_goto (t := 1925) hC dL_law_457 (by decide) ?_
      refine x_iinc (i := 5) (v := (i5 + (4 : Int32))) (l' := [(5, .int (i5 + (4 : Int32))), (7, .int v12), (6, .int v3), (0, va_rf (some b)), (1, va_rf r1), (2, va_rf r2), (3, va_rf r3), (4, va_rf r4)]) hC dL_law_1925 7 rfl rfl (⟨fun _ => rfl, ⟨fun _ => rfl, ⟨fun _ => c_rf (some b), ⟨fun _ => c_rf r1, ⟨fun _ => c_rf r2, ⟨fun _ => c_rf r3, ⟨fun _ => c_rf r4, ⟨fun _ => rfl, trivial⟩⟩⟩⟩⟩⟩⟩⟩) (by decide) rfl ?_
      refine x_goto (t := 28) hC dL_law_1928 (by decide) ?_
      refine x_sub (l' := [(0, va_rf (some b)), (1, va_rf r1), (2, va_rf r2), (3, va_rf r3), (4, va_rf r4), (5, .int (i5 + (4 : Int32)))]) [3, 4, 5, 6, 7, 0] rfl ?_
      refine x_wid (k' := k0 + 40) (n' := n0 + 400) (by omega) (by omega) ?_
      exact hK _ _ h
    · replace h := wit_t c22 h
      refine x_aload_n (i := 3) hC dL_law_445 rfl 5 rfl ?_
      refine x_iconst (v := (0 : Int32)) hC dL_law_446 (by decide) ?_
      obtain ⟨a23, ea24, ha25, h⟩ := h
      obtain ⟨hc26, h⟩ := h
      refine x_laload hC ea24 ha25 hc26 dL_law_447 ?_
      refine x_tJ (b := (p_J S19 a23 0)) rfl ?_
      refine x_iload (i := 7) hC dL_law_448 0 rfl ?_
      refine x_i2l hC dL_law_450 ?_
      refine x_lcmp hC dL_law_451 ?_
      refine x_if_eq (t := 457) hC dL_law_452 (by decide) (fun c27 => ?_) (fun c27 => ?_)
      · replace h := wit_t c27 h
        refine x_goto (t := 1925) hC dL_law_457 (by decide) ?_
        refine x_iinc (i := 5) (v := (i5 + (4 : Int32))) (l' := [(5, .int (i5 + (4 : Int32))), (7, .int v12), (6, .int v3), (0, va_rf (some b)), (1, va_rf r1), (2, va_rf r2), (3, va_rf r3), (4, va_rf r4)]) hC dL_law_1925 7 rfl rfl (⟨fun _ => rfl, ⟨fun _ => rfl, ⟨fun _ => c_rf (some b), ⟨fun _ => c_rf r1, ⟨fun _ => c_rf r2, ⟨fun _ => c_rf r3, ⟨fun _ => c_rf r4, ⟨fun _ => rfl, trivial⟩⟩⟩⟩⟩⟩⟩⟩) (by decide) rfl ?_
        refine x_goto (t := 28) hC dL_law_1928 (by decide) ?_
        refine x_sub (l' := [(0, va_rf (some b)), (1, va_rf r1), (2, va_rf r2), (3, va_rf r3), (4, va_rf r4), (5, .int (i5 + (4 : Int32)))]) [3, 4, 5, 6, 7, 0] rfl ?_
        refine x_wid (k' := k0 + 40) (n' := n0 + 400) (by omega) (by omega) ?_
        exact hK _ _ h
      · replace h := wit_f c27 h
        refine x_iconst (v := (0 : Int32)) hC dL_law_455 (by decide) ?_
        refine x_tI (show (0 : Int32) = (1 : Int32) from h) ?_
        exact hEnd _ _ _ _ _ (by omega) (by omega) dL_law_456
  · replace h := wit_f c21 h
    refine x_iconst (v := (0 : Int32)) hC dL_law_438 (by decide) ?_
    refine x_tI (show (0 : Int32) = (1 : Int32) from h) ?_
    exact hEnd _ _ _ _ _ (by omega) (by omega) dL_law_439
def wc_law_460 (xs : Nat → Int32) (L : Nat) (r1 r2 r3 r4 : Option Nat) (i5 : Int32) (S0 : PH) (K : Int32 → PH → Prop) : Prop := wck (ix (i5 + (1 : Int32)) L) <| w_L_bring r1 (xs (Int32.toNatClampNeg (i5 + (1 : Int32)))) r3 S0 (wq (fun v2 S3 => wck (ix (i5 + (1 : Int32)) L) <| wdr S3 5 r2 fun a7 => wbd (m_X5_bring r2 (xs (Int32.toNatClampNeg (i5 + (1 : Int32)))) S3) fun v10 S11 => wdr S11 5 r2 fun a13 => wbd (m_X5_thrown r2 S11) fun v16 S17 => if v16 = v2 then (if v2 = 0 then (wdr S17 10 r3 fun a21 => wck (ix (0 : Int32) (p_N S17 a21)) <| if (lg_cmp (p_J S17 a21 0) (Int32.toInt64 v10)) = 0 then (K (i5 + (4 : Int32)) S17) else ((0 : Int32) = (1 : Int32))) else (K (i5 + (4 : Int32)) S17)) else ((0 : Int32) = (1 : Int32))) (fun _ _ => False))
theorem dL_law_460 : decode cL_law 460 = .ok (.aload_n 1, 1) := by decide +kernel
theorem dL_law_461 : decode cL_law 461 = .ok (.aload_n 0, 1) := by decide +kernel
theorem dL_law_462 : decode cL_law 462 = .ok (.iload 5, 2) := by decide +kernel
theorem dL_law_464 : decode cL_law 464 = .ok (.iconst 1, 1) := by decide +kernel
theorem dL_law_465 : decode cL_law 465 = .ok (.iadd, 1) := by decide +kernel
theorem dL_law_466 : decode cL_law 466 = .ok (.iaload, 1) := by decide +kernel
theorem dL_law_467 : decode cL_law 467 = .ok (.aload_n 3, 1) := by decide +kernel
theorem dL_law_468 : decode cL_law 468 = .ok (.invokestatic 123, 3) := by decide +kernel
theorem dL_law_471 : decode cL_law 471 = .ok (.istore 6, 2) := by decide +kernel
theorem dL_law_473 : decode cL_law 473 = .ok (.aload_n 2, 1) := by decide +kernel
theorem dL_law_474 : decode cL_law 474 = .ok (.aload_n 0, 1) := by decide +kernel
theorem dL_law_475 : decode cL_law 475 = .ok (.iload 5, 2) := by decide +kernel
theorem dL_law_477 : decode cL_law 477 = .ok (.iconst 1, 1) := by decide +kernel
theorem dL_law_478 : decode cL_law 478 = .ok (.iadd, 1) := by decide +kernel
theorem dL_law_479 : decode cL_law 479 = .ok (.iaload, 1) := by decide +kernel
theorem dL_law_480 : decode cL_law 480 = .ok (.invokevirtual 126, 3) := by decide +kernel
theorem dL_law_483 : decode cL_law 483 = .ok (.istore 7, 2) := by decide +kernel
theorem dL_law_485 : decode cL_law 485 = .ok (.aload_n 2, 1) := by decide +kernel
theorem dL_law_486 : decode cL_law 486 = .ok (.invokevirtual 111, 3) := by decide +kernel
theorem dL_law_489 : decode cL_law 489 = .ok (.iload 6, 2) := by decide +kernel
theorem dL_law_491 : decode cL_law 491 = .ok (.if_icmp .eq 5, 3) := by decide +kernel
theorem dL_law_496 : decode cL_law 496 = .ok (.iload 6, 2) := by decide +kernel
theorem dL_law_498 : decode cL_law 498 = .ok (.ifCond .ne 15, 3) := by decide +kernel
theorem dL_law_513 : decode cL_law 513 = .ok (.goto 1412, 3) := by decide +kernel
theorem dL_law_501 : decode cL_law 501 = .ok (.aload_n 3, 1) := by decide +kernel
theorem dL_law_502 : decode cL_law 502 = .ok (.iconst 0, 1) := by decide +kernel
theorem dL_law_503 : decode cL_law 503 = .ok (.laload, 1) := by decide +kernel
theorem dL_law_504 : decode cL_law 504 = .ok (.iload 7, 2) := by decide +kernel
theorem dL_law_506 : decode cL_law 506 = .ok (.i2l, 1) := by decide +kernel
theorem dL_law_507 : decode cL_law 507 = .ok (.lcmp, 1) := by decide +kernel
theorem dL_law_508 : decode cL_law 508 = .ok (.ifCond .eq 5, 3) := by decide +kernel
theorem dL_law_511 : decode cL_law 511 = .ok (.iconst 0, 1) := by decide +kernel
theorem dL_law_512 : decode cL_law 512 = .ok (.ireturn, 1) := by decide +kernel
theorem dL_law_494 : decode cL_law 494 = .ok (.iconst 0, 1) := by decide +kernel
theorem dL_law_495 : decode cL_law 495 = .ok (.ireturn, 1) := by decide +kernel
set_option maxRecDepth 100000 in
set_option maxHeartbeats 4000000 in
theorem wk_law_460 {Z : ZT} {b L : Nat} {xs : Nat → Int32} (hC : CX Z cL_law RL 10 room_1) (hX : SX Z b L xs) (hEnd : EL Z) {k0 n0 : Nat} (hk : k0 + 40 ≤ 601024) (hn : n0 + 400 ≤ 7293034) (r1 r2 r3 r4 : Option Nat) (i5 : Int32) (S0 : PH) (K : Int32 → PH → Prop) (hK : ∀ i S, K i S → PX Z 10 S (k0 + 40) (n0 + 400) 28 [(0, va_rf (some b)), (1, va_rf r1), (2, va_rf r2), (3, va_rf r3), (4, va_rf r4), (5, .int i)] []) (h : wc_law_460 xs L r1 r2 r3 r4 i5 S0 K) : PX Z 10 S0 k0 n0 460 [(0, va_rf (some b)), (1, va_rf r1), (2, va_rf r2), (3, va_rf r3), (4, va_rf r4), (5, .int i5)] [] := by
  refine x_wid (k' := k0 + 0) (n' := n0 + 0) (Nat.le_refl _) (Nat.le_refl _) ?_
  unfold wc_law_460 at h
  refine x_aload_n (i := 1) hC dL_law_460 rfl 1 rfl ?_
  refine x_aload_n (i := 0) hC dL_law_461 rfl 0 rfl ?_
  refine x_iload (i := 5) hC dL_law_462 5 rfl ?_
  refine x_iconst (v := (1 : Int32)) hC dL_law_464 (by decide) ?_
  refine x_iadd hC dL_law_465 ?_
  obtain ⟨hc1, h⟩ := h
  refine x_sld hC hX hc1 dL_law_466 ?_
  refine x_aload_n (i := 3) hC dL_law_467 rfl 3 rfl ?_
  refine x_callSX hC (st := []) (mt_L_bring _ _ _ _ _ h) q_577 q_578 q_0 q_579 hy_L_bring ⟨Nat.le_of_ble_eq_true rfl, Nat.le_of_ble_eq_true rfl⟩ ⟨(show k0 + 0 + 21 ≤ 601024 from by omega), (show n0 + 0 + 173 ≤ 7293034 from by omega)⟩ rfl (Nat.le_of_ble_eq_true rfl) dL_law_468 (r_W (fun v2 S3 h => ?_)) (r_Wx (fun _ _ h => (wq_l h).elim))
  replace h := wq_r h
  show PX Z 10 S3 (k0 + 21) (n0 + 173) 471 [(0, va_rf (some b)), (1, va_rf r1), (2, va_rf r2), (3, va_rf r3), (4, va_rf r4), (5, .int i5)] [.int v2]
  refine x_istore (i := 6) (l' := [(6, .int v2), (0, va_rf (some b)), (1, va_rf r1), (2, va_rf r2), (3, va_rf r3), (4, va_rf r4), (5, .int i5)]) hC dL_law_471 (⟨fun _ => c_rf (some b), ⟨fun _ => c_rf r1, ⟨fun _ => c_rf r2, ⟨fun _ => c_rf r3, ⟨fun _ => c_rf r4, ⟨fun _ => rfl, trivial⟩⟩⟩⟩⟩⟩) (by decide) rfl ?_
  refine x_aload_n (i := 2) hC dL_law_473 rfl 3 rfl ?_
  refine x_aload_n (i := 0) hC dL_law_474 rfl 1 rfl ?_
  refine x_iload (i := 5) hC dL_law_475 6 rfl ?_
  refine x_iconst (v := (1 : Int32)) hC dL_law_477 (by decide) ?_
  refine x_iadd hC dL_law_478 ?_
  obtain ⟨hc6, h⟩ := h
  refine x_sld hC hX hc6 dL_law_479 ?_
  obtain ⟨a7, ea8, ha9, h⟩ := h
  obtain ⟨v10, S11, hb12, h⟩ := h
  refine x_callV hC (st := []) (mt_X5_bring _ _ _ _ hb12) ea8 ha9 kf_5 q_949 q_950 q_951 q_7 q_952 ⟨rfl, hy_X5_bring⟩ ⟨Nat.le_of_ble_eq_true rfl, Nat.le_of_ble_eq_true rfl⟩ ⟨(show k0 + 21 + 0 ≤ 601024 from by omega), (show n0 + 173 + 0 ≤ 7293034 from by omega)⟩ rfl (Nat.le_of_ble_eq_true rfl) dL_law_480 (r_N ?_) r_NX
  show PX Z 10 S11 (k0 + 21) (n0 + 173) 483 [(6, .int v2), (0, va_rf (some b)), (1, va_rf r1), (2, va_rf r2), (3, va_rf r3), (4, va_rf r4), (5, .int i5)] [.int v10]
  refine x_istore (i := 7) (l' := [(7, .int v10), (6, .int v2), (0, va_rf (some b)), (1, va_rf r1), (2, va_rf r2), (3, va_rf r3), (4, va_rf r4), (5, .int i5)]) hC dL_law_483 (⟨fun _ => rfl, ⟨fun _ => c_rf (some b), ⟨fun _ => c_rf r1, ⟨fun _ => c_rf r2, ⟨fun _ => c_rf r3, ⟨fun _ => c_rf r4, ⟨fun _ => rfl, trivial⟩⟩⟩⟩⟩⟩⟩) (by decide) rfl ?_
  refine x_aload_n (i := 2) hC dL_law_485 rfl 4 rfl ?_
  obtain ⟨a13, ea14, ha15, h⟩ := h
  obtain ⟨v16, S17, hb18, h⟩ := h
  refine x_callV hC (st := []) (mt_X5_thrown _ _ _ hb18) ea14 ha15 kf_5 q_904 q_905 q_906 q_7 q_907 ⟨rfl, hy_X5_thrown⟩ ⟨Nat.le_of_ble_eq_true rfl, Nat.le_of_ble_eq_true rfl⟩ ⟨(show k0 + 21 + 0 ≤ 601024 from by omega), (show n0 + 173 + 0 ≤ 7293034 from by omega)⟩ rfl (Nat.le_of_ble_eq_true rfl) dL_law_486 (r_N ?_) r_NX
  show PX Z 10 S17 (k0 + 21) (n0 + 173) 489 [(7, .int v10), (6, .int v2), (0, va_rf (some b)), (1, va_rf r1), (2, va_rf r2), (3, va_rf r3), (4, va_rf r4), (5, .int i5)] [.int v16]
  refine x_iload (i := 6) hC dL_law_489 1 rfl ?_
  refine x_icmp_eq (t := 496) hC dL_law_491 (by decide) (fun c19 => ?_) (fun c19 => ?_)
  · replace h := wit_t c19 h
    refine x_iload (i := 6) hC dL_law_496 1 rfl ?_
    refine x_if_ne (t := 513) hC dL_law_498 (by decide) (fun c20 => ?_) (fun c20 => ?_)
    · replace h := wit_f c20 h
      refine x_goto (t := 1925) hC dL_law_513 (by decide) ?_
      refine x_iinc (i := 5) (v := (i5 + (4 : Int32))) (l' := [(5, .int (i5 + (4 : Int32))), (7, .int v10), (6, .int v2), (0, va_rf (some b)), (1, va_rf r1), (2, va_rf r2), (3, va_rf r3), (4, va_rf r4)]) hC dL_law_1925 7 rfl rfl (⟨fun _ => rfl, ⟨fun _ => rfl, ⟨fun _ => c_rf (some b), ⟨fun _ => c_rf r1, ⟨fun _ => c_rf r2, ⟨fun _ => c_rf r3, ⟨fun _ => c_rf r4, ⟨fun _ => rfl, trivial⟩⟩⟩⟩⟩⟩⟩⟩) (by decide) rfl ?_
      refine x_goto (t := 28) hC dL_law_1928 (by decide) ?_
      refine x_sub (l' := [(0, va_rf (some b)), (1, va_rf r1), (2, va_rf r2), (3, va_rf r3), (4, va_rf r4), (5, .int (i5 + (4 : Int32)))]) [3, 4, 5, 6, 7, 0] rfl ?_
      refine x_wid (k' := k0 + 40) (n' := n0 + 400) (by omega) (by omega) ?_
      exact hK _ _ h
    · replace h := wit_t c20 h
      refine x_aload_n (i := 3) hC dL_law_501 rfl 5 rfl ?_
      refine x_iconst (v := (0 : Int32)) hC dL_law_502 (by decide) ?_
      obtain ⟨a21, ea22, ha23, h⟩ := h
      obtain ⟨hc24, h⟩ := h
      refine x_laload hC ea22 ha23 hc24 dL_law_503 ?_
      refine x_tJ (b := (p_J S17 a21 0)) rfl ?_
      refine x_iload (i := 7) hC dL_law_504 0 rfl ?_
      refine x_i2l hC dL_law_506 ?_
      refine x_lcmp hC dL_law_507 ?_
      refine x_if_eq (t := 513) hC dL_law_508 (by decide) (fun c25 => ?_) (fun c25 => ?_)
      · replace h := wit_t c25 h
        refine x_goto (t := 1925) hC dL_law_513 (by decide) ?_
        refine x_iinc (i := 5) (v := (i5 + (4 : Int32))) (l' := [(5, .int (i5 + (4 : Int32))), (7, .int v10), (6, .int v2), (0, va_rf (some b)), (1, va_rf r1), (2, va_rf r2), (3, va_rf r3), (4, va_rf r4)]) hC dL_law_1925 7 rfl rfl (⟨fun _ => rfl, ⟨fun _ => rfl, ⟨fun _ => c_rf (some b), ⟨fun _ => c_rf r1, ⟨fun _ => c_rf r2, ⟨fun _ => c_rf r3, ⟨fun _ => c_rf r4, ⟨fun _ => rfl, trivial⟩⟩⟩⟩⟩⟩⟩⟩) (by decide) rfl ?_
        refine x_goto (t := 28) hC dL_law_1928 (by decide) ?_
        refine x_sub (l' := [(0, va_rf (some b)), (1, va_rf r1), (2, va_rf r2), (3, va_rf r3), (4, va_rf r4), (5, .int (i5 + (4 : Int32)))]) [3, 4, 5, 6, 7, 0] rfl ?_
        refine x_wid (k' := k0 + 40) (n' := n0 + 400) (by omega) (by omega) ?_
        exact hK _ _ h
      · replace h := wit_f c25 h
        refine x_iconst (v := (0 : Int32)) hC dL_law_511 (by decide) ?_
        refine x_tI (show (0 : Int32) = (1 : Int32) from h) ?_
        exact hEnd _ _ _ _ _ (by omega) (by omega) dL_law_512
  · replace h := wit_f c19 h
    refine x_iconst (v := (0 : Int32)) hC dL_law_494 (by decide) ?_
    refine x_tI (show (0 : Int32) = (1 : Int32) from h) ?_
    exact hEnd _ _ _ _ _ (by omega) (by omega) dL_law_495
def wc_law_516 (xs : Nat → Int32) (L : Nat) (r1 r2 r3 r4 : Option Nat) (i5 : Int32) (S0 : PH) (K : Int32 → PH → Prop) : Prop := w_L_week r1 r3 S0 (wq (fun v1 S2 => wdr S2 5 r2 fun a5 => wbd (m_X5_week r2 S2) fun v8 S9 => wdr S9 5 r2 fun a11 => wbd (m_X5_thrown r2 S9) fun v14 S15 => if v14 = v1 then (if v1 = 0 then (wdr S15 10 r3 fun a19 => wck (ix (0 : Int32) (p_N S15 a19)) <| if (lg_cmp (p_J S15 a19 0) (Int32.toInt64 v8)) = 0 then (K (i5 + (4 : Int32)) S15) else ((0 : Int32) = (1 : Int32))) else (K (i5 + (4 : Int32)) S15)) else ((0 : Int32) = (1 : Int32))) (fun _ _ => False))
theorem dL_law_516 : decode cL_law 516 = .ok (.aload_n 1, 1) := by decide +kernel
theorem dL_law_517 : decode cL_law 517 = .ok (.aload_n 3, 1) := by decide +kernel
theorem dL_law_518 : decode cL_law 518 = .ok (.invokestatic 127, 3) := by decide +kernel
theorem dL_law_521 : decode cL_law 521 = .ok (.istore 6, 2) := by decide +kernel
theorem dL_law_523 : decode cL_law 523 = .ok (.aload_n 2, 1) := by decide +kernel
theorem dL_law_524 : decode cL_law 524 = .ok (.invokevirtual 130, 3) := by decide +kernel
theorem dL_law_527 : decode cL_law 527 = .ok (.istore 7, 2) := by decide +kernel
theorem dL_law_529 : decode cL_law 529 = .ok (.aload_n 2, 1) := by decide +kernel
theorem dL_law_530 : decode cL_law 530 = .ok (.invokevirtual 111, 3) := by decide +kernel
theorem dL_law_533 : decode cL_law 533 = .ok (.iload 6, 2) := by decide +kernel
theorem dL_law_535 : decode cL_law 535 = .ok (.if_icmp .eq 5, 3) := by decide +kernel
theorem dL_law_540 : decode cL_law 540 = .ok (.iload 6, 2) := by decide +kernel
theorem dL_law_542 : decode cL_law 542 = .ok (.ifCond .ne 15, 3) := by decide +kernel
theorem dL_law_557 : decode cL_law 557 = .ok (.goto 1368, 3) := by decide +kernel
theorem dL_law_545 : decode cL_law 545 = .ok (.aload_n 3, 1) := by decide +kernel
theorem dL_law_546 : decode cL_law 546 = .ok (.iconst 0, 1) := by decide +kernel
theorem dL_law_547 : decode cL_law 547 = .ok (.laload, 1) := by decide +kernel
theorem dL_law_548 : decode cL_law 548 = .ok (.iload 7, 2) := by decide +kernel
theorem dL_law_550 : decode cL_law 550 = .ok (.i2l, 1) := by decide +kernel
theorem dL_law_551 : decode cL_law 551 = .ok (.lcmp, 1) := by decide +kernel
theorem dL_law_552 : decode cL_law 552 = .ok (.ifCond .eq 5, 3) := by decide +kernel
theorem dL_law_555 : decode cL_law 555 = .ok (.iconst 0, 1) := by decide +kernel
theorem dL_law_556 : decode cL_law 556 = .ok (.ireturn, 1) := by decide +kernel
theorem dL_law_538 : decode cL_law 538 = .ok (.iconst 0, 1) := by decide +kernel
theorem dL_law_539 : decode cL_law 539 = .ok (.ireturn, 1) := by decide +kernel
set_option maxRecDepth 100000 in
set_option maxHeartbeats 4000000 in
theorem wk_law_516 {Z : ZT} {b L : Nat} {xs : Nat → Int32} (hC : CX Z cL_law RL 10 room_1) (hX : SX Z b L xs) (hEnd : EL Z) {k0 n0 : Nat} (hk : k0 + 40 ≤ 601024) (hn : n0 + 400 ≤ 7293034) (r1 r2 r3 r4 : Option Nat) (i5 : Int32) (S0 : PH) (K : Int32 → PH → Prop) (hK : ∀ i S, K i S → PX Z 10 S (k0 + 40) (n0 + 400) 28 [(0, va_rf (some b)), (1, va_rf r1), (2, va_rf r2), (3, va_rf r3), (4, va_rf r4), (5, .int i)] []) (h : wc_law_516 xs L r1 r2 r3 r4 i5 S0 K) : PX Z 10 S0 k0 n0 516 [(0, va_rf (some b)), (1, va_rf r1), (2, va_rf r2), (3, va_rf r3), (4, va_rf r4), (5, .int i5)] [] := by
  refine x_wid (k' := k0 + 0) (n' := n0 + 0) (Nat.le_refl _) (Nat.le_refl _) ?_
  unfold wc_law_516 at h
  refine x_aload_n (i := 1) hC dL_law_516 rfl 1 rfl ?_
  refine x_aload_n (i := 3) hC dL_law_517 rfl 3 rfl ?_
  refine x_callSX hC (st := []) (mt_L_week _ _ _ _ h) q_586 q_587 q_0 q_588 hy_L_week ⟨Nat.le_of_ble_eq_true rfl, Nat.le_of_ble_eq_true rfl⟩ ⟨(show k0 + 0 + 21 ≤ 601024 from by omega), (show n0 + 0 + 173 ≤ 7293034 from by omega)⟩ rfl (Nat.le_of_ble_eq_true rfl) dL_law_518 (r_W (fun v1 S2 h => ?_)) (r_Wx (fun _ _ h => (wq_l h).elim))
  replace h := wq_r h
  show PX Z 10 S2 (k0 + 21) (n0 + 173) 521 [(0, va_rf (some b)), (1, va_rf r1), (2, va_rf r2), (3, va_rf r3), (4, va_rf r4), (5, .int i5)] [.int v1]
  refine x_istore (i := 6) (l' := [(6, .int v1), (0, va_rf (some b)), (1, va_rf r1), (2, va_rf r2), (3, va_rf r3), (4, va_rf r4), (5, .int i5)]) hC dL_law_521 (⟨fun _ => c_rf (some b), ⟨fun _ => c_rf r1, ⟨fun _ => c_rf r2, ⟨fun _ => c_rf r3, ⟨fun _ => c_rf r4, ⟨fun _ => rfl, trivial⟩⟩⟩⟩⟩⟩) (by decide) rfl ?_
  refine x_aload_n (i := 2) hC dL_law_523 rfl 3 rfl ?_
  obtain ⟨a5, ea6, ha7, h⟩ := h
  obtain ⟨v8, S9, hb10, h⟩ := h
  refine x_callV hC (st := []) (mt_X5_week _ _ _ hb10) ea6 ha7 kf_5 q_953 q_954 q_955 q_7 q_956 ⟨rfl, hy_X5_week⟩ ⟨Nat.le_of_ble_eq_true rfl, Nat.le_of_ble_eq_true rfl⟩ ⟨(show k0 + 21 + 0 ≤ 601024 from by omega), (show n0 + 173 + 0 ≤ 7293034 from by omega)⟩ rfl (Nat.le_of_ble_eq_true rfl) dL_law_524 (r_N ?_) r_NX
  show PX Z 10 S9 (k0 + 21) (n0 + 173) 527 [(6, .int v1), (0, va_rf (some b)), (1, va_rf r1), (2, va_rf r2), (3, va_rf r3), (4, va_rf r4), (5, .int i5)] [.int v8]
  refine x_istore (i := 7) (l' := [(7, .int v8), (6, .int v1), (0, va_rf (some b)), (1, va_rf r1), (2, va_rf r2), (3, va_rf r3), (4, va_rf r4), (5, .int i5)]) hC dL_law_527 (⟨fun _ => rfl, ⟨fun _ => c_rf (some b), ⟨fun _ => c_rf r1, ⟨fun _ => c_rf r2, ⟨fun _ => c_rf r3, ⟨fun _ => c_rf r4, ⟨fun _ => rfl, trivial⟩⟩⟩⟩⟩⟩⟩) (by decide) rfl ?_
  refine x_aload_n (i := 2) hC dL_law_529 rfl 4 rfl ?_
  obtain ⟨a11, ea12, ha13, h⟩ := h
  obtain ⟨v14, S15, hb16, h⟩ := h
  refine x_callV hC (st := []) (mt_X5_thrown _ _ _ hb16) ea12 ha13 kf_5 q_904 q_905 q_906 q_7 q_907 ⟨rfl, hy_X5_thrown⟩ ⟨Nat.le_of_ble_eq_true rfl, Nat.le_of_ble_eq_true rfl⟩ ⟨(show k0 + 21 + 0 ≤ 601024 from by omega), (show n0 + 173 + 0 ≤ 7293034 from by omega)⟩ rfl (Nat.le_of_ble_eq_true rfl) dL_law_530 (r_N ?_) r_NX
  show PX Z 10 S15 (k0 + 21) (n0 + 173) 533 [(7, .int v8), (6, .int v1), (0, va_rf (some b)), (1, va_rf r1), (2, va_rf r2), (3, va_rf r3), (4, va_rf r4), (5, .int i5)] [.int v14]
  refine x_iload (i := 6) hC dL_law_533 1 rfl ?_
  refine x_icmp_eq (t := 540) hC dL_law_535 (by decide) (fun c17 => ?_) (fun c17 => ?_)
  · replace h := wit_t c17 h
    refine x_iload (i := 6) hC dL_law_540 1 rfl ?_
    refine x_if_ne (t := 557) hC dL_law_542 (by decide) (fun c18 => ?_) (fun c18 => ?_)
    · replace h := wit_f c18 h
      refine x_goto (t := 1925) hC dL_law_557 (by decide) ?_
      refine x_iinc (i := 5) (v := (i5 + (4 : Int32))) (l' := [(5, .int (i5 + (4 : Int32))), (7, .int v8), (6, .int v1), (0, va_rf (some b)), (1, va_rf r1), (2, va_rf r2), (3, va_rf r3), (4, va_rf r4)]) hC dL_law_1925 7 rfl rfl (⟨fun _ => rfl, ⟨fun _ => rfl, ⟨fun _ => c_rf (some b), ⟨fun _ => c_rf r1, ⟨fun _ => c_rf r2, ⟨fun _ => c_rf r3, ⟨fun _ => c_rf r4, ⟨fun _ => rfl, trivial⟩⟩⟩⟩⟩⟩⟩⟩) (by decide) rfl ?_
      refine x_goto (t := 28) hC dL_law_1928 (by decide) ?_
      refine x_sub (l' := [(0, va_rf (some b)), (1, va_rf r1), (2, va_rf r2), (3, va_rf r3), (4, va_rf r4), (5, .int (i5 + (4 : Int32)))]) [3, 4, 5, 6, 7, 0] rfl ?_
      refine x_wid (k' := k0 + 40) (n' := n0 + 400) (by omega) (by omega) ?_
      exact hK _ _ h
    · replace h := wit_t c18 h
      refine x_aload_n (i := 3) hC dL_law_545 rfl 5 rfl ?_
      refine x_iconst (v := (0 : Int32)) hC dL_law_546 (by decide) ?_
      obtain ⟨a19, ea20, ha21, h⟩ := h
      obtain ⟨hc22, h⟩ := h
      refine x_laload hC ea20 ha21 hc22 dL_law_547 ?_
      refine x_tJ (b := (p_J S15 a19 0)) rfl ?_
      refine x_iload (i := 7) hC dL_law_548 0 rfl ?_
      refine x_i2l hC dL_law_550 ?_
      refine x_lcmp hC dL_law_551 ?_
      refine x_if_eq (t := 557) hC dL_law_552 (by decide) (fun c23 => ?_) (fun c23 => ?_)
      · replace h := wit_t c23 h
        refine x_goto (t := 1925) hC dL_law_557 (by decide) ?_
        refine x_iinc (i := 5) (v := (i5 + (4 : Int32))) (l' := [(5, .int (i5 + (4 : Int32))), (7, .int v8), (6, .int v1), (0, va_rf (some b)), (1, va_rf r1), (2, va_rf r2), (3, va_rf r3), (4, va_rf r4)]) hC dL_law_1925 7 rfl rfl (⟨fun _ => rfl, ⟨fun _ => rfl, ⟨fun _ => c_rf (some b), ⟨fun _ => c_rf r1, ⟨fun _ => c_rf r2, ⟨fun _ => c_rf r3, ⟨fun _ => c_rf r4, ⟨fun _ => rfl, trivial⟩⟩⟩⟩⟩⟩⟩⟩) (by decide) rfl ?_
        refine x_goto (t := 28) hC dL_law_1928 (by decide) ?_
        refine x_sub (l' := [(0, va_rf (some b)), (1, va_rf r1), (2, va_rf r2), (3, va_rf r3), (4, va_rf r4), (5, .int (i5 + (4 : Int32)))]) [3, 4, 5, 6, 7, 0] rfl ?_
        refine x_wid (k' := k0 + 40) (n' := n0 + 400) (by omega) (by omega) ?_
        exact hK _ _ h
      · replace h := wit_f c23 h
        refine x_iconst (v := (0 : Int32)) hC dL_law_555 (by decide) ?_
        refine x_tI (show (0 : Int32) = (1 : Int32) from h) ?_
        exact hEnd _ _ _ _ _ (by omega) (by omega) dL_law_556
  · replace h := wit_f c17 h
    refine x_iconst (v := (0 : Int32)) hC dL_law_538 (by decide) ?_
    refine x_tI (show (0 : Int32) = (1 : Int32) from h) ?_
    exact hEnd _ _ _ _ _ (by omega) (by omega) dL_law_539
def wc_law_560 (xs : Nat → Int32) (L : Nat) (r1 r2 r3 r4 : Option Nat) (i5 : Int32) (S0 : PH) (K : Int32 → PH → Prop) : Prop := wck (ix (i5 + (1 : Int32)) L) <| wck (ix (i5 + (2 : Int32)) L) <| w_L_take r1 (xs (Int32.toNatClampNeg (i5 + (1 : Int32)))) (xs (Int32.toNatClampNeg (i5 + (2 : Int32)))) r3 S0 (wq (fun v3 S4 => wck (ix (i5 + (1 : Int32)) L) <| wck (ix (i5 + (2 : Int32)) L) <| wdr S4 5 r2 fun a9 => wbd (m_X5_take r2 (xs (Int32.toNatClampNeg (i5 + (1 : Int32)))) (xs (Int32.toNatClampNeg (i5 + (2 : Int32)))) S4) fun v12 S13 => wdr S13 5 r2 fun a15 => wbd (m_X5_thrown r2 S13) fun v18 S19 => if v18 = v3 then (if v3 = 0 then (wdr S19 10 r3 fun a23 => wck (ix (0 : Int32) (p_N S19 a23)) <| if (lg_cmp (p_J S19 a23 0) (Int32.toInt64 v12)) = 0 then (K (i5 + (4 : Int32)) S19) else ((0 : Int32) = (1 : Int32))) else (K (i5 + (4 : Int32)) S19)) else ((0 : Int32) = (1 : Int32))) (fun _ _ => False))
theorem dL_law_560 : decode cL_law 560 = .ok (.aload_n 1, 1) := by decide +kernel
theorem dL_law_561 : decode cL_law 561 = .ok (.aload_n 0, 1) := by decide +kernel
theorem dL_law_562 : decode cL_law 562 = .ok (.iload 5, 2) := by decide +kernel
theorem dL_law_564 : decode cL_law 564 = .ok (.iconst 1, 1) := by decide +kernel
theorem dL_law_565 : decode cL_law 565 = .ok (.iadd, 1) := by decide +kernel
theorem dL_law_566 : decode cL_law 566 = .ok (.iaload, 1) := by decide +kernel
theorem dL_law_567 : decode cL_law 567 = .ok (.aload_n 0, 1) := by decide +kernel
theorem dL_law_568 : decode cL_law 568 = .ok (.iload 5, 2) := by decide +kernel
theorem dL_law_570 : decode cL_law 570 = .ok (.iconst 2, 1) := by decide +kernel
theorem dL_law_571 : decode cL_law 571 = .ok (.iadd, 1) := by decide +kernel
theorem dL_law_572 : decode cL_law 572 = .ok (.iaload, 1) := by decide +kernel
theorem dL_law_573 : decode cL_law 573 = .ok (.aload_n 3, 1) := by decide +kernel
theorem dL_law_574 : decode cL_law 574 = .ok (.invokestatic 131, 3) := by decide +kernel
theorem dL_law_577 : decode cL_law 577 = .ok (.istore 6, 2) := by decide +kernel
theorem dL_law_579 : decode cL_law 579 = .ok (.aload_n 2, 1) := by decide +kernel
theorem dL_law_580 : decode cL_law 580 = .ok (.aload_n 0, 1) := by decide +kernel
theorem dL_law_581 : decode cL_law 581 = .ok (.iload 5, 2) := by decide +kernel
theorem dL_law_583 : decode cL_law 583 = .ok (.iconst 1, 1) := by decide +kernel
theorem dL_law_584 : decode cL_law 584 = .ok (.iadd, 1) := by decide +kernel
theorem dL_law_585 : decode cL_law 585 = .ok (.iaload, 1) := by decide +kernel
theorem dL_law_586 : decode cL_law 586 = .ok (.aload_n 0, 1) := by decide +kernel
theorem dL_law_587 : decode cL_law 587 = .ok (.iload 5, 2) := by decide +kernel
theorem dL_law_589 : decode cL_law 589 = .ok (.iconst 2, 1) := by decide +kernel
theorem dL_law_590 : decode cL_law 590 = .ok (.iadd, 1) := by decide +kernel
theorem dL_law_591 : decode cL_law 591 = .ok (.iaload, 1) := by decide +kernel
theorem dL_law_592 : decode cL_law 592 = .ok (.invokevirtual 133, 3) := by decide +kernel
theorem dL_law_595 : decode cL_law 595 = .ok (.istore 7, 2) := by decide +kernel
theorem dL_law_597 : decode cL_law 597 = .ok (.aload_n 2, 1) := by decide +kernel
theorem dL_law_598 : decode cL_law 598 = .ok (.invokevirtual 111, 3) := by decide +kernel
theorem dL_law_601 : decode cL_law 601 = .ok (.iload 6, 2) := by decide +kernel
theorem dL_law_603 : decode cL_law 603 = .ok (.if_icmp .eq 5, 3) := by decide +kernel
theorem dL_law_608 : decode cL_law 608 = .ok (.iload 6, 2) := by decide +kernel
theorem dL_law_610 : decode cL_law 610 = .ok (.ifCond .ne 15, 3) := by decide +kernel
theorem dL_law_625 : decode cL_law 625 = .ok (.goto 1300, 3) := by decide +kernel
theorem dL_law_613 : decode cL_law 613 = .ok (.aload_n 3, 1) := by decide +kernel
theorem dL_law_614 : decode cL_law 614 = .ok (.iconst 0, 1) := by decide +kernel
theorem dL_law_615 : decode cL_law 615 = .ok (.laload, 1) := by decide +kernel
theorem dL_law_616 : decode cL_law 616 = .ok (.iload 7, 2) := by decide +kernel
theorem dL_law_618 : decode cL_law 618 = .ok (.i2l, 1) := by decide +kernel
theorem dL_law_619 : decode cL_law 619 = .ok (.lcmp, 1) := by decide +kernel
theorem dL_law_620 : decode cL_law 620 = .ok (.ifCond .eq 5, 3) := by decide +kernel
theorem dL_law_623 : decode cL_law 623 = .ok (.iconst 0, 1) := by decide +kernel
theorem dL_law_624 : decode cL_law 624 = .ok (.ireturn, 1) := by decide +kernel
theorem dL_law_606 : decode cL_law 606 = .ok (.iconst 0, 1) := by decide +kernel
theorem dL_law_607 : decode cL_law 607 = .ok (.ireturn, 1) := by decide +kernel
set_option maxRecDepth 100000 in
set_option maxHeartbeats 4000000 in
theorem wk_law_560 {Z : ZT} {b L : Nat} {xs : Nat → Int32} (hC : CX Z cL_law RL 10 room_1) (hX : SX Z b L xs) (hEnd : EL Z) {k0 n0 : Nat} (hk : k0 + 40 ≤ 601024) (hn : n0 + 400 ≤ 7293034) (r1 r2 r3 r4 : Option Nat) (i5 : Int32) (S0 : PH) (K : Int32 → PH → Prop) (hK : ∀ i S, K i S → PX Z 10 S (k0 + 40) (n0 + 400) 28 [(0, va_rf (some b)), (1, va_rf r1), (2, va_rf r2), (3, va_rf r3), (4, va_rf r4), (5, .int i)] []) (h : wc_law_560 xs L r1 r2 r3 r4 i5 S0 K) : PX Z 10 S0 k0 n0 560 [(0, va_rf (some b)), (1, va_rf r1), (2, va_rf r2), (3, va_rf r3), (4, va_rf r4), (5, .int i5)] [] := by
  refine x_wid (k' := k0 + 0) (n' := n0 + 0) (Nat.le_refl _) (Nat.le_refl _) ?_
  unfold wc_law_560 at h
  refine x_aload_n (i := 1) hC dL_law_560 rfl 1 rfl ?_
  refine x_aload_n (i := 0) hC dL_law_561 rfl 0 rfl ?_
  refine x_iload (i := 5) hC dL_law_562 5 rfl ?_
  refine x_iconst (v := (1 : Int32)) hC dL_law_564 (by decide) ?_
  refine x_iadd hC dL_law_565 ?_
  obtain ⟨hc1, h⟩ := h
  refine x_sld hC hX hc1 dL_law_566 ?_
  refine x_aload_n (i := 0) hC dL_law_567 rfl 0 rfl ?_
  refine x_iload (i := 5) hC dL_law_568 5 rfl ?_
  refine x_iconst (v := (2 : Int32)) hC dL_law_570 (by decide) ?_
  refine x_iadd hC dL_law_571 ?_
  obtain ⟨hc2, h⟩ := h
  refine x_sld hC hX hc2 dL_law_572 ?_
  refine x_aload_n (i := 3) hC dL_law_573 rfl 3 rfl ?_
  refine x_callSX hC (st := []) (mt_L_take _ _ _ _ _ _ h) q_606 q_607 q_0 q_608 hy_L_take ⟨Nat.le_of_ble_eq_true rfl, Nat.le_of_ble_eq_true rfl⟩ ⟨(show k0 + 0 + 23 ≤ 601024 from by omega), (show n0 + 0 + 185 ≤ 7293034 from by omega)⟩ rfl (Nat.le_of_ble_eq_true rfl) dL_law_574 (r_W (fun v3 S4 h => ?_)) (r_Wx (fun _ _ h => (wq_l h).elim))
  replace h := wq_r h
  show PX Z 10 S4 (k0 + 23) (n0 + 185) 577 [(0, va_rf (some b)), (1, va_rf r1), (2, va_rf r2), (3, va_rf r3), (4, va_rf r4), (5, .int i5)] [.int v3]
  refine x_istore (i := 6) (l' := [(6, .int v3), (0, va_rf (some b)), (1, va_rf r1), (2, va_rf r2), (3, va_rf r3), (4, va_rf r4), (5, .int i5)]) hC dL_law_577 (⟨fun _ => c_rf (some b), ⟨fun _ => c_rf r1, ⟨fun _ => c_rf r2, ⟨fun _ => c_rf r3, ⟨fun _ => c_rf r4, ⟨fun _ => rfl, trivial⟩⟩⟩⟩⟩⟩) (by decide) rfl ?_
  refine x_aload_n (i := 2) hC dL_law_579 rfl 3 rfl ?_
  refine x_aload_n (i := 0) hC dL_law_580 rfl 1 rfl ?_
  refine x_iload (i := 5) hC dL_law_581 6 rfl ?_
  refine x_iconst (v := (1 : Int32)) hC dL_law_583 (by decide) ?_
  refine x_iadd hC dL_law_584 ?_
  obtain ⟨hc7, h⟩ := h
  refine x_sld hC hX hc7 dL_law_585 ?_
  refine x_aload_n (i := 0) hC dL_law_586 rfl 1 rfl ?_
  refine x_iload (i := 5) hC dL_law_587 6 rfl ?_
  refine x_iconst (v := (2 : Int32)) hC dL_law_589 (by decide) ?_
  refine x_iadd hC dL_law_590 ?_
  obtain ⟨hc8, h⟩ := h
  refine x_sld hC hX hc8 dL_law_591 ?_
  obtain ⟨a9, ea10, ha11, h⟩ := h
  obtain ⟨v12, S13, hb14, h⟩ := h
  refine x_callV hC (st := []) (mt_X5_take _ _ _ _ _ hb14) ea10 ha11 kf_5 q_965 q_966 q_967 q_7 q_968 ⟨rfl, hy_X5_take⟩ ⟨Nat.le_of_ble_eq_true rfl, Nat.le_of_ble_eq_true rfl⟩ ⟨(show k0 + 23 + 0 ≤ 601024 from by omega), (show n0 + 185 + 0 ≤ 7293034 from by omega)⟩ rfl (Nat.le_of_ble_eq_true rfl) dL_law_592 (r_N ?_) r_NX
  show PX Z 10 S13 (k0 + 23) (n0 + 185) 595 [(6, .int v3), (0, va_rf (some b)), (1, va_rf r1), (2, va_rf r2), (3, va_rf r3), (4, va_rf r4), (5, .int i5)] [.int v12]
  refine x_istore (i := 7) (l' := [(7, .int v12), (6, .int v3), (0, va_rf (some b)), (1, va_rf r1), (2, va_rf r2), (3, va_rf r3), (4, va_rf r4), (5, .int i5)]) hC dL_law_595 (⟨fun _ => rfl, ⟨fun _ => c_rf (some b), ⟨fun _ => c_rf r1, ⟨fun _ => c_rf r2, ⟨fun _ => c_rf r3, ⟨fun _ => c_rf r4, ⟨fun _ => rfl, trivial⟩⟩⟩⟩⟩⟩⟩) (by decide) rfl ?_
  refine x_aload_n (i := 2) hC dL_law_597 rfl 4 rfl ?_
  obtain ⟨a15, ea16, ha17, h⟩ := h
  obtain ⟨v18, S19, hb20, h⟩ := h
  refine x_callV hC (st := []) (mt_X5_thrown _ _ _ hb20) ea16 ha17 kf_5 q_904 q_905 q_906 q_7 q_907 ⟨rfl, hy_X5_thrown⟩ ⟨Nat.le_of_ble_eq_true rfl, Nat.le_of_ble_eq_true rfl⟩ ⟨(show k0 + 23 + 0 ≤ 601024 from by omega), (show n0 + 185 + 0 ≤ 7293034 from by omega)⟩ rfl (Nat.le_of_ble_eq_true rfl) dL_law_598 (r_N ?_) r_NX
  show PX Z 10 S19 (k0 + 23) (n0 + 185) 601 [(7, .int v12), (6, .int v3), (0, va_rf (some b)), (1, va_rf r1), (2, va_rf r2), (3, va_rf r3), (4, va_rf r4), (5, .int i5)] [.int v18]
  refine x_iload (i := 6) hC dL_law_601 1 rfl ?_
  refine x_icmp_eq (t := 608) hC dL_law_603 (by decide) (fun c21 => ?_) (fun c21 => ?_)
  · replace h := wit_t c21 h
    refine x_iload (i := 6) hC dL_law_608 1 rfl ?_
    refine x_if_ne (t := 625) hC dL_law_610 (by decide) (fun c22 => ?_) (fun c22 => ?_)
    · replace h := wit_f c22 h
      refine x_goto (t := 1925) hC dL_law_625 (by decide) ?_
      refine x_iinc (i := 5) (v := (i5 + (4 : Int32))) (l' := [(5, .int (i5 + (4 : Int32))), (7, .int v12), (6, .int v3), (0, va_rf (some b)), (1, va_rf r1), (2, va_rf r2), (3, va_rf r3), (4, va_rf r4)]) hC dL_law_1925 7 rfl rfl (⟨fun _ => rfl, ⟨fun _ => rfl, ⟨fun _ => c_rf (some b), ⟨fun _ => c_rf r1, ⟨fun _ => c_rf r2, ⟨fun _ => c_rf r3, ⟨fun _ => c_rf r4, ⟨fun _ => rfl, trivial⟩⟩⟩⟩⟩⟩⟩⟩) (by decide) rfl ?_
      refine x_goto (t := 28) hC dL_law_1928 (by decide) ?_
      refine x_sub (l' := [(0, va_rf (some b)), (1, va_rf r1), (2, va_rf r2), (3, va_rf r3), (4, va_rf r4), (5, .int (i5 + (4 : Int32)))]) [3, 4, 5, 6, 7, 0] rfl ?_
      refine x_wid (k' := k0 + 40) (n' := n0 + 400) (by omega) (by omega) ?_
      exact hK _ _ h
    · replace h := wit_t c22 h
      refine x_aload_n (i := 3) hC dL_law_613 rfl 5 rfl ?_
      refine x_iconst (v := (0 : Int32)) hC dL_law_614 (by decide) ?_
      obtain ⟨a23, ea24, ha25, h⟩ := h
      obtain ⟨hc26, h⟩ := h
      refine x_laload hC ea24 ha25 hc26 dL_law_615 ?_
      refine x_tJ (b := (p_J S19 a23 0)) rfl ?_
      refine x_iload (i := 7) hC dL_law_616 0 rfl ?_
      refine x_i2l hC dL_law_618 ?_
      refine x_lcmp hC dL_law_619 ?_
      refine x_if_eq (t := 625) hC dL_law_620 (by decide) (fun c27 => ?_) (fun c27 => ?_)
      · replace h := wit_t c27 h
        refine x_goto (t := 1925) hC dL_law_625 (by decide) ?_
        refine x_iinc (i := 5) (v := (i5 + (4 : Int32))) (l' := [(5, .int (i5 + (4 : Int32))), (7, .int v12), (6, .int v3), (0, va_rf (some b)), (1, va_rf r1), (2, va_rf r2), (3, va_rf r3), (4, va_rf r4)]) hC dL_law_1925 7 rfl rfl (⟨fun _ => rfl, ⟨fun _ => rfl, ⟨fun _ => c_rf (some b), ⟨fun _ => c_rf r1, ⟨fun _ => c_rf r2, ⟨fun _ => c_rf r3, ⟨fun _ => c_rf r4, ⟨fun _ => rfl, trivial⟩⟩⟩⟩⟩⟩⟩⟩) (by decide) rfl ?_
        refine x_goto (t := 28) hC dL_law_1928 (by decide) ?_
        refine x_sub (l' := [(0, va_rf (some b)), (1, va_rf r1), (2, va_rf r2), (3, va_rf r3), (4, va_rf r4), (5, .int (i5 + (4 : Int32)))]) [3, 4, 5, 6, 7, 0] rfl ?_
        refine x_wid (k' := k0 + 40) (n' := n0 + 400) (by omega) (by omega) ?_
        exact hK _ _ h
      · replace h := wit_f c27 h
        refine x_iconst (v := (0 : Int32)) hC dL_law_623 (by decide) ?_
        refine x_tI (show (0 : Int32) = (1 : Int32) from h) ?_
        exact hEnd _ _ _ _ _ (by omega) (by omega) dL_law_624
  · replace h := wit_f c21 h
    refine x_iconst (v := (0 : Int32)) hC dL_law_606 (by decide) ?_
    refine x_tI (show (0 : Int32) = (1 : Int32) from h) ?_
    exact hEnd _ _ _ _ _ (by omega) (by omega) dL_law_607
def wc_law_628 (xs : Nat → Int32) (L : Nat) (r1 r2 r3 r4 : Option Nat) (i5 : Int32) (S0 : PH) (K : Int32 → PH → Prop) : Prop := wck (ix (i5 + (1 : Int32)) L) <| wck (ix (i5 + (2 : Int32)) L) <| wck (ix (i5 + (3 : Int32)) L) <| w_L_write r1 (xs (Int32.toNatClampNeg (i5 + (1 : Int32)))) (xs (Int32.toNatClampNeg (i5 + (2 : Int32)))) (xs (Int32.toNatClampNeg (i5 + (3 : Int32)))) r3 S0 (wq (fun v4 S5 => wck (ix (i5 + (1 : Int32)) L) <| wck (ix (i5 + (2 : Int32)) L) <| wck (ix (i5 + (3 : Int32)) L) <| wdr S5 5 r2 fun a11 => wbd (m_X5_write r2 (xs (Int32.toNatClampNeg (i5 + (1 : Int32)))) (xs (Int32.toNatClampNeg (i5 + (2 : Int32)))) (xs (Int32.toNatClampNeg (i5 + (3 : Int32)))) S5) fun v14 S15 => wdr S15 5 r2 fun a17 => wbd (m_X5_thrown r2 S15) fun v20 S21 => if v20 = v4 then (if v4 = 0 then (wdr S21 10 r3 fun a25 => wck (ix (0 : Int32) (p_N S21 a25)) <| if (lg_cmp (p_J S21 a25 0) (Int32.toInt64 v14)) = 0 then (K (i5 + (4 : Int32)) S21) else ((0 : Int32) = (1 : Int32))) else (K (i5 + (4 : Int32)) S21)) else ((0 : Int32) = (1 : Int32))) (fun _ _ => False))
theorem dL_law_628 : decode cL_law 628 = .ok (.aload_n 1, 1) := by decide +kernel
theorem dL_law_629 : decode cL_law 629 = .ok (.aload_n 0, 1) := by decide +kernel
theorem dL_law_630 : decode cL_law 630 = .ok (.iload 5, 2) := by decide +kernel
theorem dL_law_632 : decode cL_law 632 = .ok (.iconst 1, 1) := by decide +kernel
theorem dL_law_633 : decode cL_law 633 = .ok (.iadd, 1) := by decide +kernel
theorem dL_law_634 : decode cL_law 634 = .ok (.iaload, 1) := by decide +kernel
theorem dL_law_635 : decode cL_law 635 = .ok (.aload_n 0, 1) := by decide +kernel
theorem dL_law_636 : decode cL_law 636 = .ok (.iload 5, 2) := by decide +kernel
theorem dL_law_638 : decode cL_law 638 = .ok (.iconst 2, 1) := by decide +kernel
theorem dL_law_639 : decode cL_law 639 = .ok (.iadd, 1) := by decide +kernel
theorem dL_law_640 : decode cL_law 640 = .ok (.iaload, 1) := by decide +kernel
theorem dL_law_641 : decode cL_law 641 = .ok (.aload_n 0, 1) := by decide +kernel
theorem dL_law_642 : decode cL_law 642 = .ok (.iload 5, 2) := by decide +kernel
theorem dL_law_644 : decode cL_law 644 = .ok (.iconst 3, 1) := by decide +kernel
theorem dL_law_645 : decode cL_law 645 = .ok (.iadd, 1) := by decide +kernel
theorem dL_law_646 : decode cL_law 646 = .ok (.iaload, 1) := by decide +kernel
theorem dL_law_647 : decode cL_law 647 = .ok (.aload_n 3, 1) := by decide +kernel
theorem dL_law_648 : decode cL_law 648 = .ok (.invokestatic 134, 3) := by decide +kernel
theorem dL_law_651 : decode cL_law 651 = .ok (.istore 6, 2) := by decide +kernel
theorem dL_law_653 : decode cL_law 653 = .ok (.aload_n 2, 1) := by decide +kernel
theorem dL_law_654 : decode cL_law 654 = .ok (.aload_n 0, 1) := by decide +kernel
theorem dL_law_655 : decode cL_law 655 = .ok (.iload 5, 2) := by decide +kernel
theorem dL_law_657 : decode cL_law 657 = .ok (.iconst 1, 1) := by decide +kernel
theorem dL_law_658 : decode cL_law 658 = .ok (.iadd, 1) := by decide +kernel
theorem dL_law_659 : decode cL_law 659 = .ok (.iaload, 1) := by decide +kernel
theorem dL_law_660 : decode cL_law 660 = .ok (.aload_n 0, 1) := by decide +kernel
theorem dL_law_661 : decode cL_law 661 = .ok (.iload 5, 2) := by decide +kernel
theorem dL_law_663 : decode cL_law 663 = .ok (.iconst 2, 1) := by decide +kernel
theorem dL_law_664 : decode cL_law 664 = .ok (.iadd, 1) := by decide +kernel
theorem dL_law_665 : decode cL_law 665 = .ok (.iaload, 1) := by decide +kernel
theorem dL_law_666 : decode cL_law 666 = .ok (.aload_n 0, 1) := by decide +kernel
theorem dL_law_667 : decode cL_law 667 = .ok (.iload 5, 2) := by decide +kernel
theorem dL_law_669 : decode cL_law 669 = .ok (.iconst 3, 1) := by decide +kernel
theorem dL_law_670 : decode cL_law 670 = .ok (.iadd, 1) := by decide +kernel
theorem dL_law_671 : decode cL_law 671 = .ok (.iaload, 1) := by decide +kernel
theorem dL_law_672 : decode cL_law 672 = .ok (.invokevirtual 137, 3) := by decide +kernel
theorem dL_law_675 : decode cL_law 675 = .ok (.istore 7, 2) := by decide +kernel
theorem dL_law_677 : decode cL_law 677 = .ok (.aload_n 2, 1) := by decide +kernel
theorem dL_law_678 : decode cL_law 678 = .ok (.invokevirtual 111, 3) := by decide +kernel
theorem dL_law_681 : decode cL_law 681 = .ok (.iload 6, 2) := by decide +kernel
theorem dL_law_683 : decode cL_law 683 = .ok (.if_icmp .eq 5, 3) := by decide +kernel
theorem dL_law_688 : decode cL_law 688 = .ok (.iload 6, 2) := by decide +kernel
theorem dL_law_690 : decode cL_law 690 = .ok (.ifCond .ne 15, 3) := by decide +kernel
theorem dL_law_705 : decode cL_law 705 = .ok (.goto 1220, 3) := by decide +kernel
theorem dL_law_693 : decode cL_law 693 = .ok (.aload_n 3, 1) := by decide +kernel
theorem dL_law_694 : decode cL_law 694 = .ok (.iconst 0, 1) := by decide +kernel
theorem dL_law_695 : decode cL_law 695 = .ok (.laload, 1) := by decide +kernel
theorem dL_law_696 : decode cL_law 696 = .ok (.iload 7, 2) := by decide +kernel
theorem dL_law_698 : decode cL_law 698 = .ok (.i2l, 1) := by decide +kernel
theorem dL_law_699 : decode cL_law 699 = .ok (.lcmp, 1) := by decide +kernel
theorem dL_law_700 : decode cL_law 700 = .ok (.ifCond .eq 5, 3) := by decide +kernel
theorem dL_law_703 : decode cL_law 703 = .ok (.iconst 0, 1) := by decide +kernel
theorem dL_law_704 : decode cL_law 704 = .ok (.ireturn, 1) := by decide +kernel
theorem dL_law_686 : decode cL_law 686 = .ok (.iconst 0, 1) := by decide +kernel
theorem dL_law_687 : decode cL_law 687 = .ok (.ireturn, 1) := by decide +kernel
set_option maxRecDepth 100000 in
set_option maxHeartbeats 4000000 in
theorem wk_law_628 {Z : ZT} {b L : Nat} {xs : Nat → Int32} (hC : CX Z cL_law RL 10 room_1) (hX : SX Z b L xs) (hEnd : EL Z) {k0 n0 : Nat} (hk : k0 + 40 ≤ 601024) (hn : n0 + 400 ≤ 7293034) (r1 r2 r3 r4 : Option Nat) (i5 : Int32) (S0 : PH) (K : Int32 → PH → Prop) (hK : ∀ i S, K i S → PX Z 10 S (k0 + 40) (n0 + 400) 28 [(0, va_rf (some b)), (1, va_rf r1), (2, va_rf r2), (3, va_rf r3), (4, va_rf r4), (5, .int i)] []) (h : wc_law_628 xs L r1 r2 r3 r4 i5 S0 K) : PX Z 10 S0 k0 n0 628 [(0, va_rf (some b)), (1, va_rf r1), (2, va_rf r2), (3, va_rf r3), (4, va_rf r4), (5, .int i5)] [] := by
  refine x_wid (k' := k0 + 0) (n' := n0 + 0) (Nat.le_refl _) (Nat.le_refl _) ?_
  unfold wc_law_628 at h
  refine x_aload_n (i := 1) hC dL_law_628 rfl 1 rfl ?_
  refine x_aload_n (i := 0) hC dL_law_629 rfl 0 rfl ?_
  refine x_iload (i := 5) hC dL_law_630 5 rfl ?_
  refine x_iconst (v := (1 : Int32)) hC dL_law_632 (by decide) ?_
  refine x_iadd hC dL_law_633 ?_
  obtain ⟨hc1, h⟩ := h
  refine x_sld hC hX hc1 dL_law_634 ?_
  refine x_aload_n (i := 0) hC dL_law_635 rfl 0 rfl ?_
  refine x_iload (i := 5) hC dL_law_636 5 rfl ?_
  refine x_iconst (v := (2 : Int32)) hC dL_law_638 (by decide) ?_
  refine x_iadd hC dL_law_639 ?_
  obtain ⟨hc2, h⟩ := h
  refine x_sld hC hX hc2 dL_law_640 ?_
  refine x_aload_n (i := 0) hC dL_law_641 rfl 0 rfl ?_
  refine x_iload (i := 5) hC dL_law_642 5 rfl ?_
  refine x_iconst (v := (3 : Int32)) hC dL_law_644 (by decide) ?_
  refine x_iadd hC dL_law_645 ?_
  obtain ⟨hc3, h⟩ := h
  refine x_sld hC hX hc3 dL_law_646 ?_
  refine x_aload_n (i := 3) hC dL_law_647 rfl 3 rfl ?_
  refine x_callSX hC (st := []) (mt_L_write _ _ _ _ _ _ _ h) q_626 q_627 q_0 q_628 hy_L_write ⟨Nat.le_of_ble_eq_true rfl, Nat.le_of_ble_eq_true rfl⟩ ⟨(show k0 + 0 + 23 ≤ 601024 from by omega), (show n0 + 0 + 185 ≤ 7293034 from by omega)⟩ rfl (Nat.le_of_ble_eq_true rfl) dL_law_648 (r_W (fun v4 S5 h => ?_)) (r_Wx (fun _ _ h => (wq_l h).elim))
  replace h := wq_r h
  show PX Z 10 S5 (k0 + 23) (n0 + 185) 651 [(0, va_rf (some b)), (1, va_rf r1), (2, va_rf r2), (3, va_rf r3), (4, va_rf r4), (5, .int i5)] [.int v4]
  refine x_istore (i := 6) (l' := [(6, .int v4), (0, va_rf (some b)), (1, va_rf r1), (2, va_rf r2), (3, va_rf r3), (4, va_rf r4), (5, .int i5)]) hC dL_law_651 (⟨fun _ => c_rf (some b), ⟨fun _ => c_rf r1, ⟨fun _ => c_rf r2, ⟨fun _ => c_rf r3, ⟨fun _ => c_rf r4, ⟨fun _ => rfl, trivial⟩⟩⟩⟩⟩⟩) (by decide) rfl ?_
  refine x_aload_n (i := 2) hC dL_law_653 rfl 3 rfl ?_
  refine x_aload_n (i := 0) hC dL_law_654 rfl 1 rfl ?_
  refine x_iload (i := 5) hC dL_law_655 6 rfl ?_
  refine x_iconst (v := (1 : Int32)) hC dL_law_657 (by decide) ?_
  refine x_iadd hC dL_law_658 ?_
  obtain ⟨hc8, h⟩ := h
  refine x_sld hC hX hc8 dL_law_659 ?_
  refine x_aload_n (i := 0) hC dL_law_660 rfl 1 rfl ?_
  refine x_iload (i := 5) hC dL_law_661 6 rfl ?_
  refine x_iconst (v := (2 : Int32)) hC dL_law_663 (by decide) ?_
  refine x_iadd hC dL_law_664 ?_
  obtain ⟨hc9, h⟩ := h
  refine x_sld hC hX hc9 dL_law_665 ?_
  refine x_aload_n (i := 0) hC dL_law_666 rfl 1 rfl ?_
  refine x_iload (i := 5) hC dL_law_667 6 rfl ?_
  refine x_iconst (v := (3 : Int32)) hC dL_law_669 (by decide) ?_
  refine x_iadd hC dL_law_670 ?_
  obtain ⟨hc10, h⟩ := h
  refine x_sld hC hX hc10 dL_law_671 ?_
  obtain ⟨a11, ea12, ha13, h⟩ := h
  obtain ⟨v14, S15, hb16, h⟩ := h
  refine x_callV hC (st := []) (mt_X5_write _ _ _ _ _ _ hb16) ea12 ha13 kf_5 q_1015 q_1016 q_1017 q_7 q_1018 ⟨rfl, hy_X5_write⟩ ⟨Nat.le_of_ble_eq_true rfl, Nat.le_of_ble_eq_true rfl⟩ ⟨(show k0 + 23 + 0 ≤ 601024 from by omega), (show n0 + 185 + 0 ≤ 7293034 from by omega)⟩ rfl (Nat.le_of_ble_eq_true rfl) dL_law_672 (r_N ?_) r_NX
  show PX Z 10 S15 (k0 + 23) (n0 + 185) 675 [(6, .int v4), (0, va_rf (some b)), (1, va_rf r1), (2, va_rf r2), (3, va_rf r3), (4, va_rf r4), (5, .int i5)] [.int v14]
  refine x_istore (i := 7) (l' := [(7, .int v14), (6, .int v4), (0, va_rf (some b)), (1, va_rf r1), (2, va_rf r2), (3, va_rf r3), (4, va_rf r4), (5, .int i5)]) hC dL_law_675 (⟨fun _ => rfl, ⟨fun _ => c_rf (some b), ⟨fun _ => c_rf r1, ⟨fun _ => c_rf r2, ⟨fun _ => c_rf r3, ⟨fun _ => c_rf r4, ⟨fun _ => rfl, trivial⟩⟩⟩⟩⟩⟩⟩) (by decide) rfl ?_
  refine x_aload_n (i := 2) hC dL_law_677 rfl 4 rfl ?_
  obtain ⟨a17, ea18, ha19, h⟩ := h
  obtain ⟨v20, S21, hb22, h⟩ := h
  refine x_callV hC (st := []) (mt_X5_thrown _ _ _ hb22) ea18 ha19 kf_5 q_904 q_905 q_906 q_7 q_907 ⟨rfl, hy_X5_thrown⟩ ⟨Nat.le_of_ble_eq_true rfl, Nat.le_of_ble_eq_true rfl⟩ ⟨(show k0 + 23 + 0 ≤ 601024 from by omega), (show n0 + 185 + 0 ≤ 7293034 from by omega)⟩ rfl (Nat.le_of_ble_eq_true rfl) dL_law_678 (r_N ?_) r_NX
  show PX Z 10 S21 (k0 + 23) (n0 + 185) 681 [(7, .int v14), (6, .int v4), (0, va_rf (some b)), (1, va_rf r1), (2, va_rf r2), (3, va_rf r3), (4, va_rf r4), (5, .int i5)] [.int v20]
  refine x_iload (i := 6) hC dL_law_681 1 rfl ?_
  refine x_icmp_eq (t := 688) hC dL_law_683 (by decide) (fun c23 => ?_) (fun c23 => ?_)
  · replace h := wit_t c23 h
    refine x_iload (i := 6) hC dL_law_688 1 rfl ?_
    refine x_if_ne (t := 705) hC dL_law_690 (by decide) (fun c24 => ?_) (fun c24 => ?_)
    · replace h := wit_f c24 h
      refine x_goto (t := 1925) hC dL_law_705 (by decide) ?_
      refine x_iinc (i := 5) (v := (i5 + (4 : Int32))) (l' := [(5, .int (i5 + (4 : Int32))), (7, .int v14), (6, .int v4), (0, va_rf (some b)), (1, va_rf r1), (2, va_rf r2), (3, va_rf r3), (4, va_rf r4)]) hC dL_law_1925 7 rfl rfl (⟨fun _ => rfl, ⟨fun _ => rfl, ⟨fun _ => c_rf (some b), ⟨fun _ => c_rf r1, ⟨fun _ => c_rf r2, ⟨fun _ => c_rf r3, ⟨fun _ => c_rf r4, ⟨fun _ => rfl, trivial⟩⟩⟩⟩⟩⟩⟩⟩) (by decide) rfl ?_
      refine x_goto (t := 28) hC dL_law_1928 (by decide) ?_
      refine x_sub (l' := [(0, va_rf (some b)), (1, va_rf r1), (2, va_rf r2), (3, va_rf r3), (4, va_rf r4), (5, .int (i5 + (4 : Int32)))]) [3, 4, 5, 6, 7, 0] rfl ?_
      refine x_wid (k' := k0 + 40) (n' := n0 + 400) (by omega) (by omega) ?_
      exact hK _ _ h
    · replace h := wit_t c24 h
      refine x_aload_n (i := 3) hC dL_law_693 rfl 5 rfl ?_
      refine x_iconst (v := (0 : Int32)) hC dL_law_694 (by decide) ?_
      obtain ⟨a25, ea26, ha27, h⟩ := h
      obtain ⟨hc28, h⟩ := h
      refine x_laload hC ea26 ha27 hc28 dL_law_695 ?_
      refine x_tJ (b := (p_J S21 a25 0)) rfl ?_
      refine x_iload (i := 7) hC dL_law_696 0 rfl ?_
      refine x_i2l hC dL_law_698 ?_
      refine x_lcmp hC dL_law_699 ?_
      refine x_if_eq (t := 705) hC dL_law_700 (by decide) (fun c29 => ?_) (fun c29 => ?_)
      · replace h := wit_t c29 h
        refine x_goto (t := 1925) hC dL_law_705 (by decide) ?_
        refine x_iinc (i := 5) (v := (i5 + (4 : Int32))) (l' := [(5, .int (i5 + (4 : Int32))), (7, .int v14), (6, .int v4), (0, va_rf (some b)), (1, va_rf r1), (2, va_rf r2), (3, va_rf r3), (4, va_rf r4)]) hC dL_law_1925 7 rfl rfl (⟨fun _ => rfl, ⟨fun _ => rfl, ⟨fun _ => c_rf (some b), ⟨fun _ => c_rf r1, ⟨fun _ => c_rf r2, ⟨fun _ => c_rf r3, ⟨fun _ => c_rf r4, ⟨fun _ => rfl, trivial⟩⟩⟩⟩⟩⟩⟩⟩) (by decide) rfl ?_
        refine x_goto (t := 28) hC dL_law_1928 (by decide) ?_
        refine x_sub (l' := [(0, va_rf (some b)), (1, va_rf r1), (2, va_rf r2), (3, va_rf r3), (4, va_rf r4), (5, .int (i5 + (4 : Int32)))]) [3, 4, 5, 6, 7, 0] rfl ?_
        refine x_wid (k' := k0 + 40) (n' := n0 + 400) (by omega) (by omega) ?_
        exact hK _ _ h
      · replace h := wit_f c29 h
        refine x_iconst (v := (0 : Int32)) hC dL_law_703 (by decide) ?_
        refine x_tI (show (0 : Int32) = (1 : Int32) from h) ?_
        exact hEnd _ _ _ _ _ (by omega) (by omega) dL_law_704
  · replace h := wit_f c23 h
    refine x_iconst (v := (0 : Int32)) hC dL_law_686 (by decide) ?_
    refine x_tI (show (0 : Int32) = (1 : Int32) from h) ?_
    exact hEnd _ _ _ _ _ (by omega) (by omega) dL_law_687
def wc_law_708 (xs : Nat → Int32) (L : Nat) (r1 r2 r3 r4 : Option Nat) (i5 : Int32) (S0 : PH) (K : Int32 → PH → Prop) : Prop := wck (ix (i5 + (1 : Int32)) L) <| wck (ix (i5 + (2 : Int32)) L) <| w_L_drop r1 (xs (Int32.toNatClampNeg (i5 + (1 : Int32)))) (xs (Int32.toNatClampNeg (i5 + (2 : Int32)))) r3 S0 (wq (fun v3 S4 => wck (ix (i5 + (1 : Int32)) L) <| wck (ix (i5 + (2 : Int32)) L) <| wdr S4 5 r2 fun a9 => wbd (m_X5_drop r2 (xs (Int32.toNatClampNeg (i5 + (1 : Int32)))) (xs (Int32.toNatClampNeg (i5 + (2 : Int32)))) S4) fun v12 S13 => wdr S13 5 r2 fun a15 => wbd (m_X5_thrown r2 S13) fun v18 S19 => if v18 = v3 then (if v3 = 0 then (wdr S19 10 r3 fun a23 => wck (ix (0 : Int32) (p_N S19 a23)) <| if (lg_cmp (p_J S19 a23 0) (Int32.toInt64 v12)) = 0 then (K (i5 + (4 : Int32)) S19) else ((0 : Int32) = (1 : Int32))) else (K (i5 + (4 : Int32)) S19)) else ((0 : Int32) = (1 : Int32))) (fun _ _ => False))
theorem dL_law_708 : decode cL_law 708 = .ok (.aload_n 1, 1) := by decide +kernel
theorem dL_law_709 : decode cL_law 709 = .ok (.aload_n 0, 1) := by decide +kernel
theorem dL_law_710 : decode cL_law 710 = .ok (.iload 5, 2) := by decide +kernel
theorem dL_law_712 : decode cL_law 712 = .ok (.iconst 1, 1) := by decide +kernel
theorem dL_law_713 : decode cL_law 713 = .ok (.iadd, 1) := by decide +kernel
theorem dL_law_714 : decode cL_law 714 = .ok (.iaload, 1) := by decide +kernel
theorem dL_law_715 : decode cL_law 715 = .ok (.aload_n 0, 1) := by decide +kernel
theorem dL_law_716 : decode cL_law 716 = .ok (.iload 5, 2) := by decide +kernel
theorem dL_law_718 : decode cL_law 718 = .ok (.iconst 2, 1) := by decide +kernel
theorem dL_law_719 : decode cL_law 719 = .ok (.iadd, 1) := by decide +kernel
theorem dL_law_720 : decode cL_law 720 = .ok (.iaload, 1) := by decide +kernel
theorem dL_law_721 : decode cL_law 721 = .ok (.aload_n 3, 1) := by decide +kernel
theorem dL_law_722 : decode cL_law 722 = .ok (.invokestatic 138, 3) := by decide +kernel
theorem dL_law_725 : decode cL_law 725 = .ok (.istore 6, 2) := by decide +kernel
theorem dL_law_727 : decode cL_law 727 = .ok (.aload_n 2, 1) := by decide +kernel
theorem dL_law_728 : decode cL_law 728 = .ok (.aload_n 0, 1) := by decide +kernel
theorem dL_law_729 : decode cL_law 729 = .ok (.iload 5, 2) := by decide +kernel
theorem dL_law_731 : decode cL_law 731 = .ok (.iconst 1, 1) := by decide +kernel
theorem dL_law_732 : decode cL_law 732 = .ok (.iadd, 1) := by decide +kernel
theorem dL_law_733 : decode cL_law 733 = .ok (.iaload, 1) := by decide +kernel
theorem dL_law_734 : decode cL_law 734 = .ok (.aload_n 0, 1) := by decide +kernel
theorem dL_law_735 : decode cL_law 735 = .ok (.iload 5, 2) := by decide +kernel
theorem dL_law_737 : decode cL_law 737 = .ok (.iconst 2, 1) := by decide +kernel
theorem dL_law_738 : decode cL_law 738 = .ok (.iadd, 1) := by decide +kernel
theorem dL_law_739 : decode cL_law 739 = .ok (.iaload, 1) := by decide +kernel
theorem dL_law_740 : decode cL_law 740 = .ok (.invokevirtual 140, 3) := by decide +kernel
theorem dL_law_743 : decode cL_law 743 = .ok (.istore 7, 2) := by decide +kernel
theorem dL_law_745 : decode cL_law 745 = .ok (.aload_n 2, 1) := by decide +kernel
theorem dL_law_746 : decode cL_law 746 = .ok (.invokevirtual 111, 3) := by decide +kernel
theorem dL_law_749 : decode cL_law 749 = .ok (.iload 6, 2) := by decide +kernel
theorem dL_law_751 : decode cL_law 751 = .ok (.if_icmp .eq 5, 3) := by decide +kernel
theorem dL_law_756 : decode cL_law 756 = .ok (.iload 6, 2) := by decide +kernel
theorem dL_law_758 : decode cL_law 758 = .ok (.ifCond .ne 15, 3) := by decide +kernel
theorem dL_law_773 : decode cL_law 773 = .ok (.goto 1152, 3) := by decide +kernel
theorem dL_law_761 : decode cL_law 761 = .ok (.aload_n 3, 1) := by decide +kernel
theorem dL_law_762 : decode cL_law 762 = .ok (.iconst 0, 1) := by decide +kernel
theorem dL_law_763 : decode cL_law 763 = .ok (.laload, 1) := by decide +kernel
theorem dL_law_764 : decode cL_law 764 = .ok (.iload 7, 2) := by decide +kernel
theorem dL_law_766 : decode cL_law 766 = .ok (.i2l, 1) := by decide +kernel
theorem dL_law_767 : decode cL_law 767 = .ok (.lcmp, 1) := by decide +kernel
theorem dL_law_768 : decode cL_law 768 = .ok (.ifCond .eq 5, 3) := by decide +kernel
theorem dL_law_771 : decode cL_law 771 = .ok (.iconst 0, 1) := by decide +kernel
theorem dL_law_772 : decode cL_law 772 = .ok (.ireturn, 1) := by decide +kernel
theorem dL_law_754 : decode cL_law 754 = .ok (.iconst 0, 1) := by decide +kernel
theorem dL_law_755 : decode cL_law 755 = .ok (.ireturn, 1) := by decide +kernel
set_option maxRecDepth 100000 in
set_option maxHeartbeats 4000000 in
theorem wk_law_708 {Z : ZT} {b L : Nat} {xs : Nat → Int32} (hC : CX Z cL_law RL 10 room_1) (hX : SX Z b L xs) (hEnd : EL Z) {k0 n0 : Nat} (hk : k0 + 40 ≤ 601024) (hn : n0 + 400 ≤ 7293034) (r1 r2 r3 r4 : Option Nat) (i5 : Int32) (S0 : PH) (K : Int32 → PH → Prop) (hK : ∀ i S, K i S → PX Z 10 S (k0 + 40) (n0 + 400) 28 [(0, va_rf (some b)), (1, va_rf r1), (2, va_rf r2), (3, va_rf r3), (4, va_rf r4), (5, .int i)] []) (h : wc_law_708 xs L r1 r2 r3 r4 i5 S0 K) : PX Z 10 S0 k0 n0 708 [(0, va_rf (some b)), (1, va_rf r1), (2, va_rf r2), (3, va_rf r3), (4, va_rf r4), (5, .int i5)] [] := by
  refine x_wid (k' := k0 + 0) (n' := n0 + 0) (Nat.le_refl _) (Nat.le_refl _) ?_
  unfold wc_law_708 at h
  refine x_aload_n (i := 1) hC dL_law_708 rfl 1 rfl ?_
  refine x_aload_n (i := 0) hC dL_law_709 rfl 0 rfl ?_
  refine x_iload (i := 5) hC dL_law_710 5 rfl ?_
  refine x_iconst (v := (1 : Int32)) hC dL_law_712 (by decide) ?_
  refine x_iadd hC dL_law_713 ?_
  obtain ⟨hc1, h⟩ := h
  refine x_sld hC hX hc1 dL_law_714 ?_
  refine x_aload_n (i := 0) hC dL_law_715 rfl 0 rfl ?_
  refine x_iload (i := 5) hC dL_law_716 5 rfl ?_
  refine x_iconst (v := (2 : Int32)) hC dL_law_718 (by decide) ?_
  refine x_iadd hC dL_law_719 ?_
  obtain ⟨hc2, h⟩ := h
  refine x_sld hC hX hc2 dL_law_720 ?_
  refine x_aload_n (i := 3) hC dL_law_721 rfl 3 rfl ?_
  refine x_callSX hC (st := []) (mt_L_drop _ _ _ _ _ _ h) q_643 q_644 q_0 q_645 hy_L_drop ⟨Nat.le_of_ble_eq_true rfl, Nat.le_of_ble_eq_true rfl⟩ ⟨(show k0 + 0 + 23 ≤ 601024 from by omega), (show n0 + 0 + 185 ≤ 7293034 from by omega)⟩ rfl (Nat.le_of_ble_eq_true rfl) dL_law_722 (r_W (fun v3 S4 h => ?_)) (r_Wx (fun _ _ h => (wq_l h).elim))
  replace h := wq_r h
  show PX Z 10 S4 (k0 + 23) (n0 + 185) 725 [(0, va_rf (some b)), (1, va_rf r1), (2, va_rf r2), (3, va_rf r3), (4, va_rf r4), (5, .int i5)] [.int v3]
  refine x_istore (i := 6) (l' := [(6, .int v3), (0, va_rf (some b)), (1, va_rf r1), (2, va_rf r2), (3, va_rf r3), (4, va_rf r4), (5, .int i5)]) hC dL_law_725 (⟨fun _ => c_rf (some b), ⟨fun _ => c_rf r1, ⟨fun _ => c_rf r2, ⟨fun _ => c_rf r3, ⟨fun _ => c_rf r4, ⟨fun _ => rfl, trivial⟩⟩⟩⟩⟩⟩) (by decide) rfl ?_
  refine x_aload_n (i := 2) hC dL_law_727 rfl 3 rfl ?_
  refine x_aload_n (i := 0) hC dL_law_728 rfl 1 rfl ?_
  refine x_iload (i := 5) hC dL_law_729 6 rfl ?_
  refine x_iconst (v := (1 : Int32)) hC dL_law_731 (by decide) ?_
  refine x_iadd hC dL_law_732 ?_
  obtain ⟨hc7, h⟩ := h
  refine x_sld hC hX hc7 dL_law_733 ?_
  refine x_aload_n (i := 0) hC dL_law_734 rfl 1 rfl ?_
  refine x_iload (i := 5) hC dL_law_735 6 rfl ?_
  refine x_iconst (v := (2 : Int32)) hC dL_law_737 (by decide) ?_
  refine x_iadd hC dL_law_738 ?_
  obtain ⟨hc8, h⟩ := h
  refine x_sld hC hX hc8 dL_law_739 ?_
  obtain ⟨a9, ea10, ha11, h⟩ := h
  obtain ⟨v12, S13, hb14, h⟩ := h
  refine x_callV hC (st := []) (mt_X5_drop _ _ _ _ _ hb14) ea10 ha11 kf_5 q_1023 q_1024 q_1025 q_7 q_1026 ⟨rfl, hy_X5_drop⟩ ⟨Nat.le_of_ble_eq_true rfl, Nat.le_of_ble_eq_true rfl⟩ ⟨(show k0 + 23 + 0 ≤ 601024 from by omega), (show n0 + 185 + 0 ≤ 7293034 from by omega)⟩ rfl (Nat.le_of_ble_eq_true rfl) dL_law_740 (r_N ?_) r_NX
  show PX Z 10 S13 (k0 + 23) (n0 + 185) 743 [(6, .int v3), (0, va_rf (some b)), (1, va_rf r1), (2, va_rf r2), (3, va_rf r3), (4, va_rf r4), (5, .int i5)] [.int v12]
  refine x_istore (i := 7) (l' := [(7, .int v12), (6, .int v3), (0, va_rf (some b)), (1, va_rf r1), (2, va_rf r2), (3, va_rf r3), (4, va_rf r4), (5, .int i5)]) hC dL_law_743 (⟨fun _ => rfl, ⟨fun _ => c_rf (some b), ⟨fun _ => c_rf r1, ⟨fun _ => c_rf r2, ⟨fun _ => c_rf r3, ⟨fun _ => c_rf r4, ⟨fun _ => rfl, trivial⟩⟩⟩⟩⟩⟩⟩) (by decide) rfl ?_
  refine x_aload_n (i := 2) hC dL_law_745 rfl 4 rfl ?_
  obtain ⟨a15, ea16, ha17, h⟩ := h
  obtain ⟨v18, S19, hb20, h⟩ := h
  refine x_callV hC (st := []) (mt_X5_thrown _ _ _ hb20) ea16 ha17 kf_5 q_904 q_905 q_906 q_7 q_907 ⟨rfl, hy_X5_thrown⟩ ⟨Nat.le_of_ble_eq_true rfl, Nat.le_of_ble_eq_true rfl⟩ ⟨(show k0 + 23 + 0 ≤ 601024 from by omega), (show n0 + 185 + 0 ≤ 7293034 from by omega)⟩ rfl (Nat.le_of_ble_eq_true rfl) dL_law_746 (r_N ?_) r_NX
  show PX Z 10 S19 (k0 + 23) (n0 + 185) 749 [(7, .int v12), (6, .int v3), (0, va_rf (some b)), (1, va_rf r1), (2, va_rf r2), (3, va_rf r3), (4, va_rf r4), (5, .int i5)] [.int v18]
  refine x_iload (i := 6) hC dL_law_749 1 rfl ?_
  refine x_icmp_eq (t := 756) hC dL_law_751 (by decide) (fun c21 => ?_) (fun c21 => ?_)
  · replace h := wit_t c21 h
    refine x_iload (i := 6) hC dL_law_756 1 rfl ?_
    refine x_if_ne (t := 773) hC dL_law_758 (by decide) (fun c22 => ?_) (fun c22 => ?_)
    · replace h := wit_f c22 h
      refine x_goto (t := 1925) hC dL_law_773 (by decide) ?_
      refine x_iinc (i := 5) (v := (i5 + (4 : Int32))) (l' := [(5, .int (i5 + (4 : Int32))), (7, .int v12), (6, .int v3), (0, va_rf (some b)), (1, va_rf r1), (2, va_rf r2), (3, va_rf r3), (4, va_rf r4)]) hC dL_law_1925 7 rfl rfl (⟨fun _ => rfl, ⟨fun _ => rfl, ⟨fun _ => c_rf (some b), ⟨fun _ => c_rf r1, ⟨fun _ => c_rf r2, ⟨fun _ => c_rf r3, ⟨fun _ => c_rf r4, ⟨fun _ => rfl, trivial⟩⟩⟩⟩⟩⟩⟩⟩) (by decide) rfl ?_
      refine x_goto (t := 28) hC dL_law_1928 (by decide) ?_
      refine x_sub (l' := [(0, va_rf (some b)), (1, va_rf r1), (2, va_rf r2), (3, va_rf r3), (4, va_rf r4), (5, .int (i5 + (4 : Int32)))]) [3, 4, 5, 6, 7, 0] rfl ?_
      refine x_wid (k' := k0 + 40) (n' := n0 + 400) (by omega) (by omega) ?_
      exact hK _ _ h
    · replace h := wit_t c22 h
      refine x_aload_n (i := 3) hC dL_law_761 rfl 5 rfl ?_
      refine x_iconst (v := (0 : Int32)) hC dL_law_762 (by decide) ?_
      obtain ⟨a23, ea24, ha25, h⟩ := h
      obtain ⟨hc26, h⟩ := h
      refine x_laload hC ea24 ha25 hc26 dL_law_763 ?_
      refine x_tJ (b := (p_J S19 a23 0)) rfl ?_
      refine x_iload (i := 7) hC dL_law_764 0 rfl ?_
      refine x_i2l hC dL_law_766 ?_
      refine x_lcmp hC dL_law_767 ?_
      refine x_if_eq (t := 773) hC dL_law_768 (by decide) (fun c27 => ?_) (fun c27 => ?_)
      · replace h := wit_t c27 h
        refine x_goto (t := 1925) hC dL_law_773 (by decide) ?_
        refine x_iinc (i := 5) (v := (i5 + (4 : Int32))) (l' := [(5, .int (i5 + (4 : Int32))), (7, .int v12), (6, .int v3), (0, va_rf (some b)), (1, va_rf r1), (2, va_rf r2), (3, va_rf r3), (4, va_rf r4)]) hC dL_law_1925 7 rfl rfl (⟨fun _ => rfl, ⟨fun _ => rfl, ⟨fun _ => c_rf (some b), ⟨fun _ => c_rf r1, ⟨fun _ => c_rf r2, ⟨fun _ => c_rf r3, ⟨fun _ => c_rf r4, ⟨fun _ => rfl, trivial⟩⟩⟩⟩⟩⟩⟩⟩) (by decide) rfl ?_
        refine x_goto (t := 28) hC dL_law_1928 (by decide) ?_
        refine x_sub (l' := [(0, va_rf (some b)), (1, va_rf r1), (2, va_rf r2), (3, va_rf r3), (4, va_rf r4), (5, .int (i5 + (4 : Int32)))]) [3, 4, 5, 6, 7, 0] rfl ?_
        refine x_wid (k' := k0 + 40) (n' := n0 + 400) (by omega) (by omega) ?_
        exact hK _ _ h
      · replace h := wit_f c27 h
        refine x_iconst (v := (0 : Int32)) hC dL_law_771 (by decide) ?_
        refine x_tI (show (0 : Int32) = (1 : Int32) from h) ?_
        exact hEnd _ _ _ _ _ (by omega) (by omega) dL_law_772
  · replace h := wit_f c21 h
    refine x_iconst (v := (0 : Int32)) hC dL_law_754 (by decide) ?_
    refine x_tI (show (0 : Int32) = (1 : Int32) from h) ?_
    exact hEnd _ _ _ _ _ (by omega) (by omega) dL_law_755
def wc_law_776 (xs : Nat → Int32) (L : Nat) (r1 r2 r3 r4 : Option Nat) (i5 : Int32) (S0 : PH) (K : Int32 → PH → Prop) : Prop := wck (ix (i5 + (1 : Int32)) L) <| w_L_discuss r1 (xs (Int32.toNatClampNeg (i5 + (1 : Int32)))) r3 S0 (wq (fun v2 S3 => wck (ix (i5 + (1 : Int32)) L) <| wdr S3 5 r2 fun a7 => wbd (m_X5_discuss r2 (xs (Int32.toNatClampNeg (i5 + (1 : Int32)))) S3) fun v10 S11 => wdr S11 5 r2 fun a13 => wbd (m_X5_thrown r2 S11) fun v16 S17 => if v16 = v2 then (if v2 = 0 then (wdr S17 10 r3 fun a21 => wck (ix (0 : Int32) (p_N S17 a21)) <| if (lg_cmp (p_J S17 a21 0) (Int32.toInt64 v10)) = 0 then (K (i5 + (4 : Int32)) S17) else ((0 : Int32) = (1 : Int32))) else (K (i5 + (4 : Int32)) S17)) else ((0 : Int32) = (1 : Int32))) (fun _ _ => False))
theorem dL_law_776 : decode cL_law 776 = .ok (.aload_n 1, 1) := by decide +kernel
theorem dL_law_777 : decode cL_law 777 = .ok (.aload_n 0, 1) := by decide +kernel
theorem dL_law_778 : decode cL_law 778 = .ok (.iload 5, 2) := by decide +kernel
theorem dL_law_780 : decode cL_law 780 = .ok (.iconst 1, 1) := by decide +kernel
theorem dL_law_781 : decode cL_law 781 = .ok (.iadd, 1) := by decide +kernel
theorem dL_law_782 : decode cL_law 782 = .ok (.iaload, 1) := by decide +kernel
theorem dL_law_783 : decode cL_law 783 = .ok (.aload_n 3, 1) := by decide +kernel
theorem dL_law_784 : decode cL_law 784 = .ok (.invokestatic 141, 3) := by decide +kernel
theorem dL_law_787 : decode cL_law 787 = .ok (.istore 6, 2) := by decide +kernel
theorem dL_law_789 : decode cL_law 789 = .ok (.aload_n 2, 1) := by decide +kernel
theorem dL_law_790 : decode cL_law 790 = .ok (.aload_n 0, 1) := by decide +kernel
theorem dL_law_791 : decode cL_law 791 = .ok (.iload 5, 2) := by decide +kernel
theorem dL_law_793 : decode cL_law 793 = .ok (.iconst 1, 1) := by decide +kernel
theorem dL_law_794 : decode cL_law 794 = .ok (.iadd, 1) := by decide +kernel
theorem dL_law_795 : decode cL_law 795 = .ok (.iaload, 1) := by decide +kernel
theorem dL_law_796 : decode cL_law 796 = .ok (.invokevirtual 143, 3) := by decide +kernel
theorem dL_law_799 : decode cL_law 799 = .ok (.istore 7, 2) := by decide +kernel
theorem dL_law_801 : decode cL_law 801 = .ok (.aload_n 2, 1) := by decide +kernel
theorem dL_law_802 : decode cL_law 802 = .ok (.invokevirtual 111, 3) := by decide +kernel
theorem dL_law_805 : decode cL_law 805 = .ok (.iload 6, 2) := by decide +kernel
theorem dL_law_807 : decode cL_law 807 = .ok (.if_icmp .eq 5, 3) := by decide +kernel
theorem dL_law_812 : decode cL_law 812 = .ok (.iload 6, 2) := by decide +kernel
theorem dL_law_814 : decode cL_law 814 = .ok (.ifCond .ne 15, 3) := by decide +kernel
theorem dL_law_829 : decode cL_law 829 = .ok (.goto 1096, 3) := by decide +kernel
theorem dL_law_817 : decode cL_law 817 = .ok (.aload_n 3, 1) := by decide +kernel
theorem dL_law_818 : decode cL_law 818 = .ok (.iconst 0, 1) := by decide +kernel
theorem dL_law_819 : decode cL_law 819 = .ok (.laload, 1) := by decide +kernel
theorem dL_law_820 : decode cL_law 820 = .ok (.iload 7, 2) := by decide +kernel
theorem dL_law_822 : decode cL_law 822 = .ok (.i2l, 1) := by decide +kernel
theorem dL_law_823 : decode cL_law 823 = .ok (.lcmp, 1) := by decide +kernel
theorem dL_law_824 : decode cL_law 824 = .ok (.ifCond .eq 5, 3) := by decide +kernel
theorem dL_law_827 : decode cL_law 827 = .ok (.iconst 0, 1) := by decide +kernel
theorem dL_law_828 : decode cL_law 828 = .ok (.ireturn, 1) := by decide +kernel
theorem dL_law_810 : decode cL_law 810 = .ok (.iconst 0, 1) := by decide +kernel
theorem dL_law_811 : decode cL_law 811 = .ok (.ireturn, 1) := by decide +kernel
set_option maxRecDepth 100000 in
set_option maxHeartbeats 4000000 in
theorem wk_law_776 {Z : ZT} {b L : Nat} {xs : Nat → Int32} (hC : CX Z cL_law RL 10 room_1) (hX : SX Z b L xs) (hEnd : EL Z) {k0 n0 : Nat} (hk : k0 + 40 ≤ 601024) (hn : n0 + 400 ≤ 7293034) (r1 r2 r3 r4 : Option Nat) (i5 : Int32) (S0 : PH) (K : Int32 → PH → Prop) (hK : ∀ i S, K i S → PX Z 10 S (k0 + 40) (n0 + 400) 28 [(0, va_rf (some b)), (1, va_rf r1), (2, va_rf r2), (3, va_rf r3), (4, va_rf r4), (5, .int i)] []) (h : wc_law_776 xs L r1 r2 r3 r4 i5 S0 K) : PX Z 10 S0 k0 n0 776 [(0, va_rf (some b)), (1, va_rf r1), (2, va_rf r2), (3, va_rf r3), (4, va_rf r4), (5, .int i5)] [] := by
  refine x_wid (k' := k0 + 0) (n' := n0 + 0) (Nat.le_refl _) (Nat.le_refl _) ?_
  unfold wc_law_776 at h
  refine x_aload_n (i := 1) hC dL_law_776 rfl 1 rfl ?_
  refine x_aload_n (i := 0) hC dL_law_777 rfl 0 rfl ?_
  refine x_iload (i := 5) hC dL_law_778 5 rfl ?_
  refine x_iconst (v := (1 : Int32)) hC dL_law_780 (by decide) ?_
  refine x_iadd hC dL_law_781 ?_
  obtain ⟨hc1, h⟩ := h
  refine x_sld hC hX hc1 dL_law_782 ?_
  refine x_aload_n (i := 3) hC dL_law_783 rfl 3 rfl ?_
  refine x_callSX hC (st := []) (mt_L_discuss _ _ _ _ _ h) q_659 q_660 q_0 q_661 hy_L_discuss ⟨Nat.le_of_ble_eq_true rfl, Nat.le_of_ble_eq_true rfl⟩ ⟨(show k0 + 0 + 22 ≤ 601024 from by omega), (show n0 + 0 + 179 ≤ 7293034 from by omega)⟩ rfl (Nat.le_of_ble_eq_true rfl) dL_law_784 (r_W (fun v2 S3 h => ?_)) (r_Wx (fun _ _ h => (wq_l h).elim))
  replace h := wq_r h
  show PX Z 10 S3 (k0 + 22) (n0 + 179) 787 [(0, va_rf (some b)), (1, va_rf r1), (2, va_rf r2), (3, va_rf r3), (4, va_rf r4), (5, .int i5)] [.int v2]
  refine x_istore (i := 6) (l' := [(6, .int v2), (0, va_rf (some b)), (1, va_rf r1), (2, va_rf r2), (3, va_rf r3), (4, va_rf r4), (5, .int i5)]) hC dL_law_787 (⟨fun _ => c_rf (some b), ⟨fun _ => c_rf r1, ⟨fun _ => c_rf r2, ⟨fun _ => c_rf r3, ⟨fun _ => c_rf r4, ⟨fun _ => rfl, trivial⟩⟩⟩⟩⟩⟩) (by decide) rfl ?_
  refine x_aload_n (i := 2) hC dL_law_789 rfl 3 rfl ?_
  refine x_aload_n (i := 0) hC dL_law_790 rfl 1 rfl ?_
  refine x_iload (i := 5) hC dL_law_791 6 rfl ?_
  refine x_iconst (v := (1 : Int32)) hC dL_law_793 (by decide) ?_
  refine x_iadd hC dL_law_794 ?_
  obtain ⟨hc6, h⟩ := h
  refine x_sld hC hX hc6 dL_law_795 ?_
  obtain ⟨a7, ea8, ha9, h⟩ := h
  obtain ⟨v10, S11, hb12, h⟩ := h
  refine x_callV hC (st := []) (mt_X5_discuss _ _ _ _ hb12) ea8 ha9 kf_5 q_1031 q_1032 q_1033 q_7 q_1034 ⟨rfl, hy_X5_discuss⟩ ⟨Nat.le_of_ble_eq_true rfl, Nat.le_of_ble_eq_true rfl⟩ ⟨(show k0 + 22 + 0 ≤ 601024 from by omega), (show n0 + 179 + 0 ≤ 7293034 from by omega)⟩ rfl (Nat.le_of_ble_eq_true rfl) dL_law_796 (r_N ?_) r_NX
  show PX Z 10 S11 (k0 + 22) (n0 + 179) 799 [(6, .int v2), (0, va_rf (some b)), (1, va_rf r1), (2, va_rf r2), (3, va_rf r3), (4, va_rf r4), (5, .int i5)] [.int v10]
  refine x_istore (i := 7) (l' := [(7, .int v10), (6, .int v2), (0, va_rf (some b)), (1, va_rf r1), (2, va_rf r2), (3, va_rf r3), (4, va_rf r4), (5, .int i5)]) hC dL_law_799 (⟨fun _ => rfl, ⟨fun _ => c_rf (some b), ⟨fun _ => c_rf r1, ⟨fun _ => c_rf r2, ⟨fun _ => c_rf r3, ⟨fun _ => c_rf r4, ⟨fun _ => rfl, trivial⟩⟩⟩⟩⟩⟩⟩) (by decide) rfl ?_
  refine x_aload_n (i := 2) hC dL_law_801 rfl 4 rfl ?_
  obtain ⟨a13, ea14, ha15, h⟩ := h
  obtain ⟨v16, S17, hb18, h⟩ := h
  refine x_callV hC (st := []) (mt_X5_thrown _ _ _ hb18) ea14 ha15 kf_5 q_904 q_905 q_906 q_7 q_907 ⟨rfl, hy_X5_thrown⟩ ⟨Nat.le_of_ble_eq_true rfl, Nat.le_of_ble_eq_true rfl⟩ ⟨(show k0 + 22 + 0 ≤ 601024 from by omega), (show n0 + 179 + 0 ≤ 7293034 from by omega)⟩ rfl (Nat.le_of_ble_eq_true rfl) dL_law_802 (r_N ?_) r_NX
  show PX Z 10 S17 (k0 + 22) (n0 + 179) 805 [(7, .int v10), (6, .int v2), (0, va_rf (some b)), (1, va_rf r1), (2, va_rf r2), (3, va_rf r3), (4, va_rf r4), (5, .int i5)] [.int v16]
  refine x_iload (i := 6) hC dL_law_805 1 rfl ?_
  refine x_icmp_eq (t := 812) hC dL_law_807 (by decide) (fun c19 => ?_) (fun c19 => ?_)
  · replace h := wit_t c19 h
    refine x_iload (i := 6) hC dL_law_812 1 rfl ?_
    refine x_if_ne (t := 829) hC dL_law_814 (by decide) (fun c20 => ?_) (fun c20 => ?_)
    · replace h := wit_f c20 h
      refine x_goto (t := 1925) hC dL_law_829 (by decide) ?_
      refine x_iinc (i := 5) (v := (i5 + (4 : Int32))) (l' := [(5, .int (i5 + (4 : Int32))), (7, .int v10), (6, .int v2), (0, va_rf (some b)), (1, va_rf r1), (2, va_rf r2), (3, va_rf r3), (4, va_rf r4)]) hC dL_law_1925 7 rfl rfl (⟨fun _ => rfl, ⟨fun _ => rfl, ⟨fun _ => c_rf (some b), ⟨fun _ => c_rf r1, ⟨fun _ => c_rf r2, ⟨fun _ => c_rf r3, ⟨fun _ => c_rf r4, ⟨fun _ => rfl, trivial⟩⟩⟩⟩⟩⟩⟩⟩) (by decide) rfl ?_
      refine x_goto (t := 28) hC dL_law_1928 (by decide) ?_
      refine x_sub (l' := [(0, va_rf (some b)), (1, va_rf r1), (2, va_rf r2), (3, va_rf r3), (4, va_rf r4), (5, .int (i5 + (4 : Int32)))]) [3, 4, 5, 6, 7, 0] rfl ?_
      refine x_wid (k' := k0 + 40) (n' := n0 + 400) (by omega) (by omega) ?_
      exact hK _ _ h
    · replace h := wit_t c20 h
      refine x_aload_n (i := 3) hC dL_law_817 rfl 5 rfl ?_
      refine x_iconst (v := (0 : Int32)) hC dL_law_818 (by decide) ?_
      obtain ⟨a21, ea22, ha23, h⟩ := h
      obtain ⟨hc24, h⟩ := h
      refine x_laload hC ea22 ha23 hc24 dL_law_819 ?_
      refine x_tJ (b := (p_J S17 a21 0)) rfl ?_
      refine x_iload (i := 7) hC dL_law_820 0 rfl ?_
      refine x_i2l hC dL_law_822 ?_
      refine x_lcmp hC dL_law_823 ?_
      refine x_if_eq (t := 829) hC dL_law_824 (by decide) (fun c25 => ?_) (fun c25 => ?_)
      · replace h := wit_t c25 h
        refine x_goto (t := 1925) hC dL_law_829 (by decide) ?_
        refine x_iinc (i := 5) (v := (i5 + (4 : Int32))) (l' := [(5, .int (i5 + (4 : Int32))), (7, .int v10), (6, .int v2), (0, va_rf (some b)), (1, va_rf r1), (2, va_rf r2), (3, va_rf r3), (4, va_rf r4)]) hC dL_law_1925 7 rfl rfl (⟨fun _ => rfl, ⟨fun _ => rfl, ⟨fun _ => c_rf (some b), ⟨fun _ => c_rf r1, ⟨fun _ => c_rf r2, ⟨fun _ => c_rf r3, ⟨fun _ => c_rf r4, ⟨fun _ => rfl, trivial⟩⟩⟩⟩⟩⟩⟩⟩) (by decide) rfl ?_
        refine x_goto (t := 28) hC dL_law_1928 (by decide) ?_
        refine x_sub (l' := [(0, va_rf (some b)), (1, va_rf r1), (2, va_rf r2), (3, va_rf r3), (4, va_rf r4), (5, .int (i5 + (4 : Int32)))]) [3, 4, 5, 6, 7, 0] rfl ?_
        refine x_wid (k' := k0 + 40) (n' := n0 + 400) (by omega) (by omega) ?_
        exact hK _ _ h
      · replace h := wit_f c25 h
        refine x_iconst (v := (0 : Int32)) hC dL_law_827 (by decide) ?_
        refine x_tI (show (0 : Int32) = (1 : Int32) from h) ?_
        exact hEnd _ _ _ _ _ (by omega) (by omega) dL_law_828
  · replace h := wit_f c19 h
    refine x_iconst (v := (0 : Int32)) hC dL_law_810 (by decide) ?_
    refine x_tI (show (0 : Int32) = (1 : Int32) from h) ?_
    exact hEnd _ _ _ _ _ (by omega) (by omega) dL_law_811
def wc_law_832 (xs : Nat → Int32) (L : Nat) (r1 r2 r3 r4 : Option Nat) (i5 : Int32) (S0 : PH) (K : Int32 → PH → Prop) : Prop := wck (ix (i5 + (1 : Int32)) L) <| w_L_rebut r1 (xs (Int32.toNatClampNeg (i5 + (1 : Int32)))) r3 S0 (wq (fun v2 S3 => wck (ix (i5 + (1 : Int32)) L) <| wdr S3 5 r2 fun a7 => wbd (m_X5_rebut r2 (xs (Int32.toNatClampNeg (i5 + (1 : Int32)))) S3) fun v10 S11 => wdr S11 5 r2 fun a13 => wbd (m_X5_thrown r2 S11) fun v16 S17 => if v16 = v2 then (if v2 = 0 then (wdr S17 10 r3 fun a21 => wck (ix (0 : Int32) (p_N S17 a21)) <| if (lg_cmp (p_J S17 a21 0) (Int32.toInt64 v10)) = 0 then (K (i5 + (4 : Int32)) S17) else ((0 : Int32) = (1 : Int32))) else (K (i5 + (4 : Int32)) S17)) else ((0 : Int32) = (1 : Int32))) (fun _ _ => False))
theorem dL_law_832 : decode cL_law 832 = .ok (.aload_n 1, 1) := by decide +kernel
theorem dL_law_833 : decode cL_law 833 = .ok (.aload_n 0, 1) := by decide +kernel
theorem dL_law_834 : decode cL_law 834 = .ok (.iload 5, 2) := by decide +kernel
theorem dL_law_836 : decode cL_law 836 = .ok (.iconst 1, 1) := by decide +kernel
theorem dL_law_837 : decode cL_law 837 = .ok (.iadd, 1) := by decide +kernel
theorem dL_law_838 : decode cL_law 838 = .ok (.iaload, 1) := by decide +kernel
theorem dL_law_839 : decode cL_law 839 = .ok (.aload_n 3, 1) := by decide +kernel
theorem dL_law_840 : decode cL_law 840 = .ok (.invokestatic 144, 3) := by decide +kernel
theorem dL_law_843 : decode cL_law 843 = .ok (.istore 6, 2) := by decide +kernel
theorem dL_law_845 : decode cL_law 845 = .ok (.aload_n 2, 1) := by decide +kernel
theorem dL_law_846 : decode cL_law 846 = .ok (.aload_n 0, 1) := by decide +kernel
theorem dL_law_847 : decode cL_law 847 = .ok (.iload 5, 2) := by decide +kernel
theorem dL_law_849 : decode cL_law 849 = .ok (.iconst 1, 1) := by decide +kernel
theorem dL_law_850 : decode cL_law 850 = .ok (.iadd, 1) := by decide +kernel
theorem dL_law_851 : decode cL_law 851 = .ok (.iaload, 1) := by decide +kernel
theorem dL_law_852 : decode cL_law 852 = .ok (.invokevirtual 146, 3) := by decide +kernel
theorem dL_law_855 : decode cL_law 855 = .ok (.istore 7, 2) := by decide +kernel
theorem dL_law_857 : decode cL_law 857 = .ok (.aload_n 2, 1) := by decide +kernel
theorem dL_law_858 : decode cL_law 858 = .ok (.invokevirtual 111, 3) := by decide +kernel
theorem dL_law_861 : decode cL_law 861 = .ok (.iload 6, 2) := by decide +kernel
theorem dL_law_863 : decode cL_law 863 = .ok (.if_icmp .eq 5, 3) := by decide +kernel
theorem dL_law_868 : decode cL_law 868 = .ok (.iload 6, 2) := by decide +kernel
theorem dL_law_870 : decode cL_law 870 = .ok (.ifCond .ne 15, 3) := by decide +kernel
theorem dL_law_885 : decode cL_law 885 = .ok (.goto 1040, 3) := by decide +kernel
theorem dL_law_873 : decode cL_law 873 = .ok (.aload_n 3, 1) := by decide +kernel
theorem dL_law_874 : decode cL_law 874 = .ok (.iconst 0, 1) := by decide +kernel
theorem dL_law_875 : decode cL_law 875 = .ok (.laload, 1) := by decide +kernel
theorem dL_law_876 : decode cL_law 876 = .ok (.iload 7, 2) := by decide +kernel
theorem dL_law_878 : decode cL_law 878 = .ok (.i2l, 1) := by decide +kernel
theorem dL_law_879 : decode cL_law 879 = .ok (.lcmp, 1) := by decide +kernel
theorem dL_law_880 : decode cL_law 880 = .ok (.ifCond .eq 5, 3) := by decide +kernel
theorem dL_law_883 : decode cL_law 883 = .ok (.iconst 0, 1) := by decide +kernel
theorem dL_law_884 : decode cL_law 884 = .ok (.ireturn, 1) := by decide +kernel
theorem dL_law_866 : decode cL_law 866 = .ok (.iconst 0, 1) := by decide +kernel
theorem dL_law_867 : decode cL_law 867 = .ok (.ireturn, 1) := by decide +kernel
set_option maxRecDepth 100000 in
set_option maxHeartbeats 4000000 in
theorem wk_law_832 {Z : ZT} {b L : Nat} {xs : Nat → Int32} (hC : CX Z cL_law RL 10 room_1) (hX : SX Z b L xs) (hEnd : EL Z) {k0 n0 : Nat} (hk : k0 + 40 ≤ 601024) (hn : n0 + 400 ≤ 7293034) (r1 r2 r3 r4 : Option Nat) (i5 : Int32) (S0 : PH) (K : Int32 → PH → Prop) (hK : ∀ i S, K i S → PX Z 10 S (k0 + 40) (n0 + 400) 28 [(0, va_rf (some b)), (1, va_rf r1), (2, va_rf r2), (3, va_rf r3), (4, va_rf r4), (5, .int i)] []) (h : wc_law_832 xs L r1 r2 r3 r4 i5 S0 K) : PX Z 10 S0 k0 n0 832 [(0, va_rf (some b)), (1, va_rf r1), (2, va_rf r2), (3, va_rf r3), (4, va_rf r4), (5, .int i5)] [] := by
  refine x_wid (k' := k0 + 0) (n' := n0 + 0) (Nat.le_refl _) (Nat.le_refl _) ?_
  unfold wc_law_832 at h
  refine x_aload_n (i := 1) hC dL_law_832 rfl 1 rfl ?_
  refine x_aload_n (i := 0) hC dL_law_833 rfl 0 rfl ?_
  refine x_iload (i := 5) hC dL_law_834 5 rfl ?_
  refine x_iconst (v := (1 : Int32)) hC dL_law_836 (by decide) ?_
  refine x_iadd hC dL_law_837 ?_
  obtain ⟨hc1, h⟩ := h
  refine x_sld hC hX hc1 dL_law_838 ?_
  refine x_aload_n (i := 3) hC dL_law_839 rfl 3 rfl ?_
  refine x_callSX hC (st := []) (mt_L_rebut _ _ _ _ _ h) q_674 q_675 q_0 q_676 hy_L_rebut ⟨Nat.le_of_ble_eq_true rfl, Nat.le_of_ble_eq_true rfl⟩ ⟨(show k0 + 0 + 22 ≤ 601024 from by omega), (show n0 + 0 + 179 ≤ 7293034 from by omega)⟩ rfl (Nat.le_of_ble_eq_true rfl) dL_law_840 (r_W (fun v2 S3 h => ?_)) (r_Wx (fun _ _ h => (wq_l h).elim))
  replace h := wq_r h
  show PX Z 10 S3 (k0 + 22) (n0 + 179) 843 [(0, va_rf (some b)), (1, va_rf r1), (2, va_rf r2), (3, va_rf r3), (4, va_rf r4), (5, .int i5)] [.int v2]
  refine x_istore (i := 6) (l' := [(6, .int v2), (0, va_rf (some b)), (1, va_rf r1), (2, va_rf r2), (3, va_rf r3), (4, va_rf r4), (5, .int i5)]) hC dL_law_843 (⟨fun _ => c_rf (some b), ⟨fun _ => c_rf r1, ⟨fun _ => c_rf r2, ⟨fun _ => c_rf r3, ⟨fun _ => c_rf r4, ⟨fun _ => rfl, trivial⟩⟩⟩⟩⟩⟩) (by decide) rfl ?_
  refine x_aload_n (i := 2) hC dL_law_845 rfl 3 rfl ?_
  refine x_aload_n (i := 0) hC dL_law_846 rfl 1 rfl ?_
  refine x_iload (i := 5) hC dL_law_847 6 rfl ?_
  refine x_iconst (v := (1 : Int32)) hC dL_law_849 (by decide) ?_
  refine x_iadd hC dL_law_850 ?_
  obtain ⟨hc6, h⟩ := h
  refine x_sld hC hX hc6 dL_law_851 ?_
  obtain ⟨a7, ea8, ha9, h⟩ := h
  obtain ⟨v10, S11, hb12, h⟩ := h
  refine x_callV hC (st := []) (mt_X5_rebut _ _ _ _ hb12) ea8 ha9 kf_5 q_1047 q_1048 q_1049 q_7 q_1050 ⟨rfl, hy_X5_rebut⟩ ⟨Nat.le_of_ble_eq_true rfl, Nat.le_of_ble_eq_true rfl⟩ ⟨(show k0 + 22 + 0 ≤ 601024 from by omega), (show n0 + 179 + 0 ≤ 7293034 from by omega)⟩ rfl (Nat.le_of_ble_eq_true rfl) dL_law_852 (r_N ?_) r_NX
  show PX Z 10 S11 (k0 + 22) (n0 + 179) 855 [(6, .int v2), (0, va_rf (some b)), (1, va_rf r1), (2, va_rf r2), (3, va_rf r3), (4, va_rf r4), (5, .int i5)] [.int v10]
  refine x_istore (i := 7) (l' := [(7, .int v10), (6, .int v2), (0, va_rf (some b)), (1, va_rf r1), (2, va_rf r2), (3, va_rf r3), (4, va_rf r4), (5, .int i5)]) hC dL_law_855 (⟨fun _ => rfl, ⟨fun _ => c_rf (some b), ⟨fun _ => c_rf r1, ⟨fun _ => c_rf r2, ⟨fun _ => c_rf r3, ⟨fun _ => c_rf r4, ⟨fun _ => rfl, trivial⟩⟩⟩⟩⟩⟩⟩) (by decide) rfl ?_
  refine x_aload_n (i := 2) hC dL_law_857 rfl 4 rfl ?_
  obtain ⟨a13, ea14, ha15, h⟩ := h
  obtain ⟨v16, S17, hb18, h⟩ := h
  refine x_callV hC (st := []) (mt_X5_thrown _ _ _ hb18) ea14 ha15 kf_5 q_904 q_905 q_906 q_7 q_907 ⟨rfl, hy_X5_thrown⟩ ⟨Nat.le_of_ble_eq_true rfl, Nat.le_of_ble_eq_true rfl⟩ ⟨(show k0 + 22 + 0 ≤ 601024 from by omega), (show n0 + 179 + 0 ≤ 7293034 from by omega)⟩ rfl (Nat.le_of_ble_eq_true rfl) dL_law_858 (r_N ?_) r_NX
  show PX Z 10 S17 (k0 + 22) (n0 + 179) 861 [(7, .int v10), (6, .int v2), (0, va_rf (some b)), (1, va_rf r1), (2, va_rf r2), (3, va_rf r3), (4, va_rf r4), (5, .int i5)] [.int v16]
  refine x_iload (i := 6) hC dL_law_861 1 rfl ?_
  refine x_icmp_eq (t := 868) hC dL_law_863 (by decide) (fun c19 => ?_) (fun c19 => ?_)
  · replace h := wit_t c19 h
    refine x_iload (i := 6) hC dL_law_868 1 rfl ?_
    refine x_if_ne (t := 885) hC dL_law_870 (by decide) (fun c20 => ?_) (fun c20 => ?_)
    · replace h := wit_f c20 h
      refine x_goto (t := 1925) hC dL_law_885 (by decide) ?_
      refine x_iinc (i := 5) (v := (i5 + (4 : Int32))) (l' := [(5, .int (i5 + (4 : Int32))), (7, .int v10), (6, .int v2), (0, va_rf (some b)), (1, va_rf r1), (2, va_rf r2), (3, va_rf r3), (4, va_rf r4)]) hC dL_law_1925 7 rfl rfl (⟨fun _ => rfl, ⟨fun _ => rfl, ⟨fun _ => c_rf (some b), ⟨fun _ => c_rf r1, ⟨fun _ => c_rf r2, ⟨fun _ => c_rf r3, ⟨fun _ => c_rf r4, ⟨fun _ => rfl, trivial⟩⟩⟩⟩⟩⟩⟩⟩) (by decide) rfl ?_
      refine x_goto (t := 28) hC dL_law_1928 (by decide) ?_
      refine x_sub (l' := [(0, va_rf (some b)), (1, va_rf r1), (2, va_rf r2), (3, va_rf r3), (4, va_rf r4), (5, .int (i5 + (4 : Int32)))]) [3, 4, 5, 6, 7, 0] rfl ?_
      refine x_wid (k' := k0 + 40) (n' := n0 + 400) (by omega) (by omega) ?_
      exact hK _ _ h
    · replace h := wit_t c20 h
      refine x_aload_n (i := 3) hC dL_law_873 rfl 5 rfl ?_
      refine x_iconst (v := (0 : Int32)) hC dL_law_874 (by decide) ?_
      obtain ⟨a21, ea22, ha23, h⟩ := h
      obtain ⟨hc24, h⟩ := h
      refine x_laload hC ea22 ha23 hc24 dL_law_875 ?_
      refine x_tJ (b := (p_J S17 a21 0)) rfl ?_
      refine x_iload (i := 7) hC dL_law_876 0 rfl ?_
      refine x_i2l hC dL_law_878 ?_
      refine x_lcmp hC dL_law_879 ?_
      refine x_if_eq (t := 885) hC dL_law_880 (by decide) (fun c25 => ?_) (fun c25 => ?_)
      · replace h := wit_t c25 h
        refine x_goto (t := 1925) hC dL_law_885 (by decide) ?_
        refine x_iinc (i := 5) (v := (i5 + (4 : Int32))) (l' := [(5, .int (i5 + (4 : Int32))), (7, .int v10), (6, .int v2), (0, va_rf (some b)), (1, va_rf r1), (2, va_rf r2), (3, va_rf r3), (4, va_rf r4)]) hC dL_law_1925 7 rfl rfl (⟨fun _ => rfl, ⟨fun _ => rfl, ⟨fun _ => c_rf (some b), ⟨fun _ => c_rf r1, ⟨fun _ => c_rf r2, ⟨fun _ => c_rf r3, ⟨fun _ => c_rf r4, ⟨fun _ => rfl, trivial⟩⟩⟩⟩⟩⟩⟩⟩) (by decide) rfl ?_
        refine x_goto (t := 28) hC dL_law_1928 (by decide) ?_
        refine x_sub (l' := [(0, va_rf (some b)), (1, va_rf r1), (2, va_rf r2), (3, va_rf r3), (4, va_rf r4), (5, .int (i5 + (4 : Int32)))]) [3, 4, 5, 6, 7, 0] rfl ?_
        refine x_wid (k' := k0 + 40) (n' := n0 + 400) (by omega) (by omega) ?_
        exact hK _ _ h
      · replace h := wit_f c25 h
        refine x_iconst (v := (0 : Int32)) hC dL_law_883 (by decide) ?_
        refine x_tI (show (0 : Int32) = (1 : Int32) from h) ?_
        exact hEnd _ _ _ _ _ (by omega) (by omega) dL_law_884
  · replace h := wit_f c19 h
    refine x_iconst (v := (0 : Int32)) hC dL_law_866 (by decide) ?_
    refine x_tI (show (0 : Int32) = (1 : Int32) from h) ?_
    exact hEnd _ _ _ _ _ (by omega) (by omega) dL_law_867
def wc_law_888 (xs : Nat → Int32) (L : Nat) (r1 r2 r3 r4 : Option Nat) (i5 : Int32) (S0 : PH) (K : Int32 → PH → Prop) : Prop := wck (ix (i5 + (1 : Int32)) L) <| w_L_decide r1 (xs (Int32.toNatClampNeg (i5 + (1 : Int32)))) r3 S0 (wq (fun v2 S3 => wck (ix (i5 + (1 : Int32)) L) <| wdr S3 5 r2 fun a7 => wbd (m_X5_decide r2 (xs (Int32.toNatClampNeg (i5 + (1 : Int32)))) S3) fun v10 S11 => wdr S11 5 r2 fun a13 => wbd (m_X5_thrown r2 S11) fun v16 S17 => if v16 = v2 then (if v2 = 0 then (wdr S17 10 r3 fun a21 => wck (ix (0 : Int32) (p_N S17 a21)) <| if (lg_cmp (p_J S17 a21 0) (Int32.toInt64 v10)) = 0 then (K (i5 + (4 : Int32)) S17) else ((0 : Int32) = (1 : Int32))) else (K (i5 + (4 : Int32)) S17)) else ((0 : Int32) = (1 : Int32))) (fun _ _ => False))
theorem dL_law_888 : decode cL_law 888 = .ok (.aload_n 1, 1) := by decide +kernel
theorem dL_law_889 : decode cL_law 889 = .ok (.aload_n 0, 1) := by decide +kernel
theorem dL_law_890 : decode cL_law 890 = .ok (.iload 5, 2) := by decide +kernel
theorem dL_law_892 : decode cL_law 892 = .ok (.iconst 1, 1) := by decide +kernel
theorem dL_law_893 : decode cL_law 893 = .ok (.iadd, 1) := by decide +kernel
theorem dL_law_894 : decode cL_law 894 = .ok (.iaload, 1) := by decide +kernel
theorem dL_law_895 : decode cL_law 895 = .ok (.aload_n 3, 1) := by decide +kernel
theorem dL_law_896 : decode cL_law 896 = .ok (.invokestatic 147, 3) := by decide +kernel
theorem dL_law_899 : decode cL_law 899 = .ok (.istore 6, 2) := by decide +kernel
theorem dL_law_901 : decode cL_law 901 = .ok (.aload_n 2, 1) := by decide +kernel
theorem dL_law_902 : decode cL_law 902 = .ok (.aload_n 0, 1) := by decide +kernel
theorem dL_law_903 : decode cL_law 903 = .ok (.iload 5, 2) := by decide +kernel
theorem dL_law_905 : decode cL_law 905 = .ok (.iconst 1, 1) := by decide +kernel
theorem dL_law_906 : decode cL_law 906 = .ok (.iadd, 1) := by decide +kernel
theorem dL_law_907 : decode cL_law 907 = .ok (.iaload, 1) := by decide +kernel
theorem dL_law_908 : decode cL_law 908 = .ok (.invokevirtual 149, 3) := by decide +kernel
theorem dL_law_911 : decode cL_law 911 = .ok (.istore 7, 2) := by decide +kernel
theorem dL_law_913 : decode cL_law 913 = .ok (.aload_n 2, 1) := by decide +kernel
theorem dL_law_914 : decode cL_law 914 = .ok (.invokevirtual 111, 3) := by decide +kernel
theorem dL_law_917 : decode cL_law 917 = .ok (.iload 6, 2) := by decide +kernel
theorem dL_law_919 : decode cL_law 919 = .ok (.if_icmp .eq 5, 3) := by decide +kernel
theorem dL_law_924 : decode cL_law 924 = .ok (.iload 6, 2) := by decide +kernel
theorem dL_law_926 : decode cL_law 926 = .ok (.ifCond .ne 15, 3) := by decide +kernel
theorem dL_law_941 : decode cL_law 941 = .ok (.goto 984, 3) := by decide +kernel
theorem dL_law_929 : decode cL_law 929 = .ok (.aload_n 3, 1) := by decide +kernel
theorem dL_law_930 : decode cL_law 930 = .ok (.iconst 0, 1) := by decide +kernel
theorem dL_law_931 : decode cL_law 931 = .ok (.laload, 1) := by decide +kernel
theorem dL_law_932 : decode cL_law 932 = .ok (.iload 7, 2) := by decide +kernel
theorem dL_law_934 : decode cL_law 934 = .ok (.i2l, 1) := by decide +kernel
theorem dL_law_935 : decode cL_law 935 = .ok (.lcmp, 1) := by decide +kernel
theorem dL_law_936 : decode cL_law 936 = .ok (.ifCond .eq 5, 3) := by decide +kernel
theorem dL_law_939 : decode cL_law 939 = .ok (.iconst 0, 1) := by decide +kernel
theorem dL_law_940 : decode cL_law 940 = .ok (.ireturn, 1) := by decide +kernel
theorem dL_law_922 : decode cL_law 922 = .ok (.iconst 0, 1) := by decide +kernel
theorem dL_law_923 : decode cL_law 923 = .ok (.ireturn, 1) := by decide +kernel
set_option maxRecDepth 100000 in
set_option maxHeartbeats 4000000 in
theorem wk_law_888 {Z : ZT} {b L : Nat} {xs : Nat → Int32} (hC : CX Z cL_law RL 10 room_1) (hX : SX Z b L xs) (hEnd : EL Z) {k0 n0 : Nat} (hk : k0 + 40 ≤ 601024) (hn : n0 + 400 ≤ 7293034) (r1 r2 r3 r4 : Option Nat) (i5 : Int32) (S0 : PH) (K : Int32 → PH → Prop) (hK : ∀ i S, K i S → PX Z 10 S (k0 + 40) (n0 + 400) 28 [(0, va_rf (some b)), (1, va_rf r1), (2, va_rf r2), (3, va_rf r3), (4, va_rf r4), (5, .int i)] []) (h : wc_law_888 xs L r1 r2 r3 r4 i5 S0 K) : PX Z 10 S0 k0 n0 888 [(0, va_rf (some b)), (1, va_rf r1), (2, va_rf r2), (3, va_rf r3), (4, va_rf r4), (5, .int i5)] [] := by
  refine x_wid (k' := k0 + 0) (n' := n0 + 0) (Nat.le_refl _) (Nat.le_refl _) ?_
  unfold wc_law_888 at h
  refine x_aload_n (i := 1) hC dL_law_888 rfl 1 rfl ?_
  refine x_aload_n (i := 0) hC dL_law_889 rfl 0 rfl ?_
  refine x_iload (i := 5) hC dL_law_890 5 rfl ?_
  refine x_iconst (v := (1 : Int32)) hC dL_law_892 (by decide) ?_
  refine x_iadd hC dL_law_893 ?_
  obtain ⟨hc1, h⟩ := h
  refine x_sld hC hX hc1 dL_law_894 ?_
  refine x_aload_n (i := 3) hC dL_law_895 rfl 3 rfl ?_
  refine x_callSX hC (st := []) (mt_L_decide _ _ _ _ _ h) q_696 q_697 q_0 q_698 hy_L_decide ⟨Nat.le_of_ble_eq_true rfl, Nat.le_of_ble_eq_true rfl⟩ ⟨(show k0 + 0 + 22 ≤ 601024 from by omega), (show n0 + 0 + 179 ≤ 7293034 from by omega)⟩ rfl (Nat.le_of_ble_eq_true rfl) dL_law_896 (r_W (fun v2 S3 h => ?_)) (r_Wx (fun _ _ h => (wq_l h).elim))
  replace h := wq_r h
  show PX Z 10 S3 (k0 + 22) (n0 + 179) 899 [(0, va_rf (some b)), (1, va_rf r1), (2, va_rf r2), (3, va_rf r3), (4, va_rf r4), (5, .int i5)] [.int v2]
  refine x_istore (i := 6) (l' := [(6, .int v2), (0, va_rf (some b)), (1, va_rf r1), (2, va_rf r2), (3, va_rf r3), (4, va_rf r4), (5, .int i5)]) hC dL_law_899 (⟨fun _ => c_rf (some b), ⟨fun _ => c_rf r1, ⟨fun _ => c_rf r2, ⟨fun _ => c_rf r3, ⟨fun _ => c_rf r4, ⟨fun _ => rfl, trivial⟩⟩⟩⟩⟩⟩) (by decide) rfl ?_
  refine x_aload_n (i := 2) hC dL_law_901 rfl 3 rfl ?_
  refine x_aload_n (i := 0) hC dL_law_902 rfl 1 rfl ?_
  refine x_iload (i := 5) hC dL_law_903 6 rfl ?_
  refine x_iconst (v := (1 : Int32)) hC dL_law_905 (by decide) ?_
  refine x_iadd hC dL_law_906 ?_
  obtain ⟨hc6, h⟩ := h
  refine x_sld hC hX hc6 dL_law_907 ?_
  obtain ⟨a7, ea8, ha9, h⟩ := h
  obtain ⟨v10, S11, hb12, h⟩ := h
  refine x_callV hC (st := []) (mt_X5_decide _ _ _ _ hb12) ea8 ha9 kf_5 q_1059 q_1060 q_1061 q_7 q_1062 ⟨rfl, hy_X5_decide⟩ ⟨Nat.le_of_ble_eq_true rfl, Nat.le_of_ble_eq_true rfl⟩ ⟨(show k0 + 22 + 0 ≤ 601024 from by omega), (show n0 + 179 + 0 ≤ 7293034 from by omega)⟩ rfl (Nat.le_of_ble_eq_true rfl) dL_law_908 (r_N ?_) r_NX
  show PX Z 10 S11 (k0 + 22) (n0 + 179) 911 [(6, .int v2), (0, va_rf (some b)), (1, va_rf r1), (2, va_rf r2), (3, va_rf r3), (4, va_rf r4), (5, .int i5)] [.int v10]
  refine x_istore (i := 7) (l' := [(7, .int v10), (6, .int v2), (0, va_rf (some b)), (1, va_rf r1), (2, va_rf r2), (3, va_rf r3), (4, va_rf r4), (5, .int i5)]) hC dL_law_911 (⟨fun _ => rfl, ⟨fun _ => c_rf (some b), ⟨fun _ => c_rf r1, ⟨fun _ => c_rf r2, ⟨fun _ => c_rf r3, ⟨fun _ => c_rf r4, ⟨fun _ => rfl, trivial⟩⟩⟩⟩⟩⟩⟩) (by decide) rfl ?_
  refine x_aload_n (i := 2) hC dL_law_913 rfl 4 rfl ?_
  obtain ⟨a13, ea14, ha15, h⟩ := h
  obtain ⟨v16, S17, hb18, h⟩ := h
  refine x_callV hC (st := []) (mt_X5_thrown _ _ _ hb18) ea14 ha15 kf_5 q_904 q_905 q_906 q_7 q_907 ⟨rfl, hy_X5_thrown⟩ ⟨Nat.le_of_ble_eq_true rfl, Nat.le_of_ble_eq_true rfl⟩ ⟨(show k0 + 22 + 0 ≤ 601024 from by omega), (show n0 + 179 + 0 ≤ 7293034 from by omega)⟩ rfl (Nat.le_of_ble_eq_true rfl) dL_law_914 (r_N ?_) r_NX
  show PX Z 10 S17 (k0 + 22) (n0 + 179) 917 [(7, .int v10), (6, .int v2), (0, va_rf (some b)), (1, va_rf r1), (2, va_rf r2), (3, va_rf r3), (4, va_rf r4), (5, .int i5)] [.int v16]
  refine x_iload (i := 6) hC dL_law_917 1 rfl ?_
  refine x_icmp_eq (t := 924) hC dL_law_919 (by decide) (fun c19 => ?_) (fun c19 => ?_)
  · replace h := wit_t c19 h
    refine x_iload (i := 6) hC dL_law_924 1 rfl ?_
    refine x_if_ne (t := 941) hC dL_law_926 (by decide) (fun c20 => ?_) (fun c20 => ?_)
    · replace h := wit_f c20 h
      refine x_goto (t := 1925) hC dL_law_941 (by decide) ?_
      refine x_iinc (i := 5) (v := (i5 + (4 : Int32))) (l' := [(5, .int (i5 + (4 : Int32))), (7, .int v10), (6, .int v2), (0, va_rf (some b)), (1, va_rf r1), (2, va_rf r2), (3, va_rf r3), (4, va_rf r4)]) hC dL_law_1925 7 rfl rfl (⟨fun _ => rfl, ⟨fun _ => rfl, ⟨fun _ => c_rf (some b), ⟨fun _ => c_rf r1, ⟨fun _ => c_rf r2, ⟨fun _ => c_rf r3, ⟨fun _ => c_rf r4, ⟨fun _ => rfl, trivial⟩⟩⟩⟩⟩⟩⟩⟩) (by decide) rfl ?_
      refine x_goto (t := 28) hC dL_law_1928 (by decide) ?_
      refine x_sub (l' := [(0, va_rf (some b)), (1, va_rf r1), (2, va_rf r2), (3, va_rf r3), (4, va_rf r4), (5, .int (i5 + (4 : Int32)))]) [3, 4, 5, 6, 7, 0] rfl ?_
      refine x_wid (k' := k0 + 40) (n' := n0 + 400) (by omega) (by omega) ?_
      exact hK _ _ h
    · replace h := wit_t c20 h
      refine x_aload_n (i := 3) hC dL_law_929 rfl 5 rfl ?_
      refine x_iconst (v := (0 : Int32)) hC dL_law_930 (by decide) ?_
      obtain ⟨a21, ea22, ha23, h⟩ := h
      obtain ⟨hc24, h⟩ := h
      refine x_laload hC ea22 ha23 hc24 dL_law_931 ?_
      refine x_tJ (b := (p_J S17 a21 0)) rfl ?_
      refine x_iload (i := 7) hC dL_law_932 0 rfl ?_
      refine x_i2l hC dL_law_934 ?_
      refine x_lcmp hC dL_law_935 ?_
      refine x_if_eq (t := 941) hC dL_law_936 (by decide) (fun c25 => ?_) (fun c25 => ?_)
      · replace h := wit_t c25 h
        refine x_goto (t := 1925) hC dL_law_941 (by decide) ?_
        refine x_iinc (i := 5) (v := (i5 + (4 : Int32))) (l' := [(5, .int (i5 + (4 : Int32))), (7, .int v10), (6, .int v2), (0, va_rf (some b)), (1, va_rf r1), (2, va_rf r2), (3, va_rf r3), (4, va_rf r4)]) hC dL_law_1925 7 rfl rfl (⟨fun _ => rfl, ⟨fun _ => rfl, ⟨fun _ => c_rf (some b), ⟨fun _ => c_rf r1, ⟨fun _ => c_rf r2, ⟨fun _ => c_rf r3, ⟨fun _ => c_rf r4, ⟨fun _ => rfl, trivial⟩⟩⟩⟩⟩⟩⟩⟩) (by decide) rfl ?_
        refine x_goto (t := 28) hC dL_law_1928 (by decide) ?_
        refine x_sub (l' := [(0, va_rf (some b)), (1, va_rf r1), (2, va_rf r2), (3, va_rf r3), (4, va_rf r4), (5, .int (i5 + (4 : Int32)))]) [3, 4, 5, 6, 7, 0] rfl ?_
        refine x_wid (k' := k0 + 40) (n' := n0 + 400) (by omega) (by omega) ?_
        exact hK _ _ h
      · replace h := wit_f c25 h
        refine x_iconst (v := (0 : Int32)) hC dL_law_939 (by decide) ?_
        refine x_tI (show (0 : Int32) = (1 : Int32) from h) ?_
        exact hEnd _ _ _ _ _ (by omega) (by omega) dL_law_940
  · replace h := wit_f c19 h
    refine x_iconst (v := (0 : Int32)) hC dL_law_922 (by decide) ?_
    refine x_tI (show (0 : Int32) = (1 : Int32) from h) ?_
    exact hEnd _ _ _ _ _ (by omega) (by omega) dL_law_923
def wc_law_944 (xs : Nat → Int32) (L : Nat) (r1 r2 r3 r4 : Option Nat) (i5 : Int32) (S0 : PH) (K : Int32 → PH → Prop) : Prop := wck (ix (i5 + (1 : Int32)) L) <| wbd (m_L_append r1 (xs (Int32.toNatClampNeg (i5 + (1 : Int32)))) r3 S0) fun v2 S3 => wck (ix (i5 + (1 : Int32)) L) <| wdr S3 5 r2 fun a6 => wbd (m_X5_append r2 (xs (Int32.toNatClampNeg (i5 + (1 : Int32)))) S3) fun v9 S10 => wdr S10 5 r2 fun a12 => wbd (m_X5_thrown r2 S10) fun v15 S16 => if v15 = v2 then (if v2 = 0 then (wdr S16 10 r3 fun a20 => wck (ix (0 : Int32) (p_N S16 a20)) <| if (lg_cmp (p_J S16 a20 0) (Int32.toInt64 v9)) = 0 then (K (i5 + (4 : Int32)) S16) else ((0 : Int32) = (1 : Int32))) else (K (i5 + (4 : Int32)) S16)) else ((0 : Int32) = (1 : Int32))
theorem dL_law_944 : decode cL_law 944 = .ok (.aload_n 1, 1) := by decide +kernel
theorem dL_law_945 : decode cL_law 945 = .ok (.aload_n 0, 1) := by decide +kernel
theorem dL_law_946 : decode cL_law 946 = .ok (.iload 5, 2) := by decide +kernel
theorem dL_law_948 : decode cL_law 948 = .ok (.iconst 1, 1) := by decide +kernel
theorem dL_law_949 : decode cL_law 949 = .ok (.iadd, 1) := by decide +kernel
theorem dL_law_950 : decode cL_law 950 = .ok (.iaload, 1) := by decide +kernel
theorem dL_law_951 : decode cL_law 951 = .ok (.aload_n 3, 1) := by decide +kernel
theorem dL_law_952 : decode cL_law 952 = .ok (.invokestatic 150, 3) := by decide +kernel
theorem dL_law_955 : decode cL_law 955 = .ok (.istore 6, 2) := by decide +kernel
theorem dL_law_957 : decode cL_law 957 = .ok (.aload_n 2, 1) := by decide +kernel
theorem dL_law_958 : decode cL_law 958 = .ok (.aload_n 0, 1) := by decide +kernel
theorem dL_law_959 : decode cL_law 959 = .ok (.iload 5, 2) := by decide +kernel
theorem dL_law_961 : decode cL_law 961 = .ok (.iconst 1, 1) := by decide +kernel
theorem dL_law_962 : decode cL_law 962 = .ok (.iadd, 1) := by decide +kernel
theorem dL_law_963 : decode cL_law 963 = .ok (.iaload, 1) := by decide +kernel
theorem dL_law_964 : decode cL_law 964 = .ok (.invokevirtual 152, 3) := by decide +kernel
theorem dL_law_967 : decode cL_law 967 = .ok (.istore 7, 2) := by decide +kernel
theorem dL_law_969 : decode cL_law 969 = .ok (.aload_n 2, 1) := by decide +kernel
theorem dL_law_970 : decode cL_law 970 = .ok (.invokevirtual 111, 3) := by decide +kernel
theorem dL_law_973 : decode cL_law 973 = .ok (.iload 6, 2) := by decide +kernel
theorem dL_law_975 : decode cL_law 975 = .ok (.if_icmp .eq 5, 3) := by decide +kernel
theorem dL_law_980 : decode cL_law 980 = .ok (.iload 6, 2) := by decide +kernel
theorem dL_law_982 : decode cL_law 982 = .ok (.ifCond .ne 15, 3) := by decide +kernel
theorem dL_law_997 : decode cL_law 997 = .ok (.goto 928, 3) := by decide +kernel
theorem dL_law_985 : decode cL_law 985 = .ok (.aload_n 3, 1) := by decide +kernel
theorem dL_law_986 : decode cL_law 986 = .ok (.iconst 0, 1) := by decide +kernel
theorem dL_law_987 : decode cL_law 987 = .ok (.laload, 1) := by decide +kernel
theorem dL_law_988 : decode cL_law 988 = .ok (.iload 7, 2) := by decide +kernel
theorem dL_law_990 : decode cL_law 990 = .ok (.i2l, 1) := by decide +kernel
theorem dL_law_991 : decode cL_law 991 = .ok (.lcmp, 1) := by decide +kernel
theorem dL_law_992 : decode cL_law 992 = .ok (.ifCond .eq 5, 3) := by decide +kernel
theorem dL_law_995 : decode cL_law 995 = .ok (.iconst 0, 1) := by decide +kernel
theorem dL_law_996 : decode cL_law 996 = .ok (.ireturn, 1) := by decide +kernel
theorem dL_law_978 : decode cL_law 978 = .ok (.iconst 0, 1) := by decide +kernel
theorem dL_law_979 : decode cL_law 979 = .ok (.ireturn, 1) := by decide +kernel
set_option maxRecDepth 100000 in
set_option maxHeartbeats 4000000 in
theorem wk_law_944 {Z : ZT} {b L : Nat} {xs : Nat → Int32} (hC : CX Z cL_law RL 10 room_1) (hX : SX Z b L xs) (hEnd : EL Z) {k0 n0 : Nat} (hk : k0 + 40 ≤ 601024) (hn : n0 + 400 ≤ 7293034) (r1 r2 r3 r4 : Option Nat) (i5 : Int32) (S0 : PH) (K : Int32 → PH → Prop) (hK : ∀ i S, K i S → PX Z 10 S (k0 + 40) (n0 + 400) 28 [(0, va_rf (some b)), (1, va_rf r1), (2, va_rf r2), (3, va_rf r3), (4, va_rf r4), (5, .int i)] []) (h : wc_law_944 xs L r1 r2 r3 r4 i5 S0 K) : PX Z 10 S0 k0 n0 944 [(0, va_rf (some b)), (1, va_rf r1), (2, va_rf r2), (3, va_rf r3), (4, va_rf r4), (5, .int i5)] [] := by
  refine x_wid (k' := k0 + 0) (n' := n0 + 0) (Nat.le_refl _) (Nat.le_refl _) ?_
  unfold wc_law_944 at h
  refine x_aload_n (i := 1) hC dL_law_944 rfl 1 rfl ?_
  refine x_aload_n (i := 0) hC dL_law_945 rfl 0 rfl ?_
  refine x_iload (i := 5) hC dL_law_946 5 rfl ?_
  refine x_iconst (v := (1 : Int32)) hC dL_law_948 (by decide) ?_
  refine x_iadd hC dL_law_949 ?_
  obtain ⟨hc1, h⟩ := h
  refine x_sld hC hX hc1 dL_law_950 ?_
  refine x_aload_n (i := 3) hC dL_law_951 rfl 3 rfl ?_
  obtain ⟨v2, S3, hb4, h⟩ := h
  refine x_callSX hC (st := []) (mt_L_append _ _ _ _ _ hb4) q_704 q_705 q_0 q_706 hy_L_append ⟨Nat.le_of_ble_eq_true rfl, Nat.le_of_ble_eq_true rfl⟩ ⟨(show k0 + 0 + 1 ≤ 601024 from by omega), (show n0 + 0 + 6 ≤ 7293034 from by omega)⟩ rfl (Nat.le_of_ble_eq_true rfl) dL_law_952 (r_N ?_) r_NX
  show PX Z 10 S3 (k0 + 1) (n0 + 6) 955 [(0, va_rf (some b)), (1, va_rf r1), (2, va_rf r2), (3, va_rf r3), (4, va_rf r4), (5, .int i5)] [.int v2]
  refine x_istore (i := 6) (l' := [(6, .int v2), (0, va_rf (some b)), (1, va_rf r1), (2, va_rf r2), (3, va_rf r3), (4, va_rf r4), (5, .int i5)]) hC dL_law_955 (⟨fun _ => c_rf (some b), ⟨fun _ => c_rf r1, ⟨fun _ => c_rf r2, ⟨fun _ => c_rf r3, ⟨fun _ => c_rf r4, ⟨fun _ => rfl, trivial⟩⟩⟩⟩⟩⟩) (by decide) rfl ?_
  refine x_aload_n (i := 2) hC dL_law_957 rfl 3 rfl ?_
  refine x_aload_n (i := 0) hC dL_law_958 rfl 1 rfl ?_
  refine x_iload (i := 5) hC dL_law_959 6 rfl ?_
  refine x_iconst (v := (1 : Int32)) hC dL_law_961 (by decide) ?_
  refine x_iadd hC dL_law_962 ?_
  obtain ⟨hc5, h⟩ := h
  refine x_sld hC hX hc5 dL_law_963 ?_
  obtain ⟨a6, ea7, ha8, h⟩ := h
  obtain ⟨v9, S10, hb11, h⟩ := h
  refine x_callV hC (st := []) (mt_X5_append _ _ _ _ hb11) ea7 ha8 kf_5 q_1067 q_1068 q_1069 q_7 q_1070 ⟨rfl, hy_X5_append⟩ ⟨Nat.le_of_ble_eq_true rfl, Nat.le_of_ble_eq_true rfl⟩ ⟨(show k0 + 1 + 0 ≤ 601024 from by omega), (show n0 + 6 + 0 ≤ 7293034 from by omega)⟩ rfl (Nat.le_of_ble_eq_true rfl) dL_law_964 (r_N ?_) r_NX
  show PX Z 10 S10 (k0 + 1) (n0 + 6) 967 [(6, .int v2), (0, va_rf (some b)), (1, va_rf r1), (2, va_rf r2), (3, va_rf r3), (4, va_rf r4), (5, .int i5)] [.int v9]
  refine x_istore (i := 7) (l' := [(7, .int v9), (6, .int v2), (0, va_rf (some b)), (1, va_rf r1), (2, va_rf r2), (3, va_rf r3), (4, va_rf r4), (5, .int i5)]) hC dL_law_967 (⟨fun _ => rfl, ⟨fun _ => c_rf (some b), ⟨fun _ => c_rf r1, ⟨fun _ => c_rf r2, ⟨fun _ => c_rf r3, ⟨fun _ => c_rf r4, ⟨fun _ => rfl, trivial⟩⟩⟩⟩⟩⟩⟩) (by decide) rfl ?_
  refine x_aload_n (i := 2) hC dL_law_969 rfl 4 rfl ?_
  obtain ⟨a12, ea13, ha14, h⟩ := h
  obtain ⟨v15, S16, hb17, h⟩ := h
  refine x_callV hC (st := []) (mt_X5_thrown _ _ _ hb17) ea13 ha14 kf_5 q_904 q_905 q_906 q_7 q_907 ⟨rfl, hy_X5_thrown⟩ ⟨Nat.le_of_ble_eq_true rfl, Nat.le_of_ble_eq_true rfl⟩ ⟨(show k0 + 1 + 0 ≤ 601024 from by omega), (show n0 + 6 + 0 ≤ 7293034 from by omega)⟩ rfl (Nat.le_of_ble_eq_true rfl) dL_law_970 (r_N ?_) r_NX
  show PX Z 10 S16 (k0 + 1) (n0 + 6) 973 [(7, .int v9), (6, .int v2), (0, va_rf (some b)), (1, va_rf r1), (2, va_rf r2), (3, va_rf r3), (4, va_rf r4), (5, .int i5)] [.int v15]
  refine x_iload (i := 6) hC dL_law_973 1 rfl ?_
  refine x_icmp_eq (t := 980) hC dL_law_975 (by decide) (fun c18 => ?_) (fun c18 => ?_)
  · replace h := wit_t c18 h
    refine x_iload (i := 6) hC dL_law_980 1 rfl ?_
    refine x_if_ne (t := 997) hC dL_law_982 (by decide) (fun c19 => ?_) (fun c19 => ?_)
    · replace h := wit_f c19 h
      refine x_goto (t := 1925) hC dL_law_997 (by decide) ?_
      refine x_iinc (i := 5) (v := (i5 + (4 : Int32))) (l' := [(5, .int (i5 + (4 : Int32))), (7, .int v9), (6, .int v2), (0, va_rf (some b)), (1, va_rf r1), (2, va_rf r2), (3, va_rf r3), (4, va_rf r4)]) hC dL_law_1925 7 rfl rfl (⟨fun _ => rfl, ⟨fun _ => rfl, ⟨fun _ => c_rf (some b), ⟨fun _ => c_rf r1, ⟨fun _ => c_rf r2, ⟨fun _ => c_rf r3, ⟨fun _ => c_rf r4, ⟨fun _ => rfl, trivial⟩⟩⟩⟩⟩⟩⟩⟩) (by decide) rfl ?_
      refine x_goto (t := 28) hC dL_law_1928 (by decide) ?_
      refine x_sub (l' := [(0, va_rf (some b)), (1, va_rf r1), (2, va_rf r2), (3, va_rf r3), (4, va_rf r4), (5, .int (i5 + (4 : Int32)))]) [3, 4, 5, 6, 7, 0] rfl ?_
      refine x_wid (k' := k0 + 40) (n' := n0 + 400) (by omega) (by omega) ?_
      exact hK _ _ h
    · replace h := wit_t c19 h
      refine x_aload_n (i := 3) hC dL_law_985 rfl 5 rfl ?_
      refine x_iconst (v := (0 : Int32)) hC dL_law_986 (by decide) ?_
      obtain ⟨a20, ea21, ha22, h⟩ := h
      obtain ⟨hc23, h⟩ := h
      refine x_laload hC ea21 ha22 hc23 dL_law_987 ?_
      refine x_tJ (b := (p_J S16 a20 0)) rfl ?_
      refine x_iload (i := 7) hC dL_law_988 0 rfl ?_
      refine x_i2l hC dL_law_990 ?_
      refine x_lcmp hC dL_law_991 ?_
      refine x_if_eq (t := 997) hC dL_law_992 (by decide) (fun c24 => ?_) (fun c24 => ?_)
      · replace h := wit_t c24 h
        refine x_goto (t := 1925) hC dL_law_997 (by decide) ?_
        refine x_iinc (i := 5) (v := (i5 + (4 : Int32))) (l' := [(5, .int (i5 + (4 : Int32))), (7, .int v9), (6, .int v2), (0, va_rf (some b)), (1, va_rf r1), (2, va_rf r2), (3, va_rf r3), (4, va_rf r4)]) hC dL_law_1925 7 rfl rfl (⟨fun _ => rfl, ⟨fun _ => rfl, ⟨fun _ => c_rf (some b), ⟨fun _ => c_rf r1, ⟨fun _ => c_rf r2, ⟨fun _ => c_rf r3, ⟨fun _ => c_rf r4, ⟨fun _ => rfl, trivial⟩⟩⟩⟩⟩⟩⟩⟩) (by decide) rfl ?_
        refine x_goto (t := 28) hC dL_law_1928 (by decide) ?_
        refine x_sub (l' := [(0, va_rf (some b)), (1, va_rf r1), (2, va_rf r2), (3, va_rf r3), (4, va_rf r4), (5, .int (i5 + (4 : Int32)))]) [3, 4, 5, 6, 7, 0] rfl ?_
        refine x_wid (k' := k0 + 40) (n' := n0 + 400) (by omega) (by omega) ?_
        exact hK _ _ h
      · replace h := wit_f c24 h
        refine x_iconst (v := (0 : Int32)) hC dL_law_995 (by decide) ?_
        refine x_tI (show (0 : Int32) = (1 : Int32) from h) ?_
        exact hEnd _ _ _ _ _ (by omega) (by omega) dL_law_996
  · replace h := wit_f c18 h
    refine x_iconst (v := (0 : Int32)) hC dL_law_978 (by decide) ?_
    refine x_tI (show (0 : Int32) = (1 : Int32) from h) ?_
    exact hEnd _ _ _ _ _ (by omega) (by omega) dL_law_979
def wc_law_1000 (xs : Nat → Int32) (L : Nat) (r1 r2 r3 r4 : Option Nat) (i5 : Int32) (S0 : PH) (K : Int32 → PH → Prop) : Prop := wdr S0 4 r1 fun a1 => wbd (m_X4_clearBuffer r1 S0) fun v4 S5 => wdr S5 5 r2 fun a7 => wbd (m_X5_clearBuffer r2 S5) fun v10 S11 => if v4 = v10 then (K (i5 + (4 : Int32)) S11) else ((0 : Int32) = (1 : Int32))
theorem dL_law_1000 : decode cL_law 1000 = .ok (.aload_n 1, 1) := by decide +kernel
theorem dL_law_1001 : decode cL_law 1001 = .ok (.invokevirtual 153, 3) := by decide +kernel
theorem dL_law_1004 : decode cL_law 1004 = .ok (.aload_n 2, 1) := by decide +kernel
theorem dL_law_1005 : decode cL_law 1005 = .ok (.invokevirtual 156, 3) := by decide +kernel
theorem dL_law_1008 : decode cL_law 1008 = .ok (.if_icmp .eq 917, 3) := by decide +kernel
theorem dL_law_1011 : decode cL_law 1011 = .ok (.iconst 0, 1) := by decide +kernel
theorem dL_law_1012 : decode cL_law 1012 = .ok (.ireturn, 1) := by decide +kernel
set_option maxRecDepth 100000 in
set_option maxHeartbeats 4000000 in
theorem wk_law_1000 {Z : ZT} {b L : Nat} {xs : Nat → Int32} (hC : CX Z cL_law RL 10 room_1) (hX : SX Z b L xs) (hEnd : EL Z) {k0 n0 : Nat} (hk : k0 + 40 ≤ 601024) (hn : n0 + 400 ≤ 7293034) (r1 r2 r3 r4 : Option Nat) (i5 : Int32) (S0 : PH) (K : Int32 → PH → Prop) (hK : ∀ i S, K i S → PX Z 10 S (k0 + 40) (n0 + 400) 28 [(0, va_rf (some b)), (1, va_rf r1), (2, va_rf r2), (3, va_rf r3), (4, va_rf r4), (5, .int i)] []) (h : wc_law_1000 xs L r1 r2 r3 r4 i5 S0 K) : PX Z 10 S0 k0 n0 1000 [(0, va_rf (some b)), (1, va_rf r1), (2, va_rf r2), (3, va_rf r3), (4, va_rf r4), (5, .int i5)] [] := by
  refine x_wid (k' := k0 + 0) (n' := n0 + 0) (Nat.le_refl _) (Nat.le_refl _) ?_
  unfold wc_law_1000 at h
  refine x_aload_n (i := 1) hC dL_law_1000 rfl 1 rfl ?_
  obtain ⟨a1, ea2, ha3, h⟩ := h
  obtain ⟨v4, S5, hb6, h⟩ := h
  refine x_callV hC (st := []) (mt_X4_clearBuffer _ _ _ hb6) ea2 ha3 kf_4 q_194 q_195 q_196 q_1 q_197 ⟨rfl, hy_X4_clearBuffer⟩ ⟨Nat.le_of_ble_eq_true rfl, Nat.le_of_ble_eq_true rfl⟩ ⟨(show k0 + 0 + 0 ≤ 601024 from by omega), (show n0 + 0 + 0 ≤ 7293034 from by omega)⟩ rfl (Nat.le_of_ble_eq_true rfl) dL_law_1001 (r_N ?_) r_NX
  show PX Z 10 S5 (k0 + 0) (n0 + 0) 1004 [(0, va_rf (some b)), (1, va_rf r1), (2, va_rf r2), (3, va_rf r3), (4, va_rf r4), (5, .int i5)] [.int v4]
  refine x_aload_n (i := 2) hC dL_law_1004 rfl 2 rfl ?_
  obtain ⟨a7, ea8, ha9, h⟩ := h
  obtain ⟨v10, S11, hb12, h⟩ := h
  refine x_callV hC (st := [.int v4]) (mt_X5_clearBuffer _ _ _ hb12) ea8 ha9 kf_5 q_1071 q_1072 q_1073 q_7 q_1074 ⟨rfl, hy_X5_clearBuffer⟩ ⟨Nat.le_of_ble_eq_true rfl, Nat.le_of_ble_eq_true rfl⟩ ⟨(show k0 + 0 + 0 ≤ 601024 from by omega), (show n0 + 0 + 0 ≤ 7293034 from by omega)⟩ rfl (Nat.le_of_ble_eq_true rfl) dL_law_1005 (r_N ?_) r_NX
  show PX Z 10 S11 (k0 + 0) (n0 + 0) 1008 [(0, va_rf (some b)), (1, va_rf r1), (2, va_rf r2), (3, va_rf r3), (4, va_rf r4), (5, .int i5)] [.int v10, .int v4]
  refine x_icmp_eq (t := 1925) hC dL_law_1008 (by decide) (fun c13 => ?_) (fun c13 => ?_)
  · replace h := wit_t c13 h
    refine x_iinc (i := 5) (v := (i5 + (4 : Int32))) (l' := [(5, .int (i5 + (4 : Int32))), (0, va_rf (some b)), (1, va_rf r1), (2, va_rf r2), (3, va_rf r3), (4, va_rf r4)]) hC dL_law_1925 5 rfl rfl (⟨fun _ => c_rf (some b), ⟨fun _ => c_rf r1, ⟨fun _ => c_rf r2, ⟨fun _ => c_rf r3, ⟨fun _ => c_rf r4, ⟨fun _ => rfl, trivial⟩⟩⟩⟩⟩⟩) (by decide) rfl ?_
    refine x_goto (t := 28) hC dL_law_1928 (by decide) ?_
    refine x_sub (l' := [(0, va_rf (some b)), (1, va_rf r1), (2, va_rf r2), (3, va_rf r3), (4, va_rf r4), (5, .int (i5 + (4 : Int32)))]) [1, 2, 3, 4, 5, 0] rfl ?_
    refine x_wid (k' := k0 + 40) (n' := n0 + 400) (by omega) (by omega) ?_
    exact hK _ _ h
  · replace h := wit_f c13 h
    refine x_iconst (v := (0 : Int32)) hC dL_law_1011 (by decide) ?_
    refine x_tI (show (0 : Int32) = (1 : Int32) from h) ?_
    exact hEnd _ _ _ _ _ (by omega) (by omega) dL_law_1012
def wc_law_1013 (xs : Nat → Int32) (L : Nat) (r1 r2 r3 r4 : Option Nat) (i5 : Int32) (S0 : PH) (K : Int32 → PH → Prop) : Prop := wdr S0 4 r1 fun a1 => wbd (m_X4_firstError r1 S0) fun v4 S5 => wdr S5 5 r2 fun a7 => wbd (m_X5_firstError r2 S5) fun v10 S11 => if v4 = v10 then (K (i5 + (4 : Int32)) S11) else ((0 : Int32) = (1 : Int32))
theorem dL_law_1013 : decode cL_law 1013 = .ok (.aload_n 1, 1) := by decide +kernel
theorem dL_law_1014 : decode cL_law 1014 = .ok (.invokevirtual 157, 3) := by decide +kernel
theorem dL_law_1017 : decode cL_law 1017 = .ok (.aload_n 2, 1) := by decide +kernel
theorem dL_law_1018 : decode cL_law 1018 = .ok (.invokevirtual 160, 3) := by decide +kernel
theorem dL_law_1021 : decode cL_law 1021 = .ok (.if_icmp .eq 904, 3) := by decide +kernel
theorem dL_law_1024 : decode cL_law 1024 = .ok (.iconst 0, 1) := by decide +kernel
theorem dL_law_1025 : decode cL_law 1025 = .ok (.ireturn, 1) := by decide +kernel
set_option maxRecDepth 100000 in
set_option maxHeartbeats 4000000 in
theorem wk_law_1013 {Z : ZT} {b L : Nat} {xs : Nat → Int32} (hC : CX Z cL_law RL 10 room_1) (hX : SX Z b L xs) (hEnd : EL Z) {k0 n0 : Nat} (hk : k0 + 40 ≤ 601024) (hn : n0 + 400 ≤ 7293034) (r1 r2 r3 r4 : Option Nat) (i5 : Int32) (S0 : PH) (K : Int32 → PH → Prop) (hK : ∀ i S, K i S → PX Z 10 S (k0 + 40) (n0 + 400) 28 [(0, va_rf (some b)), (1, va_rf r1), (2, va_rf r2), (3, va_rf r3), (4, va_rf r4), (5, .int i)] []) (h : wc_law_1013 xs L r1 r2 r3 r4 i5 S0 K) : PX Z 10 S0 k0 n0 1013 [(0, va_rf (some b)), (1, va_rf r1), (2, va_rf r2), (3, va_rf r3), (4, va_rf r4), (5, .int i5)] [] := by
  refine x_wid (k' := k0 + 0) (n' := n0 + 0) (Nat.le_refl _) (Nat.le_refl _) ?_
  unfold wc_law_1013 at h
  refine x_aload_n (i := 1) hC dL_law_1013 rfl 1 rfl ?_
  obtain ⟨a1, ea2, ha3, h⟩ := h
  obtain ⟨v4, S5, hb6, h⟩ := h
  refine x_callV hC (st := []) (mt_X4_firstError _ _ _ hb6) ea2 ha3 kf_4 q_198 q_199 q_200 q_1 q_201 ⟨rfl, hy_X4_firstError⟩ ⟨Nat.le_of_ble_eq_true rfl, Nat.le_of_ble_eq_true rfl⟩ ⟨(show k0 + 0 + 0 ≤ 601024 from by omega), (show n0 + 0 + 0 ≤ 7293034 from by omega)⟩ rfl (Nat.le_of_ble_eq_true rfl) dL_law_1014 (r_N ?_) r_NX
  show PX Z 10 S5 (k0 + 0) (n0 + 0) 1017 [(0, va_rf (some b)), (1, va_rf r1), (2, va_rf r2), (3, va_rf r3), (4, va_rf r4), (5, .int i5)] [.int v4]
  refine x_aload_n (i := 2) hC dL_law_1017 rfl 2 rfl ?_
  obtain ⟨a7, ea8, ha9, h⟩ := h
  obtain ⟨v10, S11, hb12, h⟩ := h
  refine x_callV hC (st := [.int v4]) (mt_X5_firstError _ _ _ hb12) ea8 ha9 kf_5 q_1075 q_1076 q_1077 q_7 q_1078 ⟨rfl, hy_X5_firstError⟩ ⟨Nat.le_of_ble_eq_true rfl, Nat.le_of_ble_eq_true rfl⟩ ⟨(show k0 + 0 + 0 ≤ 601024 from by omega), (show n0 + 0 + 0 ≤ 7293034 from by omega)⟩ rfl (Nat.le_of_ble_eq_true rfl) dL_law_1018 (r_N ?_) r_NX
  show PX Z 10 S11 (k0 + 0) (n0 + 0) 1021 [(0, va_rf (some b)), (1, va_rf r1), (2, va_rf r2), (3, va_rf r3), (4, va_rf r4), (5, .int i5)] [.int v10, .int v4]
  refine x_icmp_eq (t := 1925) hC dL_law_1021 (by decide) (fun c13 => ?_) (fun c13 => ?_)
  · replace h := wit_t c13 h
    refine x_iinc (i := 5) (v := (i5 + (4 : Int32))) (l' := [(5, .int (i5 + (4 : Int32))), (0, va_rf (some b)), (1, va_rf r1), (2, va_rf r2), (3, va_rf r3), (4, va_rf r4)]) hC dL_law_1925 5 rfl rfl (⟨fun _ => c_rf (some b), ⟨fun _ => c_rf r1, ⟨fun _ => c_rf r2, ⟨fun _ => c_rf r3, ⟨fun _ => c_rf r4, ⟨fun _ => rfl, trivial⟩⟩⟩⟩⟩⟩) (by decide) rfl ?_
    refine x_goto (t := 28) hC dL_law_1928 (by decide) ?_
    refine x_sub (l' := [(0, va_rf (some b)), (1, va_rf r1), (2, va_rf r2), (3, va_rf r3), (4, va_rf r4), (5, .int (i5 + (4 : Int32)))]) [1, 2, 3, 4, 5, 0] rfl ?_
    refine x_wid (k' := k0 + 40) (n' := n0 + 400) (by omega) (by omega) ?_
    exact hK _ _ h
  · replace h := wit_f c13 h
    refine x_iconst (v := (0 : Int32)) hC dL_law_1024 (by decide) ?_
    refine x_tI (show (0 : Int32) = (1 : Int32) from h) ?_
    exact hEnd _ _ _ _ _ (by omega) (by omega) dL_law_1025
def wc_law_1026 (xs : Nat → Int32) (L : Nat) (r1 r2 r3 r4 : Option Nat) (i5 : Int32) (S0 : PH) (K : Int32 → PH → Prop) : Prop := w_L_run r1 r3 S0 (wq (fun v1 S2 => wdr S2 5 r2 fun a5 => wbd (m_X5_run r2 S2) fun v8 S9 => wdr S9 5 r2 fun a11 => wbd (m_X5_thrown r2 S9) fun v14 S15 => if v14 = v1 then (if v1 = 0 then (wdr S15 10 r3 fun a19 => wck (ix (0 : Int32) (p_N S15 a19)) <| if (lg_cmp (p_J S15 a19 0) (Int32.toInt64 v8)) = 0 then (K (i5 + (4 : Int32)) S15) else ((0 : Int32) = (1 : Int32))) else (K (i5 + (4 : Int32)) S15)) else ((0 : Int32) = (1 : Int32))) (fun _ _ => False))
theorem dL_law_1026 : decode cL_law 1026 = .ok (.aload_n 1, 1) := by decide +kernel
theorem dL_law_1027 : decode cL_law 1027 = .ok (.aload_n 3, 1) := by decide +kernel
theorem dL_law_1028 : decode cL_law 1028 = .ok (.invokestatic 161, 3) := by decide +kernel
theorem dL_law_1031 : decode cL_law 1031 = .ok (.istore 6, 2) := by decide +kernel
theorem dL_law_1033 : decode cL_law 1033 = .ok (.aload_n 2, 1) := by decide +kernel
theorem dL_law_1034 : decode cL_law 1034 = .ok (.invokevirtual 163, 3) := by decide +kernel
theorem dL_law_1037 : decode cL_law 1037 = .ok (.istore 7, 2) := by decide +kernel
theorem dL_law_1039 : decode cL_law 1039 = .ok (.aload_n 2, 1) := by decide +kernel
theorem dL_law_1040 : decode cL_law 1040 = .ok (.invokevirtual 111, 3) := by decide +kernel
theorem dL_law_1043 : decode cL_law 1043 = .ok (.iload 6, 2) := by decide +kernel
theorem dL_law_1045 : decode cL_law 1045 = .ok (.if_icmp .eq 5, 3) := by decide +kernel
theorem dL_law_1050 : decode cL_law 1050 = .ok (.iload 6, 2) := by decide +kernel
theorem dL_law_1052 : decode cL_law 1052 = .ok (.ifCond .ne 15, 3) := by decide +kernel
theorem dL_law_1067 : decode cL_law 1067 = .ok (.goto 858, 3) := by decide +kernel
theorem dL_law_1055 : decode cL_law 1055 = .ok (.aload_n 3, 1) := by decide +kernel
theorem dL_law_1056 : decode cL_law 1056 = .ok (.iconst 0, 1) := by decide +kernel
theorem dL_law_1057 : decode cL_law 1057 = .ok (.laload, 1) := by decide +kernel
theorem dL_law_1058 : decode cL_law 1058 = .ok (.iload 7, 2) := by decide +kernel
theorem dL_law_1060 : decode cL_law 1060 = .ok (.i2l, 1) := by decide +kernel
theorem dL_law_1061 : decode cL_law 1061 = .ok (.lcmp, 1) := by decide +kernel
theorem dL_law_1062 : decode cL_law 1062 = .ok (.ifCond .eq 5, 3) := by decide +kernel
theorem dL_law_1065 : decode cL_law 1065 = .ok (.iconst 0, 1) := by decide +kernel
theorem dL_law_1066 : decode cL_law 1066 = .ok (.ireturn, 1) := by decide +kernel
theorem dL_law_1048 : decode cL_law 1048 = .ok (.iconst 0, 1) := by decide +kernel
theorem dL_law_1049 : decode cL_law 1049 = .ok (.ireturn, 1) := by decide +kernel
set_option maxRecDepth 100000 in
set_option maxHeartbeats 4000000 in
theorem wk_law_1026 {Z : ZT} {b L : Nat} {xs : Nat → Int32} (hC : CX Z cL_law RL 10 room_1) (hX : SX Z b L xs) (hEnd : EL Z) {k0 n0 : Nat} (hk : k0 + 40 ≤ 601024) (hn : n0 + 400 ≤ 7293034) (r1 r2 r3 r4 : Option Nat) (i5 : Int32) (S0 : PH) (K : Int32 → PH → Prop) (hK : ∀ i S, K i S → PX Z 10 S (k0 + 40) (n0 + 400) 28 [(0, va_rf (some b)), (1, va_rf r1), (2, va_rf r2), (3, va_rf r3), (4, va_rf r4), (5, .int i)] []) (h : wc_law_1026 xs L r1 r2 r3 r4 i5 S0 K) : PX Z 10 S0 k0 n0 1026 [(0, va_rf (some b)), (1, va_rf r1), (2, va_rf r2), (3, va_rf r3), (4, va_rf r4), (5, .int i5)] [] := by
  refine x_wid (k' := k0 + 0) (n' := n0 + 0) (Nat.le_refl _) (Nat.le_refl _) ?_
  unfold wc_law_1026 at h
  refine x_aload_n (i := 1) hC dL_law_1026 rfl 1 rfl ?_
  refine x_aload_n (i := 3) hC dL_law_1027 rfl 3 rfl ?_
  refine x_callSX hC (st := []) (mt_L_run _ _ _ _ h) q_713 q_714 q_0 q_715 hy_L_run ⟨Nat.le_of_ble_eq_true rfl, Nat.le_of_ble_eq_true rfl⟩ ⟨(show k0 + 0 + 21 ≤ 601024 from by omega), (show n0 + 0 + 173 ≤ 7293034 from by omega)⟩ rfl (Nat.le_of_ble_eq_true rfl) dL_law_1028 (r_W (fun v1 S2 h => ?_)) (r_Wx (fun _ _ h => (wq_l h).elim))
  replace h := wq_r h
  show PX Z 10 S2 (k0 + 21) (n0 + 173) 1031 [(0, va_rf (some b)), (1, va_rf r1), (2, va_rf r2), (3, va_rf r3), (4, va_rf r4), (5, .int i5)] [.int v1]
  refine x_istore (i := 6) (l' := [(6, .int v1), (0, va_rf (some b)), (1, va_rf r1), (2, va_rf r2), (3, va_rf r3), (4, va_rf r4), (5, .int i5)]) hC dL_law_1031 (⟨fun _ => c_rf (some b), ⟨fun _ => c_rf r1, ⟨fun _ => c_rf r2, ⟨fun _ => c_rf r3, ⟨fun _ => c_rf r4, ⟨fun _ => rfl, trivial⟩⟩⟩⟩⟩⟩) (by decide) rfl ?_
  refine x_aload_n (i := 2) hC dL_law_1033 rfl 3 rfl ?_
  obtain ⟨a5, ea6, ha7, h⟩ := h
  obtain ⟨v8, S9, hb10, h⟩ := h
  refine x_callV hC (st := []) (mt_X5_run _ _ _ hb10) ea6 ha7 kf_5 q_1103 q_1104 q_1105 q_7 q_1106 ⟨rfl, hy_X5_run⟩ ⟨Nat.le_of_ble_eq_true rfl, Nat.le_of_ble_eq_true rfl⟩ ⟨(show k0 + 21 + 0 ≤ 601024 from by omega), (show n0 + 173 + 0 ≤ 7293034 from by omega)⟩ rfl (Nat.le_of_ble_eq_true rfl) dL_law_1034 (r_N ?_) r_NX
  show PX Z 10 S9 (k0 + 21) (n0 + 173) 1037 [(6, .int v1), (0, va_rf (some b)), (1, va_rf r1), (2, va_rf r2), (3, va_rf r3), (4, va_rf r4), (5, .int i5)] [.int v8]
  refine x_istore (i := 7) (l' := [(7, .int v8), (6, .int v1), (0, va_rf (some b)), (1, va_rf r1), (2, va_rf r2), (3, va_rf r3), (4, va_rf r4), (5, .int i5)]) hC dL_law_1037 (⟨fun _ => rfl, ⟨fun _ => c_rf (some b), ⟨fun _ => c_rf r1, ⟨fun _ => c_rf r2, ⟨fun _ => c_rf r3, ⟨fun _ => c_rf r4, ⟨fun _ => rfl, trivial⟩⟩⟩⟩⟩⟩⟩) (by decide) rfl ?_
  refine x_aload_n (i := 2) hC dL_law_1039 rfl 4 rfl ?_
  obtain ⟨a11, ea12, ha13, h⟩ := h
  obtain ⟨v14, S15, hb16, h⟩ := h
  refine x_callV hC (st := []) (mt_X5_thrown _ _ _ hb16) ea12 ha13 kf_5 q_904 q_905 q_906 q_7 q_907 ⟨rfl, hy_X5_thrown⟩ ⟨Nat.le_of_ble_eq_true rfl, Nat.le_of_ble_eq_true rfl⟩ ⟨(show k0 + 21 + 0 ≤ 601024 from by omega), (show n0 + 173 + 0 ≤ 7293034 from by omega)⟩ rfl (Nat.le_of_ble_eq_true rfl) dL_law_1040 (r_N ?_) r_NX
  show PX Z 10 S15 (k0 + 21) (n0 + 173) 1043 [(7, .int v8), (6, .int v1), (0, va_rf (some b)), (1, va_rf r1), (2, va_rf r2), (3, va_rf r3), (4, va_rf r4), (5, .int i5)] [.int v14]
  refine x_iload (i := 6) hC dL_law_1043 1 rfl ?_
  refine x_icmp_eq (t := 1050) hC dL_law_1045 (by decide) (fun c17 => ?_) (fun c17 => ?_)
  · replace h := wit_t c17 h
    refine x_iload (i := 6) hC dL_law_1050 1 rfl ?_
    refine x_if_ne (t := 1067) hC dL_law_1052 (by decide) (fun c18 => ?_) (fun c18 => ?_)
    · replace h := wit_f c18 h
      refine x_goto (t := 1925) hC dL_law_1067 (by decide) ?_
      refine x_iinc (i := 5) (v := (i5 + (4 : Int32))) (l' := [(5, .int (i5 + (4 : Int32))), (7, .int v8), (6, .int v1), (0, va_rf (some b)), (1, va_rf r1), (2, va_rf r2), (3, va_rf r3), (4, va_rf r4)]) hC dL_law_1925 7 rfl rfl (⟨fun _ => rfl, ⟨fun _ => rfl, ⟨fun _ => c_rf (some b), ⟨fun _ => c_rf r1, ⟨fun _ => c_rf r2, ⟨fun _ => c_rf r3, ⟨fun _ => c_rf r4, ⟨fun _ => rfl, trivial⟩⟩⟩⟩⟩⟩⟩⟩) (by decide) rfl ?_
      refine x_goto (t := 28) hC dL_law_1928 (by decide) ?_
      refine x_sub (l' := [(0, va_rf (some b)), (1, va_rf r1), (2, va_rf r2), (3, va_rf r3), (4, va_rf r4), (5, .int (i5 + (4 : Int32)))]) [3, 4, 5, 6, 7, 0] rfl ?_
      refine x_wid (k' := k0 + 40) (n' := n0 + 400) (by omega) (by omega) ?_
      exact hK _ _ h
    · replace h := wit_t c18 h
      refine x_aload_n (i := 3) hC dL_law_1055 rfl 5 rfl ?_
      refine x_iconst (v := (0 : Int32)) hC dL_law_1056 (by decide) ?_
      obtain ⟨a19, ea20, ha21, h⟩ := h
      obtain ⟨hc22, h⟩ := h
      refine x_laload hC ea20 ha21 hc22 dL_law_1057 ?_
      refine x_tJ (b := (p_J S15 a19 0)) rfl ?_
      refine x_iload (i := 7) hC dL_law_1058 0 rfl ?_
      refine x_i2l hC dL_law_1060 ?_
      refine x_lcmp hC dL_law_1061 ?_
      refine x_if_eq (t := 1067) hC dL_law_1062 (by decide) (fun c23 => ?_) (fun c23 => ?_)
      · replace h := wit_t c23 h
        refine x_goto (t := 1925) hC dL_law_1067 (by decide) ?_
        refine x_iinc (i := 5) (v := (i5 + (4 : Int32))) (l' := [(5, .int (i5 + (4 : Int32))), (7, .int v8), (6, .int v1), (0, va_rf (some b)), (1, va_rf r1), (2, va_rf r2), (3, va_rf r3), (4, va_rf r4)]) hC dL_law_1925 7 rfl rfl (⟨fun _ => rfl, ⟨fun _ => rfl, ⟨fun _ => c_rf (some b), ⟨fun _ => c_rf r1, ⟨fun _ => c_rf r2, ⟨fun _ => c_rf r3, ⟨fun _ => c_rf r4, ⟨fun _ => rfl, trivial⟩⟩⟩⟩⟩⟩⟩⟩) (by decide) rfl ?_
        refine x_goto (t := 28) hC dL_law_1928 (by decide) ?_
        refine x_sub (l' := [(0, va_rf (some b)), (1, va_rf r1), (2, va_rf r2), (3, va_rf r3), (4, va_rf r4), (5, .int (i5 + (4 : Int32)))]) [3, 4, 5, 6, 7, 0] rfl ?_
        refine x_wid (k' := k0 + 40) (n' := n0 + 400) (by omega) (by omega) ?_
        exact hK _ _ h
      · replace h := wit_f c23 h
        refine x_iconst (v := (0 : Int32)) hC dL_law_1065 (by decide) ?_
        refine x_tI (show (0 : Int32) = (1 : Int32) from h) ?_
        exact hEnd _ _ _ _ _ (by omega) (by omega) dL_law_1066
  · replace h := wit_f c17 h
    refine x_iconst (v := (0 : Int32)) hC dL_law_1048 (by decide) ?_
    refine x_tI (show (0 : Int32) = (1 : Int32) from h) ?_
    exact hEnd _ _ _ _ _ (by omega) (by omega) dL_law_1049
def wc_law_1070 (xs : Nat → Int32) (L : Nat) (r1 r2 r3 r4 : Option Nat) (i5 : Int32) (S0 : PH) (K : Int32 → PH → Prop) : Prop := wck (ix (i5 + (1 : Int32)) L) <| w_L_keep r1 (xs (Int32.toNatClampNeg (i5 + (1 : Int32)))) r3 S0 (wq (fun v2 S3 => wck (ix (i5 + (1 : Int32)) L) <| wdr S3 5 r2 fun a7 => wbd (m_X5_keep r2 (xs (Int32.toNatClampNeg (i5 + (1 : Int32)))) S3) fun v10 S11 => wdr S11 5 r2 fun a13 => wbd (m_X5_thrown r2 S11) fun v16 S17 => if v16 = v2 then (if v2 = 0 then (wdr S17 10 r3 fun a21 => wck (ix (0 : Int32) (p_N S17 a21)) <| if (lg_cmp (p_J S17 a21 0) (Int32.toInt64 v10)) = 0 then (K (i5 + (4 : Int32)) S17) else ((0 : Int32) = (1 : Int32))) else (K (i5 + (4 : Int32)) S17)) else ((0 : Int32) = (1 : Int32))) (fun _ _ => False))
theorem dL_law_1070 : decode cL_law 1070 = .ok (.aload_n 1, 1) := by decide +kernel
theorem dL_law_1071 : decode cL_law 1071 = .ok (.aload_n 0, 1) := by decide +kernel
theorem dL_law_1072 : decode cL_law 1072 = .ok (.iload 5, 2) := by decide +kernel
theorem dL_law_1074 : decode cL_law 1074 = .ok (.iconst 1, 1) := by decide +kernel
theorem dL_law_1075 : decode cL_law 1075 = .ok (.iadd, 1) := by decide +kernel
theorem dL_law_1076 : decode cL_law 1076 = .ok (.iaload, 1) := by decide +kernel
theorem dL_law_1077 : decode cL_law 1077 = .ok (.aload_n 3, 1) := by decide +kernel
theorem dL_law_1078 : decode cL_law 1078 = .ok (.invokestatic 164, 3) := by decide +kernel
theorem dL_law_1081 : decode cL_law 1081 = .ok (.istore 6, 2) := by decide +kernel
theorem dL_law_1083 : decode cL_law 1083 = .ok (.aload_n 2, 1) := by decide +kernel
theorem dL_law_1084 : decode cL_law 1084 = .ok (.aload_n 0, 1) := by decide +kernel
theorem dL_law_1085 : decode cL_law 1085 = .ok (.iload 5, 2) := by decide +kernel
theorem dL_law_1087 : decode cL_law 1087 = .ok (.iconst 1, 1) := by decide +kernel
theorem dL_law_1088 : decode cL_law 1088 = .ok (.iadd, 1) := by decide +kernel
theorem dL_law_1089 : decode cL_law 1089 = .ok (.iaload, 1) := by decide +kernel
theorem dL_law_1090 : decode cL_law 1090 = .ok (.invokevirtual 166, 3) := by decide +kernel
theorem dL_law_1093 : decode cL_law 1093 = .ok (.istore 7, 2) := by decide +kernel
theorem dL_law_1095 : decode cL_law 1095 = .ok (.aload_n 2, 1) := by decide +kernel
theorem dL_law_1096 : decode cL_law 1096 = .ok (.invokevirtual 111, 3) := by decide +kernel
theorem dL_law_1099 : decode cL_law 1099 = .ok (.iload 6, 2) := by decide +kernel
theorem dL_law_1101 : decode cL_law 1101 = .ok (.if_icmp .eq 5, 3) := by decide +kernel
theorem dL_law_1106 : decode cL_law 1106 = .ok (.iload 6, 2) := by decide +kernel
theorem dL_law_1108 : decode cL_law 1108 = .ok (.ifCond .ne 15, 3) := by decide +kernel
theorem dL_law_1123 : decode cL_law 1123 = .ok (.goto 802, 3) := by decide +kernel
theorem dL_law_1111 : decode cL_law 1111 = .ok (.aload_n 3, 1) := by decide +kernel
theorem dL_law_1112 : decode cL_law 1112 = .ok (.iconst 0, 1) := by decide +kernel
theorem dL_law_1113 : decode cL_law 1113 = .ok (.laload, 1) := by decide +kernel
theorem dL_law_1114 : decode cL_law 1114 = .ok (.iload 7, 2) := by decide +kernel
theorem dL_law_1116 : decode cL_law 1116 = .ok (.i2l, 1) := by decide +kernel
theorem dL_law_1117 : decode cL_law 1117 = .ok (.lcmp, 1) := by decide +kernel
theorem dL_law_1118 : decode cL_law 1118 = .ok (.ifCond .eq 5, 3) := by decide +kernel
theorem dL_law_1121 : decode cL_law 1121 = .ok (.iconst 0, 1) := by decide +kernel
theorem dL_law_1122 : decode cL_law 1122 = .ok (.ireturn, 1) := by decide +kernel
theorem dL_law_1104 : decode cL_law 1104 = .ok (.iconst 0, 1) := by decide +kernel
theorem dL_law_1105 : decode cL_law 1105 = .ok (.ireturn, 1) := by decide +kernel
set_option maxRecDepth 100000 in
set_option maxHeartbeats 4000000 in
theorem wk_law_1070 {Z : ZT} {b L : Nat} {xs : Nat → Int32} (hC : CX Z cL_law RL 10 room_1) (hX : SX Z b L xs) (hEnd : EL Z) {k0 n0 : Nat} (hk : k0 + 40 ≤ 601024) (hn : n0 + 400 ≤ 7293034) (r1 r2 r3 r4 : Option Nat) (i5 : Int32) (S0 : PH) (K : Int32 → PH → Prop) (hK : ∀ i S, K i S → PX Z 10 S (k0 + 40) (n0 + 400) 28 [(0, va_rf (some b)), (1, va_rf r1), (2, va_rf r2), (3, va_rf r3), (4, va_rf r4), (5, .int i)] []) (h : wc_law_1070 xs L r1 r2 r3 r4 i5 S0 K) : PX Z 10 S0 k0 n0 1070 [(0, va_rf (some b)), (1, va_rf r1), (2, va_rf r2), (3, va_rf r3), (4, va_rf r4), (5, .int i5)] [] := by
  refine x_wid (k' := k0 + 0) (n' := n0 + 0) (Nat.le_refl _) (Nat.le_refl _) ?_
  unfold wc_law_1070 at h
  refine x_aload_n (i := 1) hC dL_law_1070 rfl 1 rfl ?_
  refine x_aload_n (i := 0) hC dL_law_1071 rfl 0 rfl ?_
  refine x_iload (i := 5) hC dL_law_1072 5 rfl ?_
  refine x_iconst (v := (1 : Int32)) hC dL_law_1074 (by decide) ?_
  refine x_iadd hC dL_law_1075 ?_
  obtain ⟨hc1, h⟩ := h
  refine x_sld hC hX hc1 dL_law_1076 ?_
  refine x_aload_n (i := 3) hC dL_law_1077 rfl 3 rfl ?_
  refine x_callSX hC (st := []) (mt_L_keep _ _ _ _ _ h) q_742 q_743 q_0 q_744 hy_L_keep ⟨Nat.le_of_ble_eq_true rfl, Nat.le_of_ble_eq_true rfl⟩ ⟨(show k0 + 0 + 22 ≤ 601024 from by omega), (show n0 + 0 + 179 ≤ 7293034 from by omega)⟩ rfl (Nat.le_of_ble_eq_true rfl) dL_law_1078 (r_W (fun v2 S3 h => ?_)) (r_Wx (fun _ _ h => (wq_l h).elim))
  replace h := wq_r h
  show PX Z 10 S3 (k0 + 22) (n0 + 179) 1081 [(0, va_rf (some b)), (1, va_rf r1), (2, va_rf r2), (3, va_rf r3), (4, va_rf r4), (5, .int i5)] [.int v2]
  refine x_istore (i := 6) (l' := [(6, .int v2), (0, va_rf (some b)), (1, va_rf r1), (2, va_rf r2), (3, va_rf r3), (4, va_rf r4), (5, .int i5)]) hC dL_law_1081 (⟨fun _ => c_rf (some b), ⟨fun _ => c_rf r1, ⟨fun _ => c_rf r2, ⟨fun _ => c_rf r3, ⟨fun _ => c_rf r4, ⟨fun _ => rfl, trivial⟩⟩⟩⟩⟩⟩) (by decide) rfl ?_
  refine x_aload_n (i := 2) hC dL_law_1083 rfl 3 rfl ?_
  refine x_aload_n (i := 0) hC dL_law_1084 rfl 1 rfl ?_
  refine x_iload (i := 5) hC dL_law_1085 6 rfl ?_
  refine x_iconst (v := (1 : Int32)) hC dL_law_1087 (by decide) ?_
  refine x_iadd hC dL_law_1088 ?_
  obtain ⟨hc6, h⟩ := h
  refine x_sld hC hX hc6 dL_law_1089 ?_
  obtain ⟨a7, ea8, ha9, h⟩ := h
  obtain ⟨v10, S11, hb12, h⟩ := h
  refine x_callV hC (st := []) (mt_X5_keep _ _ _ _ hb12) ea8 ha9 kf_5 q_1111 q_1112 q_1113 q_7 q_1114 ⟨rfl, hy_X5_keep⟩ ⟨Nat.le_of_ble_eq_true rfl, Nat.le_of_ble_eq_true rfl⟩ ⟨(show k0 + 22 + 0 ≤ 601024 from by omega), (show n0 + 179 + 0 ≤ 7293034 from by omega)⟩ rfl (Nat.le_of_ble_eq_true rfl) dL_law_1090 (r_N ?_) r_NX
  show PX Z 10 S11 (k0 + 22) (n0 + 179) 1093 [(6, .int v2), (0, va_rf (some b)), (1, va_rf r1), (2, va_rf r2), (3, va_rf r3), (4, va_rf r4), (5, .int i5)] [.int v10]
  refine x_istore (i := 7) (l' := [(7, .int v10), (6, .int v2), (0, va_rf (some b)), (1, va_rf r1), (2, va_rf r2), (3, va_rf r3), (4, va_rf r4), (5, .int i5)]) hC dL_law_1093 (⟨fun _ => rfl, ⟨fun _ => c_rf (some b), ⟨fun _ => c_rf r1, ⟨fun _ => c_rf r2, ⟨fun _ => c_rf r3, ⟨fun _ => c_rf r4, ⟨fun _ => rfl, trivial⟩⟩⟩⟩⟩⟩⟩) (by decide) rfl ?_
  refine x_aload_n (i := 2) hC dL_law_1095 rfl 4 rfl ?_
  obtain ⟨a13, ea14, ha15, h⟩ := h
  obtain ⟨v16, S17, hb18, h⟩ := h
  refine x_callV hC (st := []) (mt_X5_thrown _ _ _ hb18) ea14 ha15 kf_5 q_904 q_905 q_906 q_7 q_907 ⟨rfl, hy_X5_thrown⟩ ⟨Nat.le_of_ble_eq_true rfl, Nat.le_of_ble_eq_true rfl⟩ ⟨(show k0 + 22 + 0 ≤ 601024 from by omega), (show n0 + 179 + 0 ≤ 7293034 from by omega)⟩ rfl (Nat.le_of_ble_eq_true rfl) dL_law_1096 (r_N ?_) r_NX
  show PX Z 10 S17 (k0 + 22) (n0 + 179) 1099 [(7, .int v10), (6, .int v2), (0, va_rf (some b)), (1, va_rf r1), (2, va_rf r2), (3, va_rf r3), (4, va_rf r4), (5, .int i5)] [.int v16]
  refine x_iload (i := 6) hC dL_law_1099 1 rfl ?_
  refine x_icmp_eq (t := 1106) hC dL_law_1101 (by decide) (fun c19 => ?_) (fun c19 => ?_)
  · replace h := wit_t c19 h
    refine x_iload (i := 6) hC dL_law_1106 1 rfl ?_
    refine x_if_ne (t := 1123) hC dL_law_1108 (by decide) (fun c20 => ?_) (fun c20 => ?_)
    · replace h := wit_f c20 h
      refine x_goto (t := 1925) hC dL_law_1123 (by decide) ?_
      refine x_iinc (i := 5) (v := (i5 + (4 : Int32))) (l' := [(5, .int (i5 + (4 : Int32))), (7, .int v10), (6, .int v2), (0, va_rf (some b)), (1, va_rf r1), (2, va_rf r2), (3, va_rf r3), (4, va_rf r4)]) hC dL_law_1925 7 rfl rfl (⟨fun _ => rfl, ⟨fun _ => rfl, ⟨fun _ => c_rf (some b), ⟨fun _ => c_rf r1, ⟨fun _ => c_rf r2, ⟨fun _ => c_rf r3, ⟨fun _ => c_rf r4, ⟨fun _ => rfl, trivial⟩⟩⟩⟩⟩⟩⟩⟩) (by decide) rfl ?_
      refine x_goto (t := 28) hC dL_law_1928 (by decide) ?_
      refine x_sub (l' := [(0, va_rf (some b)), (1, va_rf r1), (2, va_rf r2), (3, va_rf r3), (4, va_rf r4), (5, .int (i5 + (4 : Int32)))]) [3, 4, 5, 6, 7, 0] rfl ?_
      refine x_wid (k' := k0 + 40) (n' := n0 + 400) (by omega) (by omega) ?_
      exact hK _ _ h
    · replace h := wit_t c20 h
      refine x_aload_n (i := 3) hC dL_law_1111 rfl 5 rfl ?_
      refine x_iconst (v := (0 : Int32)) hC dL_law_1112 (by decide) ?_
      obtain ⟨a21, ea22, ha23, h⟩ := h
      obtain ⟨hc24, h⟩ := h
      refine x_laload hC ea22 ha23 hc24 dL_law_1113 ?_
      refine x_tJ (b := (p_J S17 a21 0)) rfl ?_
      refine x_iload (i := 7) hC dL_law_1114 0 rfl ?_
      refine x_i2l hC dL_law_1116 ?_
      refine x_lcmp hC dL_law_1117 ?_
      refine x_if_eq (t := 1123) hC dL_law_1118 (by decide) (fun c25 => ?_) (fun c25 => ?_)
      · replace h := wit_t c25 h
        refine x_goto (t := 1925) hC dL_law_1123 (by decide) ?_
        refine x_iinc (i := 5) (v := (i5 + (4 : Int32))) (l' := [(5, .int (i5 + (4 : Int32))), (7, .int v10), (6, .int v2), (0, va_rf (some b)), (1, va_rf r1), (2, va_rf r2), (3, va_rf r3), (4, va_rf r4)]) hC dL_law_1925 7 rfl rfl (⟨fun _ => rfl, ⟨fun _ => rfl, ⟨fun _ => c_rf (some b), ⟨fun _ => c_rf r1, ⟨fun _ => c_rf r2, ⟨fun _ => c_rf r3, ⟨fun _ => c_rf r4, ⟨fun _ => rfl, trivial⟩⟩⟩⟩⟩⟩⟩⟩) (by decide) rfl ?_
        refine x_goto (t := 28) hC dL_law_1928 (by decide) ?_
        refine x_sub (l' := [(0, va_rf (some b)), (1, va_rf r1), (2, va_rf r2), (3, va_rf r3), (4, va_rf r4), (5, .int (i5 + (4 : Int32)))]) [3, 4, 5, 6, 7, 0] rfl ?_
        refine x_wid (k' := k0 + 40) (n' := n0 + 400) (by omega) (by omega) ?_
        exact hK _ _ h
      · replace h := wit_f c25 h
        refine x_iconst (v := (0 : Int32)) hC dL_law_1121 (by decide) ?_
        refine x_tI (show (0 : Int32) = (1 : Int32) from h) ?_
        exact hEnd _ _ _ _ _ (by omega) (by omega) dL_law_1122
  · replace h := wit_f c19 h
    refine x_iconst (v := (0 : Int32)) hC dL_law_1104 (by decide) ?_
    refine x_tI (show (0 : Int32) = (1 : Int32) from h) ?_
    exact hEnd _ _ _ _ _ (by omega) (by omega) dL_law_1105
