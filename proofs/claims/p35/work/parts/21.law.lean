/-! THE LAW: its start, and one round of its loop -/
def EL (Z : ZT) : Prop := ∀ (S : PH) (k n pc : Nat) (l : List (Nat × Value)), k ≤ 600130 → n ≤ 7301080 → decode cL_law pc = .ok (.ireturn, 1) → PX Z 18 S k n pc l [.int 1]
def wj_L_law_489 (xs : Nat → Int32) (L : Nat) (K : Option Nat → Int32 → Int32 → PH → Prop) (v2 : Option Nat) (v3 : Int32) (S4 : PH) : Prop := if v3 = 0 then ((0 : Int32) = (1 : Int32)) else (wbt (m_L_holds v2 S4) (fun v6 S7 => if v6 = 0 then ((0 : Int32) = (1 : Int32)) else ((1 : Int32) = (1 : Int32))) (fun j8 S9 => False))
def wj_L_law_454 (xs : Nat → Int32) (L : Nat) (K : Option Nat → Int32 → Int32 → PH → Prop) (v119 : Option Nat) (v120 : Int32) (S121 : PH) : Prop := if (v120 - v120 / (9 : Int32) * (9 : Int32)) = (7 : Int32) then (wdr S121 4 v119 fun a123 => w_X4_keep v119 (0 : Int32) S121 (wq (fun v126 S127 => wdr S127 4 v119 fun a130 => wbt (m_X4_count v119 (0 : Int32) S127) (fun v133 S134 => if v126 = v133 then (K v119 (1 : Int32) (v120 + (1 : Int32)) S134) else (K v119 (0 : Int32) (v120 + (1 : Int32)) S134)) (fun j135 S136 => False)) (fun j128 S129 => False))) else (K v119 (1 : Int32) (v120 + (1 : Int32)) S121)
def wj_L_law_426 (xs : Nat → Int32) (L : Nat) (K : Option Nat → Int32 → Int32 → PH → Prop) (v114 : Option Nat) (v115 : Int32) (v116 : Int32) (S117 : PH) : Prop := if (v115 - v115 / (5 : Int32) * (5 : Int32)) = (2 : Int32) then (wdr S117 4 v114 fun a139 => wbt (m_X4_count v114 (0 : Int32) S117) (fun v142 S143 => wbd (m_L_up (v116 >>> ((9 : Int32) &&& 31)) v142 S143) fun v146 S147 => wbt (m_L_isAhead v114 v146 S147) (fun v149 S150 => if v149 = 0 then (K v114 (0 : Int32) (v115 + (1 : Int32)) S150) else (wj_L_law_454 xs L K v114 v115 S150)) (fun j151 S152 => False)) (fun j144 S145 => False)) else (wj_L_law_454 xs L K v114 v115 S117)
def wj_L_law_408 (xs : Nat → Int32) (L : Nat) (K : Option Nat → Int32 → Int32 → PH → Prop) (v107 : Option Nat) (v108 : Int32) (v109 : Int32) (v110 : Int32) (S111 : PH) : Prop := if v108 = 0 then (K v107 (0 : Int32) (v109 + (1 : Int32)) S111) else (if 0 < (v109 - v109 / (3 : Int32) * (3 : Int32)) then (wj_L_law_426 xs L K v107 v109 v110 S111) else (wbt (m_L_holds v107 S111) (fun v156 S157 => if v156 = 0 then (K v107 (0 : Int32) (v109 + (1 : Int32)) S157) else (wj_L_law_426 xs L K v107 v109 v110 S157)) (fun j158 S159 => False)))
def wj_L_law_387 (xs : Nat → Int32) (L : Nat) (K : Option Nat → Int32 → Int32 → PH → Prop) (v197 : Option Nat) (v198 : Int32) (v199 : Int32) (v200 : Int32) (v201 : Int64) (v202 : Int32) (S203 : PH) : Prop := if v202 = v200 then (wbt (m_L_looks v197 S203) (fun v205 S206 => if (lg_cmp v205 v201) = 0 then (wj_L_law_408 xs L K v197 (1 : Int32) v198 v199 S206) else (wj_L_law_408 xs L K v197 (0 : Int32) v198 v199 S206)) (fun j207 S208 => False)) else (wj_L_law_408 xs L K v197 (0 : Int32) v198 v199 S203)
def wj_L_law_306 (xs : Nat → Int32) (L : Nat) (K : Option Nat → Int32 → Int32 → PH → Prop) (v96 : Option Nat) (v97 : Int32) (v98 : Int32) (v99 : Int32) (v100 : Int64) (v101 : Int32) (v102 : Int32) (v103 : Int32) (v104 : Int32) (S105 : PH) : Prop := if v104 = 0 then (wj_L_law_408 xs L K v96 v104 v97 v98 S105) else (if ((v98 >>> ((8 : Int32) &&& 31)) &&& (3 : Int32)) = 0 then (wbt (m_L_looks v96 S105) (fun v163 S164 => wdr S164 4 v96 fun a167 => wbt (m_X4_count v96 (11 : Int32) S164) (fun v170 S171 => wle (v170 - (1 : Int32)) fun x174 => wdr S171 4 v96 fun a176 => wbt (m_X4_undo v96 S171) (fun v179 S180 => if v179 = x174 then (wbt (m_L_looks v96 S180) (fun v184 S185 => if (lg_cmp v184 v100) = 0 then (wbd (m_L_up v98 (16 : Int32) S185) fun v189 S190 => if v189 ≤ (13 : Int32) then (w_L_act v96 v98 v99 S190 (wq (fun v193 S194 => wj_L_law_387 xs L K v96 v97 v98 v103 v163 v193 S194) (fun j195 S196 => False))) else (wdr S190 4 v96 fun a211 => w_X4_take v96 v101 v102 S190 (wq (fun v214 S215 => wj_L_law_387 xs L K v96 v97 v98 v103 v163 v214 S215) (fun j216 S217 => False)))) else (wj_L_law_408 xs L K v96 (0 : Int32) v97 v98 S185)) (fun j186 S187 => False)) else (wj_L_law_408 xs L K v96 (0 : Int32) v97 v98 S180)) (fun j181 S182 => False)) (fun j172 S173 => False)) (fun j165 S166 => False)) else (wj_L_law_408 xs L K v96 v104 v97 v98 S105))
def wj_L_law_264 (xs : Nat → Int32) (L : Nat) (K : Option Nat → Int32 → Int32 → PH → Prop) (v231 : Option Nat) (v232 : Int32) (v233 : Int32) (v234 : Int32) (v235 : Int64) (v236 : Int32) (v237 : Int32) (v238 : Int32) (v239 : Int32) (v240 : Int32) (v241 : Int32) (v242 : Int32) (S243 : PH) : Prop := if v241 = v242 then (wbd (m_L_up v233 (16 : Int32) S243) fun v245 S246 => if v245 < (14 : Int32) then (wj_L_law_306 xs L K v231 v232 v233 v234 v235 v236 v237 v240 (1 : Int32) S246) else (if v240 = v238 then (if 0 < v240 then (wj_L_law_306 xs L K v231 v232 v233 v234 v235 v236 v237 v240 (1 : Int32) S246) else (wdr S246 4 v231 fun a251 => wbt (m_X4_most v231 (0 : Int32) S246) (fun v254 S255 => if v239 ≤ v254 then (wj_L_law_306 xs L K v231 v232 v233 v234 v235 v236 v237 v240 (0 : Int32) S255) else (wj_L_law_306 xs L K v231 v232 v233 v234 v235 v236 v237 v240 (1 : Int32) S255)) (fun j256 S257 => False))) else (wj_L_law_306 xs L K v231 v232 v233 v234 v235 v236 v237 v240 (0 : Int32) S246))) else (wj_L_law_306 xs L K v231 v232 v233 v234 v235 v236 v237 v240 (0 : Int32) S243)
def wj_L_law_231 (xs : Nat → Int32) (L : Nat) (K : Option Nat → Int32 → Int32 → PH → Prop) (v82 : Option Nat) (v83 : Int32) (v84 : Int32) (v85 : Int32) (v86 : Int32) (v87 : Int64) (v88 : Int32) (v89 : Int32) (v90 : Int32) (v91 : Int32) (v92 : Int32) (v93 : Int32) (S94 : PH) : Prop := if v83 = 0 then (wj_L_law_306 xs L K v82 v84 v85 v86 v87 v89 v90 v93 (0 : Int32) S94) else (if v93 < 0 then (wj_L_law_306 xs L K v82 v84 v85 v86 v87 v89 v90 v93 (0 : Int32) S94) else (wdr S94 4 v82 fun a223 => wbt (m_X4_count v82 (11 : Int32) S94) (fun v226 S227 => if (6 : Int32) ≤ v88 then (wj_L_law_264 xs L K v82 v84 v85 v86 v87 v89 v90 v91 v92 v93 v226 (6 : Int32) S227) else (wj_L_law_264 xs L K v82 v84 v85 v86 v87 v89 v90 v91 v92 v93 v226 (v88 + (1 : Int32)) S227)) (fun j228 S229 => False)))
def wj_L_law_199 (xs : Nat → Int32) (L : Nat) (K : Option Nat → Int32 → Int32 → PH → Prop) (v62 : Option Nat) (v63 : Int32) (v64 : Int32) (v65 : Int32) (v66 : Int64) (v67 : Int32) (v68 : Int32) (v69 : Int32) (v70 : Int32) (v71 : Int32) (v72 : Int32) (S73 : PH) : Prop := wbd (m_L_up v64 (16 : Int32) S73) fun v74 S75 => if v74 ≤ (13 : Int32) then (w_L_act v62 v64 v65 S75 (wq (fun v78 S79 => wj_L_law_231 xs L K v62 v72 v63 v64 v65 v66 v67 v68 v69 v70 v71 v78 S79) (fun j80 S81 => False))) else (wdr S75 4 v62 fun a261 => w_X4_take v62 v68 v69 S75 (wq (fun v264 S265 => wj_L_law_231 xs L K v62 v72 v63 v64 v65 v66 v67 v68 v69 v70 v71 v264 S265) (fun j266 S267 => False)))
def w_law_round (xs : Nat → Int32) (L : Nat) (r1 : Option Nat) (i3 i4 : Int32) (S0 : PH) (K : Option Nat → Int32 → Int32 → PH → Prop) : Prop := if (40 : Int32) ≤ i4 then (wj_L_law_489 xs L K r1 i3 S0) else (if i3 = 0 then (wj_L_law_489 xs L K r1 i3 S0) else (wbd (m_L_cell xs L ((2 : Int32) * i4) S0) fun v13 S14 => wbd (m_L_cell xs L (((2 : Int32) * i4) + (1 : Int32)) S14) fun v16 S17 => wbt (m_L_looks r1 S17) (fun v19 S20 => wdr S20 4 r1 fun a23 => wbt (m_X4_count r1 (11 : Int32) S20) (fun v26 S27 => wbd (m_L_up v16 (8 : Int32) S27) fun v30 S31 => wdr S31 4 r1 fun a33 => wbt (m_X4_count r1 (0 : Int32) S31) (fun v36 S37 => wbd (m_L_up (v16 >>> ((3 : Int32) &&& 31)) v36 S37) fun v40 S41 => wdr S41 4 r1 fun a43 => wbt (m_X4_whyNot r1 v30 v40 S41) (fun v46 S47 => wdr S47 4 r1 fun a50 => wbt (m_X4_most r1 (0 : Int32) S47) (fun v53 S54 => wbt (m_L_looks r1 S54) (fun v57 S58 => if (lg_cmp v57 v19) = 0 then (wj_L_law_199 xs L K r1 i4 v13 v16 v19 v26 v30 v40 v46 v53 (1 : Int32) S58) else (wj_L_law_199 xs L K r1 i4 v13 v16 v19 v26 v30 v40 v46 v53 (0 : Int32) S58)) (fun j59 S60 => False)) (fun j55 S56 => False)) (fun j48 S49 => False)) (fun j38 S39 => False)) (fun j28 S29 => False)) (fun j21 S22 => False)))
theorem dL_law_97 : decode cL_law 97 = .ok (.iload 4, 2) := by decide +kernel
theorem dL_law_99 : decode cL_law 99 = .ok (.bipush 40, 2) := by decide +kernel
theorem dL_law_101 : decode cL_law 101 = .ok (.if_icmp .ge 388, 3) := by decide +kernel
theorem dL_law_104 : decode cL_law 104 = .ok (.iload_n 3, 1) := by decide +kernel
theorem dL_law_105 : decode cL_law 105 = .ok (.ifCond .eq 384, 3) := by decide +kernel
theorem dL_law_108 : decode cL_law 108 = .ok (.aload_n 0, 1) := by decide +kernel
theorem dL_law_109 : decode cL_law 109 = .ok (.iconst 2, 1) := by decide +kernel
theorem dL_law_110 : decode cL_law 110 = .ok (.iload 4, 2) := by decide +kernel
theorem dL_law_112 : decode cL_law 112 = .ok (.imul, 1) := by decide +kernel
theorem dL_law_113 : decode cL_law 113 = .ok (.invokestatic 101, 3) := by decide +kernel
theorem dL_law_116 : decode cL_law 116 = .ok (.istore 5, 2) := by decide +kernel
theorem dL_law_118 : decode cL_law 118 = .ok (.aload_n 0, 1) := by decide +kernel
theorem dL_law_119 : decode cL_law 119 = .ok (.iconst 2, 1) := by decide +kernel
theorem dL_law_120 : decode cL_law 120 = .ok (.iload 4, 2) := by decide +kernel
theorem dL_law_122 : decode cL_law 122 = .ok (.imul, 1) := by decide +kernel
theorem dL_law_123 : decode cL_law 123 = .ok (.iconst 1, 1) := by decide +kernel
theorem dL_law_124 : decode cL_law 124 = .ok (.iadd, 1) := by decide +kernel
theorem dL_law_125 : decode cL_law 125 = .ok (.invokestatic 101, 3) := by decide +kernel
theorem dL_law_128 : decode cL_law 128 = .ok (.istore 6, 2) := by decide +kernel
theorem dL_law_130 : decode cL_law 130 = .ok (.aload_n 1, 1) := by decide +kernel
theorem dL_law_131 : decode cL_law 131 = .ok (.invokestatic 112, 3) := by decide +kernel
theorem dL_law_134 : decode cL_law 134 = .ok (.lstore 7, 2) := by decide +kernel
theorem dL_law_136 : decode cL_law 136 = .ok (.aload_n 1, 1) := by decide +kernel
theorem dL_law_137 : decode cL_law 137 = .ok (.bipush 11, 2) := by decide +kernel
theorem dL_law_139 : decode cL_law 139 = .ok (.invokevirtual 13, 3) := by decide +kernel
theorem dL_law_142 : decode cL_law 142 = .ok (.istore 9, 2) := by decide +kernel
theorem dL_law_144 : decode cL_law 144 = .ok (.iload 6, 2) := by decide +kernel
theorem dL_law_146 : decode cL_law 146 = .ok (.bipush 8, 2) := by decide +kernel
theorem dL_law_148 : decode cL_law 148 = .ok (.invokestatic 32, 3) := by decide +kernel
theorem dL_law_151 : decode cL_law 151 = .ok (.istore 10, 2) := by decide +kernel
theorem dL_law_153 : decode cL_law 153 = .ok (.iload 6, 2) := by decide +kernel
theorem dL_law_155 : decode cL_law 155 = .ok (.iconst 3, 1) := by decide +kernel
theorem dL_law_156 : decode cL_law 156 = .ok (.ishr, 1) := by decide +kernel
theorem dL_law_157 : decode cL_law 157 = .ok (.aload_n 1, 1) := by decide +kernel
theorem dL_law_158 : decode cL_law 158 = .ok (.iconst 0, 1) := by decide +kernel
theorem dL_law_159 : decode cL_law 159 = .ok (.invokevirtual 13, 3) := by decide +kernel
theorem dL_law_162 : decode cL_law 162 = .ok (.invokestatic 32, 3) := by decide +kernel
theorem dL_law_165 : decode cL_law 165 = .ok (.istore 11, 2) := by decide +kernel
theorem dL_law_167 : decode cL_law 167 = .ok (.aload_n 1, 1) := by decide +kernel
theorem dL_law_168 : decode cL_law 168 = .ok (.iload 10, 2) := by decide +kernel
theorem dL_law_170 : decode cL_law 170 = .ok (.iload 11, 2) := by decide +kernel
theorem dL_law_172 : decode cL_law 172 = .ok (.invokevirtual 97, 3) := by decide +kernel
theorem dL_law_175 : decode cL_law 175 = .ok (.istore 12, 2) := by decide +kernel
theorem dL_law_177 : decode cL_law 177 = .ok (.aload_n 1, 1) := by decide +kernel
theorem dL_law_178 : decode cL_law 178 = .ok (.iconst 0, 1) := by decide +kernel
theorem dL_law_179 : decode cL_law 179 = .ok (.invokevirtual 91, 3) := by decide +kernel
theorem dL_law_182 : decode cL_law 182 = .ok (.istore 13, 2) := by decide +kernel
theorem dL_law_184 : decode cL_law 184 = .ok (.aload_n 1, 1) := by decide +kernel
theorem dL_law_185 : decode cL_law 185 = .ok (.invokestatic 112, 3) := by decide +kernel
theorem dL_law_188 : decode cL_law 188 = .ok (.lload 7, 2) := by decide +kernel
theorem dL_law_190 : decode cL_law 190 = .ok (.lcmp, 1) := by decide +kernel
theorem dL_law_191 : decode cL_law 191 = .ok (.ifCond .ne 7, 3) := by decide +kernel
theorem dL_law_194 : decode cL_law 194 = .ok (.iconst 1, 1) := by decide +kernel
theorem dL_law_195 : decode cL_law 195 = .ok (.goto 4, 3) := by decide +kernel
theorem dL_law_198 : decode cL_law 198 = .ok (.iconst 0, 1) := by decide +kernel
theorem dL_law_199 : decode cL_law 199 = .ok (.istore_n 3, 1) := by decide +kernel
theorem dL_law_200 : decode cL_law 200 = .ok (.iload 5, 2) := by decide +kernel
theorem dL_law_202 : decode cL_law 202 = .ok (.bipush 16, 2) := by decide +kernel
theorem dL_law_204 : decode cL_law 204 = .ok (.invokestatic 32, 3) := by decide +kernel
theorem dL_law_207 : decode cL_law 207 = .ok (.bipush 13, 2) := by decide +kernel
theorem dL_law_209 : decode cL_law 209 = .ok (.if_icmp .le 14, 3) := by decide +kernel
theorem dL_law_212 : decode cL_law 212 = .ok (.aload_n 1, 1) := by decide +kernel
theorem dL_law_213 : decode cL_law 213 = .ok (.iload 10, 2) := by decide +kernel
theorem dL_law_215 : decode cL_law 215 = .ok (.iload 11, 2) := by decide +kernel
theorem dL_law_217 : decode cL_law 217 = .ok (.invokevirtual 62, 3) := by decide +kernel
theorem dL_law_220 : decode cL_law 220 = .ok (.goto 11, 3) := by decide +kernel
theorem dL_law_223 : decode cL_law 223 = .ok (.aload_n 1, 1) := by decide +kernel
theorem dL_law_224 : decode cL_law 224 = .ok (.iload 5, 2) := by decide +kernel
theorem dL_law_226 : decode cL_law 226 = .ok (.iload 6, 2) := by decide +kernel
theorem dL_law_228 : decode cL_law 228 = .ok (.invokestatic 116, 3) := by decide +kernel
theorem dL_law_231 : decode cL_law 231 = .ok (.istore 14, 2) := by decide +kernel
theorem dL_law_233 : decode cL_law 233 = .ok (.iload_n 3, 1) := by decide +kernel
theorem dL_law_234 : decode cL_law 234 = .ok (.ifCond .eq 71, 3) := by decide +kernel
theorem dL_law_237 : decode cL_law 237 = .ok (.iload 14, 2) := by decide +kernel
theorem dL_law_239 : decode cL_law 239 = .ok (.ifCond .lt 66, 3) := by decide +kernel
theorem dL_law_242 : decode cL_law 242 = .ok (.aload_n 1, 1) := by decide +kernel
theorem dL_law_243 : decode cL_law 243 = .ok (.bipush 11, 2) := by decide +kernel
theorem dL_law_245 : decode cL_law 245 = .ok (.invokevirtual 13, 3) := by decide +kernel
theorem dL_law_248 : decode cL_law 248 = .ok (.iload 9, 2) := by decide +kernel
theorem dL_law_250 : decode cL_law 250 = .ok (.bipush 6, 2) := by decide +kernel
theorem dL_law_252 : decode cL_law 252 = .ok (.if_icmp .ge 10, 3) := by decide +kernel
theorem dL_law_255 : decode cL_law 255 = .ok (.iload 9, 2) := by decide +kernel
theorem dL_law_257 : decode cL_law 257 = .ok (.iconst 1, 1) := by decide +kernel
theorem dL_law_258 : decode cL_law 258 = .ok (.iadd, 1) := by decide +kernel
theorem dL_law_259 : decode cL_law 259 = .ok (.goto 5, 3) := by decide +kernel
theorem dL_law_262 : decode cL_law 262 = .ok (.bipush 6, 2) := by decide +kernel
theorem dL_law_264 : decode cL_law 264 = .ok (.if_icmp .ne 41, 3) := by decide +kernel
theorem dL_law_267 : decode cL_law 267 = .ok (.iload 5, 2) := by decide +kernel
theorem dL_law_269 : decode cL_law 269 = .ok (.bipush 16, 2) := by decide +kernel
theorem dL_law_271 : decode cL_law 271 = .ok (.invokestatic 32, 3) := by decide +kernel
theorem dL_law_274 : decode cL_law 274 = .ok (.bipush 14, 2) := by decide +kernel
theorem dL_law_276 : decode cL_law 276 = .ok (.if_icmp .lt 25, 3) := by decide +kernel
theorem dL_law_279 : decode cL_law 279 = .ok (.iload 14, 2) := by decide +kernel
theorem dL_law_281 : decode cL_law 281 = .ok (.iload 12, 2) := by decide +kernel
theorem dL_law_283 : decode cL_law 283 = .ok (.if_icmp .ne 22, 3) := by decide +kernel
theorem dL_law_286 : decode cL_law 286 = .ok (.iload 14, 2) := by decide +kernel
theorem dL_law_288 : decode cL_law 288 = .ok (.ifCond .gt 13, 3) := by decide +kernel
theorem dL_law_291 : decode cL_law 291 = .ok (.aload_n 1, 1) := by decide +kernel
theorem dL_law_292 : decode cL_law 292 = .ok (.iconst 0, 1) := by decide +kernel
theorem dL_law_293 : decode cL_law 293 = .ok (.invokevirtual 91, 3) := by decide +kernel
theorem dL_law_296 : decode cL_law 296 = .ok (.iload 13, 2) := by decide +kernel
theorem dL_law_298 : decode cL_law 298 = .ok (.if_icmp .ge 7, 3) := by decide +kernel
theorem dL_law_301 : decode cL_law 301 = .ok (.iconst 1, 1) := by decide +kernel
theorem dL_law_302 : decode cL_law 302 = .ok (.goto 4, 3) := by decide +kernel
theorem dL_law_305 : decode cL_law 305 = .ok (.iconst 0, 1) := by decide +kernel
theorem dL_law_306 : decode cL_law 306 = .ok (.istore_n 3, 1) := by decide +kernel
theorem dL_law_307 : decode cL_law 307 = .ok (.iload_n 3, 1) := by decide +kernel
theorem dL_law_308 : decode cL_law 308 = .ok (.ifCond .eq 100, 3) := by decide +kernel
theorem dL_law_311 : decode cL_law 311 = .ok (.iload 5, 2) := by decide +kernel
theorem dL_law_313 : decode cL_law 313 = .ok (.bipush 8, 2) := by decide +kernel
theorem dL_law_315 : decode cL_law 315 = .ok (.ishr, 1) := by decide +kernel
theorem dL_law_316 : decode cL_law 316 = .ok (.iconst 3, 1) := by decide +kernel
theorem dL_law_317 : decode cL_law 317 = .ok (.iand, 1) := by decide +kernel
theorem dL_law_318 : decode cL_law 318 = .ok (.ifCond .ne 90, 3) := by decide +kernel
theorem dL_law_321 : decode cL_law 321 = .ok (.aload_n 1, 1) := by decide +kernel
theorem dL_law_322 : decode cL_law 322 = .ok (.invokestatic 112, 3) := by decide +kernel
theorem dL_law_325 : decode cL_law 325 = .ok (.lstore 15, 2) := by decide +kernel
theorem dL_law_327 : decode cL_law 327 = .ok (.aload_n 1, 1) := by decide +kernel
theorem dL_law_328 : decode cL_law 328 = .ok (.bipush 11, 2) := by decide +kernel
theorem dL_law_330 : decode cL_law 330 = .ok (.invokevirtual 13, 3) := by decide +kernel
theorem dL_law_333 : decode cL_law 333 = .ok (.iconst 1, 1) := by decide +kernel
theorem dL_law_334 : decode cL_law 334 = .ok (.isub, 1) := by decide +kernel
theorem dL_law_335 : decode cL_law 335 = .ok (.istore 17, 2) := by decide +kernel
theorem dL_law_337 : decode cL_law 337 = .ok (.aload_n 1, 1) := by decide +kernel
theorem dL_law_338 : decode cL_law 338 = .ok (.invokevirtual 120, 3) := by decide +kernel
theorem dL_law_341 : decode cL_law 341 = .ok (.iload 17, 2) := by decide +kernel
theorem dL_law_343 : decode cL_law 343 = .ok (.if_icmp .ne 63, 3) := by decide +kernel
theorem dL_law_346 : decode cL_law 346 = .ok (.aload_n 1, 1) := by decide +kernel
theorem dL_law_347 : decode cL_law 347 = .ok (.invokestatic 112, 3) := by decide +kernel
theorem dL_law_350 : decode cL_law 350 = .ok (.lload 7, 2) := by decide +kernel
theorem dL_law_352 : decode cL_law 352 = .ok (.lcmp, 1) := by decide +kernel
theorem dL_law_353 : decode cL_law 353 = .ok (.ifCond .ne 53, 3) := by decide +kernel
theorem dL_law_356 : decode cL_law 356 = .ok (.iload 5, 2) := by decide +kernel
theorem dL_law_358 : decode cL_law 358 = .ok (.bipush 16, 2) := by decide +kernel
theorem dL_law_360 : decode cL_law 360 = .ok (.invokestatic 32, 3) := by decide +kernel
theorem dL_law_363 : decode cL_law 363 = .ok (.bipush 13, 2) := by decide +kernel
theorem dL_law_365 : decode cL_law 365 = .ok (.if_icmp .le 14, 3) := by decide +kernel
theorem dL_law_368 : decode cL_law 368 = .ok (.aload_n 1, 1) := by decide +kernel
theorem dL_law_369 : decode cL_law 369 = .ok (.iload 10, 2) := by decide +kernel
theorem dL_law_371 : decode cL_law 371 = .ok (.iload 11, 2) := by decide +kernel
theorem dL_law_373 : decode cL_law 373 = .ok (.invokevirtual 62, 3) := by decide +kernel
theorem dL_law_376 : decode cL_law 376 = .ok (.goto 11, 3) := by decide +kernel
theorem dL_law_379 : decode cL_law 379 = .ok (.aload_n 1, 1) := by decide +kernel
theorem dL_law_380 : decode cL_law 380 = .ok (.iload 5, 2) := by decide +kernel
theorem dL_law_382 : decode cL_law 382 = .ok (.iload 6, 2) := by decide +kernel
theorem dL_law_384 : decode cL_law 384 = .ok (.invokestatic 116, 3) := by decide +kernel
theorem dL_law_387 : decode cL_law 387 = .ok (.iload 14, 2) := by decide +kernel
theorem dL_law_389 : decode cL_law 389 = .ok (.if_icmp .ne 17, 3) := by decide +kernel
theorem dL_law_392 : decode cL_law 392 = .ok (.aload_n 1, 1) := by decide +kernel
theorem dL_law_393 : decode cL_law 393 = .ok (.invokestatic 112, 3) := by decide +kernel
theorem dL_law_396 : decode cL_law 396 = .ok (.lload 15, 2) := by decide +kernel
theorem dL_law_398 : decode cL_law 398 = .ok (.lcmp, 1) := by decide +kernel
theorem dL_law_399 : decode cL_law 399 = .ok (.ifCond .ne 7, 3) := by decide +kernel
theorem dL_law_402 : decode cL_law 402 = .ok (.iconst 1, 1) := by decide +kernel
theorem dL_law_403 : decode cL_law 403 = .ok (.goto 4, 3) := by decide +kernel
theorem dL_law_406 : decode cL_law 406 = .ok (.iconst 0, 1) := by decide +kernel
theorem dL_law_407 : decode cL_law 407 = .ok (.istore_n 3, 1) := by decide +kernel
theorem dL_law_408 : decode cL_law 408 = .ok (.iload_n 3, 1) := by decide +kernel
theorem dL_law_409 : decode cL_law 409 = .ok (.ifCond .eq 72, 3) := by decide +kernel
theorem dL_law_412 : decode cL_law 412 = .ok (.iload 4, 2) := by decide +kernel
theorem dL_law_414 : decode cL_law 414 = .ok (.iconst 3, 1) := by decide +kernel
theorem dL_law_415 : decode cL_law 415 = .ok (.irem, 1) := by decide +kernel
theorem dL_law_416 : decode cL_law 416 = .ok (.ifCond .gt 10, 3) := by decide +kernel
theorem dL_law_419 : decode cL_law 419 = .ok (.aload_n 1, 1) := by decide +kernel
theorem dL_law_420 : decode cL_law 420 = .ok (.invokestatic 108, 3) := by decide +kernel
theorem dL_law_423 : decode cL_law 423 = .ok (.ifCond .eq 58, 3) := by decide +kernel
theorem dL_law_426 : decode cL_law 426 = .ok (.iload 4, 2) := by decide +kernel
theorem dL_law_428 : decode cL_law 428 = .ok (.iconst 5, 1) := by decide +kernel
theorem dL_law_429 : decode cL_law 429 = .ok (.irem, 1) := by decide +kernel
theorem dL_law_430 : decode cL_law 430 = .ok (.iconst 2, 1) := by decide +kernel
theorem dL_law_431 : decode cL_law 431 = .ok (.if_icmp .ne 23, 3) := by decide +kernel
theorem dL_law_434 : decode cL_law 434 = .ok (.aload_n 1, 1) := by decide +kernel
theorem dL_law_435 : decode cL_law 435 = .ok (.iload 5, 2) := by decide +kernel
theorem dL_law_437 : decode cL_law 437 = .ok (.bipush 9, 2) := by decide +kernel
theorem dL_law_439 : decode cL_law 439 = .ok (.ishr, 1) := by decide +kernel
theorem dL_law_440 : decode cL_law 440 = .ok (.aload_n 1, 1) := by decide +kernel
theorem dL_law_441 : decode cL_law 441 = .ok (.iconst 0, 1) := by decide +kernel
theorem dL_law_442 : decode cL_law 442 = .ok (.invokevirtual 13, 3) := by decide +kernel
theorem dL_law_445 : decode cL_law 445 = .ok (.invokestatic 32, 3) := by decide +kernel
theorem dL_law_448 : decode cL_law 448 = .ok (.invokestatic 123, 3) := by decide +kernel
theorem dL_law_451 : decode cL_law 451 = .ok (.ifCond .eq 30, 3) := by decide +kernel
theorem dL_law_454 : decode cL_law 454 = .ok (.iload 4, 2) := by decide +kernel
theorem dL_law_456 : decode cL_law 456 = .ok (.bipush 9, 2) := by decide +kernel
theorem dL_law_458 : decode cL_law 458 = .ok (.irem, 1) := by decide +kernel
theorem dL_law_459 : decode cL_law 459 = .ok (.bipush 7, 2) := by decide +kernel
theorem dL_law_461 : decode cL_law 461 = .ok (.if_icmp .ne 16, 3) := by decide +kernel
theorem dL_law_464 : decode cL_law 464 = .ok (.aload_n 1, 1) := by decide +kernel
theorem dL_law_465 : decode cL_law 465 = .ok (.iconst 0, 1) := by decide +kernel
theorem dL_law_466 : decode cL_law 466 = .ok (.invokevirtual 105, 3) := by decide +kernel
theorem dL_law_469 : decode cL_law 469 = .ok (.aload_n 1, 1) := by decide +kernel
theorem dL_law_470 : decode cL_law 470 = .ok (.iconst 0, 1) := by decide +kernel
theorem dL_law_471 : decode cL_law 471 = .ok (.invokevirtual 13, 3) := by decide +kernel
theorem dL_law_474 : decode cL_law 474 = .ok (.if_icmp .ne 7, 3) := by decide +kernel
theorem dL_law_477 : decode cL_law 477 = .ok (.iconst 1, 1) := by decide +kernel
theorem dL_law_478 : decode cL_law 478 = .ok (.goto 4, 3) := by decide +kernel
theorem dL_law_481 : decode cL_law 481 = .ok (.iconst 0, 1) := by decide +kernel
theorem dL_law_482 : decode cL_law 482 = .ok (.istore_n 3, 1) := by decide +kernel
theorem dL_law_483 : decode cL_law 483 = .ok (.iinc 4 1, 3) := by decide +kernel
theorem dL_law_486 : decode cL_law 486 = .ok (.goto (-389), 3) := by decide +kernel
theorem dL_law_489 : decode cL_law 489 = .ok (.iload_n 3, 1) := by decide +kernel
theorem dL_law_490 : decode cL_law 490 = .ok (.ifCond .eq 14, 3) := by decide +kernel
theorem dL_law_493 : decode cL_law 493 = .ok (.aload_n 1, 1) := by decide +kernel
theorem dL_law_494 : decode cL_law 494 = .ok (.invokestatic 108, 3) := by decide +kernel
theorem dL_law_497 : decode cL_law 497 = .ok (.ifCond .eq 7, 3) := by decide +kernel
theorem dL_law_500 : decode cL_law 500 = .ok (.iconst 1, 1) := by decide +kernel
theorem dL_law_501 : decode cL_law 501 = .ok (.goto 4, 3) := by decide +kernel
theorem dL_law_504 : decode cL_law 504 = .ok (.iconst 0, 1) := by decide +kernel
theorem dL_law_505 : decode cL_law 505 = .ok (.ireturn, 1) := by decide +kernel
set_option maxRecDepth 100000 in
set_option maxHeartbeats 4000000 in
theorem wk_law_round {Z : ZT} {b L : Nat} {xs : Nat → Int32} (hC : CX Z cL_law RL 18 room_1) (hX : SX Z b L xs) (hEnd : EL Z) {k0 n0 : Nat} (hk : k0 + 200 ≤ 600130) (hn : n0 + 1600 ≤ 7301080) (r1 : Option Nat) (i3 i4 : Int32) (S0 : PH) (K : Option Nat → Int32 → Int32 → PH → Prop) (hK : ∀ r1 i3 i4 S, K r1 i3 i4 S → PX Z 18 S (k0 + 200) (n0 + 1600) 97 [(0, va_rf (some b)), (1, va_rf r1), (3, .int i3), (4, .int i4)] []) (h : w_law_round xs L r1 i3 i4 S0 K) : PX Z 18 S0 (k0 + 0) (n0 + 0) 97 [(0, va_rf (some b)), (1, va_rf r1), (3, .int i3), (4, .int i4)] [] := by
  have J_454 : ∀ (v119 : Option Nat) (v120 : Int32) (S121 : PH), wj_L_law_454 xs L K v119 v120 S121 → PX Z 18 S121 (k0 + 42) (n0 + 346) 454 [(0, va_rf (some b)), (1, va_rf v119), (4, .int v120)] [] := by
    intro v119 v120 S121 h
    unfold wj_L_law_454 at h
    refine x_iload (i := 4) hC dL_law_454 2 rfl ?_
    refine x_bipush (v := (9 : Int32)) hC dL_law_456 (by decide) ?_
    refine x_irem hC dL_law_458 (by decide) ?_
    refine x_bipush (v := (7 : Int32)) hC dL_law_459 (by decide) ?_
    refine x_icmp_ne (t := 477) hC dL_law_461 (by decide) (fun c122 => ?_) (fun c122 => ?_)
    · replace h := wit_f c122 h
      refine x_iconst (v := (1 : Int32)) hC dL_law_477 (by decide) ?_
      refine x_goto (t := 482) hC dL_law_478 (by decide) ?_
      refine x_istore_n (i := 3) (l' := [(3, .int (1 : Int32)), (0, va_rf (some b)), (1, va_rf v119), (4, .int v120)]) hC dL_law_482 rfl (⟨fun _ => c_rf (some b), ⟨fun _ => c_rf v119, ⟨fun _ => rfl, trivial⟩⟩⟩) (by decide) rfl ?_
      refine x_iinc (i := 4) (v := (v120 + (1 : Int32))) (l' := [(4, .int (v120 + (1 : Int32))), (3, .int (1 : Int32)), (0, va_rf (some b)), (1, va_rf v119)]) hC dL_law_483 3 rfl rfl (⟨fun _ => rfl, ⟨fun _ => c_rf (some b), ⟨fun _ => c_rf v119, ⟨fun _ => rfl, trivial⟩⟩⟩⟩) (by decide) rfl ?_
      refine x_goto (t := 97) hC dL_law_486 (by decide) ?_
      refine x_sub (l' := [(0, va_rf (some b)), (1, va_rf v119), (3, .int (1 : Int32)), (4, .int (v120 + (1 : Int32)))]) [2, 3, 1, 0] rfl ?_
      refine x_wid (k' := k0 + 200) (n' := n0 + 1600) (by omega) (by omega) ?_
      exact hK _ _ _ _ h
    · replace h := wit_t c122 h
      refine x_aload_n (i := 1) hC dL_law_464 rfl 1 rfl ?_
      refine x_iconst (v := (0 : Int32)) hC dL_law_465 (by decide) ?_
      obtain ⟨a123, ea124, ha125, h⟩ := h
      refine x_callV hC (st := []) (mt_X4_keep _ _ _ _ h) ea124 ha125 kf_4 q_377 q_378 q_379 q_1 q_380 ⟨rfl, hy_X4_keep⟩ ⟨Nat.le_of_ble_eq_true rfl, Nat.le_of_ble_eq_true rfl⟩ ⟨(show k0 + 42 + 21 ≤ 600130 from by omega), (show n0 + 346 + 173 ≤ 7301080 from by omega)⟩ rfl (Nat.le_of_ble_eq_true rfl) dL_law_466 (r_W (fun v126 S127 h => ?_)) (r_Wx (fun j128 S129 h => ?_))
      · replace h := wq_r h
        show PX Z 18 S127 (k0 + 63) (n0 + 519) 469 [(0, va_rf (some b)), (1, va_rf v119), (4, .int v120)] [.int v126]
        refine x_aload_n (i := 1) hC dL_law_469 rfl 1 rfl ?_
        refine x_iconst (v := (0 : Int32)) hC dL_law_470 (by decide) ?_
        obtain ⟨a130, ea131, ha132, h⟩ := h
        replace h := wbt_el h
        obtain ⟨v133, S134, hb138, h⟩ | ⟨j135, S136, hb138, h⟩ := h
        · refine x_callV hC (st := [.int v126]) (mtr_X4_count _ _ _ (v133, S134) hb138) ea131 ha132 kf_4 q_406 q_407 q_408 q_1 q_409 ⟨rfl, hy_X4_count⟩ ⟨Nat.le_of_ble_eq_true rfl, Nat.le_of_ble_eq_true rfl⟩ ⟨(show k0 + 63 + 0 ≤ 600130 from by omega), (show n0 + 519 + 0 ≤ 7301080 from by omega)⟩ rfl (Nat.le_of_ble_eq_true rfl) dL_law_471 (r_N ?_) r_NX
          show PX Z 18 S134 (k0 + 63) (n0 + 519) 474 [(0, va_rf (some b)), (1, va_rf v119), (4, .int v120)] [.int v133, .int v126]
          refine x_icmp_ne (t := 481) hC dL_law_474 (by decide) (fun c137 => ?_) (fun c137 => ?_)
          · replace h := wit_f c137 h
            refine x_iconst (v := (0 : Int32)) hC dL_law_481 (by decide) ?_
            refine x_istore_n (i := 3) (l' := [(3, .int (0 : Int32)), (0, va_rf (some b)), (1, va_rf v119), (4, .int v120)]) hC dL_law_482 rfl (⟨fun _ => c_rf (some b), ⟨fun _ => c_rf v119, ⟨fun _ => rfl, trivial⟩⟩⟩) (by decide) rfl ?_
            refine x_iinc (i := 4) (v := (v120 + (1 : Int32))) (l' := [(4, .int (v120 + (1 : Int32))), (3, .int (0 : Int32)), (0, va_rf (some b)), (1, va_rf v119)]) hC dL_law_483 3 rfl rfl (⟨fun _ => rfl, ⟨fun _ => c_rf (some b), ⟨fun _ => c_rf v119, ⟨fun _ => rfl, trivial⟩⟩⟩⟩) (by decide) rfl ?_
            refine x_goto (t := 97) hC dL_law_486 (by decide) ?_
            refine x_sub (l' := [(0, va_rf (some b)), (1, va_rf v119), (3, .int (0 : Int32)), (4, .int (v120 + (1 : Int32)))]) [2, 3, 1, 0] rfl ?_
            refine x_wid (k' := k0 + 200) (n' := n0 + 1600) (by omega) (by omega) ?_
            exact hK _ _ _ _ h
          · replace h := wit_t c137 h
            refine x_iconst (v := (1 : Int32)) hC dL_law_477 (by decide) ?_
            refine x_goto (t := 482) hC dL_law_478 (by decide) ?_
            refine x_istore_n (i := 3) (l' := [(3, .int (1 : Int32)), (0, va_rf (some b)), (1, va_rf v119), (4, .int v120)]) hC dL_law_482 rfl (⟨fun _ => c_rf (some b), ⟨fun _ => c_rf v119, ⟨fun _ => rfl, trivial⟩⟩⟩) (by decide) rfl ?_
            refine x_iinc (i := 4) (v := (v120 + (1 : Int32))) (l' := [(4, .int (v120 + (1 : Int32))), (3, .int (1 : Int32)), (0, va_rf (some b)), (1, va_rf v119)]) hC dL_law_483 3 rfl rfl (⟨fun _ => rfl, ⟨fun _ => c_rf (some b), ⟨fun _ => c_rf v119, ⟨fun _ => rfl, trivial⟩⟩⟩⟩) (by decide) rfl ?_
            refine x_goto (t := 97) hC dL_law_486 (by decide) ?_
            refine x_sub (l' := [(0, va_rf (some b)), (1, va_rf v119), (3, .int (1 : Int32)), (4, .int (v120 + (1 : Int32)))]) [2, 3, 1, 0] rfl ?_
            refine x_wid (k' := k0 + 200) (n' := n0 + 1600) (by omega) (by omega) ?_
            exact hK _ _ _ _ h
        · exact h.elim
      · replace h := wq_l h
        exact h.elim
  have J_426 : ∀ (v114 : Option Nat) (v115 : Int32) (v116 : Int32) (S117 : PH), wj_L_law_426 xs L K v114 v115 v116 S117 → PX Z 18 S117 (k0 + 42) (n0 + 346) 426 [(0, va_rf (some b)), (1, va_rf v114), (4, .int v115), (5, .int v116)] [] := by
    intro v114 v115 v116 S117 h
    unfold wj_L_law_426 at h
    refine x_iload (i := 4) hC dL_law_426 2 rfl ?_
    refine x_iconst (v := (5 : Int32)) hC dL_law_428 (by decide) ?_
    refine x_irem hC dL_law_429 (by decide) ?_
    refine x_iconst (v := (2 : Int32)) hC dL_law_430 (by decide) ?_
    refine x_icmp_ne (t := 454) hC dL_law_431 (by decide) (fun c118 => ?_) (fun c118 => ?_)
    · replace h := wit_f c118 h
      refine x_sub (l' := [(0, va_rf (some b)), (1, va_rf v114), (4, .int v115)]) [0, 1, 2] rfl ?_
      exact J_454 _ _ _ h
    · replace h := wit_t c118 h
      refine x_aload_n (i := 1) hC dL_law_434 rfl 1 rfl ?_
      refine x_iload (i := 5) hC dL_law_435 3 rfl ?_
      refine x_bipush (v := (9 : Int32)) hC dL_law_437 (by decide) ?_
      refine x_ishr hC dL_law_439 ?_
      refine x_aload_n (i := 1) hC dL_law_440 rfl 1 rfl ?_
      refine x_iconst (v := (0 : Int32)) hC dL_law_441 (by decide) ?_
      obtain ⟨a139, ea140, ha141, h⟩ := h
      replace h := wbt_el h
      obtain ⟨v142, S143, hb155, h⟩ | ⟨j144, S145, hb155, h⟩ := h
      · refine x_callV hC (st := [.int (v116 >>> ((9 : Int32) &&& 31)), va_rf v114]) (mtr_X4_count _ _ _ (v142, S143) hb155) ea140 ha141 kf_4 q_406 q_407 q_408 q_1 q_409 ⟨rfl, hy_X4_count⟩ ⟨Nat.le_of_ble_eq_true rfl, Nat.le_of_ble_eq_true rfl⟩ ⟨(show k0 + 42 + 0 ≤ 600130 from by omega), (show n0 + 346 + 0 ≤ 7301080 from by omega)⟩ rfl (Nat.le_of_ble_eq_true rfl) dL_law_442 (r_N ?_) r_NX
        show PX Z 18 S143 (k0 + 42) (n0 + 346) 445 [(0, va_rf (some b)), (1, va_rf v114), (4, .int v115), (5, .int v116)] [.int v142, .int (v116 >>> ((9 : Int32) &&& 31)), va_rf v114]
        obtain ⟨v146, S147, hb148, h⟩ := h
        refine x_callS hC (st := [va_rf v114]) (mt_L_up _ _ _ _ hb148) q_497 q_498 q_0 q_499 hy_L_up ⟨Nat.le_of_ble_eq_true rfl, Nat.le_of_ble_eq_true rfl⟩ ⟨(show k0 + 42 + 0 ≤ 600130 from by omega), (show n0 + 346 + 0 ≤ 7301080 from by omega)⟩ rfl (Nat.le_of_ble_eq_true rfl) dL_law_445 (r_N ?_) r_NX
        show PX Z 18 S147 (k0 + 42) (n0 + 346) 448 [(0, va_rf (some b)), (1, va_rf v114), (4, .int v115), (5, .int v116)] [.int v146, va_rf v114]
        replace h := wbt_el h
        obtain ⟨v149, S150, hb154, h⟩ | ⟨j151, S152, hb154, h⟩ := h
        · refine x_callS hC (st := []) (mtr_L_isAhead _ _ _ (v149, S150) hb154) q_685 q_686 q_0 q_687 hy_L_isAhead ⟨Nat.le_of_ble_eq_true rfl, Nat.le_of_ble_eq_true rfl⟩ ⟨(show k0 + 42 + 0 ≤ 600130 from by omega), (show n0 + 346 + 0 ≤ 7301080 from by omega)⟩ rfl (Nat.le_of_ble_eq_true rfl) dL_law_448 (r_N ?_) r_NX
          show PX Z 18 S150 (k0 + 42) (n0 + 346) 451 [(0, va_rf (some b)), (1, va_rf v114), (4, .int v115), (5, .int v116)] [.int v149]
          refine x_if_eq (t := 481) hC dL_law_451 (by decide) (fun c153 => ?_) (fun c153 => ?_)
          · replace h := wit_t c153 h
            refine x_iconst (v := (0 : Int32)) hC dL_law_481 (by decide) ?_
            refine x_istore_n (i := 3) (l' := [(3, .int (0 : Int32)), (0, va_rf (some b)), (1, va_rf v114), (4, .int v115), (5, .int v116)]) hC dL_law_482 rfl (⟨fun _ => c_rf (some b), ⟨fun _ => c_rf v114, ⟨fun _ => rfl, ⟨fun _ => rfl, trivial⟩⟩⟩⟩) (by decide) rfl ?_
            refine x_iinc (i := 4) (v := (v115 + (1 : Int32))) (l' := [(4, .int (v115 + (1 : Int32))), (3, .int (0 : Int32)), (0, va_rf (some b)), (1, va_rf v114), (5, .int v116)]) hC dL_law_483 3 rfl rfl (⟨fun _ => rfl, ⟨fun _ => c_rf (some b), ⟨fun _ => c_rf v114, ⟨fun _ => rfl, ⟨fun _ => rfl, trivial⟩⟩⟩⟩⟩) (by decide) rfl ?_
            refine x_goto (t := 97) hC dL_law_486 (by decide) ?_
            refine x_sub (l' := [(0, va_rf (some b)), (1, va_rf v114), (3, .int (0 : Int32)), (4, .int (v115 + (1 : Int32)))]) [2, 3, 1, 0] rfl ?_
            refine x_wid (k' := k0 + 200) (n' := n0 + 1600) (by omega) (by omega) ?_
            exact hK _ _ _ _ h
          · replace h := wit_f c153 h
            refine x_sub (l' := [(0, va_rf (some b)), (1, va_rf v114), (4, .int v115)]) [0, 1, 2] rfl ?_
            exact J_454 _ _ _ h
        · exact h.elim
      · exact h.elim
  have J_408 : ∀ (v107 : Option Nat) (v108 : Int32) (v109 : Int32) (v110 : Int32) (S111 : PH), wj_L_law_408 xs L K v107 v108 v109 v110 S111 → PX Z 18 S111 (k0 + 42) (n0 + 346) 408 [(0, va_rf (some b)), (1, va_rf v107), (3, .int v108), (4, .int v109), (5, .int v110)] [] := by
    intro v107 v108 v109 v110 S111 h
    unfold wj_L_law_408 at h
    refine x_iload_n (i := 3) hC dL_law_408 rfl 2 rfl ?_
    refine x_if_eq (t := 481) hC dL_law_409 (by decide) (fun c112 => ?_) (fun c112 => ?_)
    · replace h := wit_t c112 h
      refine x_iconst (v := (0 : Int32)) hC dL_law_481 (by decide) ?_
      refine x_istore_n (i := 3) (l' := [(3, .int (0 : Int32)), (0, va_rf (some b)), (1, va_rf v107), (4, .int v109), (5, .int v110)]) hC dL_law_482 rfl (⟨fun _ => c_rf (some b), ⟨fun _ => c_rf v107, ⟨fun _ => rfl, ⟨fun _ => rfl, ⟨fun _ => rfl, trivial⟩⟩⟩⟩⟩) (by decide) rfl ?_
      refine x_iinc (i := 4) (v := (v109 + (1 : Int32))) (l' := [(4, .int (v109 + (1 : Int32))), (3, .int (0 : Int32)), (0, va_rf (some b)), (1, va_rf v107), (5, .int v110)]) hC dL_law_483 3 rfl rfl (⟨fun _ => rfl, ⟨fun _ => c_rf (some b), ⟨fun _ => c_rf v107, ⟨fun _ => rfl, ⟨fun _ => rfl, trivial⟩⟩⟩⟩⟩) (by decide) rfl ?_
      refine x_goto (t := 97) hC dL_law_486 (by decide) ?_
      refine x_sub (l' := [(0, va_rf (some b)), (1, va_rf v107), (3, .int (0 : Int32)), (4, .int (v109 + (1 : Int32)))]) [2, 3, 1, 0] rfl ?_
      refine x_wid (k' := k0 + 200) (n' := n0 + 1600) (by omega) (by omega) ?_
      exact hK _ _ _ _ h
    · replace h := wit_f c112 h
      refine x_iload (i := 4) hC dL_law_412 3 rfl ?_
      refine x_iconst (v := (3 : Int32)) hC dL_law_414 (by decide) ?_
      refine x_irem hC dL_law_415 (by decide) ?_
      refine x_if_gt (t := 426) hC dL_law_416 (by decide) (fun c113 => ?_) (fun c113 => ?_)
      · replace h := wit_t c113 h
        refine x_sub (l' := [(0, va_rf (some b)), (1, va_rf v107), (4, .int v109), (5, .int v110)]) [0, 1, 3, 4] rfl ?_
        exact J_426 _ _ _ _ h
      · replace h := wit_f c113 h
        refine x_aload_n (i := 1) hC dL_law_419 rfl 1 rfl ?_
        replace h := wbt_el h
        obtain ⟨v156, S157, hb161, h⟩ | ⟨j158, S159, hb161, h⟩ := h
        · refine x_callS hC (st := []) (mtr_L_holds _ _ (v156, S157) hb161) q_653 q_654 q_0 q_655 hy_L_holds ⟨Nat.le_of_ble_eq_true rfl, Nat.le_of_ble_eq_true rfl⟩ ⟨(show k0 + 42 + 0 ≤ 600130 from by omega), (show n0 + 346 + 0 ≤ 7301080 from by omega)⟩ rfl (Nat.le_of_ble_eq_true rfl) dL_law_420 (r_N ?_) r_NX
          show PX Z 18 S157 (k0 + 42) (n0 + 346) 423 [(0, va_rf (some b)), (1, va_rf v107), (3, .int v108), (4, .int v109), (5, .int v110)] [.int v156]
          refine x_if_eq (t := 481) hC dL_law_423 (by decide) (fun c160 => ?_) (fun c160 => ?_)
          · replace h := wit_t c160 h
            refine x_iconst (v := (0 : Int32)) hC dL_law_481 (by decide) ?_
            refine x_istore_n (i := 3) (l' := [(3, .int (0 : Int32)), (0, va_rf (some b)), (1, va_rf v107), (4, .int v109), (5, .int v110)]) hC dL_law_482 rfl (⟨fun _ => c_rf (some b), ⟨fun _ => c_rf v107, ⟨fun _ => rfl, ⟨fun _ => rfl, ⟨fun _ => rfl, trivial⟩⟩⟩⟩⟩) (by decide) rfl ?_
            refine x_iinc (i := 4) (v := (v109 + (1 : Int32))) (l' := [(4, .int (v109 + (1 : Int32))), (3, .int (0 : Int32)), (0, va_rf (some b)), (1, va_rf v107), (5, .int v110)]) hC dL_law_483 3 rfl rfl (⟨fun _ => rfl, ⟨fun _ => c_rf (some b), ⟨fun _ => c_rf v107, ⟨fun _ => rfl, ⟨fun _ => rfl, trivial⟩⟩⟩⟩⟩) (by decide) rfl ?_
            refine x_goto (t := 97) hC dL_law_486 (by decide) ?_
            refine x_sub (l' := [(0, va_rf (some b)), (1, va_rf v107), (3, .int (0 : Int32)), (4, .int (v109 + (1 : Int32)))]) [2, 3, 1, 0] rfl ?_
            refine x_wid (k' := k0 + 200) (n' := n0 + 1600) (by omega) (by omega) ?_
            exact hK _ _ _ _ h
          · replace h := wit_f c160 h
            refine x_sub (l' := [(0, va_rf (some b)), (1, va_rf v107), (4, .int v109), (5, .int v110)]) [0, 1, 3, 4] rfl ?_
            exact J_426 _ _ _ _ h
        · exact h.elim
  have J_387 : ∀ (v197 : Option Nat) (v198 : Int32) (v199 : Int32) (v200 : Int32) (v201 : Int64) (v202 : Int32) (S203 : PH), wj_L_law_387 xs L K v197 v198 v199 v200 v201 v202 S203 → PX Z 18 S203 (k0 + 42) (n0 + 346) 387 [(0, va_rf (some b)), (1, va_rf v197), (4, .int v198), (5, .int v199), (14, .int v200), (15, .long v201)] [.int v202] := by
    intro v197 v198 v199 v200 v201 v202 S203 h
    unfold wj_L_law_387 at h
    refine x_iload (i := 14) hC dL_law_387 4 rfl ?_
    refine x_icmp_ne (t := 406) hC dL_law_389 (by decide) (fun c204 => ?_) (fun c204 => ?_)
    · replace h := wit_f c204 h
      refine x_iconst (v := (0 : Int32)) hC dL_law_406 (by decide) ?_
      refine x_istore_n (i := 3) (l' := [(3, .int (0 : Int32)), (0, va_rf (some b)), (1, va_rf v197), (4, .int v198), (5, .int v199), (14, .int v200), (15, .long v201)]) hC dL_law_407 rfl (⟨fun _ => c_rf (some b), ⟨fun _ => c_rf v197, ⟨fun _ => rfl, ⟨fun _ => rfl, ⟨fun _ => rfl, ⟨fun q => absurd (show (15 : Nat) + 1 = 3 from q) (by decide), trivial⟩⟩⟩⟩⟩⟩) (by decide) rfl ?_
      refine x_sub (l' := [(0, va_rf (some b)), (1, va_rf v197), (3, .int (0 : Int32)), (4, .int v198), (5, .int v199)]) [1, 2, 0, 3, 4] rfl ?_
      exact J_408 _ _ _ _ _ h
    · replace h := wit_t c204 h
      refine x_aload_n (i := 1) hC dL_law_392 rfl 1 rfl ?_
      replace h := wbt_el h
      obtain ⟨v205, S206, hb210, h⟩ | ⟨j207, S208, hb210, h⟩ := h
      · refine x_callS hC (st := []) (mtr_L_looks _ _ (v205, S206) hb210) q_501 q_502 q_0 q_503 hy_L_looks ⟨Nat.le_of_ble_eq_true rfl, Nat.le_of_ble_eq_true rfl⟩ ⟨(show k0 + 42 + 0 ≤ 600130 from by omega), (show n0 + 346 + 0 ≤ 7301080 from by omega)⟩ rfl (Nat.le_of_ble_eq_true rfl) dL_law_393 (r_N ?_) r_NX
        show PX Z 18 S206 (k0 + 42) (n0 + 346) 396 [(0, va_rf (some b)), (1, va_rf v197), (4, .int v198), (5, .int v199), (14, .int v200), (15, .long v201)] [.long v205]
        refine x_lload (i := 15) hC dL_law_396 5 rfl ?_
        refine x_lcmp hC dL_law_398 ?_
        refine x_if_ne (t := 406) hC dL_law_399 (by decide) (fun c209 => ?_) (fun c209 => ?_)
        · replace h := wit_f c209 h
          refine x_iconst (v := (0 : Int32)) hC dL_law_406 (by decide) ?_
          refine x_istore_n (i := 3) (l' := [(3, .int (0 : Int32)), (0, va_rf (some b)), (1, va_rf v197), (4, .int v198), (5, .int v199), (14, .int v200), (15, .long v201)]) hC dL_law_407 rfl (⟨fun _ => c_rf (some b), ⟨fun _ => c_rf v197, ⟨fun _ => rfl, ⟨fun _ => rfl, ⟨fun _ => rfl, ⟨fun q => absurd (show (15 : Nat) + 1 = 3 from q) (by decide), trivial⟩⟩⟩⟩⟩⟩) (by decide) rfl ?_
          refine x_sub (l' := [(0, va_rf (some b)), (1, va_rf v197), (3, .int (0 : Int32)), (4, .int v198), (5, .int v199)]) [1, 2, 0, 3, 4] rfl ?_
          exact J_408 _ _ _ _ _ h
        · replace h := wit_t c209 h
          refine x_iconst (v := (1 : Int32)) hC dL_law_402 (by decide) ?_
          refine x_goto (t := 407) hC dL_law_403 (by decide) ?_
          refine x_istore_n (i := 3) (l' := [(3, .int (1 : Int32)), (0, va_rf (some b)), (1, va_rf v197), (4, .int v198), (5, .int v199), (14, .int v200), (15, .long v201)]) hC dL_law_407 rfl (⟨fun _ => c_rf (some b), ⟨fun _ => c_rf v197, ⟨fun _ => rfl, ⟨fun _ => rfl, ⟨fun _ => rfl, ⟨fun q => absurd (show (15 : Nat) + 1 = 3 from q) (by decide), trivial⟩⟩⟩⟩⟩⟩) (by decide) rfl ?_
          refine x_sub (l' := [(0, va_rf (some b)), (1, va_rf v197), (3, .int (1 : Int32)), (4, .int v198), (5, .int v199)]) [1, 2, 0, 3, 4] rfl ?_
          exact J_408 _ _ _ _ _ h
      · exact h.elim
  have J_306 : ∀ (v96 : Option Nat) (v97 : Int32) (v98 : Int32) (v99 : Int32) (v100 : Int64) (v101 : Int32) (v102 : Int32) (v103 : Int32) (v104 : Int32) (S105 : PH), wj_L_law_306 xs L K v96 v97 v98 v99 v100 v101 v102 v103 v104 S105 → PX Z 18 S105 (k0 + 21) (n0 + 173) 306 [(0, va_rf (some b)), (1, va_rf v96), (4, .int v97), (5, .int v98), (6, .int v99), (7, .long v100), (10, .int v101), (11, .int v102), (14, .int v103)] [.int v104] := by
    intro v96 v97 v98 v99 v100 v101 v102 v103 v104 S105 h
    unfold wj_L_law_306 at h
    refine x_istore_n (i := 3) (l' := [(3, .int v104), (0, va_rf (some b)), (1, va_rf v96), (4, .int v97), (5, .int v98), (6, .int v99), (7, .long v100), (10, .int v101), (11, .int v102), (14, .int v103)]) hC dL_law_306 rfl (⟨fun _ => c_rf (some b), ⟨fun _ => c_rf v96, ⟨fun _ => rfl, ⟨fun _ => rfl, ⟨fun _ => rfl, ⟨fun q => absurd (show (7 : Nat) + 1 = 3 from q) (by decide), ⟨fun _ => rfl, ⟨fun _ => rfl, ⟨fun _ => rfl, trivial⟩⟩⟩⟩⟩⟩⟩⟩⟩) (by decide) rfl ?_
    refine x_iload_n (i := 3) hC dL_law_307 rfl 0 rfl ?_
    refine x_if_eq (t := 408) hC dL_law_308 (by decide) (fun c106 => ?_) (fun c106 => ?_)
    · replace h := wit_t c106 h
      refine x_sub (l' := [(0, va_rf (some b)), (1, va_rf v96), (3, .int v104), (4, .int v97), (5, .int v98)]) [1, 2, 0, 3, 4] rfl ?_
      refine x_wid (k' := (k0 + 42)) (n' := (n0 + 346)) (by omega) (by omega) ?_
      exact J_408 _ _ _ _ _ h
    · replace h := wit_f c106 h
      refine x_iload (i := 5) hC dL_law_311 4 rfl ?_
      refine x_bipush (v := (8 : Int32)) hC dL_law_313 (by decide) ?_
      refine x_ishr hC dL_law_315 ?_
      refine x_iconst (v := (3 : Int32)) hC dL_law_316 (by decide) ?_
      refine x_iand hC dL_law_317 ?_
      refine x_if_ne (t := 408) hC dL_law_318 (by decide) (fun c162 => ?_) (fun c162 => ?_)
      · replace h := wit_f c162 h
        refine x_sub (l' := [(0, va_rf (some b)), (1, va_rf v96), (3, .int v104), (4, .int v97), (5, .int v98)]) [1, 2, 0, 3, 4] rfl ?_
        refine x_wid (k' := (k0 + 42)) (n' := (n0 + 346)) (by omega) (by omega) ?_
        exact J_408 _ _ _ _ _ h
      · replace h := wit_t c162 h
        refine x_aload_n (i := 1) hC dL_law_321 rfl 2 rfl ?_
        replace h := wbt_el h
        obtain ⟨v163, S164, hb221, h⟩ | ⟨j165, S166, hb221, h⟩ := h
        · refine x_callS hC (st := []) (mtr_L_looks _ _ (v163, S164) hb221) q_501 q_502 q_0 q_503 hy_L_looks ⟨Nat.le_of_ble_eq_true rfl, Nat.le_of_ble_eq_true rfl⟩ ⟨(show k0 + 21 + 0 ≤ 600130 from by omega), (show n0 + 173 + 0 ≤ 7301080 from by omega)⟩ rfl (Nat.le_of_ble_eq_true rfl) dL_law_322 (r_N ?_) r_NX
          show PX Z 18 S164 (k0 + 21) (n0 + 173) 325 [(3, .int v104), (0, va_rf (some b)), (1, va_rf v96), (4, .int v97), (5, .int v98), (6, .int v99), (7, .long v100), (10, .int v101), (11, .int v102), (14, .int v103)] [.long v163]
          refine x_lstore (i := 15) (l' := [(15, .long v163), (3, .int v104), (0, va_rf (some b)), (1, va_rf v96), (4, .int v97), (5, .int v98), (6, .int v99), (7, .long v100), (10, .int v101), (11, .int v102), (14, .int v103)]) hC dL_law_325 (⟨fun _ => rfl, ⟨fun _ => c_rf (some b), ⟨fun _ => c_rf v96, ⟨fun _ => rfl, ⟨fun _ => rfl, ⟨fun _ => rfl, ⟨fun q => absurd (show (7 : Nat) + 1 = 15 from q) (by decide), ⟨fun _ => rfl, ⟨fun _ => rfl, ⟨fun _ => rfl, trivial⟩⟩⟩⟩⟩⟩⟩⟩⟩⟩) (by decide) rfl ?_
          refine x_aload_n (i := 1) hC dL_law_327 rfl 3 rfl ?_
          refine x_bipush (v := (11 : Int32)) hC dL_law_328 (by decide) ?_
          obtain ⟨a167, ea168, ha169, h⟩ := h
          replace h := wbt_el h
          obtain ⟨v170, S171, hb220, h⟩ | ⟨j172, S173, hb220, h⟩ := h
          · refine x_callV hC (st := []) (mtr_X4_count _ _ _ (v170, S171) hb220) ea168 ha169 kf_4 q_406 q_407 q_408 q_1 q_409 ⟨rfl, hy_X4_count⟩ ⟨Nat.le_of_ble_eq_true rfl, Nat.le_of_ble_eq_true rfl⟩ ⟨(show k0 + 21 + 0 ≤ 600130 from by omega), (show n0 + 173 + 0 ≤ 7301080 from by omega)⟩ rfl (Nat.le_of_ble_eq_true rfl) dL_law_330 (r_N ?_) r_NX
            show PX Z 18 S171 (k0 + 21) (n0 + 173) 333 [(15, .long v163), (3, .int v104), (0, va_rf (some b)), (1, va_rf v96), (4, .int v97), (5, .int v98), (6, .int v99), (7, .long v100), (10, .int v101), (11, .int v102), (14, .int v103)] [.int v170]
            refine x_iconst (v := (1 : Int32)) hC dL_law_333 (by decide) ?_
            refine x_isub hC dL_law_334 ?_
            obtain ⟨x174, hx175, h⟩ := wle_el h
            refine x_tI hx175 ?_
            refine x_istore (i := 17) (l' := [(17, .int x174), (15, .long v163), (3, .int v104), (0, va_rf (some b)), (1, va_rf v96), (4, .int v97), (5, .int v98), (6, .int v99), (7, .long v100), (10, .int v101), (11, .int v102), (14, .int v103)]) hC dL_law_335 (⟨fun q => absurd (show (15 : Nat) + 1 = 17 from q) (by decide), ⟨fun _ => rfl, ⟨fun _ => c_rf (some b), ⟨fun _ => c_rf v96, ⟨fun _ => rfl, ⟨fun _ => rfl, ⟨fun _ => rfl, ⟨fun q => absurd (show (7 : Nat) + 1 = 17 from q) (by decide), ⟨fun _ => rfl, ⟨fun _ => rfl, ⟨fun _ => rfl, trivial⟩⟩⟩⟩⟩⟩⟩⟩⟩⟩⟩) (by decide) rfl ?_
            refine x_aload_n (i := 1) hC dL_law_337 rfl 4 rfl ?_
            obtain ⟨a176, ea177, ha178, h⟩ := h
            replace h := wbt_el h
            obtain ⟨v179, S180, hb219, h⟩ | ⟨j181, S182, hb219, h⟩ := h
            · refine x_callV hC (st := []) (mtr_X4_undo _ _ (v179, S180) hb219) ea177 ha178 kf_4 q_386 q_387 q_388 q_1 q_389 ⟨rfl, hy_X4_undo⟩ ⟨Nat.le_of_ble_eq_true rfl, Nat.le_of_ble_eq_true rfl⟩ ⟨(show k0 + 21 + 0 ≤ 600130 from by omega), (show n0 + 173 + 0 ≤ 7301080 from by omega)⟩ rfl (Nat.le_of_ble_eq_true rfl) dL_law_338 (r_N ?_) r_NX
              show PX Z 18 S180 (k0 + 21) (n0 + 173) 341 [(17, .int x174), (15, .long v163), (3, .int v104), (0, va_rf (some b)), (1, va_rf v96), (4, .int v97), (5, .int v98), (6, .int v99), (7, .long v100), (10, .int v101), (11, .int v102), (14, .int v103)] [.int v179]
              refine x_iload (i := 17) hC dL_law_341 0 rfl ?_
              refine x_icmp_ne (t := 406) hC dL_law_343 (by decide) (fun c183 => ?_) (fun c183 => ?_)
              · replace h := wit_f c183 h
                refine x_iconst (v := (0 : Int32)) hC dL_law_406 (by decide) ?_
                refine x_istore_n (i := 3) (l' := [(3, .int (0 : Int32)), (17, .int x174), (15, .long v163), (0, va_rf (some b)), (1, va_rf v96), (4, .int v97), (5, .int v98), (6, .int v99), (7, .long v100), (10, .int v101), (11, .int v102), (14, .int v103)]) hC dL_law_407 rfl (⟨fun _ => rfl, ⟨fun q => absurd (show (15 : Nat) + 1 = 3 from q) (by decide), ⟨fun _ => rfl, ⟨fun _ => c_rf (some b), ⟨fun _ => c_rf v96, ⟨fun _ => rfl, ⟨fun _ => rfl, ⟨fun _ => rfl, ⟨fun q => absurd (show (7 : Nat) + 1 = 3 from q) (by decide), ⟨fun _ => rfl, ⟨fun _ => rfl, ⟨fun _ => rfl, trivial⟩⟩⟩⟩⟩⟩⟩⟩⟩⟩⟩⟩) (by decide) rfl ?_
                refine x_sub (l' := [(0, va_rf (some b)), (1, va_rf v96), (3, .int (0 : Int32)), (4, .int v97), (5, .int v98)]) [3, 4, 0, 5, 6] rfl ?_
                refine x_wid (k' := (k0 + 42)) (n' := (n0 + 346)) (by omega) (by omega) ?_
                exact J_408 _ _ _ _ _ h
              · replace h := wit_t c183 h
                refine x_aload_n (i := 1) hC dL_law_346 rfl 4 rfl ?_
                replace h := wbt_el h
                obtain ⟨v184, S185, hb218, h⟩ | ⟨j186, S187, hb218, h⟩ := h
                · refine x_callS hC (st := []) (mtr_L_looks _ _ (v184, S185) hb218) q_501 q_502 q_0 q_503 hy_L_looks ⟨Nat.le_of_ble_eq_true rfl, Nat.le_of_ble_eq_true rfl⟩ ⟨(show k0 + 21 + 0 ≤ 600130 from by omega), (show n0 + 173 + 0 ≤ 7301080 from by omega)⟩ rfl (Nat.le_of_ble_eq_true rfl) dL_law_347 (r_N ?_) r_NX
                  show PX Z 18 S185 (k0 + 21) (n0 + 173) 350 [(17, .int x174), (15, .long v163), (3, .int v104), (0, va_rf (some b)), (1, va_rf v96), (4, .int v97), (5, .int v98), (6, .int v99), (7, .long v100), (10, .int v101), (11, .int v102), (14, .int v103)] [.long v184]
                  refine x_lload (i := 7) hC dL_law_350 8 rfl ?_
                  refine x_lcmp hC dL_law_352 ?_
                  refine x_if_ne (t := 406) hC dL_law_353 (by decide) (fun c188 => ?_) (fun c188 => ?_)
                  · replace h := wit_f c188 h
                    refine x_iconst (v := (0 : Int32)) hC dL_law_406 (by decide) ?_
                    refine x_istore_n (i := 3) (l' := [(3, .int (0 : Int32)), (17, .int x174), (15, .long v163), (0, va_rf (some b)), (1, va_rf v96), (4, .int v97), (5, .int v98), (6, .int v99), (7, .long v100), (10, .int v101), (11, .int v102), (14, .int v103)]) hC dL_law_407 rfl (⟨fun _ => rfl, ⟨fun q => absurd (show (15 : Nat) + 1 = 3 from q) (by decide), ⟨fun _ => rfl, ⟨fun _ => c_rf (some b), ⟨fun _ => c_rf v96, ⟨fun _ => rfl, ⟨fun _ => rfl, ⟨fun _ => rfl, ⟨fun q => absurd (show (7 : Nat) + 1 = 3 from q) (by decide), ⟨fun _ => rfl, ⟨fun _ => rfl, ⟨fun _ => rfl, trivial⟩⟩⟩⟩⟩⟩⟩⟩⟩⟩⟩⟩) (by decide) rfl ?_
                    refine x_sub (l' := [(0, va_rf (some b)), (1, va_rf v96), (3, .int (0 : Int32)), (4, .int v97), (5, .int v98)]) [3, 4, 0, 5, 6] rfl ?_
                    refine x_wid (k' := (k0 + 42)) (n' := (n0 + 346)) (by omega) (by omega) ?_
                    exact J_408 _ _ _ _ _ h
                  · replace h := wit_t c188 h
                    refine x_iload (i := 5) hC dL_law_356 6 rfl ?_
                    refine x_bipush (v := (16 : Int32)) hC dL_law_358 (by decide) ?_
                    obtain ⟨v189, S190, hb191, h⟩ := h
                    refine x_callS hC (st := []) (mt_L_up _ _ _ _ hb191) q_497 q_498 q_0 q_499 hy_L_up ⟨Nat.le_of_ble_eq_true rfl, Nat.le_of_ble_eq_true rfl⟩ ⟨(show k0 + 21 + 0 ≤ 600130 from by omega), (show n0 + 173 + 0 ≤ 7301080 from by omega)⟩ rfl (Nat.le_of_ble_eq_true rfl) dL_law_360 (r_N ?_) r_NX
                    show PX Z 18 S190 (k0 + 21) (n0 + 173) 363 [(17, .int x174), (15, .long v163), (3, .int v104), (0, va_rf (some b)), (1, va_rf v96), (4, .int v97), (5, .int v98), (6, .int v99), (7, .long v100), (10, .int v101), (11, .int v102), (14, .int v103)] [.int v189]
                    refine x_bipush (v := (13 : Int32)) hC dL_law_363 (by decide) ?_
                    refine x_icmp_le (t := 379) hC dL_law_365 (by decide) (fun c192 => ?_) (fun c192 => ?_)
                    · replace h := wit_t c192 h
                      refine x_aload_n (i := 1) hC dL_law_379 rfl 4 rfl ?_
                      refine x_iload (i := 5) hC dL_law_380 6 rfl ?_
                      refine x_iload (i := 6) hC dL_law_382 7 rfl ?_
                      refine x_callS hC (st := []) (mt_L_act _ _ _ _ _ h) q_560 q_561 q_0 q_562 hy_L_act ⟨Nat.le_of_ble_eq_true rfl, Nat.le_of_ble_eq_true rfl⟩ ⟨(show k0 + 21 + 21 ≤ 600130 from by omega), (show n0 + 173 + 173 ≤ 7301080 from by omega)⟩ rfl (Nat.le_of_ble_eq_true rfl) dL_law_384 (r_W (fun v193 S194 h => ?_)) (r_Wx (fun j195 S196 h => ?_))
                      · replace h := wq_r h
                        show PX Z 18 S194 (k0 + 42) (n0 + 346) 387 [(17, .int x174), (15, .long v163), (3, .int v104), (0, va_rf (some b)), (1, va_rf v96), (4, .int v97), (5, .int v98), (6, .int v99), (7, .long v100), (10, .int v101), (11, .int v102), (14, .int v103)] [.int v193]
                        refine x_sub (l' := [(0, va_rf (some b)), (1, va_rf v96), (4, .int v97), (5, .int v98), (14, .int v103), (15, .long v163)]) [3, 4, 5, 6, 11, 1] rfl ?_
                        exact J_387 _ _ _ _ _ _ _ h
                      · replace h := wq_l h
                        exact h.elim
                    · replace h := wit_f c192 h
                      refine x_aload_n (i := 1) hC dL_law_368 rfl 4 rfl ?_
                      refine x_iload (i := 10) hC dL_law_369 9 rfl ?_
                      refine x_iload (i := 11) hC dL_law_371 10 rfl ?_
                      obtain ⟨a211, ea212, ha213, h⟩ := h
                      refine x_callV hC (st := []) (mt_X4_take _ _ _ _ _ h) ea212 ha213 kf_4 q_309 q_310 q_311 q_1 q_312 ⟨rfl, hy_X4_take⟩ ⟨Nat.le_of_ble_eq_true rfl, Nat.le_of_ble_eq_true rfl⟩ ⟨(show k0 + 21 + 21 ≤ 600130 from by omega), (show n0 + 173 + 173 ≤ 7301080 from by omega)⟩ rfl (Nat.le_of_ble_eq_true rfl) dL_law_373 (r_W (fun v214 S215 h => ?_)) (r_Wx (fun j216 S217 h => ?_))
                      · replace h := wq_r h
                        show PX Z 18 S215 (k0 + 42) (n0 + 346) 376 [(17, .int x174), (15, .long v163), (3, .int v104), (0, va_rf (some b)), (1, va_rf v96), (4, .int v97), (5, .int v98), (6, .int v99), (7, .long v100), (10, .int v101), (11, .int v102), (14, .int v103)] [.int v214]
                        refine x_goto (t := 387) hC dL_law_376 (by decide) ?_
                        refine x_sub (l' := [(0, va_rf (some b)), (1, va_rf v96), (4, .int v97), (5, .int v98), (14, .int v103), (15, .long v163)]) [3, 4, 5, 6, 11, 1] rfl ?_
                        exact J_387 _ _ _ _ _ _ _ h
                      · replace h := wq_l h
                        exact h.elim
                · exact h.elim
            · exact h.elim
          · exact h.elim
        · exact h.elim
  have J_264 : ∀ (v231 : Option Nat) (v232 : Int32) (v233 : Int32) (v234 : Int32) (v235 : Int64) (v236 : Int32) (v237 : Int32) (v238 : Int32) (v239 : Int32) (v240 : Int32) (v241 : Int32) (v242 : Int32) (S243 : PH), wj_L_law_264 xs L K v231 v232 v233 v234 v235 v236 v237 v238 v239 v240 v241 v242 S243 → PX Z 18 S243 (k0 + 21) (n0 + 173) 264 [(0, va_rf (some b)), (1, va_rf v231), (4, .int v232), (5, .int v233), (6, .int v234), (7, .long v235), (10, .int v236), (11, .int v237), (12, .int v238), (13, .int v239), (14, .int v240)] [.int v242, .int v241] := by
    intro v231 v232 v233 v234 v235 v236 v237 v238 v239 v240 v241 v242 S243 h
    unfold wj_L_law_264 at h
    refine x_icmp_ne (t := 305) hC dL_law_264 (by decide) (fun c244 => ?_) (fun c244 => ?_)
    · replace h := wit_f c244 h
      refine x_iconst (v := (0 : Int32)) hC dL_law_305 (by decide) ?_
      refine x_sub (l' := [(0, va_rf (some b)), (1, va_rf v231), (4, .int v232), (5, .int v233), (6, .int v234), (7, .long v235), (10, .int v236), (11, .int v237), (14, .int v240)]) [0, 1, 2, 3, 4, 5, 6, 7, 10] rfl ?_
      exact J_306 _ _ _ _ _ _ _ _ _ _ h
    · replace h := wit_t c244 h
      refine x_iload (i := 5) hC dL_law_267 3 rfl ?_
      refine x_bipush (v := (16 : Int32)) hC dL_law_269 (by decide) ?_
      obtain ⟨v245, S246, hb247, h⟩ := h
      refine x_callS hC (st := []) (mt_L_up _ _ _ _ hb247) q_497 q_498 q_0 q_499 hy_L_up ⟨Nat.le_of_ble_eq_true rfl, Nat.le_of_ble_eq_true rfl⟩ ⟨(show k0 + 21 + 0 ≤ 600130 from by omega), (show n0 + 173 + 0 ≤ 7301080 from by omega)⟩ rfl (Nat.le_of_ble_eq_true rfl) dL_law_271 (r_N ?_) r_NX
      show PX Z 18 S246 (k0 + 21) (n0 + 173) 274 [(0, va_rf (some b)), (1, va_rf v231), (4, .int v232), (5, .int v233), (6, .int v234), (7, .long v235), (10, .int v236), (11, .int v237), (12, .int v238), (13, .int v239), (14, .int v240)] [.int v245]
      refine x_bipush (v := (14 : Int32)) hC dL_law_274 (by decide) ?_
      refine x_icmp_lt (t := 301) hC dL_law_276 (by decide) (fun c248 => ?_) (fun c248 => ?_)
      · replace h := wit_t c248 h
        refine x_iconst (v := (1 : Int32)) hC dL_law_301 (by decide) ?_
        refine x_goto (t := 306) hC dL_law_302 (by decide) ?_
        refine x_sub (l' := [(0, va_rf (some b)), (1, va_rf v231), (4, .int v232), (5, .int v233), (6, .int v234), (7, .long v235), (10, .int v236), (11, .int v237), (14, .int v240)]) [0, 1, 2, 3, 4, 5, 6, 7, 10] rfl ?_
        exact J_306 _ _ _ _ _ _ _ _ _ _ h
      · replace h := wit_f c248 h
        refine x_iload (i := 14) hC dL_law_279 10 rfl ?_
        refine x_iload (i := 12) hC dL_law_281 8 rfl ?_
        refine x_icmp_ne (t := 305) hC dL_law_283 (by decide) (fun c249 => ?_) (fun c249 => ?_)
        · replace h := wit_f c249 h
          refine x_iconst (v := (0 : Int32)) hC dL_law_305 (by decide) ?_
          refine x_sub (l' := [(0, va_rf (some b)), (1, va_rf v231), (4, .int v232), (5, .int v233), (6, .int v234), (7, .long v235), (10, .int v236), (11, .int v237), (14, .int v240)]) [0, 1, 2, 3, 4, 5, 6, 7, 10] rfl ?_
          exact J_306 _ _ _ _ _ _ _ _ _ _ h
        · replace h := wit_t c249 h
          refine x_iload (i := 14) hC dL_law_286 10 rfl ?_
          refine x_if_gt (t := 301) hC dL_law_288 (by decide) (fun c250 => ?_) (fun c250 => ?_)
          · replace h := wit_t c250 h
            refine x_iconst (v := (1 : Int32)) hC dL_law_301 (by decide) ?_
            refine x_goto (t := 306) hC dL_law_302 (by decide) ?_
            refine x_sub (l' := [(0, va_rf (some b)), (1, va_rf v231), (4, .int v232), (5, .int v233), (6, .int v234), (7, .long v235), (10, .int v236), (11, .int v237), (14, .int v240)]) [0, 1, 2, 3, 4, 5, 6, 7, 10] rfl ?_
            exact J_306 _ _ _ _ _ _ _ _ _ _ h
          · replace h := wit_f c250 h
            refine x_aload_n (i := 1) hC dL_law_291 rfl 1 rfl ?_
            refine x_iconst (v := (0 : Int32)) hC dL_law_292 (by decide) ?_
            obtain ⟨a251, ea252, ha253, h⟩ := h
            replace h := wbt_el h
            obtain ⟨v254, S255, hb259, h⟩ | ⟨j256, S257, hb259, h⟩ := h
            · refine x_callV hC (st := []) (mtr_X4_most _ _ _ (v254, S255) hb259) ea252 ha253 kf_4 q_449 q_450 q_451 q_1 q_452 ⟨rfl, hy_X4_most⟩ ⟨Nat.le_of_ble_eq_true rfl, Nat.le_of_ble_eq_true rfl⟩ ⟨(show k0 + 21 + 0 ≤ 600130 from by omega), (show n0 + 173 + 0 ≤ 7301080 from by omega)⟩ rfl (Nat.le_of_ble_eq_true rfl) dL_law_293 (r_N ?_) r_NX
              show PX Z 18 S255 (k0 + 21) (n0 + 173) 296 [(0, va_rf (some b)), (1, va_rf v231), (4, .int v232), (5, .int v233), (6, .int v234), (7, .long v235), (10, .int v236), (11, .int v237), (12, .int v238), (13, .int v239), (14, .int v240)] [.int v254]
              refine x_iload (i := 13) hC dL_law_296 9 rfl ?_
              refine x_icmp_ge (t := 305) hC dL_law_298 (by decide) (fun c258 => ?_) (fun c258 => ?_)
              · replace h := wit_t c258 h
                refine x_iconst (v := (0 : Int32)) hC dL_law_305 (by decide) ?_
                refine x_sub (l' := [(0, va_rf (some b)), (1, va_rf v231), (4, .int v232), (5, .int v233), (6, .int v234), (7, .long v235), (10, .int v236), (11, .int v237), (14, .int v240)]) [0, 1, 2, 3, 4, 5, 6, 7, 10] rfl ?_
                exact J_306 _ _ _ _ _ _ _ _ _ _ h
              · replace h := wit_f c258 h
                refine x_iconst (v := (1 : Int32)) hC dL_law_301 (by decide) ?_
                refine x_goto (t := 306) hC dL_law_302 (by decide) ?_
                refine x_sub (l' := [(0, va_rf (some b)), (1, va_rf v231), (4, .int v232), (5, .int v233), (6, .int v234), (7, .long v235), (10, .int v236), (11, .int v237), (14, .int v240)]) [0, 1, 2, 3, 4, 5, 6, 7, 10] rfl ?_
                exact J_306 _ _ _ _ _ _ _ _ _ _ h
            · exact h.elim
  have J_231 : ∀ (v82 : Option Nat) (v83 : Int32) (v84 : Int32) (v85 : Int32) (v86 : Int32) (v87 : Int64) (v88 : Int32) (v89 : Int32) (v90 : Int32) (v91 : Int32) (v92 : Int32) (v93 : Int32) (S94 : PH), wj_L_law_231 xs L K v82 v83 v84 v85 v86 v87 v88 v89 v90 v91 v92 v93 S94 → PX Z 18 S94 (k0 + 21) (n0 + 173) 231 [(0, va_rf (some b)), (1, va_rf v82), (3, .int v83), (4, .int v84), (5, .int v85), (6, .int v86), (7, .long v87), (9, .int v88), (10, .int v89), (11, .int v90), (12, .int v91), (13, .int v92)] [.int v93] := by
    intro v82 v83 v84 v85 v86 v87 v88 v89 v90 v91 v92 v93 S94 h
    unfold wj_L_law_231 at h
    refine x_istore (i := 14) (l' := [(14, .int v93), (0, va_rf (some b)), (1, va_rf v82), (3, .int v83), (4, .int v84), (5, .int v85), (6, .int v86), (7, .long v87), (9, .int v88), (10, .int v89), (11, .int v90), (12, .int v91), (13, .int v92)]) hC dL_law_231 (⟨fun _ => c_rf (some b), ⟨fun _ => c_rf v82, ⟨fun _ => rfl, ⟨fun _ => rfl, ⟨fun _ => rfl, ⟨fun _ => rfl, ⟨fun q => absurd (show (7 : Nat) + 1 = 14 from q) (by decide), ⟨fun _ => rfl, ⟨fun _ => rfl, ⟨fun _ => rfl, ⟨fun _ => rfl, ⟨fun _ => rfl, trivial⟩⟩⟩⟩⟩⟩⟩⟩⟩⟩⟩⟩) (by decide) rfl ?_
    refine x_iload_n (i := 3) hC dL_law_233 rfl 3 rfl ?_
    refine x_if_eq (t := 305) hC dL_law_234 (by decide) (fun c95 => ?_) (fun c95 => ?_)
    · replace h := wit_t c95 h
      refine x_iconst (v := (0 : Int32)) hC dL_law_305 (by decide) ?_
      refine x_sub (l' := [(0, va_rf (some b)), (1, va_rf v82), (4, .int v84), (5, .int v85), (6, .int v86), (7, .long v87), (10, .int v89), (11, .int v90), (14, .int v93)]) [1, 2, 4, 5, 6, 7, 9, 10, 0] rfl ?_
      exact J_306 _ _ _ _ _ _ _ _ _ _ h
    · replace h := wit_f c95 h
      refine x_iload (i := 14) hC dL_law_237 0 rfl ?_
      refine x_if_lt (t := 305) hC dL_law_239 (by decide) (fun c222 => ?_) (fun c222 => ?_)
      · replace h := wit_t c222 h
        refine x_iconst (v := (0 : Int32)) hC dL_law_305 (by decide) ?_
        refine x_sub (l' := [(0, va_rf (some b)), (1, va_rf v82), (4, .int v84), (5, .int v85), (6, .int v86), (7, .long v87), (10, .int v89), (11, .int v90), (14, .int v93)]) [1, 2, 4, 5, 6, 7, 9, 10, 0] rfl ?_
        exact J_306 _ _ _ _ _ _ _ _ _ _ h
      · replace h := wit_f c222 h
        refine x_aload_n (i := 1) hC dL_law_242 rfl 2 rfl ?_
        refine x_bipush (v := (11 : Int32)) hC dL_law_243 (by decide) ?_
        obtain ⟨a223, ea224, ha225, h⟩ := h
        replace h := wbt_el h
        obtain ⟨v226, S227, hb260, h⟩ | ⟨j228, S229, hb260, h⟩ := h
        · refine x_callV hC (st := []) (mtr_X4_count _ _ _ (v226, S227) hb260) ea224 ha225 kf_4 q_406 q_407 q_408 q_1 q_409 ⟨rfl, hy_X4_count⟩ ⟨Nat.le_of_ble_eq_true rfl, Nat.le_of_ble_eq_true rfl⟩ ⟨(show k0 + 21 + 0 ≤ 600130 from by omega), (show n0 + 173 + 0 ≤ 7301080 from by omega)⟩ rfl (Nat.le_of_ble_eq_true rfl) dL_law_245 (r_N ?_) r_NX
          show PX Z 18 S227 (k0 + 21) (n0 + 173) 248 [(14, .int v93), (0, va_rf (some b)), (1, va_rf v82), (3, .int v83), (4, .int v84), (5, .int v85), (6, .int v86), (7, .long v87), (9, .int v88), (10, .int v89), (11, .int v90), (12, .int v91), (13, .int v92)] [.int v226]
          refine x_iload (i := 9) hC dL_law_248 8 rfl ?_
          refine x_bipush (v := (6 : Int32)) hC dL_law_250 (by decide) ?_
          refine x_icmp_ge (t := 262) hC dL_law_252 (by decide) (fun c230 => ?_) (fun c230 => ?_)
          · replace h := wit_t c230 h
            refine x_bipush (v := (6 : Int32)) hC dL_law_262 (by decide) ?_
            refine x_sub (l' := [(0, va_rf (some b)), (1, va_rf v82), (4, .int v84), (5, .int v85), (6, .int v86), (7, .long v87), (10, .int v89), (11, .int v90), (12, .int v91), (13, .int v92), (14, .int v93)]) [1, 2, 4, 5, 6, 7, 9, 10, 11, 12, 0] rfl ?_
            exact J_264 _ _ _ _ _ _ _ _ _ _ _ _ _ h
          · replace h := wit_f c230 h
            refine x_iload (i := 9) hC dL_law_255 8 rfl ?_
            refine x_iconst (v := (1 : Int32)) hC dL_law_257 (by decide) ?_
            refine x_iadd hC dL_law_258 ?_
            refine x_goto (t := 264) hC dL_law_259 (by decide) ?_
            refine x_sub (l' := [(0, va_rf (some b)), (1, va_rf v82), (4, .int v84), (5, .int v85), (6, .int v86), (7, .long v87), (10, .int v89), (11, .int v90), (12, .int v91), (13, .int v92), (14, .int v93)]) [1, 2, 4, 5, 6, 7, 9, 10, 11, 12, 0] rfl ?_
            exact J_264 _ _ _ _ _ _ _ _ _ _ _ _ _ h
        · exact h.elim
  have J_199 : ∀ (v62 : Option Nat) (v63 : Int32) (v64 : Int32) (v65 : Int32) (v66 : Int64) (v67 : Int32) (v68 : Int32) (v69 : Int32) (v70 : Int32) (v71 : Int32) (v72 : Int32) (S73 : PH), wj_L_law_199 xs L K v62 v63 v64 v65 v66 v67 v68 v69 v70 v71 v72 S73 → PX Z 18 S73 (k0 + 0) (n0 + 0) 199 [(0, va_rf (some b)), (1, va_rf v62), (4, .int v63), (5, .int v64), (6, .int v65), (7, .long v66), (9, .int v67), (10, .int v68), (11, .int v69), (12, .int v70), (13, .int v71)] [.int v72] := by
    intro v62 v63 v64 v65 v66 v67 v68 v69 v70 v71 v72 S73 h
    unfold wj_L_law_199 at h
    refine x_istore_n (i := 3) (l' := [(3, .int v72), (0, va_rf (some b)), (1, va_rf v62), (4, .int v63), (5, .int v64), (6, .int v65), (7, .long v66), (9, .int v67), (10, .int v68), (11, .int v69), (12, .int v70), (13, .int v71)]) hC dL_law_199 rfl (⟨fun _ => c_rf (some b), ⟨fun _ => c_rf v62, ⟨fun _ => rfl, ⟨fun _ => rfl, ⟨fun _ => rfl, ⟨fun q => absurd (show (7 : Nat) + 1 = 3 from q) (by decide), ⟨fun _ => rfl, ⟨fun _ => rfl, ⟨fun _ => rfl, ⟨fun _ => rfl, ⟨fun _ => rfl, trivial⟩⟩⟩⟩⟩⟩⟩⟩⟩⟩⟩) (by decide) rfl ?_
    refine x_iload (i := 5) hC dL_law_200 4 rfl ?_
    refine x_bipush (v := (16 : Int32)) hC dL_law_202 (by decide) ?_
    obtain ⟨v74, S75, hb76, h⟩ := h
    refine x_callS hC (st := []) (mt_L_up _ _ _ _ hb76) q_497 q_498 q_0 q_499 hy_L_up ⟨Nat.le_of_ble_eq_true rfl, Nat.le_of_ble_eq_true rfl⟩ ⟨(show k0 + 0 + 0 ≤ 600130 from by omega), (show n0 + 0 + 0 ≤ 7301080 from by omega)⟩ rfl (Nat.le_of_ble_eq_true rfl) dL_law_204 (r_N ?_) r_NX
    show PX Z 18 S75 (k0 + 0) (n0 + 0) 207 [(3, .int v72), (0, va_rf (some b)), (1, va_rf v62), (4, .int v63), (5, .int v64), (6, .int v65), (7, .long v66), (9, .int v67), (10, .int v68), (11, .int v69), (12, .int v70), (13, .int v71)] [.int v74]
    refine x_bipush (v := (13 : Int32)) hC dL_law_207 (by decide) ?_
    refine x_icmp_le (t := 223) hC dL_law_209 (by decide) (fun c77 => ?_) (fun c77 => ?_)
    · replace h := wit_t c77 h
      refine x_aload_n (i := 1) hC dL_law_223 rfl 2 rfl ?_
      refine x_iload (i := 5) hC dL_law_224 4 rfl ?_
      refine x_iload (i := 6) hC dL_law_226 5 rfl ?_
      refine x_callS hC (st := []) (mt_L_act _ _ _ _ _ h) q_560 q_561 q_0 q_562 hy_L_act ⟨Nat.le_of_ble_eq_true rfl, Nat.le_of_ble_eq_true rfl⟩ ⟨(show k0 + 0 + 21 ≤ 600130 from by omega), (show n0 + 0 + 173 ≤ 7301080 from by omega)⟩ rfl (Nat.le_of_ble_eq_true rfl) dL_law_228 (r_W (fun v78 S79 h => ?_)) (r_Wx (fun j80 S81 h => ?_))
      · replace h := wq_r h
        show PX Z 18 S79 (k0 + 21) (n0 + 173) 231 [(3, .int v72), (0, va_rf (some b)), (1, va_rf v62), (4, .int v63), (5, .int v64), (6, .int v65), (7, .long v66), (9, .int v67), (10, .int v68), (11, .int v69), (12, .int v70), (13, .int v71)] [.int v78]
        refine x_sub (l' := [(0, va_rf (some b)), (1, va_rf v62), (3, .int v72), (4, .int v63), (5, .int v64), (6, .int v65), (7, .long v66), (9, .int v67), (10, .int v68), (11, .int v69), (12, .int v70), (13, .int v71)]) [1, 2, 0, 3, 4, 5, 6, 7, 8, 9, 10, 11] rfl ?_
        exact J_231 _ _ _ _ _ _ _ _ _ _ _ _ _ h
      · replace h := wq_l h
        exact h.elim
    · replace h := wit_f c77 h
      refine x_aload_n (i := 1) hC dL_law_212 rfl 2 rfl ?_
      refine x_iload (i := 10) hC dL_law_213 8 rfl ?_
      refine x_iload (i := 11) hC dL_law_215 9 rfl ?_
      obtain ⟨a261, ea262, ha263, h⟩ := h
      refine x_callV hC (st := []) (mt_X4_take _ _ _ _ _ h) ea262 ha263 kf_4 q_309 q_310 q_311 q_1 q_312 ⟨rfl, hy_X4_take⟩ ⟨Nat.le_of_ble_eq_true rfl, Nat.le_of_ble_eq_true rfl⟩ ⟨(show k0 + 0 + 21 ≤ 600130 from by omega), (show n0 + 0 + 173 ≤ 7301080 from by omega)⟩ rfl (Nat.le_of_ble_eq_true rfl) dL_law_217 (r_W (fun v264 S265 h => ?_)) (r_Wx (fun j266 S267 h => ?_))
      · replace h := wq_r h
        show PX Z 18 S265 (k0 + 21) (n0 + 173) 220 [(3, .int v72), (0, va_rf (some b)), (1, va_rf v62), (4, .int v63), (5, .int v64), (6, .int v65), (7, .long v66), (9, .int v67), (10, .int v68), (11, .int v69), (12, .int v70), (13, .int v71)] [.int v264]
        refine x_goto (t := 231) hC dL_law_220 (by decide) ?_
        refine x_sub (l' := [(0, va_rf (some b)), (1, va_rf v62), (3, .int v72), (4, .int v63), (5, .int v64), (6, .int v65), (7, .long v66), (9, .int v67), (10, .int v68), (11, .int v69), (12, .int v70), (13, .int v71)]) [1, 2, 0, 3, 4, 5, 6, 7, 8, 9, 10, 11] rfl ?_
        exact J_231 _ _ _ _ _ _ _ _ _ _ _ _ _ h
      · replace h := wq_l h
        exact h.elim
  have J_489 : ∀ (v2 : Option Nat) (v3 : Int32) (S4 : PH), wj_L_law_489 xs L K v2 v3 S4 → PX Z 18 S4 (k0 + 0) (n0 + 0) 489 [(0, va_rf (some b)), (1, va_rf v2), (3, .int v3)] [] := by
    intro v2 v3 S4 h
    unfold wj_L_law_489 at h
    refine x_iload_n (i := 3) hC dL_law_489 rfl 2 rfl ?_
    refine x_if_eq (t := 504) hC dL_law_490 (by decide) (fun c5 => ?_) (fun c5 => ?_)
    · replace h := wit_t c5 h
      refine x_iconst (v := (0 : Int32)) hC dL_law_504 (by decide) ?_
      refine x_tI (show (0 : Int32) = (1 : Int32) from h) ?_
      exact hEnd _ _ _ _ _ (by omega) (by omega) dL_law_505
    · replace h := wit_f c5 h
      refine x_aload_n (i := 1) hC dL_law_493 rfl 1 rfl ?_
      replace h := wbt_el h
      obtain ⟨v6, S7, hb11, h⟩ | ⟨j8, S9, hb11, h⟩ := h
      · refine x_callS hC (st := []) (mtr_L_holds _ _ (v6, S7) hb11) q_653 q_654 q_0 q_655 hy_L_holds ⟨Nat.le_of_ble_eq_true rfl, Nat.le_of_ble_eq_true rfl⟩ ⟨(show k0 + 0 + 0 ≤ 600130 from by omega), (show n0 + 0 + 0 ≤ 7301080 from by omega)⟩ rfl (Nat.le_of_ble_eq_true rfl) dL_law_494 (r_N ?_) r_NX
        show PX Z 18 S7 (k0 + 0) (n0 + 0) 497 [(0, va_rf (some b)), (1, va_rf v2), (3, .int v3)] [.int v6]
        refine x_if_eq (t := 504) hC dL_law_497 (by decide) (fun c10 => ?_) (fun c10 => ?_)
        · replace h := wit_t c10 h
          refine x_iconst (v := (0 : Int32)) hC dL_law_504 (by decide) ?_
          refine x_tI (show (0 : Int32) = (1 : Int32) from h) ?_
          exact hEnd _ _ _ _ _ (by omega) (by omega) dL_law_505
        · replace h := wit_f c10 h
          refine x_iconst (v := (1 : Int32)) hC dL_law_500 (by decide) ?_
          refine x_goto (t := 505) hC dL_law_501 (by decide) ?_
          refine x_tI (show (1 : Int32) = (1 : Int32) from h) ?_
          exact hEnd _ _ _ _ _ (by omega) (by omega) dL_law_505
      · exact h.elim
  unfold w_law_round at h
  refine x_iload (i := 4) hC dL_law_97 3 rfl ?_
  refine x_bipush (v := (40 : Int32)) hC dL_law_99 (by decide) ?_
  refine x_icmp_ge (t := 489) hC dL_law_101 (by decide) (fun c1 => ?_) (fun c1 => ?_)
  · replace h := wit_t c1 h
    refine x_sub (l' := [(0, va_rf (some b)), (1, va_rf r1), (3, .int i3)]) [0, 1, 2] rfl ?_
    exact J_489 _ _ _ h
  · replace h := wit_f c1 h
    refine x_iload_n (i := 3) hC dL_law_104 rfl 2 rfl ?_
    refine x_if_eq (t := 489) hC dL_law_105 (by decide) (fun c12 => ?_) (fun c12 => ?_)
    · replace h := wit_t c12 h
      refine x_sub (l' := [(0, va_rf (some b)), (1, va_rf r1), (3, .int i3)]) [0, 1, 2] rfl ?_
      exact J_489 _ _ _ h
    · replace h := wit_f c12 h
      refine x_aload_n (i := 0) hC dL_law_108 rfl 0 rfl ?_
      refine x_iconst (v := (2 : Int32)) hC dL_law_109 (by decide) ?_
      refine x_iload (i := 4) hC dL_law_110 3 rfl ?_
      refine x_imul hC dL_law_112 ?_
      obtain ⟨v13, S14, hb15, h⟩ := h
      refine x_callSs hC hX (st := []) (mts_L_cell _ _ _ hb15) q_493 q_494 q_0 q_495 hy_L_cell ⟨Nat.le_of_ble_eq_true rfl, Nat.le_of_ble_eq_true rfl⟩ ⟨(show k0 + 0 + 0 ≤ 600130 from by omega), (show n0 + 0 + 0 ≤ 7301080 from by omega)⟩ rfl (Nat.le_of_ble_eq_true rfl) dL_law_113 (r_N ?_) r_NX
      show PX Z 18 S14 (k0 + 0) (n0 + 0) 116 [(0, va_rf (some b)), (1, va_rf r1), (3, .int i3), (4, .int i4)] [.int v13]
      refine x_istore (i := 5) (l' := [(5, .int v13), (0, va_rf (some b)), (1, va_rf r1), (3, .int i3), (4, .int i4)]) hC dL_law_116 (⟨fun _ => c_rf (some b), ⟨fun _ => c_rf r1, ⟨fun _ => rfl, ⟨fun _ => rfl, trivial⟩⟩⟩⟩) (by decide) rfl ?_
      refine x_aload_n (i := 0) hC dL_law_118 rfl 1 rfl ?_
      refine x_iconst (v := (2 : Int32)) hC dL_law_119 (by decide) ?_
      refine x_iload (i := 4) hC dL_law_120 4 rfl ?_
      refine x_imul hC dL_law_122 ?_
      refine x_iconst (v := (1 : Int32)) hC dL_law_123 (by decide) ?_
      refine x_iadd hC dL_law_124 ?_
      obtain ⟨v16, S17, hb18, h⟩ := h
      refine x_callSs hC hX (st := []) (mts_L_cell _ _ _ hb18) q_493 q_494 q_0 q_495 hy_L_cell ⟨Nat.le_of_ble_eq_true rfl, Nat.le_of_ble_eq_true rfl⟩ ⟨(show k0 + 0 + 0 ≤ 600130 from by omega), (show n0 + 0 + 0 ≤ 7301080 from by omega)⟩ rfl (Nat.le_of_ble_eq_true rfl) dL_law_125 (r_N ?_) r_NX
      show PX Z 18 S17 (k0 + 0) (n0 + 0) 128 [(5, .int v13), (0, va_rf (some b)), (1, va_rf r1), (3, .int i3), (4, .int i4)] [.int v16]
      refine x_istore (i := 6) (l' := [(6, .int v16), (5, .int v13), (0, va_rf (some b)), (1, va_rf r1), (3, .int i3), (4, .int i4)]) hC dL_law_128 (⟨fun _ => rfl, ⟨fun _ => c_rf (some b), ⟨fun _ => c_rf r1, ⟨fun _ => rfl, ⟨fun _ => rfl, trivial⟩⟩⟩⟩⟩) (by decide) rfl ?_
      refine x_aload_n (i := 1) hC dL_law_130 rfl 3 rfl ?_
      replace h := wbt_el h
      obtain ⟨v19, S20, hb273, h⟩ | ⟨j21, S22, hb273, h⟩ := h
      · refine x_callS hC (st := []) (mtr_L_looks _ _ (v19, S20) hb273) q_501 q_502 q_0 q_503 hy_L_looks ⟨Nat.le_of_ble_eq_true rfl, Nat.le_of_ble_eq_true rfl⟩ ⟨(show k0 + 0 + 0 ≤ 600130 from by omega), (show n0 + 0 + 0 ≤ 7301080 from by omega)⟩ rfl (Nat.le_of_ble_eq_true rfl) dL_law_131 (r_N ?_) r_NX
        show PX Z 18 S20 (k0 + 0) (n0 + 0) 134 [(6, .int v16), (5, .int v13), (0, va_rf (some b)), (1, va_rf r1), (3, .int i3), (4, .int i4)] [.long v19]
        refine x_lstore (i := 7) (l' := [(7, .long v19), (6, .int v16), (5, .int v13), (0, va_rf (some b)), (1, va_rf r1), (3, .int i3), (4, .int i4)]) hC dL_law_134 (⟨fun _ => rfl, ⟨fun _ => rfl, ⟨fun _ => c_rf (some b), ⟨fun _ => c_rf r1, ⟨fun _ => rfl, ⟨fun _ => rfl, trivial⟩⟩⟩⟩⟩⟩) (by decide) rfl ?_
        refine x_aload_n (i := 1) hC dL_law_136 rfl 4 rfl ?_
        refine x_bipush (v := (11 : Int32)) hC dL_law_137 (by decide) ?_
        obtain ⟨a23, ea24, ha25, h⟩ := h
        replace h := wbt_el h
        obtain ⟨v26, S27, hb272, h⟩ | ⟨j28, S29, hb272, h⟩ := h
        · refine x_callV hC (st := []) (mtr_X4_count _ _ _ (v26, S27) hb272) ea24 ha25 kf_4 q_406 q_407 q_408 q_1 q_409 ⟨rfl, hy_X4_count⟩ ⟨Nat.le_of_ble_eq_true rfl, Nat.le_of_ble_eq_true rfl⟩ ⟨(show k0 + 0 + 0 ≤ 600130 from by omega), (show n0 + 0 + 0 ≤ 7301080 from by omega)⟩ rfl (Nat.le_of_ble_eq_true rfl) dL_law_139 (r_N ?_) r_NX
          show PX Z 18 S27 (k0 + 0) (n0 + 0) 142 [(7, .long v19), (6, .int v16), (5, .int v13), (0, va_rf (some b)), (1, va_rf r1), (3, .int i3), (4, .int i4)] [.int v26]
          refine x_istore (i := 9) (l' := [(9, .int v26), (7, .long v19), (6, .int v16), (5, .int v13), (0, va_rf (some b)), (1, va_rf r1), (3, .int i3), (4, .int i4)]) hC dL_law_142 (⟨fun q => absurd (show (7 : Nat) + 1 = 9 from q) (by decide), ⟨fun _ => rfl, ⟨fun _ => rfl, ⟨fun _ => c_rf (some b), ⟨fun _ => c_rf r1, ⟨fun _ => rfl, ⟨fun _ => rfl, trivial⟩⟩⟩⟩⟩⟩⟩) (by decide) rfl ?_
          refine x_iload (i := 6) hC dL_law_144 2 rfl ?_
          refine x_bipush (v := (8 : Int32)) hC dL_law_146 (by decide) ?_
          obtain ⟨v30, S31, hb32, h⟩ := h
          refine x_callS hC (st := []) (mt_L_up _ _ _ _ hb32) q_497 q_498 q_0 q_499 hy_L_up ⟨Nat.le_of_ble_eq_true rfl, Nat.le_of_ble_eq_true rfl⟩ ⟨(show k0 + 0 + 0 ≤ 600130 from by omega), (show n0 + 0 + 0 ≤ 7301080 from by omega)⟩ rfl (Nat.le_of_ble_eq_true rfl) dL_law_148 (r_N ?_) r_NX
          show PX Z 18 S31 (k0 + 0) (n0 + 0) 151 [(9, .int v26), (7, .long v19), (6, .int v16), (5, .int v13), (0, va_rf (some b)), (1, va_rf r1), (3, .int i3), (4, .int i4)] [.int v30]
          refine x_istore (i := 10) (l' := [(10, .int v30), (9, .int v26), (7, .long v19), (6, .int v16), (5, .int v13), (0, va_rf (some b)), (1, va_rf r1), (3, .int i3), (4, .int i4)]) hC dL_law_151 (⟨fun _ => rfl, ⟨fun q => absurd (show (7 : Nat) + 1 = 10 from q) (by decide), ⟨fun _ => rfl, ⟨fun _ => rfl, ⟨fun _ => c_rf (some b), ⟨fun _ => c_rf r1, ⟨fun _ => rfl, ⟨fun _ => rfl, trivial⟩⟩⟩⟩⟩⟩⟩⟩) (by decide) rfl ?_
          refine x_iload (i := 6) hC dL_law_153 3 rfl ?_
          refine x_iconst (v := (3 : Int32)) hC dL_law_155 (by decide) ?_
          refine x_ishr hC dL_law_156 ?_
          refine x_aload_n (i := 1) hC dL_law_157 rfl 6 rfl ?_
          refine x_iconst (v := (0 : Int32)) hC dL_law_158 (by decide) ?_
          obtain ⟨a33, ea34, ha35, h⟩ := h
          replace h := wbt_el h
          obtain ⟨v36, S37, hb271, h⟩ | ⟨j38, S39, hb271, h⟩ := h
          · refine x_callV hC (st := [.int (v16 >>> ((3 : Int32) &&& 31))]) (mtr_X4_count _ _ _ (v36, S37) hb271) ea34 ha35 kf_4 q_406 q_407 q_408 q_1 q_409 ⟨rfl, hy_X4_count⟩ ⟨Nat.le_of_ble_eq_true rfl, Nat.le_of_ble_eq_true rfl⟩ ⟨(show k0 + 0 + 0 ≤ 600130 from by omega), (show n0 + 0 + 0 ≤ 7301080 from by omega)⟩ rfl (Nat.le_of_ble_eq_true rfl) dL_law_159 (r_N ?_) r_NX
            show PX Z 18 S37 (k0 + 0) (n0 + 0) 162 [(10, .int v30), (9, .int v26), (7, .long v19), (6, .int v16), (5, .int v13), (0, va_rf (some b)), (1, va_rf r1), (3, .int i3), (4, .int i4)] [.int v36, .int (v16 >>> ((3 : Int32) &&& 31))]
            obtain ⟨v40, S41, hb42, h⟩ := h
            refine x_callS hC (st := []) (mt_L_up _ _ _ _ hb42) q_497 q_498 q_0 q_499 hy_L_up ⟨Nat.le_of_ble_eq_true rfl, Nat.le_of_ble_eq_true rfl⟩ ⟨(show k0 + 0 + 0 ≤ 600130 from by omega), (show n0 + 0 + 0 ≤ 7301080 from by omega)⟩ rfl (Nat.le_of_ble_eq_true rfl) dL_law_162 (r_N ?_) r_NX
            show PX Z 18 S41 (k0 + 0) (n0 + 0) 165 [(10, .int v30), (9, .int v26), (7, .long v19), (6, .int v16), (5, .int v13), (0, va_rf (some b)), (1, va_rf r1), (3, .int i3), (4, .int i4)] [.int v40]
            refine x_istore (i := 11) (l' := [(11, .int v40), (10, .int v30), (9, .int v26), (7, .long v19), (6, .int v16), (5, .int v13), (0, va_rf (some b)), (1, va_rf r1), (3, .int i3), (4, .int i4)]) hC dL_law_165 (⟨fun _ => rfl, ⟨fun _ => rfl, ⟨fun q => absurd (show (7 : Nat) + 1 = 11 from q) (by decide), ⟨fun _ => rfl, ⟨fun _ => rfl, ⟨fun _ => c_rf (some b), ⟨fun _ => c_rf r1, ⟨fun _ => rfl, ⟨fun _ => rfl, trivial⟩⟩⟩⟩⟩⟩⟩⟩⟩) (by decide) rfl ?_
            refine x_aload_n (i := 1) hC dL_law_167 rfl 7 rfl ?_
            refine x_iload (i := 10) hC dL_law_168 1 rfl ?_
            refine x_iload (i := 11) hC dL_law_170 0 rfl ?_
            obtain ⟨a43, ea44, ha45, h⟩ := h
            replace h := wbt_el h
            obtain ⟨v46, S47, hb270, h⟩ | ⟨j48, S49, hb270, h⟩ := h
            · refine x_callV hC (st := []) (mtr_X4_whyNot _ _ _ _ (v46, S47) hb270) ea44 ha45 kf_4 q_445 q_446 q_447 q_1 q_448 ⟨rfl, hy_X4_whyNot⟩ ⟨Nat.le_of_ble_eq_true rfl, Nat.le_of_ble_eq_true rfl⟩ ⟨(show k0 + 0 + 0 ≤ 600130 from by omega), (show n0 + 0 + 0 ≤ 7301080 from by omega)⟩ rfl (Nat.le_of_ble_eq_true rfl) dL_law_172 (r_N ?_) r_NX
              show PX Z 18 S47 (k0 + 0) (n0 + 0) 175 [(11, .int v40), (10, .int v30), (9, .int v26), (7, .long v19), (6, .int v16), (5, .int v13), (0, va_rf (some b)), (1, va_rf r1), (3, .int i3), (4, .int i4)] [.int v46]
              refine x_istore (i := 12) (l' := [(12, .int v46), (11, .int v40), (10, .int v30), (9, .int v26), (7, .long v19), (6, .int v16), (5, .int v13), (0, va_rf (some b)), (1, va_rf r1), (3, .int i3), (4, .int i4)]) hC dL_law_175 (⟨fun _ => rfl, ⟨fun _ => rfl, ⟨fun _ => rfl, ⟨fun q => absurd (show (7 : Nat) + 1 = 12 from q) (by decide), ⟨fun _ => rfl, ⟨fun _ => rfl, ⟨fun _ => c_rf (some b), ⟨fun _ => c_rf r1, ⟨fun _ => rfl, ⟨fun _ => rfl, trivial⟩⟩⟩⟩⟩⟩⟩⟩⟩⟩) (by decide) rfl ?_
              refine x_aload_n (i := 1) hC dL_law_177 rfl 8 rfl ?_
              refine x_iconst (v := (0 : Int32)) hC dL_law_178 (by decide) ?_
              obtain ⟨a50, ea51, ha52, h⟩ := h
              replace h := wbt_el h
              obtain ⟨v53, S54, hb269, h⟩ | ⟨j55, S56, hb269, h⟩ := h
              · refine x_callV hC (st := []) (mtr_X4_most _ _ _ (v53, S54) hb269) ea51 ha52 kf_4 q_449 q_450 q_451 q_1 q_452 ⟨rfl, hy_X4_most⟩ ⟨Nat.le_of_ble_eq_true rfl, Nat.le_of_ble_eq_true rfl⟩ ⟨(show k0 + 0 + 0 ≤ 600130 from by omega), (show n0 + 0 + 0 ≤ 7301080 from by omega)⟩ rfl (Nat.le_of_ble_eq_true rfl) dL_law_179 (r_N ?_) r_NX
                show PX Z 18 S54 (k0 + 0) (n0 + 0) 182 [(12, .int v46), (11, .int v40), (10, .int v30), (9, .int v26), (7, .long v19), (6, .int v16), (5, .int v13), (0, va_rf (some b)), (1, va_rf r1), (3, .int i3), (4, .int i4)] [.int v53]
                refine x_istore (i := 13) (l' := [(13, .int v53), (12, .int v46), (11, .int v40), (10, .int v30), (9, .int v26), (7, .long v19), (6, .int v16), (5, .int v13), (0, va_rf (some b)), (1, va_rf r1), (3, .int i3), (4, .int i4)]) hC dL_law_182 (⟨fun _ => rfl, ⟨fun _ => rfl, ⟨fun _ => rfl, ⟨fun _ => rfl, ⟨fun q => absurd (show (7 : Nat) + 1 = 13 from q) (by decide), ⟨fun _ => rfl, ⟨fun _ => rfl, ⟨fun _ => c_rf (some b), ⟨fun _ => c_rf r1, ⟨fun _ => rfl, ⟨fun _ => rfl, trivial⟩⟩⟩⟩⟩⟩⟩⟩⟩⟩⟩) (by decide) rfl ?_
                refine x_aload_n (i := 1) hC dL_law_184 rfl 9 rfl ?_
                replace h := wbt_el h
                obtain ⟨v57, S58, hb268, h⟩ | ⟨j59, S60, hb268, h⟩ := h
                · refine x_callS hC (st := []) (mtr_L_looks _ _ (v57, S58) hb268) q_501 q_502 q_0 q_503 hy_L_looks ⟨Nat.le_of_ble_eq_true rfl, Nat.le_of_ble_eq_true rfl⟩ ⟨(show k0 + 0 + 0 ≤ 600130 from by omega), (show n0 + 0 + 0 ≤ 7301080 from by omega)⟩ rfl (Nat.le_of_ble_eq_true rfl) dL_law_185 (r_N ?_) r_NX
                  show PX Z 18 S58 (k0 + 0) (n0 + 0) 188 [(13, .int v53), (12, .int v46), (11, .int v40), (10, .int v30), (9, .int v26), (7, .long v19), (6, .int v16), (5, .int v13), (0, va_rf (some b)), (1, va_rf r1), (3, .int i3), (4, .int i4)] [.long v57]
                  refine x_lload (i := 7) hC dL_law_188 5 rfl ?_
                  refine x_lcmp hC dL_law_190 ?_
                  refine x_if_ne (t := 198) hC dL_law_191 (by decide) (fun c61 => ?_) (fun c61 => ?_)
                  · replace h := wit_f c61 h
                    refine x_iconst (v := (0 : Int32)) hC dL_law_198 (by decide) ?_
                    refine x_sub (l' := [(0, va_rf (some b)), (1, va_rf r1), (4, .int i4), (5, .int v13), (6, .int v16), (7, .long v19), (9, .int v26), (10, .int v30), (11, .int v40), (12, .int v46), (13, .int v53)]) [8, 9, 11, 7, 6, 5, 4, 3, 2, 1, 0] rfl ?_
                    exact J_199 _ _ _ _ _ _ _ _ _ _ _ _ h
                  · replace h := wit_t c61 h
                    refine x_iconst (v := (1 : Int32)) hC dL_law_194 (by decide) ?_
                    refine x_goto (t := 199) hC dL_law_195 (by decide) ?_
                    refine x_sub (l' := [(0, va_rf (some b)), (1, va_rf r1), (4, .int i4), (5, .int v13), (6, .int v16), (7, .long v19), (9, .int v26), (10, .int v30), (11, .int v40), (12, .int v46), (13, .int v53)]) [8, 9, 11, 7, 6, 5, 4, 3, 2, 1, 0] rfl ?_
                    exact J_199 _ _ _ _ _ _ _ _ _ _ _ _ h
                · exact h.elim
              · exact h.elim
            · exact h.elim
          · exact h.elim
        · exact h.elim
      · exact h.elim
def w_law_start (xs : Nat → Int32) (L : Nat) (S0 : PH) (K : Option Nat → Int32 → Int32 → PH → Prop) : Prop := wnw S0 fun q1 => wle (s_N S0 q1 4 0) fun S3 => wdr S3 4 (some q1) fun a5 => w_X4_init (some q1) S3 (wq (fun v8 S9 => wle (some q1) fun r12 => wbd (m_L_cell xs L (80 : Int32) S9) fun v14 S15 => wbd (m_L_up v14 (4 : Int32) S15) fun v17 S18 => wbd (m_L_cell xs L (81 : Int32) S18) fun v20 S21 => wbd (m_L_up v20 (8 : Int32) S21) fun v23 S24 => wdr S24 4 r12 fun a26 => w_X4_paper r12 v17 ((1 : Int32) <<< (v23 &&& 31)) S24 (wq (fun v29 S30 => wbd (m_L_cell xs L (82 : Int32) S30) fun v33 S34 => wbd (m_L_up v33 (4 : Int32) S34) fun v36 S37 => wbd (m_L_cell xs L (83 : Int32) S37) fun v39 S40 => wbd (m_L_up v39 (8 : Int32) S40) fun v42 S43 => wdr S43 4 r12 fun a45 => w_X4_paper r12 v36 ((1 : Int32) <<< (v42 &&& 31)) S43 (wq (fun v48 S49 => wdr S49 4 r12 fun a52 => w_X4_week r12 S49 (wq (fun v55 S56 => wdr S56 4 r12 fun a59 => w_X4_keep r12 (0 : Int32) S56 (wq (fun v62 S63 => wle (((v29 + v48) + v55) + v62) fun x66 => if x66 = (35 : Int32) then (wbt (m_L_holds r12 S63) (fun v69 S70 => if v69 = 0 then (K r12 (0 : Int32) (0 : Int32) S70) else (K r12 (1 : Int32) (0 : Int32) S70)) (fun j71 S72 => False)) else (K r12 (0 : Int32) (0 : Int32) S63)) (fun j64 S65 => False))) (fun j57 S58 => False))) (fun j50 S51 => False))) (fun j31 S32 => False))) (fun _ _ => False))
theorem dL_law_0 : decode cL_law 0 = .ok (.new 14, 3) := by decide +kernel
theorem dL_law_3 : decode cL_law 3 = .ok (.dup, 1) := by decide +kernel
theorem dL_law_4 : decode cL_law 4 = .ok (.invokespecial 100, 3) := by decide +kernel
theorem dL_law_7 : decode cL_law 7 = .ok (.astore_n 1, 1) := by decide +kernel
theorem dL_law_8 : decode cL_law 8 = .ok (.aload_n 1, 1) := by decide +kernel
theorem dL_law_9 : decode cL_law 9 = .ok (.aload_n 0, 1) := by decide +kernel
theorem dL_law_10 : decode cL_law 10 = .ok (.bipush 80, 2) := by decide +kernel
theorem dL_law_12 : decode cL_law 12 = .ok (.invokestatic 101, 3) := by decide +kernel
theorem dL_law_15 : decode cL_law 15 = .ok (.iconst 4, 1) := by decide +kernel
theorem dL_law_16 : decode cL_law 16 = .ok (.invokestatic 32, 3) := by decide +kernel
theorem dL_law_19 : decode cL_law 19 = .ok (.iconst 1, 1) := by decide +kernel
theorem dL_law_20 : decode cL_law 20 = .ok (.aload_n 0, 1) := by decide +kernel
theorem dL_law_21 : decode cL_law 21 = .ok (.bipush 81, 2) := by decide +kernel
theorem dL_law_23 : decode cL_law 23 = .ok (.invokestatic 101, 3) := by decide +kernel
theorem dL_law_26 : decode cL_law 26 = .ok (.bipush 8, 2) := by decide +kernel
theorem dL_law_28 : decode cL_law 28 = .ok (.invokestatic 32, 3) := by decide +kernel
theorem dL_law_31 : decode cL_law 31 = .ok (.ishl, 1) := by decide +kernel
theorem dL_law_32 : decode cL_law 32 = .ok (.invokevirtual 37, 3) := by decide +kernel
theorem dL_law_35 : decode cL_law 35 = .ok (.aload_n 1, 1) := by decide +kernel
theorem dL_law_36 : decode cL_law 36 = .ok (.aload_n 0, 1) := by decide +kernel
theorem dL_law_37 : decode cL_law 37 = .ok (.bipush 82, 2) := by decide +kernel
theorem dL_law_39 : decode cL_law 39 = .ok (.invokestatic 101, 3) := by decide +kernel
theorem dL_law_42 : decode cL_law 42 = .ok (.iconst 4, 1) := by decide +kernel
theorem dL_law_43 : decode cL_law 43 = .ok (.invokestatic 32, 3) := by decide +kernel
theorem dL_law_46 : decode cL_law 46 = .ok (.iconst 1, 1) := by decide +kernel
theorem dL_law_47 : decode cL_law 47 = .ok (.aload_n 0, 1) := by decide +kernel
theorem dL_law_48 : decode cL_law 48 = .ok (.bipush 83, 2) := by decide +kernel
theorem dL_law_50 : decode cL_law 50 = .ok (.invokestatic 101, 3) := by decide +kernel
theorem dL_law_53 : decode cL_law 53 = .ok (.bipush 8, 2) := by decide +kernel
theorem dL_law_55 : decode cL_law 55 = .ok (.invokestatic 32, 3) := by decide +kernel
theorem dL_law_58 : decode cL_law 58 = .ok (.ishl, 1) := by decide +kernel
theorem dL_law_59 : decode cL_law 59 = .ok (.invokevirtual 37, 3) := by decide +kernel
theorem dL_law_62 : decode cL_law 62 = .ok (.iadd, 1) := by decide +kernel
theorem dL_law_63 : decode cL_law 63 = .ok (.aload_n 1, 1) := by decide +kernel
theorem dL_law_64 : decode cL_law 64 = .ok (.invokevirtual 40, 3) := by decide +kernel
theorem dL_law_67 : decode cL_law 67 = .ok (.iadd, 1) := by decide +kernel
theorem dL_law_68 : decode cL_law 68 = .ok (.aload_n 1, 1) := by decide +kernel
theorem dL_law_69 : decode cL_law 69 = .ok (.iconst 0, 1) := by decide +kernel
theorem dL_law_70 : decode cL_law 70 = .ok (.invokevirtual 105, 3) := by decide +kernel
theorem dL_law_73 : decode cL_law 73 = .ok (.iadd, 1) := by decide +kernel
theorem dL_law_74 : decode cL_law 74 = .ok (.istore_n 2, 1) := by decide +kernel
theorem dL_law_75 : decode cL_law 75 = .ok (.iload_n 2, 1) := by decide +kernel
theorem dL_law_76 : decode cL_law 76 = .ok (.bipush 35, 2) := by decide +kernel
theorem dL_law_78 : decode cL_law 78 = .ok (.if_icmp .ne 14, 3) := by decide +kernel
theorem dL_law_81 : decode cL_law 81 = .ok (.aload_n 1, 1) := by decide +kernel
theorem dL_law_82 : decode cL_law 82 = .ok (.invokestatic 108, 3) := by decide +kernel
theorem dL_law_85 : decode cL_law 85 = .ok (.ifCond .eq 7, 3) := by decide +kernel
theorem dL_law_88 : decode cL_law 88 = .ok (.iconst 1, 1) := by decide +kernel
theorem dL_law_89 : decode cL_law 89 = .ok (.goto 4, 3) := by decide +kernel
theorem dL_law_92 : decode cL_law 92 = .ok (.iconst 0, 1) := by decide +kernel
theorem dL_law_93 : decode cL_law 93 = .ok (.istore_n 3, 1) := by decide +kernel
theorem dL_law_94 : decode cL_law 94 = .ok (.iconst 0, 1) := by decide +kernel
theorem dL_law_95 : decode cL_law 95 = .ok (.istore 4, 2) := by decide +kernel
set_option maxRecDepth 100000 in
set_option maxHeartbeats 4000000 in
theorem wk_law_start {Z : ZT} {b L : Nat} {xs : Nat → Int32} (hC : CX Z cL_law RL 18 room_1) (hX : SX Z b L xs) (hEnd : EL Z) (S0 : PH) (K : Option Nat → Int32 → Int32 → PH → Prop) (hK : ∀ r1 i3 i4 S, K r1 i3 i4 S → PX Z 18 S 121 1024 97 [(0, va_rf (some b)), (1, va_rf r1), (3, .int i3), (4, .int i4)] []) (h : w_law_start xs L S0 K) : PX Z 18 S0 0 0 0 [(0, va_rf (some b))] [] := by
  unfold w_law_start at h
  refine x_new hC kf_4 q_15 q_16 q_1 (by decide) (Nat.le_of_ble_eq_true rfl) (Nat.le_of_ble_eq_true rfl) dL_law_0 (fun q1 hq2 => ?_)
  replace h := h q1 hq2
  obtain ⟨S3, hx4, h⟩ := wle_el h
  refine x_tS hx4 ?_
  refine x_dup hC dL_law_3 (c_rf (some q1)) ?_
  obtain ⟨a5, ea6, ha7, h⟩ := h
  refine x_callI hC (st := [va_rf (some q1)]) (mt_X4_init _ _ _ h) ea6 q_17 q_18 q_1 q_19 rfl hy_X4_init ⟨Nat.le_of_ble_eq_true rfl, Nat.le_of_ble_eq_true rfl⟩ ⟨Nat.le_of_ble_eq_true rfl, Nat.le_of_ble_eq_true rfl⟩ rfl (Nat.le_of_ble_eq_true rfl) dL_law_4 (r_W (fun v8 S9 h => ?_)) (r_Wx (fun _ _ h => (wq_l h).elim))
  replace h := wq_r h
  show PX Z 18 S9 37 332 7 [(0, va_rf (some b))] [va_rf (some q1)]
  obtain ⟨r12, hx13, h⟩ := wle_el h
  refine x_tA hx13 ?_
  refine x_astore_n (i := 1) (l' := [(1, va_rf r12), (0, va_rf (some b))]) hC dL_law_7 rfl (⟨fun _ => c_rf (some b), trivial⟩) (by decide) rfl ?_
  refine x_aload_n (i := 1) hC dL_law_8 rfl 0 rfl ?_
  refine x_aload_n (i := 0) hC dL_law_9 rfl 1 rfl ?_
  refine x_bipush (v := (80 : Int32)) hC dL_law_10 (by decide) ?_
  obtain ⟨v14, S15, hb16, h⟩ := h
  refine x_callSs hC hX (st := [va_rf r12]) (mts_L_cell _ _ _ hb16) q_493 q_494 q_0 q_495 hy_L_cell ⟨Nat.le_of_ble_eq_true rfl, Nat.le_of_ble_eq_true rfl⟩ ⟨Nat.le_of_ble_eq_true rfl, Nat.le_of_ble_eq_true rfl⟩ rfl (Nat.le_of_ble_eq_true rfl) dL_law_12 (r_N ?_) r_NX
  show PX Z 18 S15 37 332 15 [(1, va_rf r12), (0, va_rf (some b))] [.int v14, va_rf r12]
  refine x_iconst (v := (4 : Int32)) hC dL_law_15 (by decide) ?_
  obtain ⟨v17, S18, hb19, h⟩ := h
  refine x_callS hC (st := [va_rf r12]) (mt_L_up _ _ _ _ hb19) q_497 q_498 q_0 q_499 hy_L_up ⟨Nat.le_of_ble_eq_true rfl, Nat.le_of_ble_eq_true rfl⟩ ⟨Nat.le_of_ble_eq_true rfl, Nat.le_of_ble_eq_true rfl⟩ rfl (Nat.le_of_ble_eq_true rfl) dL_law_16 (r_N ?_) r_NX
  show PX Z 18 S18 37 332 19 [(1, va_rf r12), (0, va_rf (some b))] [.int v17, va_rf r12]
  refine x_iconst (v := (1 : Int32)) hC dL_law_19 (by decide) ?_
  refine x_aload_n (i := 0) hC dL_law_20 rfl 1 rfl ?_
  refine x_bipush (v := (81 : Int32)) hC dL_law_21 (by decide) ?_
  obtain ⟨v20, S21, hb22, h⟩ := h
  refine x_callSs hC hX (st := [.int (1 : Int32), .int v17, va_rf r12]) (mts_L_cell _ _ _ hb22) q_493 q_494 q_0 q_495 hy_L_cell ⟨Nat.le_of_ble_eq_true rfl, Nat.le_of_ble_eq_true rfl⟩ ⟨Nat.le_of_ble_eq_true rfl, Nat.le_of_ble_eq_true rfl⟩ rfl (Nat.le_of_ble_eq_true rfl) dL_law_23 (r_N ?_) r_NX
  show PX Z 18 S21 37 332 26 [(1, va_rf r12), (0, va_rf (some b))] [.int v20, .int (1 : Int32), .int v17, va_rf r12]
  refine x_bipush (v := (8 : Int32)) hC dL_law_26 (by decide) ?_
  obtain ⟨v23, S24, hb25, h⟩ := h
  refine x_callS hC (st := [.int (1 : Int32), .int v17, va_rf r12]) (mt_L_up _ _ _ _ hb25) q_497 q_498 q_0 q_499 hy_L_up ⟨Nat.le_of_ble_eq_true rfl, Nat.le_of_ble_eq_true rfl⟩ ⟨Nat.le_of_ble_eq_true rfl, Nat.le_of_ble_eq_true rfl⟩ rfl (Nat.le_of_ble_eq_true rfl) dL_law_28 (r_N ?_) r_NX
  show PX Z 18 S24 37 332 31 [(1, va_rf r12), (0, va_rf (some b))] [.int v23, .int (1 : Int32), .int v17, va_rf r12]
  refine x_ishl hC dL_law_31 ?_
  obtain ⟨a26, ea27, ha28, h⟩ := h
  refine x_callV hC (st := []) (mt_X4_paper _ _ _ _ _ h) ea27 ha28 kf_4 q_191 q_192 q_193 q_1 q_194 ⟨rfl, hy_X4_paper⟩ ⟨Nat.le_of_ble_eq_true rfl, Nat.le_of_ble_eq_true rfl⟩ ⟨Nat.le_of_ble_eq_true rfl, Nat.le_of_ble_eq_true rfl⟩ rfl (Nat.le_of_ble_eq_true rfl) dL_law_32 (r_W (fun v29 S30 h => ?_)) (r_Wx (fun j31 S32 h => ?_))
  · replace h := wq_r h
    show PX Z 18 S30 58 505 35 [(1, va_rf r12), (0, va_rf (some b))] [.int v29]
    refine x_aload_n (i := 1) hC dL_law_35 rfl 0 rfl ?_
    refine x_aload_n (i := 0) hC dL_law_36 rfl 1 rfl ?_
    refine x_bipush (v := (82 : Int32)) hC dL_law_37 (by decide) ?_
    obtain ⟨v33, S34, hb35, h⟩ := h
    refine x_callSs hC hX (st := [va_rf r12, .int v29]) (mts_L_cell _ _ _ hb35) q_493 q_494 q_0 q_495 hy_L_cell ⟨Nat.le_of_ble_eq_true rfl, Nat.le_of_ble_eq_true rfl⟩ ⟨Nat.le_of_ble_eq_true rfl, Nat.le_of_ble_eq_true rfl⟩ rfl (Nat.le_of_ble_eq_true rfl) dL_law_39 (r_N ?_) r_NX
    show PX Z 18 S34 58 505 42 [(1, va_rf r12), (0, va_rf (some b))] [.int v33, va_rf r12, .int v29]
    refine x_iconst (v := (4 : Int32)) hC dL_law_42 (by decide) ?_
    obtain ⟨v36, S37, hb38, h⟩ := h
    refine x_callS hC (st := [va_rf r12, .int v29]) (mt_L_up _ _ _ _ hb38) q_497 q_498 q_0 q_499 hy_L_up ⟨Nat.le_of_ble_eq_true rfl, Nat.le_of_ble_eq_true rfl⟩ ⟨Nat.le_of_ble_eq_true rfl, Nat.le_of_ble_eq_true rfl⟩ rfl (Nat.le_of_ble_eq_true rfl) dL_law_43 (r_N ?_) r_NX
    show PX Z 18 S37 58 505 46 [(1, va_rf r12), (0, va_rf (some b))] [.int v36, va_rf r12, .int v29]
    refine x_iconst (v := (1 : Int32)) hC dL_law_46 (by decide) ?_
    refine x_aload_n (i := 0) hC dL_law_47 rfl 1 rfl ?_
    refine x_bipush (v := (83 : Int32)) hC dL_law_48 (by decide) ?_
    obtain ⟨v39, S40, hb41, h⟩ := h
    refine x_callSs hC hX (st := [.int (1 : Int32), .int v36, va_rf r12, .int v29]) (mts_L_cell _ _ _ hb41) q_493 q_494 q_0 q_495 hy_L_cell ⟨Nat.le_of_ble_eq_true rfl, Nat.le_of_ble_eq_true rfl⟩ ⟨Nat.le_of_ble_eq_true rfl, Nat.le_of_ble_eq_true rfl⟩ rfl (Nat.le_of_ble_eq_true rfl) dL_law_50 (r_N ?_) r_NX
    show PX Z 18 S40 58 505 53 [(1, va_rf r12), (0, va_rf (some b))] [.int v39, .int (1 : Int32), .int v36, va_rf r12, .int v29]
    refine x_bipush (v := (8 : Int32)) hC dL_law_53 (by decide) ?_
    obtain ⟨v42, S43, hb44, h⟩ := h
    refine x_callS hC (st := [.int (1 : Int32), .int v36, va_rf r12, .int v29]) (mt_L_up _ _ _ _ hb44) q_497 q_498 q_0 q_499 hy_L_up ⟨Nat.le_of_ble_eq_true rfl, Nat.le_of_ble_eq_true rfl⟩ ⟨Nat.le_of_ble_eq_true rfl, Nat.le_of_ble_eq_true rfl⟩ rfl (Nat.le_of_ble_eq_true rfl) dL_law_55 (r_N ?_) r_NX
    show PX Z 18 S43 58 505 58 [(1, va_rf r12), (0, va_rf (some b))] [.int v42, .int (1 : Int32), .int v36, va_rf r12, .int v29]
    refine x_ishl hC dL_law_58 ?_
    obtain ⟨a45, ea46, ha47, h⟩ := h
    refine x_callV hC (st := [.int v29]) (mt_X4_paper _ _ _ _ _ h) ea46 ha47 kf_4 q_191 q_192 q_193 q_1 q_194 ⟨rfl, hy_X4_paper⟩ ⟨Nat.le_of_ble_eq_true rfl, Nat.le_of_ble_eq_true rfl⟩ ⟨Nat.le_of_ble_eq_true rfl, Nat.le_of_ble_eq_true rfl⟩ rfl (Nat.le_of_ble_eq_true rfl) dL_law_59 (r_W (fun v48 S49 h => ?_)) (r_Wx (fun j50 S51 h => ?_))
    · replace h := wq_r h
      show PX Z 18 S49 79 678 62 [(1, va_rf r12), (0, va_rf (some b))] [.int v48, .int v29]
      refine x_iadd hC dL_law_62 ?_
      refine x_aload_n (i := 1) hC dL_law_63 rfl 0 rfl ?_
      obtain ⟨a52, ea53, ha54, h⟩ := h
      refine x_callV hC (st := [.int (v29 + v48)]) (mt_X4_week _ _ _ h) ea53 ha54 kf_4 q_292 q_293 q_294 q_1 q_295 ⟨rfl, hy_X4_week⟩ ⟨Nat.le_of_ble_eq_true rfl, Nat.le_of_ble_eq_true rfl⟩ ⟨Nat.le_of_ble_eq_true rfl, Nat.le_of_ble_eq_true rfl⟩ rfl (Nat.le_of_ble_eq_true rfl) dL_law_64 (r_W (fun v55 S56 h => ?_)) (r_Wx (fun j57 S58 h => ?_))
      · replace h := wq_r h
        show PX Z 18 S56 100 851 67 [(1, va_rf r12), (0, va_rf (some b))] [.int v55, .int (v29 + v48)]
        refine x_iadd hC dL_law_67 ?_
        refine x_aload_n (i := 1) hC dL_law_68 rfl 0 rfl ?_
        refine x_iconst (v := (0 : Int32)) hC dL_law_69 (by decide) ?_
        obtain ⟨a59, ea60, ha61, h⟩ := h
        refine x_callV hC (st := [.int ((v29 + v48) + v55)]) (mt_X4_keep _ _ _ _ h) ea60 ha61 kf_4 q_377 q_378 q_379 q_1 q_380 ⟨rfl, hy_X4_keep⟩ ⟨Nat.le_of_ble_eq_true rfl, Nat.le_of_ble_eq_true rfl⟩ ⟨Nat.le_of_ble_eq_true rfl, Nat.le_of_ble_eq_true rfl⟩ rfl (Nat.le_of_ble_eq_true rfl) dL_law_70 (r_W (fun v62 S63 h => ?_)) (r_Wx (fun j64 S65 h => ?_))
        · replace h := wq_r h
          show PX Z 18 S63 121 1024 73 [(1, va_rf r12), (0, va_rf (some b))] [.int v62, .int ((v29 + v48) + v55)]
          refine x_iadd hC dL_law_73 ?_
          obtain ⟨x66, hx67, h⟩ := wle_el h
          refine x_tI hx67 ?_
          refine x_istore_n (i := 2) (l' := [(2, .int x66), (1, va_rf r12), (0, va_rf (some b))]) hC dL_law_74 rfl (⟨fun _ => c_rf r12, ⟨fun _ => c_rf (some b), trivial⟩⟩) (by decide) rfl ?_
          refine x_iload_n (i := 2) hC dL_law_75 rfl 0 rfl ?_
          refine x_bipush (v := (35 : Int32)) hC dL_law_76 (by decide) ?_
          refine x_icmp_ne (t := 92) hC dL_law_78 (by decide) (fun c68 => ?_) (fun c68 => ?_)
          · replace h := wit_f c68 h
            refine x_iconst (v := (0 : Int32)) hC dL_law_92 (by decide) ?_
            refine x_istore_n (i := 3) (l' := [(3, .int (0 : Int32)), (2, .int x66), (1, va_rf r12), (0, va_rf (some b))]) hC dL_law_93 rfl (⟨fun _ => rfl, ⟨fun _ => c_rf r12, ⟨fun _ => c_rf (some b), trivial⟩⟩⟩) (by decide) rfl ?_
            refine x_iconst (v := (0 : Int32)) hC dL_law_94 (by decide) ?_
            refine x_istore (i := 4) (l' := [(4, .int (0 : Int32)), (3, .int (0 : Int32)), (2, .int x66), (1, va_rf r12), (0, va_rf (some b))]) hC dL_law_95 (⟨fun _ => rfl, ⟨fun _ => rfl, ⟨fun _ => c_rf r12, ⟨fun _ => c_rf (some b), trivial⟩⟩⟩⟩) (by decide) rfl ?_
            refine x_sub (l' := [(0, va_rf (some b)), (1, va_rf r12), (3, .int (0 : Int32)), (4, .int (0 : Int32))]) [4, 3, 1, 0] rfl ?_
            exact hK _ _ _ _ h
          · replace h := wit_t c68 h
            refine x_aload_n (i := 1) hC dL_law_81 rfl 1 rfl ?_
            replace h := wbt_el h
            obtain ⟨v69, S70, hb74, h⟩ | ⟨j71, S72, hb74, h⟩ := h
            · refine x_callS hC (st := []) (mtr_L_holds _ _ (v69, S70) hb74) q_653 q_654 q_0 q_655 hy_L_holds ⟨Nat.le_of_ble_eq_true rfl, Nat.le_of_ble_eq_true rfl⟩ ⟨Nat.le_of_ble_eq_true rfl, Nat.le_of_ble_eq_true rfl⟩ rfl (Nat.le_of_ble_eq_true rfl) dL_law_82 (r_N ?_) r_NX
              show PX Z 18 S70 121 1024 85 [(2, .int x66), (1, va_rf r12), (0, va_rf (some b))] [.int v69]
              refine x_if_eq (t := 92) hC dL_law_85 (by decide) (fun c73 => ?_) (fun c73 => ?_)
              · replace h := wit_t c73 h
                refine x_iconst (v := (0 : Int32)) hC dL_law_92 (by decide) ?_
                refine x_istore_n (i := 3) (l' := [(3, .int (0 : Int32)), (2, .int x66), (1, va_rf r12), (0, va_rf (some b))]) hC dL_law_93 rfl (⟨fun _ => rfl, ⟨fun _ => c_rf r12, ⟨fun _ => c_rf (some b), trivial⟩⟩⟩) (by decide) rfl ?_
                refine x_iconst (v := (0 : Int32)) hC dL_law_94 (by decide) ?_
                refine x_istore (i := 4) (l' := [(4, .int (0 : Int32)), (3, .int (0 : Int32)), (2, .int x66), (1, va_rf r12), (0, va_rf (some b))]) hC dL_law_95 (⟨fun _ => rfl, ⟨fun _ => rfl, ⟨fun _ => c_rf r12, ⟨fun _ => c_rf (some b), trivial⟩⟩⟩⟩) (by decide) rfl ?_
                refine x_sub (l' := [(0, va_rf (some b)), (1, va_rf r12), (3, .int (0 : Int32)), (4, .int (0 : Int32))]) [4, 3, 1, 0] rfl ?_
                exact hK _ _ _ _ h
              · replace h := wit_f c73 h
                refine x_iconst (v := (1 : Int32)) hC dL_law_88 (by decide) ?_
                refine x_goto (t := 93) hC dL_law_89 (by decide) ?_
                refine x_istore_n (i := 3) (l' := [(3, .int (1 : Int32)), (2, .int x66), (1, va_rf r12), (0, va_rf (some b))]) hC dL_law_93 rfl (⟨fun _ => rfl, ⟨fun _ => c_rf r12, ⟨fun _ => c_rf (some b), trivial⟩⟩⟩) (by decide) rfl ?_
                refine x_iconst (v := (0 : Int32)) hC dL_law_94 (by decide) ?_
                refine x_istore (i := 4) (l' := [(4, .int (0 : Int32)), (3, .int (1 : Int32)), (2, .int x66), (1, va_rf r12), (0, va_rf (some b))]) hC dL_law_95 (⟨fun _ => rfl, ⟨fun _ => rfl, ⟨fun _ => c_rf r12, ⟨fun _ => c_rf (some b), trivial⟩⟩⟩⟩) (by decide) rfl ?_
                refine x_sub (l' := [(0, va_rf (some b)), (1, va_rf r12), (3, .int (1 : Int32)), (4, .int (0 : Int32))]) [4, 3, 1, 0] rfl ?_
                exact hK _ _ _ _ h
            · exact h.elim
        · replace h := wq_l h
          exact h.elim
      · replace h := wq_l h
        exact h.elim
    · replace h := wq_l h
      exact h.elim
  · replace h := wq_l h
    exact h.elim
