/-! THE SCRIPT: the law's own row of ints; a static method that reads it -/
def SX : ZT → Nat → Nat → (Nat → Int32) → Prop
  | (p, l, e, R, s, m, args, below, meth, c, D, C, A, Q), b, L, xs => va_X b L xs s s.heap ∧ b < s.heap.size ∧ ¬ A b
theorem x_sld {Z : ZT} {cc : ByteArray} {own : String} {nL : Nat} {R : Room} {S : PH} {k n pc : Nat} {l : List (Nat × Value)} {st : List Value} {b L : Nat} {xs : Nat → Int32} (h : CX Z cc own nL R) (hX : SX Z b L xs) {i : Int32} (hi : ix i L = true) (d : decode cc pc = .ok (.iaload, 1)) (kk : PX Z nL S k n (pc + 1) l (.int (xs i.toNatClampNeg) :: st)) : PX Z nL S k n pc l (.int i :: va_rf (some b) :: st) := by
  obtain ⟨p, lq, e, R0, s, m, args, below, meth, c, D, C, A, Q⟩ := Z
  exact fun H locs ls hP hD hS hl => va_sld h.1 h.2.1 hX.1 hX.2.1 hX.2.2 hS (ix_in hi) d (kk H locs ls hP hD hS hl)
theorem x_slen {Z : ZT} {cc : ByteArray} {own : String} {nL : Nat} {R : Room} {S : PH} {k n pc : Nat} {l : List (Nat × Value)} {st : List Value} {b L : Nat} {xs : Nat → Int32} (h : CX Z cc own nL R) (hX : SX Z b L xs) (d : decode cc pc = .ok (.arraylength, 1)) (kk : PX Z nL S k n (pc + 1) l (.int (Int32.ofNat L) :: st)) : PX Z nL S k n pc l (va_rf (some b) :: st) := by
  obtain ⟨p, lq, e, R0, s, m, args, below, meth, c, D, C, A, Q⟩ := Z
  exact fun H locs ls hP hD hS hl => va_slen h.1 h.2.1 hX.1 hX.2.1 hX.2.2 hS d (kk H locs ls hP hD hS hl)
def q_Bs (D : va_G) (C : Nat → ClassId) (S : PH) (sz : Nat) (b L : Nat) (xs : Nat → Int32) : State → Prop := fun U => q_B D C S sz U ∧ va_X b L xs U U.heap ∧ b < sz ∧ ¬ va_A (w_P C S) sz b
def MTs (y : MethodName) (w0 : Cond) (rf rl mc ms : Nat) (av : List Value) (S : PH) (O : OT) (b L : Nat) (xs : Nat → Int32) : Prop := ∀ l : Launch, l.flags = flags0 → ∀ (D : va_G) (C : Nat → ClassId) (sz : Nat), vx_Met l y (w0 :: w_G) { frames := rf, cells := mc, slots := ms, locals := rl } (va_Pc av (q_Bs D C S sz b L xs)) (q_O D C (va_A (w_P C S) sz) O) (q_X D C (va_A (w_P C S) sz) O) mc ms (va_A (w_P C S) sz)
theorem q_blinds {D : va_G} {C : Nat → ClassId} {S : PH} {sz b L : Nat} {xs : Nat → Int32} {av : List Value} : FrameBlind (va_Pc av (q_Bs D C S sz b L xs)) := by
  intro a U g mk q
  obtain ⟨q0, ⟨q1, q2, q3, q4, q5⟩, q6, q7⟩ := q
  exact ⟨q0, ⟨q1, q2, va_K.moved (u := U) (U := U.calling g mk a) (Vm.Alike.refl U.vm) q3, q4, a_M.same (u := U) rfl q5⟩, va_X.moved (u := U) (U := U.calling g mk a) (Vm.Alike.refl U.vm) q6, q7⟩
section XS
variable {Z : ZT} {cc : ByteArray} {own : String} {nL : Nat} {R : Room} {S : PH} {k n pc : Nat} {l : List (Nat × Value)} {st stk : List Value} {y : MethodName} {cy : ByteArray} {nLy : Nat} {ret : Option FieldType} {rf rl mc ms : Nat} {As : List Value} {O : OT} {i b L : Nat} {xs : Nat → Int32}
theorem x_callSs (h : CX Z cc own nL R) (hX : SX Z b L xs) (hM : MTs y (.code y cy nLy ret) rf rl mc ms As S O b L xs) (w1 : Cond.methodLink own i y ∈ w_G) (w2 : Cond.static y ∈ w_G) (w4 : Cond.initialized y.cls ∈ w_G) (w5 : Cond.code y cy nLy ret ∈ w_G)
    (hy : y.cls ≠ "java/lang/invoke/MethodHandle" ∧ y.cls ≠ "java/lang/invoke/VarHandle" ∧ (parseMethodDescriptor y.desc).map (fun d => d.parameters.length) = some As.length) (hR : rf + 1 ≤ R.frames ∧ 8 + (nLy + 11) + rl ≤ R.locals) (hm : k + mc ≤ R.cells ∧ n + ms ≤ R.slots) (hst : stk = As.reverse ++ st) (hlen : st.length ≤ 4) (d : decode cc pc = .ok (.invokestatic i, 3))
    (kr : ∀ ov S', O (.inl ov) S' → PX Z nL S' (k + mc) (n + ms) (pc + 3) l (ov.toList ++ st)) (kx : ∀ j S', O (.inr j) S' → VX Z nL S' (k + mc) (n + ms) pc l st j) : PX Z nL S k n pc l stk := by
  obtain ⟨p, lq, e, R0, s, m, args, below, meth, c, D, C, A, Q⟩ := Z
  intro H locs ls hP hD hS hl
  have hR0 : R0 = R := h.2.2.2.2.2.2.2.2.1
  have hcat := v_cat st
  have hMl := hM lq h.2.2.2.2.2.2.2.2.2.1 D C H.size
  have hF : ∀ q, va_A (w_P C S) H.size q → A q := by
    intro q h9
    rcases h9 with ⟨i, e9, h9⟩ | h9
    · exact hD.2 i (q, e9) h9
    · exact h.2.2.2.2.2.2.1 q (Nat.le_trans hS.1 h9)
  exact x_back h.2.2.2.2.2.2.1 hD hS hl (vx_runS (As := As) (rest := st) ⟨h.1, h.2.1, h.2.2.1, h.2.2.2.1, h.2.2.2.2.1⟩ hMl ⟨callB_of (ws' := w_G) As.length h.2.2.2.2.1 (w_gin (y := y) w5) rfl rfl rfl (h.2.2.2.2.1 _ w4) (h.2.2.2.2.1 _ w1) hy (by rw [hR0]; exact hR), h.2.2.2.2.1 _ w2⟩ ⟨q_blinds, fun U hU hW => ⟨rfl, q_pre h hP hD hS U hU hW, va_X.moved hW.alike (by rw [hU]; exact va_X.kept hX.1 (hS.2.1 b hX.2.1 hX.2.2)), Nat.lt_of_lt_of_le hX.2.1 hS.1, fun z => hX.2.2 (hF b z)⟩⟩ rfl rfl hl.1 hst (lv_room (by omega)) d (by rw [hR0]; exact hm)) kr kx
theorem mt_ofs {av : List Value} {S : PH} {O : OT} {l0 : List (Nat × Value)} (hy : plainName y.cls = true) (hown : y.cls = own) (ha : (lg_sl av).length ≤ nLy) (hl0 : lv_args 0 av = l0)
    (body : ∀ Z, CX Z cy own nLy { frames := rf, cells := mc, slots := ms, locals := rl } → QX Z O mc ms ret → EX Z → SX Z b L xs → PX Z nLy S 0 0 0 l0 []) : MTs y (.code y cy nLy ret) rf rl mc ms av S O b L xs := by
  intro lq hfl D C sz
  refine vx_ofW (cc := cy) (maxL := nLy) (ret := ret) hy rfl ?_
  intro p e s m args below meth c s₁ B hml hE hv
  obtain ⟨rfl, ⟨hsz, hP, hK, hD0, hM⟩, hX, hb1, hb2⟩ := hv
  have hts := atoms_spec (ws := Cond.code y cy nLy ret :: w_G) B.pre
  have hown' : s.vm.findClass own = some m.cls := by rw [← hown]; exact findClass_of_methodNamed B.named
  subst hsz
  have hl := lv_entry av (n := nLy) ha
  rw [lg_entry_eq]
  have hZ := body (p, lq, e, { frames := rf, cells := mc, slots := ms, locals := rl }, s, m, av.toArray, below, meth, c, D, C, va_A (w_P C S) s.heap.size, vx_MQ below (q_O D C (va_A (w_P C S) s.heap.size) O) (q_X D C (va_A (w_P C S) s.heap.size) O) av.toArray s mc ms (va_A (w_P C S) s.heap.size)) ⟨B.exec, B.bytes, hml, hown', fun w hw => hts w (List.mem_cons_of_mem _ hw), hK, fun q hq => Or.inr hq, B.notSynchronized, rfl, hfl, hM⟩ ⟨rfl, B.returns⟩ hE ⟨hX, hb1, hb2⟩
  rw [hl0] at hl
  exact hZ s.heap [] _ hP hD0.self va_S.rf hl
end XS
