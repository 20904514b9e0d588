/-! CALLS, RETURNS, THROWS over the pool -/
theorem w_gi {w w' : Cond} (h : w' ∈ w_G) (e : w = w') : w ∈ w_G ∧ ((w.onTables && w.keeps) = true ∨ ∃ ty, w = .arrayClass ty) := by
  subst e
  exact ⟨h, good_of_word (w_good _ h)⟩
theorem x_ao {ty : FieldType} {s U : State} (hW : s.vm.Alike U.vm) (hZ : va_Nw (.arrayOver ty) s) : va_Nw (.arrayOver ty) U := by
  have h : (Cond.arrayOver ty).before #[] (s.setVm U.vm) = true := (Cond.arrayOver_setVmC hW ty).trans hZ
  exact h
theorem x_sm {s U : State} (hv : s.vm = U.vm) (hx : ∀ w ∈ x_W, va_Nw w s) : ∀ w ∈ x_W, va_Nw w U := List.forall_mem_cons.mpr ⟨x_ao (by rw [hv]; exact Vm.Alike.refl _) (hx _ (List.mem_of_getElem? (i := 0) rfl)), List.forall_mem_cons.mpr ⟨va_Nw.same rfl hv (hx _ (List.mem_of_getElem? (i := 1) rfl)), List.forall_mem_cons.mpr ⟨va_Nw.same rfl hv (hx _ (List.mem_of_getElem? (i := 2) rfl)), List.forall_mem_cons.mpr ⟨x_ao (by rw [hv]; exact Vm.Alike.refl _) (hx _ (List.mem_of_getElem? (i := 3) rfl)), List.forall_mem_cons.mpr ⟨va_Nw.same rfl hv (hx _ (List.mem_of_getElem? (i := 4) rfl)), List.forall_mem_cons.mpr ⟨va_Nw.same rfl hv (hx _ (List.mem_of_getElem? (i := 5) rfl)), List.forall_mem_cons.mpr ⟨va_Nw.same rfl hv (hx _ (List.mem_of_getElem? (i := 6) rfl)), List.forall_mem_cons.mpr ⟨va_Nw.same rfl hv (hx _ (List.mem_of_getElem? (i := 7) rfl)), List.forall_mem_cons.mpr ⟨va_Nw.same rfl hv (hx _ (List.mem_of_getElem? (i := 8) rfl)), List.forall_mem_cons.mpr ⟨va_Nw.same rfl hv (hx _ (List.mem_of_getElem? (i := 9) rfl)), List.forall_mem_cons.mpr ⟨va_Nw.same rfl hv (hx _ (List.mem_of_getElem? (i := 10) rfl)), List.forall_mem_cons.mpr ⟨va_Nw.same rfl hv (hx _ (List.mem_of_getElem? (i := 11) rfl)), List.forall_mem_cons.mpr ⟨va_Nw.same rfl hv (hx _ (List.mem_of_getElem? (i := 12) rfl)), List.forall_mem_cons.mpr ⟨va_Nw.same rfl hv (hx _ (List.mem_of_getElem? (i := 13) rfl)), List.forall_mem_cons.mpr ⟨va_Nw.same rfl hv (hx _ (List.mem_of_getElem? (i := 14) rfl)), List.forall_mem_cons.mpr ⟨va_Nw.same rfl hv (hx _ (List.mem_of_getElem? (i := 15) rfl)), fun _ h => nomatch h⟩⟩⟩⟩⟩⟩⟩⟩⟩⟩⟩⟩⟩⟩⟩⟩
theorem x_wm {s U : State} (hW : s.WarmedH U.vm) (hx : ∀ w ∈ x_W, va_Nw w s) : ∀ w ∈ x_W, va_Nw w U := List.forall_mem_cons.mpr ⟨x_ao hW.alike (hx _ (List.mem_of_getElem? (i := 0) rfl)), List.forall_mem_cons.mpr ⟨va_Nw.warmF hW (hx _ (List.mem_of_getElem? (i := 1) rfl)), List.forall_mem_cons.mpr ⟨va_Nw.warmM hW (hx _ (List.mem_of_getElem? (i := 2) rfl)), List.forall_mem_cons.mpr ⟨x_ao hW.alike (hx _ (List.mem_of_getElem? (i := 3) rfl)), List.forall_mem_cons.mpr ⟨va_Nw.warmM hW (hx _ (List.mem_of_getElem? (i := 4) rfl)), List.forall_mem_cons.mpr ⟨va_Nw.warmM hW (hx _ (List.mem_of_getElem? (i := 5) rfl)), List.forall_mem_cons.mpr ⟨va_Nw.warmC hW (hx _ (List.mem_of_getElem? (i := 6) rfl)), List.forall_mem_cons.mpr ⟨va_Nw.warmD hW (hx _ (List.mem_of_getElem? (i := 7) rfl)), List.forall_mem_cons.mpr ⟨va_Nw.warmD hW (hx _ (List.mem_of_getElem? (i := 8) rfl)), List.forall_mem_cons.mpr ⟨va_Nw.warmD hW (hx _ (List.mem_of_getElem? (i := 9) rfl)), List.forall_mem_cons.mpr ⟨va_Nw.warmD hW (hx _ (List.mem_of_getElem? (i := 10) rfl)), List.forall_mem_cons.mpr ⟨va_Nw.warmD hW (hx _ (List.mem_of_getElem? (i := 11) rfl)), List.forall_mem_cons.mpr ⟨va_Nw.warmD hW (hx _ (List.mem_of_getElem? (i := 12) rfl)), List.forall_mem_cons.mpr ⟨va_Nw.warmC hW (hx _ (List.mem_of_getElem? (i := 13) rfl)), List.forall_mem_cons.mpr ⟨va_Nw.warmC hW (hx _ (List.mem_of_getElem? (i := 14) rfl)), List.forall_mem_cons.mpr ⟨va_Nw.warmM hW (hx _ (List.mem_of_getElem? (i := 15) rfl)), fun _ h => nomatch h⟩⟩⟩⟩⟩⟩⟩⟩⟩⟩⟩⟩⟩⟩⟩⟩
theorem a_T.go {nm : String} {vs : List Int32} {A A' : Nat → Prop} {s U : State} {H0 H : Heap} {locs : List Loc} (h : a_T nm vs A s H0) (hW : s.WarmedH U.vm) (hS : va_S A H0 H locs) (hA : ∀ q, A' q → A q) : a_T nm vs A' U H := by
  obtain ⟨t, h1, h2⟩ := h
  exact ⟨t, (va_Z.moved hW.alike (h1.kept hS.2.1)).narrow hA, (va_T.moved hW.alike (h2.kept hS.2.1)).narrow hA⟩
theorem a_M.go {A A' : Nat → Prop} {s U : State} {H0 H : Heap} {locs : List Loc} (h : a_M A s H0) (hW : s.WarmedH U.vm) (hS : va_S A H0 H locs) (hA : ∀ q, A' q → A q) : a_M A' U H := by
  obtain ⟨h1, h2, h3, h4, h5, h6, h7, h8⟩ := h
  refine ⟨(vx_Zq.moved hW.alike (h1.kept hS.2.1)).narrow hA, (vx_Zq.moved hW.alike (h2.kept hS.2.1)).narrow hA, h3.go hW hS hA, h4.go hW hS hA, h5.go hW hS hA, fun q hq => ?_, x_wm hW h7, trivial⟩
  obtain ⟨a, ha⟩ := h6 q hq
  exact ⟨a, ha.warm hW⟩
theorem a_M.same {A : Nat → Prop} {u U : State} {H : Heap} (hv : U.vm = u.vm) (h : a_M A u H) : a_M A U H := by
  have hal : u.vm.Alike U.vm := by rw [hv]; exact Vm.Alike.refl _
  obtain ⟨h1, h2, ⟨t3, h3, h3'⟩, ⟨t4, h4, h4'⟩, ⟨t5, h5, h5'⟩, h6, h7, h8⟩ := h
  refine ⟨h1.moved hal, h2.moved hal, ⟨t3, h3.moved hal, h3'.moved hal⟩, ⟨t4, h4.moved hal, h4'.moved hal⟩, ⟨t5, h5.moved hal, h5'.moved hal⟩, fun q hq => ?_, x_sm hv.symm h7, trivial⟩
  obtain ⟨a, ha⟩ := h6 q hq
  exact ⟨a, ha.same hv⟩
/-- what a method is met with, and what it leaves: O says which ends there may be: .inl v returned v, .inr j threw x_n j -/
abbrev OT : Type := (Option Value ⊕ Nat) → PH → Prop
def q_B (D : va_G) (C : Nat → ClassId) (S : PH) (sz : Nat) : State → Prop := fun U => U.heap.size = sz ∧ va_P D vwCl (w_P C S) U.heap ∧ va_K D vwCl (t_C C) U ∧ va_D (fun _ => True) (w_P C S) ∧ a_M (va_A (w_P C S) sz) U U.heap
def q_O (D : va_G) (C : Nat → ClassId) (A : Nat → Prop) (O : OT) : Array Value → State → Outcome → State → Prop := fun _ st o t => ∃ ov S', O (.inl ov) S' ∧ o = .returned ov ∧ va_P D vwCl (w_P C S') t.heap ∧ va_D A (w_P C S') ∧ va_F A st t
def q_X (D : va_G) (C : Nat → ClassId) (A : Nat → Prop) (O : OT) : String → State → State → Prop := fun E st t => ∃ j S', O (.inr j) S' ∧ E = x_n j ∧ va_P D vwCl (w_P C S') t.heap ∧ va_D A (w_P C S') ∧ va_F A st t
def MT (y : MethodName) (w0 : Cond) (rf rl mc ms : Nat) (av : List Value) (S : PH) (O : OT) : Prop := ∀ l : Launch, l.flags = flags0 → ∀ (D : va_G) (C : Nat → ClassId) (sz : Nat), vx_Met l y (w0 :: w_G) { frames := rf, cells := mc, slots := ms, locals := rl } (va_Pc av (q_B D C S sz)) (q_O D C (va_A (w_P C S) sz) O) (q_X D C (va_A (w_P C S) sz) O) mc ms (va_A (w_P C S) sz)
/-- q thrown over the frame: E is x_n j -/
def VX : ZT → Nat → PH → Nat → Nat → Nat → List (Nat × Value) → List Value → Nat → Prop
  | (p, l, e, R, s, m, args, below, meth, c, D, C, A, Q), nL, S, k, n, pc, lv, st, j => ∀ (H : Heap) (locs : List Loc) (ls : Array Slot) (ce : Cell) (q : Nat), va_P D vwCl (w_P C S) H → va_D A (w_P C S) → va_S A s.heap H locs → lv_has ls nL lv → H[q]? = some ce → ce.vm = .none → s.vm.findClass (x_n j) = some ce.cls → vx_W p l e R s m args below meth c H locs k n Q (F0 m pc ls st) q
def QX : ZT → OT → Nat → Nat → Option FieldType → Prop
  | (p, l, e, R, s, m, args, below, meth, c, D, C, A, Q), O, mc, ms, ret => Q = vx_MQ below (q_O D C A O) (q_X D C A O) args s mc ms A ∧ meth.sig.returnType = ret
def EX : ZT → Prop
  | (p, l, e, R, s, m, args, below, meth, c, D, C, A, Q) => ∀ x ∈ c.exceptionTable.toList, False
theorem q_blind {D : va_G} {C : Nat → ClassId} {S : PH} {sz : Nat} {av : List Value} : FrameBlind (va_Pc av (q_B D C S sz)) := by
  intro a U g mk q
  obtain ⟨q0, q1, q2, q3, q4, q5⟩ := q
  exact ⟨q0, q1, q2, va_K.moved (u := U) (U := U.calling g mk a) (Vm.Alike.refl U.vm) q3, q4, a_M.same (u := U) rfl q5⟩
theorem w_gin {y : MethodName} {w0 : Cond} (h : w0 ∈ w_G) : GoodIn w_G (w0 :: w_G) := fun w hw => by
  rcases List.mem_cons.mp hw with e | e
  · rw [e]; exact ⟨h, good_of_word (w_good _ h)⟩
  · exact ⟨e, good_of_word (w_good _ e)⟩
section XC
variable {Z : ZT} {cc : ByteArray} {own : String} {nL : Nat} {R : Room} {S : PH} {k n pc : Nat} {l : List (Nat × Value)} {st stk : List Value} {ci : Nat} {C0 : String} {T : u_T} {N : Nat} {ty : Nat → FieldType} {a : Nat} {r : Option Nat} {y : MethodName} {cy : ByteArray} {nLy : Nat} {ret : Option FieldType} {rf rl mc ms : Nat} {av As : List Value} {O : OT} {i : Nat}
theorem v_cat (st : List Value) : (st.map fun v => v.category).sum ≤ 2 * st.length := by
  induction st with
  | nil => simp
  | cons v st ih => simp only [List.map_cons, List.sum_cons, List.length_cons]; rcases lv_cat v with e | e <;> omega
/-- out of the kit's call: what comes behind it -/
theorem x_back {p : Program} {lq : Launch} {e : Env} {R0 : Room} {s : State} {m : MethodId} {args : Array Value} {below : List Frame} {meth : Method} {c : Code} {D : va_G} {C : Nat → ClassId} {A : Nat → Prop} {Q : State → Prop} {H : Heap} {locs : List Loc} {ls : Array Slot} {a9 : Array Value}
    (hA : ∀ q, s.heap.size ≤ q → A q) (hD : va_D A (w_P C S)) (hS : va_S A s.heap H locs) (hl : lv_has ls nL l)
    (hr : vx_Run p lq e R0 s m args below meth c H locs k n mc ms (F0 m pc ls stk) st (q_O D C (va_A (w_P C S) H.size) O a9) (q_X D C (va_A (w_P C S) H.size) O) (va_A (w_P C S) H.size))
    (kr : ∀ ov S', O (.inl ov) S' → PX (p, lq, e, R0, s, m, args, below, meth, c, D, C, A, Q) nL S' (k + mc) (n + ms) (pc + 3) l (ov.toList ++ st)) (kx : ∀ j S', O (.inr j) S' → VX (p, lq, e, R0, s, m, args, below, meth, c, D, C, A, Q) nL S' (k + mc) (n + ms) pc l st j) : W p lq e R0 s m args below meth c H locs k n Q (F0 m pc ls stk) := by
  have hF : ∀ q, va_A (w_P C S) H.size q → A q := by
    intro q h
    rcases h with ⟨i, e9, h⟩ | h
    · exact hD.2 i (q, e9) h
    · exact hA q (Nat.le_trans hS.1 h)
  intro T9 hT X
  rcases hr T9 hT X with ⟨v, st₀, t, T', L, h0, X', hL, e1, e2, ⟨ov, S', hO, hv, hP1, hD1, hF1⟩, stp⟩ | ⟨q, st₀, t, T', L, E, ce, h0, X', hL, e1, e2, ⟨j, S', hO, rfl, hP1, hD1, hF1⟩, hce, hcv, hcl, stp⟩
  · cases hv
    obtain ⟨k1, k2, k3⟩ := vx_keep h0 e1 hS (fun q _ h => hF q h) hF hL hF1
    obtain ⟨t2, a1, b1⟩ := kr v S' hO T'.heap (locs ++ L) ls (by rw [e1]; exact hP1) (hD1.weaken (fun _ q _ h => hF q.1 h)) k3 hl T' rfl X'
    exact ⟨t2, stp t2 a1, b1⟩
  · obtain ⟨k1, k2, k3⟩ := vx_keep h0 e1 hS (fun q _ h => hF q h) hF hL hF1
    obtain ⟨t2, a1, b1⟩ := kx j S' hO T'.heap (locs ++ L) ls ce q (by rw [e1]; exact hP1) (hD1.weaken (fun _ q _ h => hF q.1 h)) k3 hl (by rw [e1]; exact hce) hcv hcl T' rfl X'
    exact ⟨t2, stp.trans a1, b1⟩
theorem q_pre {p : Program} {lq : Launch} {e : Env} {R0 : Room} {s : State} {m : MethodId} {args : Array Value} {below : List Frame} {meth : Method} {c : Code} {D : va_G} {C : Nat → ClassId} {A : Nat → Prop} {Q : State → Prop} {H : Heap} {locs : List Loc} (h : CX (p, lq, e, R0, s, m, args, below, meth, c, D, C, A, Q) cc own nL R) (hP : va_P D vwCl (w_P C S) H) (hD : va_D A (w_P C S)) (hS : va_S A s.heap H locs) : ∀ U : State, U.heap = H → s.WarmedH U.vm → q_B D C S H.size U := by
  intro U hU hW
  have hF : ∀ q, va_A (w_P C S) H.size q → A q := by
    intro q h9
    rcases h9 with ⟨i, e9, h9⟩ | h9
    · exact hD.2 i (q, e9) h9
    · exact h.2.2.2.2.2.2.1 q (Nat.le_trans hS.1 h9)
  exact ⟨by rw [hU], by rw [hU]; exact hP, va_K.moved hW.alike h.2.2.2.2.2.1, hD.weaken (fun _ _ _ _ => trivial), by rw [hU]; exact a_M.go h.2.2.2.2.2.2.2.2.2.2 hW hS hF⟩
theorem x_callV (h : CX Z cc own nL R) (hM : MT y (.code y cy nLy ret) rf rl mc ms (va_rf r :: As) S O) (e1 : r = some a) (ha : a ∈ p_L S ∧ p_K S a = ci) (hk : KF ci C0 T N ty) (w1 : Cond.methodLink own i y ∈ w_G) (w2 : Cond.instanceMethod y ∈ w_G) (w3 : Cond.selects C0 y y ∈ w_G) (w4 : Cond.initialized C0 ∈ w_G) (w5 : Cond.code y cy nLy ret ∈ w_G)
    (hy : y.cls = C0 ∧ y.cls ≠ "java/lang/invoke/MethodHandle" ∧ y.cls ≠ "java/lang/invoke/VarHandle" ∧ (parseMethodDescriptor y.desc).map (fun d => d.parameters.length) = some As.length) (hR : rf + 1 ≤ R.frames ∧ 8 + (nLy + 11) + rl ≤ R.locals) (hm : k + mc ≤ R.cells ∧ n + ms ≤ R.slots) (hst : stk = As.reverse ++ va_rf r :: st) (hlen : st.length ≤ 4) (d : decode cc pc = .ok (.invokevirtual i, 3))
    (kr : ∀ ov S', O (.inl ov) S' → PX Z nL S' (k + mc) (n + ms) (pc + 3) l (ov.toList ++ st)) (kx : ∀ j S', O (.inr j) S' → VX Z nL S' (k + mc) (n + ms) pc l st j) : PX Z nL S k n pc l stk := by
  obtain ⟨p, lq, e, R0, s, m, args, below, meth, c, D, C, A, Q⟩ := Z
  subst e1
  intro H locs ls hP hD hS hl
  have hR0 : R0 = R := h.2.2.2.2.2.2.2.2.1
  have hcat := v_cat st
  obtain ⟨q, hq, hc⟩ := w_obj (C := C) hk ha
  have hMl := hM lq h.2.2.2.2.2.2.2.2.2.1 D C H.size
  refine x_back h.2.2.2.2.2.2.1 hD hS hl (vx_runV (As := As) (rest := st) ⟨h.1, h.2.1, h.2.2.1, h.2.2.2.1, h.2.2.2.2.1⟩ hMl (cwV (ws' := w_G) As.length h.2.2.2.2.1 ?_ rfl rfl rfl hy (by rw [hR0]; exact hR)) ⟨q_blind, va_recv h.2.2.2.2.2.1 hP hk.1 (hq.trans (by rw [hc])), fun U hU hW => ⟨rfl, q_pre h hP hD hS U hU hW⟩⟩ rfl rfl hl.1 hst (lv_room (by omega)) d (by rw [hR0]; exact hm)) kr kx
  intro w hw
  rcases List.mem_append.mp hw with hw | hw
  · simp only [List.mem_cons, List.not_mem_nil, or_false] at hw
    rcases hw with e | e | e | e
    · exact w_gi w1 e
    · exact w_gi w2 e
    · exact w_gi w3 e
    · exact w_gi w4 e
  · exact w_gin (y := y) w5 w hw
theorem x_callS (h : CX Z cc own nL R) (hM : MT y (.code y cy nLy ret) rf rl mc ms As S O) (w1 : Cond.methodLink own i y ∈ w_G) (w2 : Cond.static y ∈ w_G) (w4 : Cond.initialized y.cls ∈ w_G) (w5 : Cond.code y cy nLy ret ∈ w_G)
    (hy : y.cls ≠ "java/lang/invoke/MethodHandle" ∧ y.cls ≠ "java/lang/invoke/VarHandle" ∧ (parseMethodDescriptor y.desc).map (fun d => d.parameters.length) = some As.length) (hR : rf + 1 ≤ R.frames ∧ 8 + (nLy + 11) + rl ≤ R.locals) (hm : k + mc ≤ R.cells ∧ n + ms ≤ R.slots) (hst : stk = As.reverse ++ st) (hlen : st.length ≤ 4) (d : decode cc pc = .ok (.invokestatic i, 3))
    (kr : ∀ ov S', O (.inl ov) S' → PX Z nL S' (k + mc) (n + ms) (pc + 3) l (ov.toList ++ st)) (kx : ∀ j S', O (.inr j) S' → VX Z nL S' (k + mc) (n + ms) pc l st j) : PX Z nL S k n pc l stk := by
  obtain ⟨p, lq, e, R0, s, m, args, below, meth, c, D, C, A, Q⟩ := Z
  intro H locs ls hP hD hS hl
  have hR0 : R0 = R := h.2.2.2.2.2.2.2.2.1
  have hcat := v_cat st
  have hMl := hM lq h.2.2.2.2.2.2.2.2.2.1 D C H.size
  exact x_back h.2.2.2.2.2.2.1 hD hS hl (vx_runS (As := As) (rest := st) ⟨h.1, h.2.1, h.2.2.1, h.2.2.2.1, h.2.2.2.2.1⟩ hMl ⟨callB_of (ws' := w_G) As.length h.2.2.2.2.1 (w_gin (y := y) w5) rfl rfl rfl (h.2.2.2.2.1 _ w4) (h.2.2.2.2.1 _ w1) hy (by rw [hR0]; exact hR), h.2.2.2.2.1 _ w2⟩ ⟨q_blind, fun U hU hW => ⟨rfl, q_pre h hP hD hS U hU hW⟩⟩ rfl rfl hl.1 hst (lv_room (by omega)) d (by rw [hR0]; exact hm)) kr kx
/-- a static method of a nest mate -/
theorem x_callSN (h : CX Z cc own nL R) {host : String} (hM : MT y (.code y cy nLy ret) rf rl mc ms As S O) (w1 : Cond.methodLinkNest own i y host ∈ x_W) (w2 : Cond.static y ∈ w_G) (w4 : Cond.initialized y.cls ∈ w_G) (w5 : Cond.code y cy nLy ret ∈ w_G)
    (hy : y.cls ≠ "java/lang/invoke/MethodHandle" ∧ y.cls ≠ "java/lang/invoke/VarHandle" ∧ (parseMethodDescriptor y.desc).map (fun d => d.parameters.length) = some As.length) (hR : rf + 1 ≤ R.frames ∧ 8 + (nLy + 11) + rl ≤ R.locals) (hm : k + mc ≤ R.cells ∧ n + ms ≤ R.slots) (hst : stk = As.reverse ++ st) (hlen : st.length ≤ 4) (d : decode cc pc = .ok (.invokestatic i, 3))
    (kr : ∀ ov S', O (.inl ov) S' → PX Z nL S' (k + mc) (n + ms) (pc + 3) l (ov.toList ++ st)) (kx : ∀ j S', O (.inr j) S' → VX Z nL S' (k + mc) (n + ms) pc l st j) : PX Z nL S k n pc l stk := by
  obtain ⟨p, lq, e, R0, s, m, args, below, meth, c, D, C, A, Q⟩ := Z
  intro H locs ls hP hD hS hl
  have hR0 : R0 = R := h.2.2.2.2.2.2.2.2.1
  have hcat := v_cat st
  have hMl := hM lq h.2.2.2.2.2.2.2.2.2.1 D C H.size
  exact x_back h.2.2.2.2.2.2.1 hD hS hl (vx_runSN (As := As) (rest := st) ⟨h.1, h.2.1, h.2.2.1, h.2.2.2.1, h.2.2.2.2.1⟩ hMl ⟨va_cnB (ws' := w_G) As.length h.2.2.2.2.1 (w_gin (y := y) w5) rfl rfl rfl (h.2.2.2.2.2.2.2.2.2.2.2.2.2.2.2.2.1 _ w1) (h.2.2.2.2.1 _ w4) hy (by rw [hR0]; exact hR), h.2.2.2.2.1 _ w2, trivial⟩ ⟨q_blind, fun U hU hW => ⟨rfl, q_pre h hP hD hS U hU hW⟩⟩ rfl rfl hl.1 hst (lv_room (by omega)) d (by rw [hR0]; exact hm)) kr kx
/-- a constructor -/
theorem x_callI (h : CX Z cc own nL R) (hM : MT y (.code y cy nLy none) rf rl mc ms (va_rf r :: As) S O) (e1 : r = some a) (w1 : Cond.methodLink own i y ∈ w_G) (w2 : Cond.instanceMethod y ∈ w_G) (w4 : Cond.initialized y.cls ∈ w_G) (w5 : Cond.code y cy nLy none ∈ w_G) (hn : y.name = "<init>")
    (hy : y.cls ≠ "java/lang/invoke/MethodHandle" ∧ y.cls ≠ "java/lang/invoke/VarHandle" ∧ (parseMethodDescriptor y.desc).map (fun d => d.parameters.length) = some As.length) (hR : rf + 1 ≤ R.frames ∧ 8 + (nLy + 11) + rl ≤ R.locals) (hm : k + mc ≤ R.cells ∧ n + ms ≤ R.slots) (hst : stk = As.reverse ++ va_rf r :: st) (hlen : st.length ≤ 4) (d : decode cc pc = .ok (.invokespecial i, 3))
    (kr : ∀ ov S', O (.inl ov) S' → PX Z nL S' (k + mc) (n + ms) (pc + 3) l (ov.toList ++ st)) (kx : ∀ j S', O (.inr j) S' → VX Z nL S' (k + mc) (n + ms) pc l st j) : PX Z nL S k n pc l stk := by
  obtain ⟨p, lq, e, R0, s, m, args, below, meth, c, D, C, A, Q⟩ := Z
  subst e1
  intro H locs ls hP hD hS hl
  have hR0 : R0 = R := h.2.2.2.2.2.2.2.2.1
  have hcat := v_cat st
  have hMl := hM lq h.2.2.2.2.2.2.2.2.2.1 D C H.size
  exact x_back h.2.2.2.2.2.2.1 hD hS hl (vx_runI (As := As) (rest := st) ⟨h.1, h.2.1, h.2.2.1, h.2.2.2.1, h.2.2.2.2.1⟩ hMl (cwI (ws' := w_G) As.length h.2.2.2.2.1 (w_gin (y := y) w5) rfl rfl rfl (h.2.2.2.2.1 _ w4) (h.2.2.2.2.1 _ w1) (h.2.2.2.2.1 _ w2) hn hy (by rw [hR0]; exact hR)) ⟨q_blind, fun U hU hW => ⟨rfl, q_pre h hP hD hS U hU hW⟩⟩ rfl rfl hl.1 hst (lv_room (by omega)) d (by rw [hR0]; exact hm)) kr kx
/-- a private constructor of a nest mate -/
theorem x_callIN (h : CX Z cc own nL R) {host : String} (hM : MT y (.code y cy nLy none) rf rl mc ms (va_rf r :: As) S O) (e1 : r = some a) (w1 : Cond.methodLinkNest own i y host ∈ x_W) (w2 : Cond.instanceMethod y ∈ w_G) (w4 : Cond.initialized y.cls ∈ w_G) (w5 : Cond.code y cy nLy none ∈ w_G) (hn : y.name = "<init>")
    (hy : y.cls ≠ "java/lang/invoke/MethodHandle" ∧ y.cls ≠ "java/lang/invoke/VarHandle" ∧ (parseMethodDescriptor y.desc).map (fun d => d.parameters.length) = some As.length) (hR : rf + 1 ≤ R.frames ∧ 8 + (nLy + 11) + rl ≤ R.locals) (hm : k + mc ≤ R.cells ∧ n + ms ≤ R.slots) (hst : stk = As.reverse ++ va_rf r :: st) (hlen : st.length ≤ 4) (d : decode cc pc = .ok (.invokespecial i, 3))
    (kr : ∀ ov S', O (.inl ov) S' → PX Z nL S' (k + mc) (n + ms) (pc + 3) l (ov.toList ++ st)) (kx : ∀ j S', O (.inr j) S' → VX Z nL S' (k + mc) (n + ms) pc l st j) : PX Z nL S k n pc l stk := by
  obtain ⟨p, lq, e, R0, s, m, args, below, meth, c, D, C, A, Q⟩ := Z
  subst e1
  intro H locs ls hP hD hS hl
  have hR0 : R0 = R := h.2.2.2.2.2.2.2.2.1
  have hcat := v_cat st
  have hMl := hM lq h.2.2.2.2.2.2.2.2.2.1 D C H.size
  exact x_back h.2.2.2.2.2.2.1 hD hS hl (vx_runIN (As := As) (rest := st) ⟨h.1, h.2.1, h.2.2.1, h.2.2.2.1, h.2.2.2.2.1⟩ hMl ⟨va_cnB (ws' := w_G) As.length h.2.2.2.2.1 (w_gin (y := y) w5) rfl rfl rfl (h.2.2.2.2.2.2.2.2.2.2.2.2.2.2.2.2.1 _ w1) (h.2.2.2.2.1 _ w4) hy (by rw [hR0]; exact hR), hn, h.2.2.2.2.1 _ w2⟩ ⟨q_blind, fun U hU hW => ⟨rfl, q_pre h hP hD hS U hU hW⟩⟩ rfl rfl hl.1 hst (lv_room (by omega)) d (by rw [hR0]; exact hm)) kr kx
/-- a static method with a table of its own -/
theorem x_callSX (h : CX Z cc own nL R) {hh : List (Nat × Nat × Nat × Nat)} (hM : MT y (.codeWith y cy nLy ret hh) rf rl mc ms As S O) (w1 : Cond.methodLink own i y ∈ w_G) (w2 : Cond.static y ∈ w_G) (w4 : Cond.initialized y.cls ∈ w_G) (w5 : Cond.codeWith y cy nLy ret hh ∈ w_G)
    (hy : y.cls ≠ "java/lang/invoke/MethodHandle" ∧ y.cls ≠ "java/lang/invoke/VarHandle" ∧ (parseMethodDescriptor y.desc).map (fun d => d.parameters.length) = some As.length) (hR : rf + 1 ≤ R.frames ∧ 8 + (nLy + 11) + rl ≤ R.locals) (hm : k + mc ≤ R.cells ∧ n + ms ≤ R.slots) (hst : stk = As.reverse ++ st) (hlen : st.length ≤ 4) (d : decode cc pc = .ok (.invokestatic i, 3))
    (kr : ∀ ov S', O (.inl ov) S' → PX Z nL S' (k + mc) (n + ms) (pc + 3) l (ov.toList ++ st)) (kx : ∀ j S', O (.inr j) S' → VX Z nL S' (k + mc) (n + ms) pc l st j) : PX Z nL S k n pc l stk := by
  obtain ⟨p, lq, e, R0, s, m, args, below, meth, c, D, C, A, Q⟩ := Z
  intro H locs ls hP hD hS hl
  have hR0 : R0 = R := h.2.2.2.2.2.2.2.2.1
  have hcat := v_cat st
  have hMl := hM lq h.2.2.2.2.2.2.2.2.2.1 D C H.size
  refine x_back h.2.2.2.2.2.2.1 hD hS hl (vx_runSX (As := As) (rest := st) ⟨h.1, h.2.1, h.2.2.1, h.2.2.2.1, h.2.2.2.2.1⟩ hMl (vx_cwSW (ws' := w_G) As.length h.2.2.2.2.1 ?_ rfl rfl rfl hy (by rw [hR0]; exact hR)) ⟨q_blind, fun U hU hW => ⟨rfl, q_pre h hP hD hS U hU hW⟩⟩ rfl rfl hl.1 hst (lv_room (by omega)) d (by rw [hR0]; exact hm)) kr kx
  intro w hw
  rcases List.mem_append.mp hw with hw | hw
  · simp only [List.mem_cons, List.not_mem_nil, or_false] at hw
    rcases hw with e | e | e
    · exact w_gi w1 e
    · exact w_gi w2 e
    · exact w_gi w4 e
  · exact w_gin (y := y) w5 w hw
/-- Object's constructor -/
theorem x_objInit (h : CX Z cc own nL R) (e1 : r = some a) (w1 : Cond.methodLink own i objectInit ∈ w_G) (w2 : Cond.instanceMethod objectInit ∈ w_G) (w3 : Cond.code objectInit ⟨#[0xb1]⟩ 1 none ∈ w_G) (hlen : st.length ≤ 4) (hR : 1 ≤ R.frames ∧ 20 ≤ R.locals) (d : decode cc pc = .ok (.invokespecial i, 3)) (kk : PX Z nL S k n (pc + 3) l st) : PX Z nL S k n pc l (va_rf r :: st) := by
  obtain ⟨p, lq, e, R0, s, m, args, below, meth, c, D, C, A, Q⟩ := Z
  subst e1
  intro H locs ls hP hD hS hl
  have hR0 : R0 = R := h.2.2.2.2.2.2.2.2.1
  have hcat := v_cat st
  have hroom := lv_room (m := m) (pc := pc) (ls := ls) (rest := va_rf (some a) :: st) (st := st) (by omega)
  exact W.objInit h.1 h.2.1 h.2.2.2.1 (h.2.2.2.2.1 _ w1) (h.2.2.2.2.1 _ w2) (h.2.2.2.2.1 _ w3) rfl (by rw [h.2.2.1]; exact hl.1) rfl d (by rw [hR0]; exact hR.1) (by rw [hR0]; omega) (kk H locs ls hP hD hS hl)
theorem x_mm {lo : Bool} (h : CX Z cc own nL R) {x z : Int32} (w1 : Cond.methodLink own i (if lo then Lib.Math.min.name else Lib.Math.max.name) ∈ w_G) (w2 : Cond.static (if lo then Lib.Math.min.name else Lib.Math.max.name) ∈ w_G) (w3 : Cond.initialized "java/lang/Math" ∈ w_G) (w4 : Cond.code (if lo then Lib.Math.min.name else Lib.Math.max.name) (if lo then Lib.Math.min.code else Lib.Math.max.code) 2 (some .int) ∈ w_G) (hlen : st.length ≤ 4) (hR : 1 ≤ R.frames ∧ 21 ≤ R.locals) (hm : k ≤ R.cells ∧ n ≤ R.slots) (d : decode cc pc = .ok (.invokestatic i, 3)) (kk : PX Z nL S k n (pc + 3) l (.int (if lo then (if z < x then z else x) else (if x < z then z else x)) :: st)) : PX Z nL S k n pc l (.int z :: .int x :: st) := by
  obtain ⟨p, lq, e, R0, s, m, args, below, meth, c, D, C, A, Q⟩ := Z
  intro H locs ls hP hD hS hl
  have hR0 : R0 = R := h.2.2.2.2.2.2.2.2.1
  have hcat := v_cat st
  cases lo
  · exact va_mmax h.1 h.2.1 (h.2.2.1.trans hl.1.symm) h.2.2.2.1 (h.2.2.2.2.1 _ w1) (h.2.2.2.2.1 _ w2) (h.2.2.2.2.1 _ w3) (h.2.2.2.2.1 _ w4) (by rw [hR0]; exact hR.1) (by rw [hR0]; omega) (by rw [hR0]; exact hm.1) (by rw [hR0]; exact hm.2) d (kk H locs ls hP hD hS hl)
  · exact va_mmin h.1 h.2.1 (h.2.2.1.trans hl.1.symm) h.2.2.2.1 (h.2.2.2.2.1 _ w1) (h.2.2.2.2.1 _ w2) (h.2.2.2.2.1 _ w3) (h.2.2.2.2.1 _ w4) (by rw [hR0]; exact hR.1) (by rw [hR0]; omega) (by rw [hR0]; exact hm.1) (by rw [hR0]; exact hm.2) d (kk H locs ls hP hD hS hl)
end XC
/-! ends -/
section XE
variable {Z : ZT} {cc : ByteArray} {own : String} {nL : Nat} {R : Room} {S : PH} {k n pc : Nat} {l : List (Nat × Value)} {st : List Value} {mc ms : Nat} {O : OT}
theorem x_iret {v : Int32} (h : CX Z cc own nL R) (hQ : QX Z O mc ms (some .int)) (hO : O (.inl (some (.int v))) S) (h1 : k ≤ mc) (h2 : n ≤ ms) (d : decode cc pc = .ok (.ireturn, 1)) : PX Z nL S k n pc l [.int v] := by
  obtain ⟨p, lq, e, R0, s, m, args, below, meth, c, D, C, A, Q⟩ := Z
  intro H locs ls hP hD hS hl
  obtain ⟨rfl, hr⟩ := hQ
  exact W.widen h1 h2 (vx_ret (W.iret h.1 h.2.1 hr (fun t ht hW => ⟨_, S, hO, rfl, by rw [ht]; exact hP, hD, hS.F ht⟩) hS.2.2 d h.2.2.2.2.2.2.2.1))
theorem x_zret {v : Int32} (h : CX Z cc own nL R) (hQ : QX Z O mc ms (some .boolean)) (hv : vp_nar .boolean v = v) (hO : O (.inl (some (.int v))) S) (h1 : k ≤ mc) (h2 : n ≤ ms) (d : decode cc pc = .ok (.ireturn, 1)) : PX Z nL S k n pc l [.int v] := by
  obtain ⟨p, lq, e, R0, s, m, args, below, meth, c, D, C, A, Q⟩ := Z
  intro H locs ls hP hD hS hl
  obtain ⟨rfl, hr⟩ := hQ
  have hn : narrow .boolean (.int v) = .int v := by
    have h9 := hv
    unfold vp_nar at h9
    simp only [narrow] at h9 ⊢
    rw [h9]
  exact W.widen h1 h2 (vx_ret (W.zret h.1 h.2.1 hr hn (fun t ht hW => ⟨_, S, hO, rfl, by rw [ht]; exact hP, hD, hS.F ht⟩) hS.2.2 d h.2.2.2.2.2.2.2.1))
theorem x_lret {v : Int64} (h : CX Z cc own nL R) (hQ : QX Z O mc ms (some .long)) (hO : O (.inl (some (.long v))) S) (h1 : k ≤ mc) (h2 : n ≤ ms) (d : decode cc pc = .ok (.lreturn, 1)) : PX Z nL S k n pc l [.long v] := by
  obtain ⟨p, lq, e, R0, s, m, args, below, meth, c, D, C, A, Q⟩ := Z
  intro H locs ls hP hD hS hl
  obtain ⟨rfl, hr⟩ := hQ
  have hlk : meth.locks = false := h.2.2.2.2.2.2.2.1
  exact W.widen h1 h2 (vx_ret (W.lret h.1 h.2.1 hr (fun t ht hW => ⟨_, S, hO, rfl, by rw [ht]; exact hP, hD, hS.F ht⟩) hS.2.2 d))
theorem x_fret {v : UInt32} (h : CX Z cc own nL R) (hQ : QX Z O mc ms (some .float)) (hO : O (.inl (some (.float v))) S) (h1 : k ≤ mc) (h2 : n ≤ ms) (d : decode cc pc = .ok (.freturn, 1)) : PX Z nL S k n pc l [.float v] := by
  obtain ⟨p, lq, e, R0, s, m, args, below, meth, c, D, C, A, Q⟩ := Z
  intro H locs ls hP hD hS hl
  obtain ⟨rfl, hr⟩ := hQ
  have hlk : meth.locks = false := h.2.2.2.2.2.2.2.1
  exact W.widen h1 h2 (vx_ret (W.fret h.1 h.2.1 hr (fun t ht hW => ⟨_, S, hO, rfl, by rw [ht]; exact hP, hD, hS.F ht⟩) hS.2.2 d))
theorem x_dret {v : UInt64} (h : CX Z cc own nL R) (hQ : QX Z O mc ms (some .double)) (hO : O (.inl (some (.double v))) S) (h1 : k ≤ mc) (h2 : n ≤ ms) (d : decode cc pc = .ok (.dreturn, 1)) : PX Z nL S k n pc l [.double v] := by
  obtain ⟨p, lq, e, R0, s, m, args, below, meth, c, D, C, A, Q⟩ := Z
  intro H locs ls hP hD hS hl
  obtain ⟨rfl, hr⟩ := hQ
  have hlk : meth.locks = false := h.2.2.2.2.2.2.2.1
  exact W.widen h1 h2 (vx_ret (W.dret h.1 h.2.1 hr (fun t ht hW => ⟨_, S, hO, rfl, by rw [ht]; exact hP, hD, hS.F ht⟩) hS.2.2 d))
theorem x_aret {v : Option Nat} {rt : FieldType} (h : CX Z cc own nL R) (hQ : QX Z O mc ms (some rt)) (hrt : (∃ n, rt = .object n) ∨ ∃ t, rt = .array t) (hO : O (.inl (some (va_rf v))) S) (h1 : k ≤ mc) (h2 : n ≤ ms) (d : decode cc pc = .ok (.areturn, 1)) : PX Z nL S k n pc l [va_rf v] := by
  obtain ⟨p, lq, e, R0, s, m, args, below, meth, c, D, C, A, Q⟩ := Z
  intro H locs ls hP hD hS hl
  obtain ⟨rfl, hr⟩ := hQ
  have hlk : meth.locks = false := h.2.2.2.2.2.2.2.1
  exact W.widen h1 h2 (vx_ret (W.aret h.1 h.2.1 hr hrt (by cases v with | none => exact Or.inl rfl | some a => exact Or.inr ⟨a, rfl⟩) (fun t ht hW => ⟨_, S, hO, rfl, by rw [ht]; exact hP, hD, hS.F ht⟩) hS.2.2 d))
theorem x_vret (h : CX Z cc own nL R) (hQ : QX Z O mc ms none) (hO : O (.inl none) S) (h1 : k ≤ mc) (h2 : n ≤ ms) (d : decode cc pc = .ok (.return_, 1)) : PX Z nL S k n pc l [] := by
  obtain ⟨p, lq, e, R0, s, m, args, below, meth, c, D, C, A, Q⟩ := Z
  intro H locs ls hP hD hS hl
  obtain ⟨rfl, hr⟩ := hQ
  exact W.widen h1 h2 (vx_ret (W.vret h.1 h.2.1 hr (fun t ht hW => ⟨_, S, hO, rfl, by rw [ht]; exact hP, hD, hS.F ht⟩) hS.2.2 d h.2.2.2.2.2.2.2.1))
/-- an exception that goes on to the caller -/
theorem x_out {ret : Option FieldType} {j : Nat} (h : CX Z cc own nL R) (hQ : QX Z O mc ms ret) (hE : EX Z) (hO : O (.inr j) S) (h1 : k ≤ mc) (h2 : n ≤ ms) : VX Z nL S k n pc l st j := by
  obtain ⟨p, lq, e, R0, s, m, args, below, meth, c, D, C, A, Q⟩ := Z
  intro H locs ls ce q hP hD hS hl hc hv hcl
  obtain ⟨rfl, hr⟩ := hQ
  exact vx_out (fun x hx => (hE x hx).elim) h.2.2.2.2.2.2.2.1 hc hv hcl (fun t ht hA => ⟨j, S, hO, rfl, by rw [ht]; exact hP, hD, hS.F ht⟩) hS.2.2 h1 h2
end XE
