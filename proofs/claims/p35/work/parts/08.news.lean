/-! new objects and arrays, copies, static arrays -/
theorem ix_lt {i : Int32} {n : Nat} (h : ix i n = true) : i.toNatClampNeg < n := Nat.not_le.mp fun q => (of_decide_eq_true h : ¬ (i < 0 ∨ n ≤ i.toNatClampNeg)) (Or.inr q)
def d_v (t : Nat) : Value := if t = 0 then .int 0 else if t = 1 then .long 0 else .null
theorem f_s_new (S : PH) (q k n : Nat) : ∀ (ts : List Nat) (j : Nat), f_s (s_N S q k n) q j ts = ts.map d_v
  | [], j => rfl
  | t :: ts, j => by
    simp only [f_s, List.map_cons]
    rw [f_s_new S q k n ts (j + 1)]
    congr 1
    unfold f_v d_v
    simp only [s_N, p_I, p_J, p_R, u_r_self]
    split <;> rfl
theorem s_NK (S : PH) (q k n : Nat) : p_K (s_N S q k n) q = k := va_up_self _ _ _
theorem s_NN (S : PH) (q k n : Nat) : p_N (s_N S q k n) q = n := va_up_self _ _ _
theorem s_NI (S : PH) (q k n : Nat) : p_I (s_N S q k n) q = fun _ => 0 := u_r_self
theorem s_NR (S : PH) (q k n : Nat) : p_R (s_N S q k n) q = fun _ => none := u_r_self
theorem s_NJ (S : PH) (q k n : Nat) : p_J (s_N S q k n) q = fun _ => 0 := u_r_self
theorem s_NE (S : PH) (q k n : Nat) : p_E (s_N S q k n) q = fun _ => 0 := u_r_self
/-- the static array at t -/
def ST : ZT → Nat → List Int32 → Prop
  | (p, l, e, R, s, m, args, below, meth, c, D, C, A, Q), t, vs => va_T .int t 4 (fun j => .int (vs.getD j 0)) A s s.heap
section XN
variable {Z : ZT} {cc : ByteArray} {own : String} {nL : Nat} {R : Room} {S : PH} {k n pc : Nat} {l : List (Nat × Value)} {st : List Value} {ci : Nat} {C0 : String} {T : u_T} {N : Nat} {ty : Nat → FieldType} {a : Nat} {r : Option Nat}
theorem x_aaload9 (h : CX Z cc own nL R) (e1 : r = some a) (ha : a ∈ p_L S ∧ p_K S a = 9) {i : Int32} (hi : ix i (p_N S a) = true) (d : decode cc pc = .ok (.aaload, 1)) (kk : PX Z nL S k n (pc + 1) l (va_rf (p_R S a i.toNatClampNeg) :: st)) : PX Z nL S k n pc l (.int i :: va_rf r :: st) := by
  obtain ⟨p, lq, e, R0, s, m, args, below, meth, c, D, C, A, Q⟩ := Z
  subst e1
  intro H locs ls hP hD hS hl
  obtain ⟨q, hq⟩ := w_get (C := C) ha.1
  have ha0 := hq.trans (congrArg (fun e => some (a, e)) (c_9 ha.2))
  exact W.aald (v := va_rf (p_R S a i.toNatClampNeg)) (ty := .array .int) h.1 h.2.1 (hP q _ ha0) ((h.2.2.2.2.2.1.2 3 (C 3, .array .int) rfl).1 (p_N S a) (fun j => va_rf (p_R S a j))) rfl (fun q => by cases q) (by show ¬ (i < 0 ∨ (arrV _ _ _).slots.size ≤ _); rw [arrV_size]; exact ix_in hi) (by show (arrV _ _ _).slots[_]? = _; rw [arrV_read _ _ (ix_lt hi)]) rfl rfl d (kk H locs ls hP hD hS hl)
theorem x_new (h : CX Z cc own nL R) (hk : KF ci C0 T N ty) {i : Nat} (hw : Cond.classLink own i C0 ∈ w_G) (hw2 : Cond.instantiable C0 N ∈ w_G) (hw3 : Cond.initialized C0 ∈ w_G) (hd : ∀ j, j < N → defaultValue (ty j) = vp_V ((f_t ci).map d_v) j) (h1 : k + 1 ≤ R.cells) (h2 : n + N ≤ R.slots) (d : decode cc pc = .ok (.new i, 3)) (kk : ∀ q, q ∉ p_L S → PX Z nL (s_N S q ci 0) (k + 1) (n + N) (pc + 3) l (va_rf (some q) :: st)) : PX Z nL S k n pc l st := by
  obtain ⟨p, lq, e, R0, s, m, args, below, meth, c, D, C, A, Q⟩ := Z
  intro H locs ls hP hD hS hl
  have hR : R0 = R := h.2.2.2.2.2.2.2.2.1
  refine va_new h.1 h.2.1 (fun w hw => h.2.2.2.2.1 w hw) hk.2.1 ty hk.2.2.1 h.2.2.2.1 (h.2.2.2.2.1 _ hw) (h.2.2.2.2.1 _ hw2) (h.2.2.2.2.1 _ hw3) h.2.2.2.2.2.1 hP hD hS h.2.2.2.2.2.2.1 hk.1 hd (by rw [hR]; exact h1) (by rw [hR]; exact h2) d (fun q H1 hP1 hD1 hS1 => ?_)
  obtain ⟨hq, hW⟩ := w_new (S := S) (k := ci) (n := 0) hD1 (by rw [c_obj hk.2.2.2.2.1 (s_NK S q ci 0), f_s_new])
  rw [hW] at hP1 hD1
  exact kk q hq H1 locs ls hP1 hD1 hS1 hl
/-- a new array of a kind -/
theorem x_newa (h : CX Z cc own nL R) {at0 : ArrayType} {ft : FieldType} {kd t0 : Nat} {z : Int32} {N' : Nat} {an : (Nat → ClassId) → vp_A} (hw : Cond.arrayClass (newarray.typeOf at0) ∈ w_G) (hty : newarray.typeOf at0 = ft) (hft : ∀ U : State, ∀ cA, va_RA U cA ft → U.vm.findClass ("[" ++ ft.toString) = some cA) (ht : ∀ C : Nat → ClassId, (t_C C)[t0]? = some (C t0, ft)) (ha : ∀ (C : Nat → ClassId) (cA : ClassId), vp_cell cA (an C) = arrV cA N' (fun _ => defaultValue ft)) (hz : ¬ z < 0) (hN : z.toNatClampNeg = N') (hb : N' * componentBytes ft ≤ 536870912) (h1 : k + 1 ≤ R.cells) (h2 : n + N' ≤ R.slots) (hc : ∀ (C : Nat → ClassId) q, c_F C (s_N S q kd N') q = .inl (C t0, an C)) (d : decode cc pc = .ok (.newarray at0, 2)) (kk : ∀ q, q ∉ p_L S → PX Z nL (s_N S q kd N') (k + 1) (n + N') (pc + 2) l (va_rf (some q) :: st)) : PX Z nL S k n pc l (.int z :: st) := by
  obtain ⟨p, lq, e, R0, s, m, args, below, meth, c, D, C, A, Q⟩ := Z
  intro H locs ls hP hD hS hl
  have hR : R0 = R := h.2.2.2.2.2.2.2.2.1
  refine va_newa h.1 h.2.1 (h.2.2.2.2.1 _ hw) hty h.2.2.2.2.2.1 hP hD hS h.2.2.2.2.2.2.1 (ha C) hz hN hb (by rw [hR]; exact h1) (by rw [hR]; exact h2) d (fun q cA H1 hK1 hP1 hD1 hS1 => ?_)
  have e1 := hft s cA (hK1.2 (t_C C).length (cA, ft) (by simp)).2
  have e2 := hft s (C t0) (h.2.2.2.2.2.1.2 t0 _ (ht C)).2
  have e3 : cA = C t0 := Option.some.inj (e1.symm.trans e2)
  subst e3
  obtain ⟨hq, hW⟩ := w_new (S := S) (k := kd) (n := N') hD1 (hc C q)
  rw [hW] at hP1 hD1
  exact kk q hq H1 locs ls hP1 hD1 hS1 hl
theorem x_newI (h : CX Z cc own nL R) {z : Int32} {N' : Nat} (hw : Cond.arrayClass .int ∈ w_G) (hz : ¬ z < 0) (hN : z.toNatClampNeg = N') (hb : N' * componentBytes .int ≤ 536870912) (h1 : k + 1 ≤ R.cells) (h2 : n + N' ≤ R.slots) (d : decode cc pc = .ok (.newarray .int, 2)) (kk : ∀ q, q ∉ p_L S → PX Z nL (s_N S q 6 N') (k + 1) (n + N') (pc + 2) l (va_rf (some q) :: st)) : PX Z nL S k n pc l (.int z :: st) :=
  x_newa (at0 := .int) (ft := .int) (kd := 6) (t0 := 0) (an := fun _ => (N', .inl (fun _ => 0))) h hw rfl (fun _ _ q => q) (fun _ => rfl) (fun _ _ => rfl) hz hN hb h1 h2 (fun C q => by rw [c_6 (s_NK S q 6 N'), s_NN, s_NI]) d kk
/-- new State[z] -/
theorem x_newq (h : CX Z cc own nL R) {i : Nat} {z : Int32} {N' : Nat} (hw : Cond.classLink own i RX2 ∈ w_G) (hov : Cond.arrayOver (.object RX2) ∈ x_W) (hz : ¬ z < 0) (hN : z.toNatClampNeg = N') (hb : N' * 4 ≤ 536870912) (h1 : k + 1 ≤ R.cells) (h2 : n + N' ≤ R.slots) (d : decode cc pc = .ok (.anewarray i, 3)) (kk : ∀ q, q ∉ p_L S → PX Z nL (s_N S q 8 N') (k + 1) (n + N') (pc + 3) l (va_rf (some q) :: st)) : PX Z nL S k n pc l (.int z :: st) := by
  obtain ⟨p, lq, e, R0, s, m, args, below, meth, c, D, C, A, Q⟩ := Z
  intro H locs ls hP hD hS hl
  have hR : R0 = R := h.2.2.2.2.2.2.2.2.1
  have hM := h.2.2.2.2.2.2.2.2.2.2
  refine va_newq h.1 h.2.1 h.2.2.2.1 (h.2.2.2.2.1 _ hw) (hM.2.2.2.2.2.2.1 _ hov) h.2.2.2.2.2.1 hP hD hS h.2.2.2.2.2.2.1 hz hN hb (by rw [hR]; exact h1) (by rw [hR]; exact h2) d (fun q cA H1 hK1 hP1 hD1 hS1 => ?_)
  obtain ⟨_, _, _, _, _, e1⟩ := (hK1.2 (t_C C).length (cA, .object RX2) (by simp)).2
  obtain ⟨_, _, _, _, _, e2⟩ := (h.2.2.2.2.2.1.2 2 (C 2, .object RX2) rfl).2
  have e3 : cA = C 2 := Option.some.inj (e1.symm.trans e2)
  subst e3
  obtain ⟨hq, hW⟩ := w_new (S := S) (k := 8) (n := N') hD1 (by rw [c_8 (s_NK S q 8 N'), s_NN, s_NR])
  rw [hW] at hP1 hD1
  exact kk q hq H1 locs ls hP1 hD1 hS1 hl
/-- System.arraycopy of whole numbers -/
theorem x_copy (h : CX Z cc own nL R) {i a0 : Nat} {r0 : Option Nat} (hw1 : Cond.methodLink own i arraycopyName ∈ w_G) (hw2 : Cond.native arraycopyName ∈ w_G) (hw3 : Cond.static arraycopyName ∈ w_G) (hw4 : Cond.initialized "java/lang/System" ∈ w_G) (e0 : r0 = some a0) (h0 : a0 ∈ p_L S ∧ p_K S a0 = 6) (e1 : r = some a) (ha : a ∈ p_L S ∧ p_K S a = 6) {sp dp z : Int32} (h1 : ¬ sp < 0) (h2 : ¬ dp < 0) (h3 : ¬ z < 0) (h4 : sp.toNatClampNeg + z.toNatClampNeg ≤ p_N S a0) (h5 : dp.toNatClampNeg + z.toNatClampNeg ≤ p_N S a) (hst : st.length ≤ 4) (hRf : 1 ≤ R.frames) (hRl : 8 + (nativeFrameWords "java/lang/System" "arraycopy" 5 + 11) ≤ R.locals) (d : decode cc pc = .ok (.invokestatic i, 3)) (kk : PX Z nL (s_W S a (va_cpy (p_I S a0) (p_I S a) sp.toNatClampNeg dp.toNatClampNeg z.toNatClampNeg)) k n (pc + 3) l st) : PX Z nL S k n pc l (.int z :: .int dp :: va_rf r :: .int sp :: va_rf r0 :: st) := by
  obtain ⟨p, lq, e, R0, s, m, args, below, meth, c, D, C, A, Q⟩ := Z
  subst e1
  subst e0
  intro H locs ls hP hD hS hl
  have hR : R0 = R := h.2.2.2.2.2.2.2.2.1
  have hcat : ∀ st : List Value, (st.map fun v => v.category).sum ≤ 2 * st.length := by
    intro st
    induction st with
    | nil => simp
    | cons v st ih => simp only [List.map_cons, List.sum_cons, List.length_cons]; rcases lv_cat v with e | e <;> omega
  have hc1 := hcat st
  obtain ⟨q0, hq0⟩ := w_get (C := C) h0.1
  obtain ⟨q, hq⟩ := w_get (C := C) ha.1
  have hW := w_set (S' := s_W S a (va_cpy (p_I S a0) (p_I S a) sp.toNatClampNeg dp.toNatClampNeg z.toNatClampNeg)) (C := C) hD ha.1 hq rfl (c_6 (S := s_W S a (va_cpy (p_I S a0) (p_I S a) sp.toNatClampNeg dp.toNatClampNeg z.toNatClampNeg)) ha.2) (fun b hb => c_F_eq rfl rfl (u_r_ne hb) rfl rfl rfl)
  refine va_copyi h.1 h.2.1 (h.2.2.1.trans hl.1.symm) h.2.2.2.1 (h.2.2.2.2.1 _ hw1) (h.2.2.2.2.1 _ hw2) (h.2.2.2.2.1 _ hw3) (h.2.2.2.2.1 _ hw4) h.2.2.2.2.2.1 hP hD hS q0 q 0 0 (hq0.trans (by rw [c_6 h0.2])) (hq.trans (by rw [c_6 ha.2])) rfl rfl rfl h1 h2 h3 h4 h5 (fun _ _ => rfl) (by rw [hR]; exact hRf) (by rw [hR]; omega) d (fun H1 locs1 hP1 hD1 hS1 => ?_)
  have hu : va_cpy (p_I S a0) (p_I S a) sp.toNatClampNeg dp.toNatClampNeg z.toNatClampNeg = p_I (s_W S a (va_cpy (p_I S a0) (p_I S a) sp.toNatClampNeg dp.toNatClampNeg z.toNatClampNeg)) a := by
    show _ = u_r _ a _ a
    rw [u_r_self]
  rw [hu] at hP1 hD1
  have hW : (w_P C S).set q (a, .inl (C 0, p_N S a, .inl (p_I (s_W S a (va_cpy (p_I S a0) (p_I S a) sp.toNatClampNeg dp.toNatClampNeg z.toNatClampNeg)) a))) = w_P C (s_W S a (va_cpy (p_I S a0) (p_I S a) sp.toNatClampNeg dp.toNatClampNeg z.toNatClampNeg)) := hW
  rw [hW] at hP1 hD1
  exact kk H1 locs1 ls hP1 hD1 hS1 hl
theorem x_gets1 (h : CX Z cc own nL R) {nm : String} {vs : List Int32} {i : Nat} (hA : ∀ (A : Nat → Prop) (s : State) (H : Heap), a_M A s H → a_T nm vs A s H) (hw : Cond.fieldLink own i RX4 nm "[I" ∈ w_G) (d : decode cc pc = .ok (.getstatic i, 3)) (kk : ∀ t, ST Z t vs → PX Z nL S k n (pc + 3) l (.ref t :: st)) : PX Z nL S k n pc l st := by
  obtain ⟨p, lq, e, R0, s, m, args, below, meth, c, D, C, A, Q⟩ := Z
  intro H locs ls hP hD hS hl
  obtain ⟨t, h1, h2⟩ := hA _ _ _ h.2.2.2.2.2.2.2.2.2.2
  exact va_gets h.1 h.2.1 h1 hS h.2.2.2.1 (h.2.2.2.2.1 _ hw) (fun _ q => q) d (kk t h2 H locs ls hP hD hS hl)
theorem x_getsN (h : CX Z cc own nL R) {nm : String} {vs : List Int32} {i : Nat} (hA : ∀ (A : Nat → Prop) (s : State) (H : Heap), a_M A s H → a_T nm vs A s H) (hw : Cond.fieldLinkNest own i RX4 nm "[I" RX4 ∈ x_W) (d : decode cc pc = .ok (.getstatic i, 3)) (kk : ∀ t, ST Z t vs → PX Z nL S k n (pc + 3) l (.ref t :: st)) : PX Z nL S k n pc l st := by
  obtain ⟨p, lq, e, R0, s, m, args, below, meth, c, D, C, A, Q⟩ := Z
  intro H locs ls hP hD hS hl
  obtain ⟨t, h1, h2⟩ := hA _ _ _ h.2.2.2.2.2.2.2.2.2.2
  exact va_getsN h.1 h.2.1 h1 hS h.2.2.2.1 (va_Nw.use rfl (h.2.2.2.2.2.2.2.2.2.2.2.2.2.2.2.2.1 _ hw)) (fun _ q => q) d (kk t h2 H locs ls hP hD hS hl)
theorem x_tia (h : CX Z cc own nL R) {t : Nat} {vs : List Int32} (ht : ST Z t vs) {i : Int32} (hi : ix i 4 = true) (d : decode cc pc = .ok (.iaload, 1)) (kk : PX Z nL S k n (pc + 1) l (.int (vs.getD i.toNatClampNeg 0) :: st)) : PX Z nL S k n pc l (.int i :: .ref t :: st) := by
  obtain ⟨p, lq, e, R0, s, m, args, below, meth, c, D, C, A, Q⟩ := Z
  intro H locs ls hP hD hS hl
  exact va_ti h.1 h.2.1 ht hS (ix_in hi) rfl d (kk H locs ls hP hD hS hl)
end XN
