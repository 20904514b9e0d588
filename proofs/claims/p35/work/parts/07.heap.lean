/-! THE HEAP'S ROWS over the pool -/
/-- what is known of the class with number ci -/
def KF (ci : Nat) (C0 : String) (T : u_T) (N : Nat) (ty : Nat → FieldType) : Prop := vwCl[ci]? = some (C0, T, N) ∧ (∀ w ∈ u_ws C0 T N, w ∈ w_G) ∧ (∀ k, k < N → parseFieldDescriptor (T k).2.2.1 = some (ty k)) ∧ (∀ a, a < N → ∀ b, b < N → a ≠ b → (T a).2.1 ≠ (T b).2.1) ∧ ci < 6 ∧ (f_t ci).length = N ∧ (∀ j, j < N → (T j).1 = C0)
theorem kf_0 : KF 0 RX0 TX0 3 tyX0 := ⟨rfl, by decide +kernel, tyX0_ok, nmX0, by decide, rfl, by decide +kernel⟩
theorem kf_1 : KF 1 RX1 TX1 8 tyX1 := ⟨rfl, by decide +kernel, tyX1_ok, nmX1, by decide, rfl, by decide +kernel⟩
theorem kf_2 : KF 2 RX2 TX2 17 tyX2 := ⟨rfl, by decide +kernel, tyX2_ok, nmX2, by decide, rfl, by decide +kernel⟩
theorem kf_3 : KF 3 RX3 TX3 2 tyX3 := ⟨rfl, by decide +kernel, tyX3_ok, nmX3, by decide, rfl, by decide +kernel⟩
theorem kf_4 : KF 4 RX4 TX4 6 tyX4 := ⟨rfl, by decide +kernel, tyX4_ok, nmX4, by decide, rfl, by decide +kernel⟩
/-- an index within its row -/
def ix (i : Int32) (n : Nat) : Bool := decide (¬ (i < 0 ∨ n ≤ i.toNatClampNeg))
theorem ix_in {i : Int32} {n : Nat} (h : ix i n = true) : vp_in i n := (show ¬ (i < 0 ∨ n ≤ i.toNatClampNeg) from of_decide_eq_true h)
def NX : ZT → Prop
  | (p, l, e, R, s, m, args, below, meth, c, D, C, A, Q) => meth.name = "<init>"
section XH
variable {Z : ZT} {cc : ByteArray} {own : String} {nL : Nat} {R : Room} {S : PH} {k n pc : Nat} {l : List (Nat × Value)} {st : List Value} {ci : Nat} {C0 : String} {T : u_T} {N : Nat} {ty : Nat → FieldType} {a : Nat} {r : Option Nat}
theorem w_obj {C : Nat → ClassId} (hk : KF ci C0 T N ty) (ha : a ∈ p_L S ∧ p_K S a = ci) : ∃ q : Nat, (w_P C S)[q]? = some (a, c_F C S a) ∧ c_F C S a = .inr (ci, f_s S a 0 (f_t ci)) := by
  obtain ⟨q, hq⟩ := w_get (C := C) ha.1
  exact ⟨q, hq, c_obj hk.2.2.2.2.1 ha.2⟩
theorem x_getv (h : CX Z cc own nL R) (e1 : r = some a) (ha : a ∈ p_L S ∧ p_K S a = ci) (hk : KF ci C0 T N ty) {j i : Nat} (hj : j < N) {t : Nat} (ht : (f_t ci)[j]? = some t) (hw : Cond.fieldLink own i C0 (T j).2.1 (T j).2.2.1 ∈ w_G) (d : decode cc pc = .ok (.getfield i, 3)) (kk : PX Z nL S k n (pc + 3) l (f_v S a j t :: st)) : PX Z nL S k n pc l (va_rf r :: st) := by
  obtain ⟨p, lq, e, R0, s, m, args, below, meth, c, D, C, A, Q⟩ := Z
  subst e1
  intro H locs ls hP hD hS hl
  obtain ⟨q, hq, hc⟩ := w_obj (C := C) hk ha
  have hT := hk.2.2.2.2.2.2 j hj
  refine va_get h.1 h.2.1 (fun w hw => h.2.2.2.2.1 w hw) hk.2.1 h.2.2.2.1 h.2.2.2.2.2.1 hP q (hq.trans (by rw [hc])) hk.1 j hj (ref := C0) (h.2.2.2.2.1 _ hw) (fun x hx => by rw [← hT]; exact hx) (v := f_v S a j t) ?_ d (kk H locs ls hP hD hS hl)
  rw [f_s_get, ht]
  simp
theorem x_getI (h : CX Z cc own nL R) (e1 : r = some a) (ha : a ∈ p_L S ∧ p_K S a = ci) (hk : KF ci C0 T N ty) (j : Nat) {i : Nat} (hj : j < N) (ht : (f_t ci)[j]? = some 0) (hw : Cond.fieldLink own i C0 (T j).2.1 (T j).2.2.1 ∈ w_G) (d : decode cc pc = .ok (.getfield i, 3)) (kk : PX Z nL S k n (pc + 3) l (.int (p_I S a j) :: st)) : PX Z nL S k n pc l (va_rf r :: st) := x_getv h e1 ha hk hj ht hw d kk
theorem x_getJ (h : CX Z cc own nL R) (e1 : r = some a) (ha : a ∈ p_L S ∧ p_K S a = ci) (hk : KF ci C0 T N ty) (j : Nat) {i : Nat} (hj : j < N) (ht : (f_t ci)[j]? = some 1) (hw : Cond.fieldLink own i C0 (T j).2.1 (T j).2.2.1 ∈ w_G) (d : decode cc pc = .ok (.getfield i, 3)) (kk : PX Z nL S k n (pc + 3) l (.long (p_J S a j) :: st)) : PX Z nL S k n pc l (va_rf r :: st) := x_getv h e1 ha hk hj ht hw d kk
theorem x_getR (h : CX Z cc own nL R) (e1 : r = some a) (ha : a ∈ p_L S ∧ p_K S a = ci) (hk : KF ci C0 T N ty) (j : Nat) {i : Nat} (hj : j < N) (ht : (f_t ci)[j]? = some 2) (hw : Cond.fieldLink own i C0 (T j).2.1 (T j).2.2.1 ∈ w_G) (d : decode cc pc = .ok (.getfield i, 3)) (kk : PX Z nL S k n (pc + 3) l (va_rf (p_R S a j) :: st)) : PX Z nL S k n pc l (va_rf r :: st) := x_getv h e1 ha hk hj ht hw d kk
theorem x_putv (h : CX Z cc own nL R) (e1 : r = some a) (ha : a ∈ p_L S ∧ p_K S a = ci) (hk : KF ci C0 T N ty) {j i : Nat} (hj : j < N) (hw : Cond.fieldLink own i C0 (T j).2.1 (T j).2.2.1 ∈ w_G) (hf : (T j).2.2.2 = false ∨ ((T j).2.2.2 = true ∧ NX Z ∧ C0 = own)) {v : Value} (hn : narrow (ty j) v = v) (hfit : fits (ty j) v = true) {S' : PH} (hL : p_L S' = p_L S) (hK : ∀ b, p_K S' b = p_K S b) (hset : f_s S' a 0 (f_t ci) = (f_s S a 0 (f_t ci)).set j v) (ho : ∀ (C : Nat → ClassId) b, b ≠ a → c_F C S' b = c_F C S b) (d : decode cc pc = .ok (.putfield i, 3)) (kk : PX Z nL S' k n (pc + 3) l st) : PX Z nL S k n pc l (v :: va_rf r :: st) := by
  obtain ⟨p, lq, e, R0, s, m, args, below, meth, c, D, C, A, Q⟩ := Z
  subst e1
  intro H locs ls hP hD hS hl
  obtain ⟨q, hq, hc⟩ := w_obj (C := C) hk ha
  have hT := hk.2.2.2.2.2.2 j hj
  have he : c_F C S' a = .inr (ci, (f_s S a 0 (f_t ci)).set j v) := by rw [c_obj hk.2.2.2.2.1 ((hK a).trans ha.2), hset]
  have hW := w_set hD ha.1 hq hL he (fun b hb => ho C b hb)
  have hlen : j < (f_s S a 0 (f_t ci)).length := by rw [f_s_len, hk.2.2.2.2.2.1]; exact hj
  rcases hf with hf | ⟨hf, hI, hown⟩
  · refine va_put h.1 h.2.1 (fun w hw => h.2.2.2.2.1 w hw) hk.2.1 ty hk.2.2.1 hk.2.2.2.1 h.2.2.2.1 h.2.2.2.2.2.1 hP hD hS q (hq.trans (by rw [hc])) hk.1 j hj (ref := C0) (h.2.2.2.2.1 _ hw) (fun x hx => by rw [← hT]; exact hx) hf (hk.2.2.1 j hj) hn hfit hlen d (fun H1 locs1 hP1 hD1 hS1 => ?_)
    rw [hW] at hP1 hD1
    exact kk H1 locs1 ls hP1 hD1 hS1 hl
  · refine va_putF h.1 h.2.1 (fun w hw => h.2.2.2.2.1 w hw) hk.2.1 ty hk.2.2.1 hk.2.2.2.1 h.2.2.2.1 h.2.2.2.2.2.1 hP hD hS q (hq.trans (by rw [hc])) hk.1 j hj (ref := C0) (h.2.2.2.2.1 _ hw) (fun x hx => by rw [← hT]; exact hx) hf hI (hT.trans hown) (hk.2.2.1 j hj) hn hfit hlen d (fun H1 locs1 hP1 hD1 hS1 => ?_)
    rw [hW] at hP1 hD1
    exact kk H1 locs1 ls hP1 hD1 hS1 hl
theorem x_putI (h : CX Z cc own nL R) (e1 : r = some a) (ha : a ∈ p_L S ∧ p_K S a = ci) (hk : KF ci C0 T N ty) (j : Nat) {i : Nat} (hj : j < N) (ht : (f_t ci)[j]? = some 0) (hy : ty j = .int) (hw : Cond.fieldLink own i C0 (T j).2.1 (T j).2.2.1 ∈ w_G) (hf : (T j).2.2.2 = false ∨ ((T j).2.2.2 = true ∧ NX Z ∧ C0 = own)) {v : Int32} (d : decode cc pc = .ok (.putfield i, 3)) (kk : PX Z nL (s_I S a j v) k n (pc + 3) l st) : PX Z nL S k n pc l (.int v :: va_rf r :: st) := by
  refine x_putv h e1 ha hk hj hw hf (by rw [hy]; rfl) (by rw [hy]; rfl) (S' := s_I S a j v) rfl (fun _ => rfl) ?_ (fun C b hb => c_F_eq rfl rfl (u_2_ne hb) rfl rfl rfl) d kk
  refine f_s_set S _ a _ j _ (List.getElem?_eq_some_iff.mp ht).1 (fun t h9 => ?_) (fun i t hi h9 => ?_)
  · rw [ht] at h9; cases h9; simp [f_v, s_I, p_I, u_2]
  · simp [f_v, s_I, p_I, p_J, p_R, u_2, hi]
theorem x_putJ (h : CX Z cc own nL R) (e1 : r = some a) (ha : a ∈ p_L S ∧ p_K S a = ci) (hk : KF ci C0 T N ty) (j : Nat) {i : Nat} (hj : j < N) (ht : (f_t ci)[j]? = some 1) (hy : ty j = .long) (hw : Cond.fieldLink own i C0 (T j).2.1 (T j).2.2.1 ∈ w_G) (hf : (T j).2.2.2 = false ∨ ((T j).2.2.2 = true ∧ NX Z ∧ C0 = own)) {v : Int64} (d : decode cc pc = .ok (.putfield i, 3)) (kk : PX Z nL (s_J S a j v) k n (pc + 3) l st) : PX Z nL S k n pc l (.long v :: va_rf r :: st) := by
  refine x_putv h e1 ha hk hj hw hf (by rw [hy]; rfl) (by rw [hy]; rfl) (S' := s_J S a j v) rfl (fun _ => rfl) ?_ (fun C b hb => c_F_eq rfl rfl rfl rfl (u_2_ne hb) rfl) d kk
  refine f_s_set S _ a _ j _ (List.getElem?_eq_some_iff.mp ht).1 (fun t h9 => ?_) (fun i t hi h9 => ?_)
  · rw [ht] at h9; cases h9; simp [f_v, s_J, p_J, u_2]
  · simp [f_v, s_J, p_I, p_J, p_R, u_2, hi]
theorem x_putR (h : CX Z cc own nL R) (e1 : r = some a) (ha : a ∈ p_L S ∧ p_K S a = ci) (hk : KF ci C0 T N ty) (j : Nat) {i : Nat} (hj : j < N) (ht : (f_t ci)[j]? = some 2) (hy : (∃ t, ty j = .array t) ∨ (∃ t, ty j = .object t)) (hw : Cond.fieldLink own i C0 (T j).2.1 (T j).2.2.1 ∈ w_G) (hf : (T j).2.2.2 = false ∨ ((T j).2.2.2 = true ∧ NX Z ∧ C0 = own)) {v : Option Nat} (d : decode cc pc = .ok (.putfield i, 3)) (kk : PX Z nL (s_R S a j v) k n (pc + 3) l st) : PX Z nL S k n pc l (va_rf v :: va_rf r :: st) := by
  refine x_putv h e1 ha hk hj hw hf ?_ ?_ (S' := s_R S a j v) rfl (fun _ => rfl) ?_ (fun C b hb => c_F_eq rfl rfl rfl (u_2_ne hb) rfl rfl) d kk
  · rcases hy with ⟨t, ht⟩ | ⟨t, ht⟩ <;> rw [ht] <;> cases v <;> rfl
  · rcases hy with ⟨t, ht⟩ | ⟨t, ht⟩ <;> rw [ht] <;> cases v <;> rfl
  refine f_s_set S _ a _ j _ (List.getElem?_eq_some_iff.mp ht).1 (fun t h9 => ?_) (fun i t hi h9 => ?_)
  · rw [ht] at h9; cases h9; simp [f_v, s_R, p_R, u_2]
  · simp [f_v, s_R, p_I, p_J, p_R, u_2, hi]
/-! arrays -/
theorem x_iaload (h : CX Z cc own nL R) (e1 : r = some a) (ha : a ∈ p_L S ∧ p_K S a = 6) {i : Int32} (hi : ix i (p_N S a) = true) (d : decode cc pc = .ok (.iaload, 1)) (kk : PX Z nL S k n (pc + 1) l (.int (p_I S a i.toNatClampNeg) :: st)) : PX Z nL S k n pc l (.int i :: va_rf r :: st) := by
  obtain ⟨p, lq, e, R0, s, m, args, below, meth, c, D, C, A, Q⟩ := Z
  subst e1
  intro H locs ls hP hD hS hl
  obtain ⟨q, hq⟩ := w_get (C := C) ha.1
  exact va_iald h.1 h.2.1 h.2.2.2.2.2.1 hP q 0 (hq.trans (by rw [c_6 ha.2])) rfl (ix_in hi) d (kk H locs ls hP hD hS hl)
theorem x_aaload8 (h : CX Z cc own nL R) (e1 : r = some a) (ha : a ∈ p_L S ∧ p_K S a = 8) {i : Int32} (hi : ix i (p_N S a) = true) (d : decode cc pc = .ok (.aaload, 1)) (kk : PX Z nL S k n (pc + 1) l (va_rf (p_R S a i.toNatClampNeg) :: st)) : PX Z nL S k n pc l (.int i :: va_rf r :: st) := by
  obtain ⟨p, lq, e, R0, s, m, args, below, meth, c, D, C, A, Q⟩ := Z
  subst e1
  intro H locs ls hP hD hS hl
  obtain ⟨q, hq⟩ := w_get (C := C) ha.1
  exact va_aldq h.1 h.2.1 h.2.2.2.2.2.1 hP q 2 (hq.trans (by rw [c_8 ha.2])) rfl (ix_in hi) d (kk H locs ls hP hD hS hl)
theorem x_iastore (h : CX Z cc own nL R) (e1 : r = some a) (ha : a ∈ p_L S ∧ p_K S a = 6) {i v : Int32} (hi : ix i (p_N S a) = true) (d : decode cc pc = .ok (.iastore, 1)) (kk : PX Z nL (s_I S a i.toNatClampNeg v) k n (pc + 1) l st) : PX Z nL S k n pc l (.int v :: .int i :: va_rf r :: st) := by
  obtain ⟨p, lq, e, R0, s, m, args, below, meth, c, D, C, A, Q⟩ := Z
  subst e1
  intro H locs ls hP hD hS hl
  obtain ⟨q, hq⟩ := w_get (C := C) ha.1
  have hW := w_set (S' := s_I S a i.toNatClampNeg v) (C := C) hD ha.1 hq rfl (c_6 (S := s_I S a i.toNatClampNeg v) ha.2) (fun b hb => c_F_eq rfl rfl (u_2_ne hb) rfl rfl rfl)
  refine va_iast h.1 h.2.1 h.2.2.2.2.2.1 hP hD hS q 0 (hq.trans (by rw [c_6 ha.2])) rfl (ix_in hi) d (fun H1 locs1 hP1 hD1 hS1 => ?_)
  rw [← u_2_I] at hP1 hD1
  have hW : (w_P C S).set q (a, .inl (C 0, p_N S a, .inl (u_2 (p_I S) a i.toNatClampNeg v a))) = w_P C (s_I S a i.toNatClampNeg v) := hW
  rw [hW] at hP1 hD1
  exact kk H1 locs1 ls hP1 hD1 hS1 hl
theorem x_aastore8 (h : CX Z cc own nL R) (e1 : r = some a) (ha : a ∈ p_L S ∧ p_K S a = 8) {i : Int32} {v b : Nat} {w : Option Nat} (e2 : w = some b) (hb : b ∈ p_L S ∧ p_K S b = 2) (hi : ix i (p_N S a) = true) (d : decode cc pc = .ok (.aastore, 1)) (kk : PX Z nL (s_R S a i.toNatClampNeg w) k n (pc + 1) l st) : PX Z nL S k n pc l (va_rf w :: .int i :: va_rf r :: st) := by
  obtain ⟨p, lq, e, R0, s, m, args, below, meth, c, D, C, A, Q⟩ := Z
  subst e1
  subst e2
  intro H locs ls hP hD hS hl
  obtain ⟨q, hq⟩ := w_get (C := C) ha.1
  obtain ⟨q2, hq2, hc2⟩ := w_obj (C := C) kf_2 hb
  have hW := w_set (S' := s_R S a i.toNatClampNeg (some b)) (C := C) hD ha.1 hq rfl (c_8 (S := s_R S a i.toNatClampNeg (some b)) ha.2) (fun b hb => c_F_eq rfl rfl rfl (u_2_ne hb) rfl rfl)
  refine va_astq h.1 h.2.1 h.2.2.2.2.2.1 hP hD hS q 2 q2 2 (hq.trans (by rw [c_8 ha.2])) rfl (hq2.trans (by rw [hc2])) kf_2.1 (ix_in hi) d (fun H1 locs1 hP1 hD1 hS1 => ?_)
  rw [← u_2_V] at hP1 hD1
  have hW : (w_P C S).set q (a, .inl (C 2, p_N S a, .inr (.inr (.inr (.inr (u_2 (p_R S) a i.toNatClampNeg (some b) a)))))) = w_P C (s_R S a i.toNatClampNeg (some b)) := hW
  rw [hW] at hP1 hD1
  exact kk H1 locs1 ls hP1 hD1 hS1 hl
theorem x_alen6 (h : CX Z cc own nL R) (e1 : r = some a) (ha : a ∈ p_L S ∧ p_K S a = 6) (d : decode cc pc = .ok (.arraylength, 1)) (kk : PX Z nL S k n (pc + 1) l (.int (Int32.ofNat (p_N S a)) :: st)) : PX Z nL S k n pc l (va_rf r :: st) := by
  obtain ⟨p, lq, e, R0, s, m, args, below, meth, c, D, C, A, Q⟩ := Z
  subst e1
  intro H locs ls hP hD hS hl
  obtain ⟨q, hq⟩ := w_get (C := C) ha.1
  exact va_alen h.1 h.2.1 h.2.2.2.2.2.1 hP q 0 (hq.trans (by rw [c_6 ha.2])) rfl rfl d (kk H locs ls hP hD hS hl)
end XH
