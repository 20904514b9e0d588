/-! THE POOL: all objects and arrays of the class, of the reference and of the law, as functions of the address. A tuple, by its parts: the addresses, the kind of each (0..5: the object's place in vwCl; 6 int[], 7 boolean[], 8 State[], 9 int[][], 10 long[], 11 double[]), the length of an array, whole numbers, references, longs, doubles (by address, and field or place). -/
abbrev PH : Type := List Nat × (Nat → Nat) × (Nat → Nat) × (Nat → Nat → Int32) × (Nat → Nat → Option Nat) × (Nat → Nat → Int64) × (Nat → Nat → UInt64)
def p_L (S : PH) : List Nat := S.1
def p_K (S : PH) : Nat → Nat := S.2.1
def p_N (S : PH) : Nat → Nat := S.2.2.1
def p_I (S : PH) : Nat → Nat → Int32 := S.2.2.2.1
def p_R (S : PH) : Nat → Nat → Option Nat := S.2.2.2.2.1
def p_J (S : PH) : Nat → Nat → Int64 := S.2.2.2.2.2.1
def p_E (S : PH) : Nat → Nat → UInt64 := S.2.2.2.2.2.2
def u_2 {α : Type} (f : Nat → Nat → α) (a k : Nat) (v : α) : Nat → Nat → α := fun b j => if b = a ∧ j = k then v else f b j
def u_r {α : Type} (f : Nat → Nat → α) (a : Nat) (g : Nat → α) : Nat → Nat → α := fun b => if b = a then g else f b
def s_I (S : PH) (a k : Nat) (v : Int32) : PH := (p_L S, p_K S, p_N S, u_2 (p_I S) a k v, p_R S, p_J S, p_E S)
def s_R (S : PH) (a k : Nat) (v : Option Nat) : PH := (p_L S, p_K S, p_N S, p_I S, u_2 (p_R S) a k v, p_J S, p_E S)
def s_J (S : PH) (a k : Nat) (v : Int64) : PH := (p_L S, p_K S, p_N S, p_I S, p_R S, u_2 (p_J S) a k v, p_E S)
def s_E (S : PH) (a k : Nat) (v : UInt64) : PH := (p_L S, p_K S, p_N S, p_I S, p_R S, p_J S, u_2 (p_E S) a k v)
/-- a whole row of whole numbers -/
def s_W (S : PH) (a : Nat) (g : Nat → Int32) : PH := (p_L S, p_K S, p_N S, u_r (p_I S) a g, p_R S, p_J S, p_E S)
/-- a new object or array of kind k, of length n, all zero -/
def s_N (S : PH) (a k n : Nat) : PH := (p_L S ++ [a], va_up (p_K S) a k, va_up (p_N S) a n, u_r (p_I S) a (fun _ => 0), u_r (p_R S) a (fun _ => none), u_r (p_J S) a (fun _ => 0), u_r (p_E S) a (fun _ => 0))
/-- the kinds of an object's fields: 0 a whole number, 1 a long, 2 a reference -/
def f_t : Nat → List Nat
  | 0 => [2, 0, 0]
  | 1 => [2, 2, 2, 2, 2, 2, 2, 2]
  | 2 => [2, 2, 2, 2, 2, 2, 2, 2, 2, 2, 2, 2, 0, 0, 0, 0, 0]
  | 3 => [2, 0]
  | 4 => [2, 2, 2, 2, 2, 2]
  | _ => [0, 2, 0, 2, 2, 0, 0, 0, 0, 0, 0, 2, 1]
def f_v (S : PH) (a j t : Nat) : Value := if t = 0 then .int (p_I S a j) else if t = 1 then .long (p_J S a j) else va_rf (p_R S a j)
def f_s (S : PH) (a : Nat) : Nat → List Nat → List Value
  | _, [] => []
  | j, t :: ts => f_v S a j t :: f_s S a (j + 1) ts
/-- what lies at an address -/
def c_F (C : Nat → ClassId) (S : PH) (a : Nat) : va_E :=
  if p_K S a < 6 then .inr (p_K S a, f_s S a 0 (f_t (p_K S a)))
  else if p_K S a = 6 then .inl (C 0, p_N S a, .inl (p_I S a))
  else if p_K S a = 7 then .inl (C 1, p_N S a, .inl (p_I S a))
  else if p_K S a = 8 then .inl (C 2, p_N S a, .inr (.inr (.inr (.inr (p_R S a)))))
  else if p_K S a = 9 then .inl (C 3, p_N S a, .inr (.inr (.inr (.inr (p_R S a)))))
  else if p_K S a = 10 then .inl (C 4, p_N S a, .inr (.inl (p_J S a)))
  else .inl (C 5, p_N S a, .inr (.inr (.inr (.inl (p_E S a)))))
def t_C (C : Nat → ClassId) : List (ClassId × FieldType) := [(C 0, .int), (C 1, .int), (C 2, .object RX2), (C 3, .array .int), (C 4, .int), (C 5, .int)]
def w_P (C : Nat → ClassId) (S : PH) : va_W := va_pl (p_L S) (c_F C S)
theorem f_s_get (S : PH) (a : Nat) : ∀ (ts : List Nat) (j i : Nat), (f_s S a j ts)[i]? = (ts[i]?).map (fun t => f_v S a (j + i) t)
  | [], j, i => by simp [f_s]
  | t :: ts, j, 0 => by simp [f_s]
  | t :: ts, j, i + 1 => by
    simp only [f_s, List.getElem?_cons_succ]
    rw [f_s_get S a ts (j + 1) i]
    rw [show j + 1 + i = j + (i + 1) by omega]
theorem f_s_len (S : PH) (a : Nat) : ∀ (ts : List Nat) (j : Nat), (f_s S a j ts).length = ts.length
  | [], j => rfl
  | t :: ts, j => by simp [f_s, f_s_len S a ts (j + 1)]
/-- one field is another, the others are as they were -/
theorem f_s_set (S S' : PH) (a : Nat) (ts : List Nat) (k : Nat) (v : Value) (hk : k < ts.length) (hv : ∀ t, ts[k]? = some t → f_v S' a k t = v) (ho : ∀ i t, i ≠ k → ts[i]? = some t → f_v S' a i t = f_v S a i t) : f_s S' a 0 ts = (f_s S a 0 ts).set k v := by
  apply List.ext_getElem?
  intro i
  by_cases h : i = k
  · subst h
    rw [List.getElem?_set_self (by rw [f_s_len]; exact hk), f_s_get]
    obtain ⟨t, ht⟩ : ∃ t, ts[i]? = some t := ⟨ts[i], List.getElem?_eq_getElem hk⟩
    rw [ht]
    simp only [Option.map_some, Nat.zero_add]
    rw [hv t ht]
  · rw [List.getElem?_set_ne (Ne.symm h), f_s_get, f_s_get]
    cases ht : ts[i]? with
    | none => rfl
    | some t => simp only [Option.map_some, Nat.zero_add]; rw [ho i t h ht]
theorem w_get {C : Nat → ClassId} {S : PH} {a : Nat} (h : a ∈ p_L S) : ∃ k : Nat, (w_P C S)[k]? = some (a, c_F C S a) := by
  have h2 := va_pl_get (X := []) (f := c_F C S) h
  rw [List.nil_append] at h2
  exact h2
theorem w_set {A : Nat → Prop} {C : Nat → ClassId} {S S' : PH} {a k : Nat} {e : va_E} (hD : va_D A (w_P C S)) (h : a ∈ p_L S) (hk : (w_P C S)[k]? = some (a, c_F C S a)) (hL : p_L S' = p_L S) (he : c_F C S' a = e) (ho : ∀ b, b ≠ a → c_F C S' b = c_F C S b) : (w_P C S).set k (a, e) = w_P C S' := by
  have h2 := va_pl_set (X := []) (f := c_F C S) (e := e) (k := k) (by rw [List.nil_append]; exact hD) h (by rw [List.nil_append]; exact hk)
  rw [List.nil_append, List.nil_append] at h2
  refine h2.trans ?_
  unfold w_P
  rw [hL]
  refine va_pl_congr (fun b => ?_)
  by_cases hb : b = a
  · subst hb; rw [va_up_self]; exact he.symm
  · rw [va_up_ne _ _ hb]; exact (ho b hb).symm
theorem c_F_eq {C : Nat → ClassId} {S S' : PH} {b : Nat} (h1 : p_K S' b = p_K S b) (h2 : p_N S' b = p_N S b) (h3 : p_I S' b = p_I S b) (h4 : p_R S' b = p_R S b) (h5 : p_J S' b = p_J S b) (h6 : p_E S' b = p_E S b) : c_F C S' b = c_F C S b := by
  have hf : ∀ (ts : List Nat) (j : Nat), f_s S' b j ts = f_s S b j ts := by
    intro ts
    induction ts with
    | nil => intro j; rfl
    | cons t ts ih => intro j; simp only [f_s]; rw [ih (j + 1)]; unfold f_v; rw [h3, h4, h5]
  unfold c_F
  rw [h1, h2, h3, h4, h5, h6, hf]
theorem u_2_ne {α : Type} {f : Nat → Nat → α} {a k b : Nat} {v : α} (h : b ≠ a) : u_2 f a k v b = f b := by funext j; simp [u_2, h]
theorem u_r_ne {α : Type} {f : Nat → Nat → α} {a b : Nat} {g : Nat → α} (h : b ≠ a) : u_r f a g b = f b := by simp [u_r, h]
theorem u_r_self {α : Type} {f : Nat → Nat → α} {a : Nat} {g : Nat → α} : u_r f a g a = g := by simp [u_r]
theorem u_2_I {f : Nat → Nat → Int32} {a k : Nat} {v : Int32} : u_2 f a k v a = upd (f a) k v := by funext j; simp [u_2, upd]
theorem u_2_V {α : Type} {f : Nat → Nat → α} {a k : Nat} {v : α} : u_2 f a k v a = va_up (f a) k v := by funext j; simp [u_2, va_up]
theorem c_obj {C : Nat → ClassId} {S : PH} {a k : Nat} (hk : k < 6) (h : p_K S a = k) : c_F C S a = .inr (k, f_s S a 0 (f_t k)) := by unfold c_F; rw [h, if_pos hk]
theorem c_6 {C : Nat → ClassId} {S : PH} {a : Nat} (h : p_K S a = 6) : c_F C S a = .inl (C 0, p_N S a, .inl (p_I S a)) := by unfold c_F; rw [h]; rfl
theorem c_7 {C : Nat → ClassId} {S : PH} {a : Nat} (h : p_K S a = 7) : c_F C S a = .inl (C 1, p_N S a, .inl (p_I S a)) := by unfold c_F; rw [h]; rfl
theorem c_8 {C : Nat → ClassId} {S : PH} {a : Nat} (h : p_K S a = 8) : c_F C S a = .inl (C 2, p_N S a, .inr (.inr (.inr (.inr (p_R S a))))) := by unfold c_F; rw [h]; rfl
theorem c_9 {C : Nat → ClassId} {S : PH} {a : Nat} (h : p_K S a = 9) : c_F C S a = .inl (C 3, p_N S a, .inr (.inr (.inr (.inr (p_R S a))))) := by unfold c_F; rw [h]; rfl
theorem c_10 {C : Nat → ClassId} {S : PH} {a : Nat} (h : p_K S a = 10) : c_F C S a = .inl (C 4, p_N S a, .inr (.inl (p_J S a))) := by unfold c_F; rw [h]; rfl
theorem c_11 {C : Nat → ClassId} {S : PH} {a : Nat} (h : p_K S a = 11) : c_F C S a = .inl (C 5, p_N S a, .inr (.inr (.inr (.inl (p_E S a))))) := by unfold c_F; rw [h]; rfl
/-- a new cell at the end of the pool -/
theorem w_new {A : Nat → Prop} {C : Nat → ClassId} {S : PH} {q k n : Nat} {e : va_E} (hD : va_D A (w_P C S ++ [(q, e)])) (he : c_F C (s_N S q k n) q = e) : q ∉ p_L S ∧ w_P C S ++ [(q, e)] = w_P C (s_N S q k n) := by
  have hq : q ∉ p_L S := by
    intro h
    obtain ⟨i, hi⟩ := w_get (C := C) h
    have hl := (List.getElem?_eq_some_iff.mp hi).1
    have h1 : (w_P C S ++ [(q, e)])[i]? = some (q, c_F C S q) := by rw [List.getElem?_append_left hl]; exact hi
    have h2 : (w_P C S ++ [(q, e)])[(w_P C S).length]? = some (q, e) := by simp
    have := hD.1 i _ _ _ h1 h2 rfl
    omega
  refine ⟨hq, ?_⟩
  unfold w_P
  rw [va_pl_push hq]
  refine va_pl_congr (fun b => ?_)
  by_cases hb : b = q
  · subst hb; rw [va_up_self]; exact he.symm
  · rw [va_up_ne _ _ hb]
    exact (c_F_eq (S := S) (S' := s_N S q k n) (va_up_ne (p_K S) _ hb) (va_up_ne (p_N S) _ hb) (u_r_ne hb) (u_r_ne hb) (u_r_ne hb) (u_r_ne hb)).symm
