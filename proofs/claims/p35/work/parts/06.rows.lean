/-! THE WALK OVER THE POOL: Z holds all that a method's walk leaves alone; PX: from here (pc, locals, stack, pool S) the machine comes to its end. -/
abbrev ZT : Type := Program × Launch × Env × Room × State × MethodId × Array Value × List Frame × Method × Code × va_G × (Nat → ClassId) × (Nat → Prop) × (State → Prop)
def PX : ZT → Nat → PH → Nat → Nat → Nat → List (Nat × Value) → List Value → Prop
  | (p, l, e, R, s, m, args, below, meth, c, D, C, A, Q), nL, S, k, n, pc, lv, st => ∀ (H : Heap) (locs : List Loc) (ls : Array Slot), va_P D vwCl (w_P C S) H → va_D A (w_P C S) → va_S A s.heap H locs → lv_has ls nL lv → W p l e R s m args below meth c H locs k n Q (F0 m pc ls st)
/-- the words that the tables alone decide, and that are no good words -/
def x_W : List Cond := [(Cond.arrayOver (FieldType.array FieldType.int)), (Cond.fieldLinkNest "TokenReviews$State" 66 "TokenReviews" "FIRST_VALUES" "[I" "TokenReviews"), (Cond.methodLinkNest "TokenReviews" 18 ({ cls := "TokenReviews$History", name := "<init>", desc := "()V" } : MethodName) "TokenReviews"), (Cond.arrayOver (FieldType.object "TokenReviews$State")), (Cond.methodLinkNest "TokenReviews" 29 ({ cls := "TokenReviews$Text", name := "<init>", desc := "()V" } : MethodName) "TokenReviews"), (Cond.methodLinkNest "TokenReviews" 36 ({ cls := "TokenReviews$Matching", name := "<init>", desc := "()V" } : MethodName) "TokenReviews"), (Cond.castable "java/lang/IllegalArgumentException" "java/lang/IllegalArgumentException"), (Cond.declares ({ cls := "java/lang/RuntimeException", name := "<init>", desc := "()V" } : MethodName)), (Cond.declares ({ cls := "java/lang/RuntimeException", name := "<init>", desc := "(Ljava/lang/String;)V" } : MethodName)), (Cond.declares ({ cls := "java/lang/Exception", name := "<init>", desc := "()V" } : MethodName)), (Cond.declares ({ cls := "java/lang/Exception", name := "<init>", desc := "(Ljava/lang/String;)V" } : MethodName)), (Cond.declares ({ cls := "java/lang/Throwable", name := "<init>", desc := "()V" } : MethodName)), (Cond.declares ({ cls := "java/lang/Throwable", name := "<init>", desc := "(Ljava/lang/String;)V" } : MethodName)), (Cond.castable "java/lang/IllegalStateException" "java/lang/IllegalStateException"), (Cond.castable "java/lang/IndexOutOfBoundsException" "java/lang/IndexOutOfBoundsException"), (Cond.methodLinkNest "TokenReviews$Matching" 40 ({ cls := "TokenReviews", name := "has", desc := "(II)Z" } : MethodName) "TokenReviews")]
def x_T : List (String × Nat × String) := [("TokenReviews", 47, "topic is not 0 to 3"), ("TokenReviews", 52, "authors is not 1 to 255"), ("TokenReviews", 60, "there are 8 papers"), ("TokenReviews", 119, "999 weeks went by"), ("TokenReviews", 291, "there is no such person"), ("TokenReviews", 297, "there is no such paper"), ("TokenReviews", 301, "slot is not 0 or 1"), ("TokenReviews", 219, "there is no saved state"), ("TokenReviews", 237, "what is not 0 to 11"), ("TokenReviews", 248, "what is not 0 or 1"), ("TokenReviews", 227, "what is not 0 to 8"), ("TokenReviews", 232, "what is not 0 to 9"), ("TokenReviews", 299, "there is no such setting"), ("TokenReviews", 77, "topics is not 0 to 15"), ("TokenReviews", 82, "both persons are the same"), ("TokenReviews", 100, "value is out of range"), ("TokenReviews", 165, "the paper is decided, or cannot be decided"), ("TokenReviews", 150, "no review that is not written"), ("TokenReviews", 136, "score is not 0 to 9"), ("TokenReviews", 141, "no review to write, or the paper is decided"), ("TokenReviews", 213, "there is no snapshot in the slot")]
/-- the exceptions, by their numbers -/
def x_n : Nat → String
  | 0 => "java/lang/IllegalArgumentException"
  | 1 => "java/lang/IllegalStateException"
  | _ => "java/lang/IndexOutOfBoundsException"
/-- a static array of whole numbers that is never written -/
def a_T (n : String) (vs : List Int32) (A : Nat → Prop) (s : State) (H : Heap) : Prop := ∃ t : Nat, va_Z RX4 n "[I" (.ref t) A s H ∧ va_T .int t 4 (fun j => .int (vs.getD j 0)) A s H
/-- what stands around every call: the statics, the texts, the tables' other words -/
def a_M (A : Nat → Prop) (s : State) (H : Heap) : Prop := vx_Zq Bundle.tN "UNASSIGNED_STACK" Bundle.steD A s H ∧ vx_Zq Bundle.tN "SUPPRESSED_SENTINEL" Bundle.listD A s H ∧ a_T "FIRST_VALUES" [3, 1, 4, 1] A s H ∧ a_T "LEAST_VALUES" [1, 0, 0, 0] A s H ∧ a_T "GREATEST_VALUES" [4, 2, 9, 3] A s H ∧ (∀ q ∈ x_T, ∃ a : Nat, vk_R q.1 q.2.1 q.2.2 a s) ∧ (∀ w ∈ x_W, va_Nw w s) ∧ True
def CX : ZT → ByteArray → String → Nat → Room → Prop
  | (p, l, e, R, s, m, args, below, meth, c, D, C, A, Q), cc, own, nL, R' => p.tables.exec = Jvm.exec ∧ c.code = cc ∧ c.maxLocals = nL ∧ s.vm.findClass own = some m.cls ∧ (∀ w ∈ w_G, w.before args s = true) ∧ va_K D vwCl (t_C C) s ∧ (∀ q, s.heap.size ≤ q → A q) ∧ meth.locks = false ∧ R = R' ∧ l.flags = flags0 ∧ a_M A s s.heap
theorem c_rf (r : Option Nat) : (va_rf r).category = 1 := by cases r <;> rfl
def l_c (i : Nat) : List (Nat × Value) → Prop
  | [] => True
  | q :: l => (q.1 + 1 = i → q.2.category = 1) ∧ l_c i l
theorem l_ce {i : Nat} : ∀ {l : List (Nat × Value)}, l_c i l → l.filter (fun q => !(q.1 == i) && !(q.1 + 1 == i && q.2.category == 2)) = l.filter (fun q => !(q.1 == i))
  | [], _ => rfl
  | q :: l, h => by
    have ih := l_ce h.2
    rw [List.filter_cons, List.filter_cons, ih]
    have : (!(q.1 == i) && !(q.1 + 1 == i && q.2.category == 2)) = !(q.1 == i) := by
      by_cases h1 : q.1 + 1 = i
      · rw [h.1 h1]; simp
      · have : (q.1 + 1 == i) = false := by simp [h1]
        rw [this]; simp
    rw [this]
theorem l_ce2 {i : Nat} : ∀ {l : List (Nat × Value)}, l_c i l → l.filter (fun q => !(q.1 == i) && (!(q.1 == i + 1) && !(q.1 + 1 == i && q.2.category == 2))) = l.filter (fun q => !(q.1 == i) && !(q.1 == i + 1))
  | [], _ => rfl
  | q :: l, h => by
    have ih := l_ce2 h.2
    rw [List.filter_cons, List.filter_cons, ih]
    have : (!(q.1 == i) && (!(q.1 == i + 1) && !(q.1 + 1 == i && q.2.category == 2))) = (!(q.1 == i) && !(q.1 == i + 1)) := by
      by_cases h1 : q.1 + 1 = i
      · rw [h.1 h1]; simp
      · have : (q.1 + 1 == i) = false := by simp [h1]
        rw [this]; simp
    rw [this]
section XR
variable {Z : ZT} {cc : ByteArray} {own : String} {nL : Nat} {R : Room} {S : PH} {k n pc : Nat} {l : List (Nat × Value)} {st : List Value}
theorem x_sub {l' : List (Nat × Value)} (ks : List Nat) (hl : lv_pick l ks = l') (kk : PX Z nL S k n pc l' st) : PX Z nL S k n pc l st := by
  obtain ⟨p, lq, e, R0, s, m, args, below, meth, c, D, C, A, Q⟩ := Z
  exact fun H locs ls hP hD hS h => kk H locs ls hP hD hS (lv_sub h ks hl)
theorem x_wid {k' n' : Nat} (h1 : k ≤ k') (h2 : n ≤ n') (kk : PX Z nL S k' n' pc l st) : PX Z nL S k n pc l st := by
  obtain ⟨p, lq, e, R0, s, m, args, below, meth, c, D, C, A, Q⟩ := Z
  exact fun H locs ls hP hD hS h => W.widen h1 h2 (kk H locs ls hP hD hS h)
theorem x_tI {a b : Int32} (h : a = b) (kk : PX Z nL S k n pc l (.int b :: st)) : PX Z nL S k n pc l (.int a :: st) := h ▸ kk
theorem x_tJ {a b : Int64} (h : a = b) (kk : PX Z nL S k n pc l (.long b :: st)) : PX Z nL S k n pc l (.long a :: st) := h ▸ kk
theorem x_tF {a b : UInt32} (h : a = b) (kk : PX Z nL S k n pc l (.float b :: st)) : PX Z nL S k n pc l (.float a :: st) := h ▸ kk
theorem x_tD {a b : UInt64} (h : a = b) (kk : PX Z nL S k n pc l (.double b :: st)) : PX Z nL S k n pc l (.double a :: st) := h ▸ kk
theorem x_tA {a b : Option Nat} (h : a = b) (kk : PX Z nL S k n pc l (va_rf b :: st)) : PX Z nL S k n pc l (va_rf a :: st) := h ▸ kk
theorem x_tS {S' : PH} (h : S = S') (kk : PX Z nL S' k n pc l st) : PX Z nL S k n pc l st := h ▸ kk
theorem x_iconst (h : CX Z cc own nL R) {z : Int} {v : Int32} (d : decode cc pc = .ok (.iconst z, 1)) (hv : Int32.ofInt z = v) (kk : PX Z nL S k n (pc + 1) l (.int v :: st)) : PX Z nL S k n pc l (st) := by
  obtain ⟨p, lq, e, R0, s, m, args, below, meth, c, D, C, A, Q⟩ := Z
  exact fun H locs ls hP hD hS hl => lv_iconst h.1 h.2.1 d hv (kk H locs ls hP hD hS hl)
theorem x_bipush (h : CX Z cc own nL R) {z : Int} {v : Int32} (d : decode cc pc = .ok (.bipush z, 2)) (hv : (Int8.ofInt z).toInt32 = v) (kk : PX Z nL S k n (pc + 2) l (.int v :: st)) : PX Z nL S k n pc l (st) := by
  obtain ⟨p, lq, e, R0, s, m, args, below, meth, c, D, C, A, Q⟩ := Z
  exact fun H locs ls hP hD hS hl => lv_bipush h.1 h.2.1 d hv (kk H locs ls hP hD hS hl)
theorem x_sipush (h : CX Z cc own nL R) {z : Int} {v : Int32} (d : decode cc pc = .ok (.sipush z, 3)) (hv : (Int16.ofInt z).toInt32 = v) (kk : PX Z nL S k n (pc + 3) l (.int v :: st)) : PX Z nL S k n pc l (st) := by
  obtain ⟨p, lq, e, R0, s, m, args, below, meth, c, D, C, A, Q⟩ := Z
  exact fun H locs ls hP hD hS hl => lv_sipush h.1 h.2.1 d hv (kk H locs ls hP hD hS hl)
theorem x_lconst (h : CX Z cc own nL R) {z : Fin 2} {v : Int64} (d : decode cc pc = .ok (.lconst z, 1)) (hv : Int64.ofNat (z : Nat) = v) (kk : PX Z nL S k n (pc + 1) l (.long v :: st)) : PX Z nL S k n pc l (st) := by
  obtain ⟨p, lq, e, R0, s, m, args, below, meth, c, D, C, A, Q⟩ := Z
  exact fun H locs ls hP hD hS hl => lv_lconst h.1 h.2.1 d hv (kk H locs ls hP hD hS hl)
theorem x_fconst0 (h : CX Z cc own nL R)  (d : decode cc pc = .ok (.fconst 0, 1))  (kk : PX Z nL S k n (pc + 1) l (.float FP.fconst0 :: st)) : PX Z nL S k n pc l (st) := by
  obtain ⟨p, lq, e, R0, s, m, args, below, meth, c, D, C, A, Q⟩ := Z
  exact fun H locs ls hP hD hS hl => lv_fconst0 h.1 h.2.1 d (kk H locs ls hP hD hS hl)
theorem x_fconst1 (h : CX Z cc own nL R)  (d : decode cc pc = .ok (.fconst 1, 1))  (kk : PX Z nL S k n (pc + 1) l (.float FP.fconst1 :: st)) : PX Z nL S k n pc l (st) := by
  obtain ⟨p, lq, e, R0, s, m, args, below, meth, c, D, C, A, Q⟩ := Z
  exact fun H locs ls hP hD hS hl => lv_fconst1 h.1 h.2.1 d (kk H locs ls hP hD hS hl)
theorem x_fconst2 (h : CX Z cc own nL R)  (d : decode cc pc = .ok (.fconst 2, 1))  (kk : PX Z nL S k n (pc + 1) l (.float FP.fconst2 :: st)) : PX Z nL S k n pc l (st) := by
  obtain ⟨p, lq, e, R0, s, m, args, below, meth, c, D, C, A, Q⟩ := Z
  exact fun H locs ls hP hD hS hl => lv_fconst2 h.1 h.2.1 d (kk H locs ls hP hD hS hl)
theorem x_dconst0 (h : CX Z cc own nL R)  (d : decode cc pc = .ok (.dconst 0, 1))  (kk : PX Z nL S k n (pc + 1) l (.double FP.dconst0 :: st)) : PX Z nL S k n pc l (st) := by
  obtain ⟨p, lq, e, R0, s, m, args, below, meth, c, D, C, A, Q⟩ := Z
  exact fun H locs ls hP hD hS hl => lv_dconst0 h.1 h.2.1 d (kk H locs ls hP hD hS hl)
theorem x_dconst1 (h : CX Z cc own nL R)  (d : decode cc pc = .ok (.dconst 1, 1))  (kk : PX Z nL S k n (pc + 1) l (.double FP.dconst1 :: st)) : PX Z nL S k n pc l (st) := by
  obtain ⟨p, lq, e, R0, s, m, args, below, meth, c, D, C, A, Q⟩ := Z
  exact fun H locs ls hP hD hS hl => lv_dconst1 h.1 h.2.1 d (kk H locs ls hP hD hS hl)
theorem x_ldci (h : CX Z cc own nL R) {ix : Nat} {v : Int32} (d : decode cc pc = .ok (.ldc ix, 2)) (hw : Cond.constant own ix v ∈ w_G) (kk : PX Z nL S k n (pc + 2) l (.int v :: st)) : PX Z nL S k n pc l (st) := by
  obtain ⟨p, lq, e, R0, s, m, args, below, meth, c, D, C, A, Q⟩ := Z
  exact fun H locs ls hP hD hS hl => lv_ldc h.1 h.2.1 h.2.2.2.1 (h.2.2.2.2.1 _ hw) d (kk H locs ls hP hD hS hl)
theorem x_ldcw (h : CX Z cc own nL R) {ix : Nat} {v : Int32} (d : decode cc pc = .ok (.ldc_w ix, 3)) (hw : Cond.constant own ix v ∈ w_G) (kk : PX Z nL S k n (pc + 3) l (.int v :: st)) : PX Z nL S k n pc l (st) := by
  obtain ⟨p, lq, e, R0, s, m, args, below, meth, c, D, C, A, Q⟩ := Z
  exact fun H locs ls hP hD hS hl => lv_ldcw h.1 h.2.1 h.2.2.2.1 (h.2.2.2.2.1 _ hw) d (kk H locs ls hP hD hS hl)
theorem x_ldcf (h : CX Z cc own nL R) {ix : Nat} {v : UInt32} (d : decode cc pc = .ok (.ldc ix, 2)) (hw : Cond.constantFloat own ix v ∈ w_G) (kk : PX Z nL S k n (pc + 2) l (.float v :: st)) : PX Z nL S k n pc l (st) := by
  obtain ⟨p, lq, e, R0, s, m, args, below, meth, c, D, C, A, Q⟩ := Z
  exact fun H locs ls hP hD hS hl => lv_ldcf h.1 h.2.1 h.2.2.2.1 (h.2.2.2.2.1 _ hw) d (kk H locs ls hP hD hS hl)
theorem x_ldc2 (h : CX Z cc own nL R) {ix : Nat} {v : Int64} (d : decode cc pc = .ok (.ldc2_w ix, 3)) (hw : Cond.constantLong own ix v ∈ w_G) (kk : PX Z nL S k n (pc + 3) l (.long v :: st)) : PX Z nL S k n pc l (st) := by
  obtain ⟨p, lq, e, R0, s, m, args, below, meth, c, D, C, A, Q⟩ := Z
  exact fun H locs ls hP hD hS hl => lv_ldc2 h.1 h.2.1 h.2.2.2.1 (h.2.2.2.2.1 _ hw) d (kk H locs ls hP hD hS hl)
theorem x_ldc2d (h : CX Z cc own nL R) {ix : Nat} {v : UInt64} (d : decode cc pc = .ok (.ldc2_w ix, 3)) (hw : Cond.constantDouble own ix v ∈ w_G) (kk : PX Z nL S k n (pc + 3) l (.double v :: st)) : PX Z nL S k n pc l (st) := by
  obtain ⟨p, lq, e, R0, s, m, args, below, meth, c, D, C, A, Q⟩ := Z
  exact fun H locs ls hP hD hS hl => lv_ldc2d h.1 h.2.1 h.2.2.2.1 (h.2.2.2.2.1 _ hw) d (kk H locs ls hP hD hS hl)
theorem x_iload_n (h : CX Z cc own nL R) {z : Fin 4} {i : Nat} {v : Int32} (d : decode cc pc = .ok (.iload_n z, 1)) (hi : (z : Nat) = i) (q : Nat) (hq : l[q]? = some (i, .int v)) (kk : PX Z nL S k n (pc + 1) l (.int v :: st)) : PX Z nL S k n pc l (st) := by
  obtain ⟨p, lq, e, R0, s, m, args, below, meth, c, D, C, A, Q⟩ := Z
  exact fun H locs ls hP hD hS hl => lv_iload_n h.1 h.2.1 d hi (lv_at hl q hq) (kk H locs ls hP hD hS hl)
theorem x_iload (h : CX Z cc own nL R) {i : Nat} {v : Int32} (d : decode cc pc = .ok (.iload i, 2)) (q : Nat) (hq : l[q]? = some (i, .int v)) (kk : PX Z nL S k n (pc + 2) l (.int v :: st)) : PX Z nL S k n pc l (st) := by
  obtain ⟨p, lq, e, R0, s, m, args, below, meth, c, D, C, A, Q⟩ := Z
  exact fun H locs ls hP hD hS hl => lv_iload h.1 h.2.1 d (lv_at hl q hq) (kk H locs ls hP hD hS hl)
theorem x_lload_n (h : CX Z cc own nL R) {z : Fin 4} {i : Nat} {v : Int64} (d : decode cc pc = .ok (.lload_n z, 1)) (hi : (z : Nat) = i) (q : Nat) (hq : l[q]? = some (i, .long v)) (kk : PX Z nL S k n (pc + 1) l (.long v :: st)) : PX Z nL S k n pc l (st) := by
  obtain ⟨p, lq, e, R0, s, m, args, below, meth, c, D, C, A, Q⟩ := Z
  exact fun H locs ls hP hD hS hl => lv_lload_n h.1 h.2.1 d hi (lv_at hl q hq) (kk H locs ls hP hD hS hl)
theorem x_lload (h : CX Z cc own nL R) {i : Nat} {v : Int64} (d : decode cc pc = .ok (.lload i, 2)) (q : Nat) (hq : l[q]? = some (i, .long v)) (kk : PX Z nL S k n (pc + 2) l (.long v :: st)) : PX Z nL S k n pc l (st) := by
  obtain ⟨p, lq, e, R0, s, m, args, below, meth, c, D, C, A, Q⟩ := Z
  exact fun H locs ls hP hD hS hl => lv_lload h.1 h.2.1 d (lv_at hl q hq) (kk H locs ls hP hD hS hl)
theorem x_fload_n (h : CX Z cc own nL R) {z : Fin 4} {i : Nat} {v : UInt32} (d : decode cc pc = .ok (.fload_n z, 1)) (hi : (z : Nat) = i) (q : Nat) (hq : l[q]? = some (i, .float v)) (kk : PX Z nL S k n (pc + 1) l (.float v :: st)) : PX Z nL S k n pc l (st) := by
  obtain ⟨p, lq, e, R0, s, m, args, below, meth, c, D, C, A, Q⟩ := Z
  exact fun H locs ls hP hD hS hl => lv_fload_n h.1 h.2.1 d hi (lv_at hl q hq) (kk H locs ls hP hD hS hl)
theorem x_fload (h : CX Z cc own nL R) {i : Nat} {v : UInt32} (d : decode cc pc = .ok (.fload i, 2)) (q : Nat) (hq : l[q]? = some (i, .float v)) (kk : PX Z nL S k n (pc + 2) l (.float v :: st)) : PX Z nL S k n pc l (st) := by
  obtain ⟨p, lq, e, R0, s, m, args, below, meth, c, D, C, A, Q⟩ := Z
  exact fun H locs ls hP hD hS hl => lv_fload h.1 h.2.1 d (lv_at hl q hq) (kk H locs ls hP hD hS hl)
theorem x_dload_n (h : CX Z cc own nL R) {z : Fin 4} {i : Nat} {v : UInt64} (d : decode cc pc = .ok (.dload_n z, 1)) (hi : (z : Nat) = i) (q : Nat) (hq : l[q]? = some (i, .double v)) (kk : PX Z nL S k n (pc + 1) l (.double v :: st)) : PX Z nL S k n pc l (st) := by
  obtain ⟨p, lq, e, R0, s, m, args, below, meth, c, D, C, A, Q⟩ := Z
  exact fun H locs ls hP hD hS hl => lv_dload_n h.1 h.2.1 d hi (lv_at hl q hq) (kk H locs ls hP hD hS hl)
theorem x_dload (h : CX Z cc own nL R) {i : Nat} {v : UInt64} (d : decode cc pc = .ok (.dload i, 2)) (q : Nat) (hq : l[q]? = some (i, .double v)) (kk : PX Z nL S k n (pc + 2) l (.double v :: st)) : PX Z nL S k n pc l (st) := by
  obtain ⟨p, lq, e, R0, s, m, args, below, meth, c, D, C, A, Q⟩ := Z
  exact fun H locs ls hP hD hS hl => lv_dload h.1 h.2.1 d (lv_at hl q hq) (kk H locs ls hP hD hS hl)
theorem x_aload_n (h : CX Z cc own nL R) {z : Fin 4} {i : Nat} {v : Option Nat} (d : decode cc pc = .ok (.aload_n z, 1)) (hi : (z : Nat) = i) (q : Nat) (hq : l[q]? = some (i, va_rf v)) (kk : PX Z nL S k n (pc + 1) l (va_rf v :: st)) : PX Z nL S k n pc l st := by
  obtain ⟨p, lq, e, R0, s, m, args, below, meth, c, D, C, A, Q⟩ := Z
  cases v with
  | none => exact fun H locs ls hP hD hS hl => lv_aload_nN h.1 h.2.1 d hi (lv_at hl q hq) (kk H locs ls hP hD hS hl)
  | some a => exact fun H locs ls hP hD hS hl => lv_aload_n h.1 h.2.1 d hi (lv_at hl q hq) (kk H locs ls hP hD hS hl)
theorem x_aload (h : CX Z cc own nL R) {i : Nat} {v : Option Nat} (d : decode cc pc = .ok (.aload i, 2)) (q : Nat) (hq : l[q]? = some (i, va_rf v)) (kk : PX Z nL S k n (pc + 2) l (va_rf v :: st)) : PX Z nL S k n pc l st := by
  obtain ⟨p, lq, e, R0, s, m, args, below, meth, c, D, C, A, Q⟩ := Z
  cases v with
  | none => exact fun H locs ls hP hD hS hl => lv_aloadN h.1 h.2.1 d (lv_at hl q hq) (kk H locs ls hP hD hS hl)
  | some a => exact fun H locs ls hP hD hS hl => lv_aload h.1 h.2.1 d (lv_at hl q hq) (kk H locs ls hP hD hS hl)
theorem x_null (h : CX Z cc own nL R)  (d : decode cc pc = .ok (.aconst_null, 1))  (kk : PX Z nL S k n (pc + 1) l (va_rf none :: st)) : PX Z nL S k n pc l (st) := by
  obtain ⟨p, lq, e, R0, s, m, args, below, meth, c, D, C, A, Q⟩ := Z
  exact fun H locs ls hP hD hS hl => lv_null h.1 h.2.1 d (kk H locs ls hP hD hS hl)
theorem x_istore_n (h : CX Z cc own nL R) {z : Fin 4} {i : Nat} {v : Int32} {l' : List (Nat × Value)} (d : decode cc pc = .ok (.istore_n z, 1)) (hi : (z : Nat) = i) (hc : l_c i l) (hn : i < nL) (hl : (i, Value.int v) :: l.filter (fun q => !(q.1 == i)) = l') (kk : PX Z nL S k n (pc + 1) l' st) : PX Z nL S k n pc l (.int v :: st) := by
  obtain ⟨p, lq, e, R0, s, m, args, below, meth, c, D, C, A, Q⟩ := Z
  exact fun H locs ls hP hD hS hv => lv_istore_n h.1 h.2.1 d hi hv hn ((congrArg (fun z => (i, Value.int v) :: z) (l_ce hc)).trans hl) (fun ls' hv' => kk H locs ls' hP hD hS hv')
theorem x_istore (h : CX Z cc own nL R) {i : Nat} {v : Int32} {l' : List (Nat × Value)} (d : decode cc pc = .ok (.istore i, 2))  (hc : l_c i l) (hn : i < nL) (hl : (i, Value.int v) :: l.filter (fun q => !(q.1 == i)) = l') (kk : PX Z nL S k n (pc + 2) l' st) : PX Z nL S k n pc l (.int v :: st) := by
  obtain ⟨p, lq, e, R0, s, m, args, below, meth, c, D, C, A, Q⟩ := Z
  exact fun H locs ls hP hD hS hv => lv_istore h.1 h.2.1 d  hv hn ((congrArg (fun z => (i, Value.int v) :: z) (l_ce hc)).trans hl) (fun ls' hv' => kk H locs ls' hP hD hS hv')
theorem x_lstore_n (h : CX Z cc own nL R) {z : Fin 4} {i : Nat} {v : Int64} {l' : List (Nat × Value)} (d : decode cc pc = .ok (.lstore_n z, 1)) (hi : (z : Nat) = i) (hc : l_c i l) (hn : i + 1 < nL) (hl : (i, Value.long v) :: l.filter (fun q => !(q.1 == i) && !(q.1 == i + 1)) = l') (kk : PX Z nL S k n (pc + 1) l' st) : PX Z nL S k n pc l (.long v :: st) := by
  obtain ⟨p, lq, e, R0, s, m, args, below, meth, c, D, C, A, Q⟩ := Z
  exact fun H locs ls hP hD hS hv => lv_lstore_n h.1 h.2.1 d hi hv hn ((congrArg (fun z => (i, Value.long v) :: z) (l_ce2 hc)).trans hl) (fun ls' hv' => kk H locs ls' hP hD hS hv')
theorem x_lstore (h : CX Z cc own nL R) {i : Nat} {v : Int64} {l' : List (Nat × Value)} (d : decode cc pc = .ok (.lstore i, 2))  (hc : l_c i l) (hn : i + 1 < nL) (hl : (i, Value.long v) :: l.filter (fun q => !(q.1 == i) && !(q.1 == i + 1)) = l') (kk : PX Z nL S k n (pc + 2) l' st) : PX Z nL S k n pc l (.long v :: st) := by
  obtain ⟨p, lq, e, R0, s, m, args, below, meth, c, D, C, A, Q⟩ := Z
  exact fun H locs ls hP hD hS hv => lv_lstore h.1 h.2.1 d  hv hn ((congrArg (fun z => (i, Value.long v) :: z) (l_ce2 hc)).trans hl) (fun ls' hv' => kk H locs ls' hP hD hS hv')
theorem x_fstore_n (h : CX Z cc own nL R) {z : Fin 4} {i : Nat} {v : UInt32} {l' : List (Nat × Value)} (d : decode cc pc = .ok (.fstore_n z, 1)) (hi : (z : Nat) = i) (hc : l_c i l) (hn : i < nL) (hl : (i, Value.float v) :: l.filter (fun q => !(q.1 == i)) = l') (kk : PX Z nL S k n (pc + 1) l' st) : PX Z nL S k n pc l (.float v :: st) := by
  obtain ⟨p, lq, e, R0, s, m, args, below, meth, c, D, C, A, Q⟩ := Z
  exact fun H locs ls hP hD hS hv => lv_fstore_n h.1 h.2.1 d hi hv hn ((congrArg (fun z => (i, Value.float v) :: z) (l_ce hc)).trans hl) (fun ls' hv' => kk H locs ls' hP hD hS hv')
theorem x_fstore (h : CX Z cc own nL R) {i : Nat} {v : UInt32} {l' : List (Nat × Value)} (d : decode cc pc = .ok (.fstore i, 2))  (hc : l_c i l) (hn : i < nL) (hl : (i, Value.float v) :: l.filter (fun q => !(q.1 == i)) = l') (kk : PX Z nL S k n (pc + 2) l' st) : PX Z nL S k n pc l (.float v :: st) := by
  obtain ⟨p, lq, e, R0, s, m, args, below, meth, c, D, C, A, Q⟩ := Z
  exact fun H locs ls hP hD hS hv => lv_fstore h.1 h.2.1 d  hv hn ((congrArg (fun z => (i, Value.float v) :: z) (l_ce hc)).trans hl) (fun ls' hv' => kk H locs ls' hP hD hS hv')
theorem x_dstore_n (h : CX Z cc own nL R) {z : Fin 4} {i : Nat} {v : UInt64} {l' : List (Nat × Value)} (d : decode cc pc = .ok (.dstore_n z, 1)) (hi : (z : Nat) = i) (hc : l_c i l) (hn : i + 1 < nL) (hl : (i, Value.double v) :: l.filter (fun q => !(q.1 == i) && !(q.1 == i + 1)) = l') (kk : PX Z nL S k n (pc + 1) l' st) : PX Z nL S k n pc l (.double v :: st) := by
  obtain ⟨p, lq, e, R0, s, m, args, below, meth, c, D, C, A, Q⟩ := Z
  exact fun H locs ls hP hD hS hv => lv_dstore_n h.1 h.2.1 d hi hv hn ((congrArg (fun z => (i, Value.double v) :: z) (l_ce2 hc)).trans hl) (fun ls' hv' => kk H locs ls' hP hD hS hv')
theorem x_dstore (h : CX Z cc own nL R) {i : Nat} {v : UInt64} {l' : List (Nat × Value)} (d : decode cc pc = .ok (.dstore i, 2))  (hc : l_c i l) (hn : i + 1 < nL) (hl : (i, Value.double v) :: l.filter (fun q => !(q.1 == i) && !(q.1 == i + 1)) = l') (kk : PX Z nL S k n (pc + 2) l' st) : PX Z nL S k n pc l (.double v :: st) := by
  obtain ⟨p, lq, e, R0, s, m, args, below, meth, c, D, C, A, Q⟩ := Z
  exact fun H locs ls hP hD hS hv => lv_dstore h.1 h.2.1 d  hv hn ((congrArg (fun z => (i, Value.double v) :: z) (l_ce2 hc)).trans hl) (fun ls' hv' => kk H locs ls' hP hD hS hv')
theorem x_astore_n (h : CX Z cc own nL R) {z : Fin 4} {i : Nat} {v : Option Nat} {l' : List (Nat × Value)} (d : decode cc pc = .ok (.astore_n z, 1)) (hi : (z : Nat) = i) (hc : l_c i l) (hn : i < nL) (hl : (i, va_rf v) :: l.filter (fun q => !(q.1 == i)) = l') (kk : PX Z nL S k n (pc + 1) l' st) : PX Z nL S k n pc l (va_rf v :: st) := by
  obtain ⟨p, lq, e, R0, s, m, args, below, meth, c, D, C, A, Q⟩ := Z
  cases v with
  | none => exact fun H locs ls hP hD hS hv => lv_astore_nN h.1 h.2.1 d hi hv hn ((congrArg (fun z => (i, Value.null) :: z) (l_ce hc)).trans hl) (fun ls' hv' => kk H locs ls' hP hD hS hv')
  | some a => exact fun H locs ls hP hD hS hv => lv_astore_n h.1 h.2.1 d hi hv hn ((congrArg (fun z => (i, Value.ref a) :: z) (l_ce hc)).trans hl) (fun ls' hv' => kk H locs ls' hP hD hS hv')
theorem x_astore (h : CX Z cc own nL R) {i : Nat} {v : Option Nat} {l' : List (Nat × Value)} (d : decode cc pc = .ok (.astore i, 2))  (hc : l_c i l) (hn : i < nL) (hl : (i, va_rf v) :: l.filter (fun q => !(q.1 == i)) = l') (kk : PX Z nL S k n (pc + 2) l' st) : PX Z nL S k n pc l (va_rf v :: st) := by
  obtain ⟨p, lq, e, R0, s, m, args, below, meth, c, D, C, A, Q⟩ := Z
  cases v with
  | none => exact fun H locs ls hP hD hS hv => lv_astoreN h.1 h.2.1 d  hv hn ((congrArg (fun z => (i, Value.null) :: z) (l_ce hc)).trans hl) (fun ls' hv' => kk H locs ls' hP hD hS hv')
  | some a => exact fun H locs ls hP hD hS hv => lv_astore h.1 h.2.1 d  hv hn ((congrArg (fun z => (i, Value.ref a) :: z) (l_ce hc)).trans hl) (fun ls' hv' => kk H locs ls' hP hD hS hv')
theorem x_iinc (h : CX Z cc own nL R) {i : Nat} {z : Int} {x v : Int32} {l' : List (Nat × Value)} (d : decode cc pc = .ok (.iinc i z, 3)) (q : Nat) (hq : l[q]? = some (i, .int x)) (hv : x + Int32.ofInt z = v) (hc : l_c i l) (hn : i < nL) (hl : (i, Value.int v) :: l.filter (fun q => !(q.1 == i)) = l') (kk : PX Z nL S k n (pc + 3) l' st) : PX Z nL S k n pc l st := by
  obtain ⟨p, lq, e, R0, s, m, args, below, meth, c, D, C, A, Q⟩ := Z
  exact fun H locs ls hP hD hS hw => lv_iinc h.1 h.2.1 d hw hq hv hn ((congrArg (fun z => (i, Value.int v) :: z) (l_ce hc)).trans hl) (fun ls' hv' => kk H locs ls' hP hD hS hv')
theorem x_iadd (h : CX Z cc own nL R) {x y : Int32} (d : decode cc pc = .ok (.iadd, 1))  (kk : PX Z nL S k n (pc + 1) l (.int (x + y) :: st)) : PX Z nL S k n pc l (.int y :: .int x :: st) := by
  obtain ⟨p, lq, e, R0, s, m, args, below, meth, c, D, C, A, Q⟩ := Z
  exact fun H locs ls hP hD hS hl => lv_iadd h.1 h.2.1 d (kk H locs ls hP hD hS hl)
theorem x_isub (h : CX Z cc own nL R) {x y : Int32} (d : decode cc pc = .ok (.isub, 1))  (kk : PX Z nL S k n (pc + 1) l (.int (x - y) :: st)) : PX Z nL S k n pc l (.int y :: .int x :: st) := by
  obtain ⟨p, lq, e, R0, s, m, args, below, meth, c, D, C, A, Q⟩ := Z
  exact fun H locs ls hP hD hS hl => lv_isub h.1 h.2.1 d (kk H locs ls hP hD hS hl)
theorem x_imul (h : CX Z cc own nL R) {x y : Int32} (d : decode cc pc = .ok (.imul, 1))  (kk : PX Z nL S k n (pc + 1) l (.int (x * y) :: st)) : PX Z nL S k n pc l (.int y :: .int x :: st) := by
  obtain ⟨p, lq, e, R0, s, m, args, below, meth, c, D, C, A, Q⟩ := Z
  exact fun H locs ls hP hD hS hl => lv_imul h.1 h.2.1 d (kk H locs ls hP hD hS hl)
theorem x_iand (h : CX Z cc own nL R) {x y : Int32} (d : decode cc pc = .ok (.iand, 1))  (kk : PX Z nL S k n (pc + 1) l (.int (x &&& y) :: st)) : PX Z nL S k n pc l (.int y :: .int x :: st) := by
  obtain ⟨p, lq, e, R0, s, m, args, below, meth, c, D, C, A, Q⟩ := Z
  exact fun H locs ls hP hD hS hl => lv_iand h.1 h.2.1 d (kk H locs ls hP hD hS hl)
theorem x_ior (h : CX Z cc own nL R) {x y : Int32} (d : decode cc pc = .ok (.ior, 1))  (kk : PX Z nL S k n (pc + 1) l (.int (x ||| y) :: st)) : PX Z nL S k n pc l (.int y :: .int x :: st) := by
  obtain ⟨p, lq, e, R0, s, m, args, below, meth, c, D, C, A, Q⟩ := Z
  exact fun H locs ls hP hD hS hl => lv_ior h.1 h.2.1 d (kk H locs ls hP hD hS hl)
theorem x_ixor (h : CX Z cc own nL R) {x y : Int32} (d : decode cc pc = .ok (.ixor, 1))  (kk : PX Z nL S k n (pc + 1) l (.int (x ^^^ y) :: st)) : PX Z nL S k n pc l (.int y :: .int x :: st) := by
  obtain ⟨p, lq, e, R0, s, m, args, below, meth, c, D, C, A, Q⟩ := Z
  exact fun H locs ls hP hD hS hl => lv_ixor h.1 h.2.1 d (kk H locs ls hP hD hS hl)
theorem x_ishl (h : CX Z cc own nL R) {x y : Int32} (d : decode cc pc = .ok (.ishl, 1))  (kk : PX Z nL S k n (pc + 1) l (.int (x <<< (y &&& 31)) :: st)) : PX Z nL S k n pc l (.int y :: .int x :: st) := by
  obtain ⟨p, lq, e, R0, s, m, args, below, meth, c, D, C, A, Q⟩ := Z
  exact fun H locs ls hP hD hS hl => lv_ishl h.1 h.2.1 d (kk H locs ls hP hD hS hl)
theorem x_ishr (h : CX Z cc own nL R) {x y : Int32} (d : decode cc pc = .ok (.ishr, 1))  (kk : PX Z nL S k n (pc + 1) l (.int (x >>> (y &&& 31)) :: st)) : PX Z nL S k n pc l (.int y :: .int x :: st) := by
  obtain ⟨p, lq, e, R0, s, m, args, below, meth, c, D, C, A, Q⟩ := Z
  exact fun H locs ls hP hD hS hl => lv_ishr h.1 h.2.1 d (kk H locs ls hP hD hS hl)
theorem x_iushr (h : CX Z cc own nL R) {x y v : Int32} (d : decode cc pc = .ok (.iushr, 1)) (hv : (x.toUInt32 >>> (y.toUInt32 &&& Int32.toUInt32 31)).toInt32 = v) (kk : PX Z nL S k n (pc + 1) l (.int v :: st)) : PX Z nL S k n pc l (.int y :: .int x :: st) := by
  obtain ⟨p, lq, e, R0, s, m, args, below, meth, c, D, C, A, Q⟩ := Z
  exact fun H locs ls hP hD hS hl => lv_iushr h.1 h.2.1 d hv (kk H locs ls hP hD hS hl)
theorem x_idiv (h : CX Z cc own nL R) {x y : Int32} (d : decode cc pc = .ok (.idiv, 1)) (hne : ¬ y = 0) (kk : PX Z nL S k n (pc + 1) l (.int (x / y) :: st)) : PX Z nL S k n pc l (.int y :: .int x :: st) := by
  obtain ⟨p, lq, e, R0, s, m, args, below, meth, c, D, C, A, Q⟩ := Z
  exact fun H locs ls hP hD hS hl => lv_idiv h.1 h.2.1 d hne (kk H locs ls hP hD hS hl)
theorem x_irem (h : CX Z cc own nL R) {x y : Int32} (d : decode cc pc = .ok (.irem, 1)) (hne : ¬ y = 0) (kk : PX Z nL S k n (pc + 1) l (.int (x - x / y * y) :: st)) : PX Z nL S k n pc l (.int y :: .int x :: st) := by
  obtain ⟨p, lq, e, R0, s, m, args, below, meth, c, D, C, A, Q⟩ := Z
  exact fun H locs ls hP hD hS hl => lv_irem h.1 h.2.1 d hne (kk H locs ls hP hD hS hl)
theorem x_ladd (h : CX Z cc own nL R) {x y : Int64} (d : decode cc pc = .ok (.ladd, 1))  (kk : PX Z nL S k n (pc + 1) l (.long (x + y) :: st)) : PX Z nL S k n pc l (.long y :: .long x :: st) := by
  obtain ⟨p, lq, e, R0, s, m, args, below, meth, c, D, C, A, Q⟩ := Z
  exact fun H locs ls hP hD hS hl => lv_ladd h.1 h.2.1 d (kk H locs ls hP hD hS hl)
theorem x_lsub (h : CX Z cc own nL R) {x y : Int64} (d : decode cc pc = .ok (.lsub, 1))  (kk : PX Z nL S k n (pc + 1) l (.long (x - y) :: st)) : PX Z nL S k n pc l (.long y :: .long x :: st) := by
  obtain ⟨p, lq, e, R0, s, m, args, below, meth, c, D, C, A, Q⟩ := Z
  exact fun H locs ls hP hD hS hl => lv_lsub h.1 h.2.1 d (kk H locs ls hP hD hS hl)
theorem x_lmul (h : CX Z cc own nL R) {x y : Int64} (d : decode cc pc = .ok (.lmul, 1))  (kk : PX Z nL S k n (pc + 1) l (.long (x * y) :: st)) : PX Z nL S k n pc l (.long y :: .long x :: st) := by
  obtain ⟨p, lq, e, R0, s, m, args, below, meth, c, D, C, A, Q⟩ := Z
  exact fun H locs ls hP hD hS hl => lv_lmul h.1 h.2.1 d (kk H locs ls hP hD hS hl)
theorem x_lor (h : CX Z cc own nL R) {x y : Int64} (d : decode cc pc = .ok (.lor, 1))  (kk : PX Z nL S k n (pc + 1) l (.long (x ||| y) :: st)) : PX Z nL S k n pc l (.long y :: .long x :: st) := by
  obtain ⟨p, lq, e, R0, s, m, args, below, meth, c, D, C, A, Q⟩ := Z
  exact fun H locs ls hP hD hS hl => lv_lor h.1 h.2.1 d (kk H locs ls hP hD hS hl)
theorem x_lshl (h : CX Z cc own nL R) {x : Int64} {y : Int32} (d : decode cc pc = .ok (.lshl, 1))  (kk : PX Z nL S k n (pc + 1) l (.long (x <<< (y.toInt64 &&& 63)) :: st)) : PX Z nL S k n pc l (.int y :: .long x :: st) := by
  obtain ⟨p, lq, e, R0, s, m, args, below, meth, c, D, C, A, Q⟩ := Z
  exact fun H locs ls hP hD hS hl => lv_lshl h.1 h.2.1 d rfl (kk H locs ls hP hD hS hl)
theorem x_i2l (h : CX Z cc own nL R) {x : Int32} (d : decode cc pc = .ok (.i2l, 1))  (kk : PX Z nL S k n (pc + 1) l (.long (x.toInt64) :: st)) : PX Z nL S k n pc l (.int x :: st) := by
  obtain ⟨p, lq, e, R0, s, m, args, below, meth, c, D, C, A, Q⟩ := Z
  exact fun H locs ls hP hD hS hl => lv_i2l h.1 h.2.1 d rfl (kk H locs ls hP hD hS hl)
theorem x_lcmp (h : CX Z cc own nL R) {x y : Int64} (d : decode cc pc = .ok (.lcmp, 1))  (kk : PX Z nL S k n (pc + 1) l (.int (lg_cmp x y) :: st)) : PX Z nL S k n pc l (.long y :: .long x :: st) := by
  obtain ⟨p, lq, e, R0, s, m, args, below, meth, c, D, C, A, Q⟩ := Z
  exact fun H locs ls hP hD hS hl => W.lcmp h.1 h.2.1 d (kk H locs ls hP hD hS hl)
theorem x_fsub (h : CX Z cc own nL R) {x y : UInt32} (d : decode cc pc = .ok (.fsub, 1)) (hne : vf_n32 (FP.fsub x y)) (kk : PX Z nL S k n (pc + 1) l (.float (FP.fsub x y) :: st)) : PX Z nL S k n pc l (.float y :: .float x :: st) := by
  obtain ⟨p, lq, e, R0, s, m, args, below, meth, c, D, C, A, Q⟩ := Z
  exact fun H locs ls hP hD hS hl => lv_fsub h.1 h.2.1 d hne (kk H locs ls hP hD hS hl)
theorem x_fmul (h : CX Z cc own nL R) {x y : UInt32} (d : decode cc pc = .ok (.fmul, 1)) (hne : vf_n32 (FP.fmul x y)) (kk : PX Z nL S k n (pc + 1) l (.float (FP.fmul x y) :: st)) : PX Z nL S k n pc l (.float y :: .float x :: st) := by
  obtain ⟨p, lq, e, R0, s, m, args, below, meth, c, D, C, A, Q⟩ := Z
  exact fun H locs ls hP hD hS hl => lv_fmul h.1 h.2.1 d hne (kk H locs ls hP hD hS hl)
theorem x_fdiv (h : CX Z cc own nL R) {x y : UInt32} (d : decode cc pc = .ok (.fdiv, 1)) (hne : vf_n32 (FP.fdiv x y)) (kk : PX Z nL S k n (pc + 1) l (.float (FP.fdiv x y) :: st)) : PX Z nL S k n pc l (.float y :: .float x :: st) := by
  obtain ⟨p, lq, e, R0, s, m, args, below, meth, c, D, C, A, Q⟩ := Z
  exact fun H locs ls hP hD hS hl => lv_fdiv h.1 h.2.1 d hne (kk H locs ls hP hD hS hl)
theorem x_dsub (h : CX Z cc own nL R) {x y : UInt64} (d : decode cc pc = .ok (.dsub, 1)) (hne : vf_n64 (FP.dsub x y)) (kk : PX Z nL S k n (pc + 1) l (.double (FP.dsub x y) :: st)) : PX Z nL S k n pc l (.double y :: .double x :: st) := by
  obtain ⟨p, lq, e, R0, s, m, args, below, meth, c, D, C, A, Q⟩ := Z
  exact fun H locs ls hP hD hS hl => lv_dsub h.1 h.2.1 d hne (kk H locs ls hP hD hS hl)
theorem x_dmul (h : CX Z cc own nL R) {x y : UInt64} (d : decode cc pc = .ok (.dmul, 1)) (hne : vf_n64 (FP.dmul x y)) (kk : PX Z nL S k n (pc + 1) l (.double (FP.dmul x y) :: st)) : PX Z nL S k n pc l (.double y :: .double x :: st) := by
  obtain ⟨p, lq, e, R0, s, m, args, below, meth, c, D, C, A, Q⟩ := Z
  exact fun H locs ls hP hD hS hl => lv_dmul h.1 h.2.1 d hne (kk H locs ls hP hD hS hl)
theorem x_ddiv (h : CX Z cc own nL R) {x y : UInt64} (d : decode cc pc = .ok (.ddiv, 1)) (hne : vf_n64 (FP.ddiv x y)) (kk : PX Z nL S k n (pc + 1) l (.double (FP.ddiv x y) :: st)) : PX Z nL S k n pc l (.double y :: .double x :: st) := by
  obtain ⟨p, lq, e, R0, s, m, args, below, meth, c, D, C, A, Q⟩ := Z
  exact fun H locs ls hP hD hS hl => lv_ddiv h.1 h.2.1 d hne (kk H locs ls hP hD hS hl)
theorem x_f2d (h : CX Z cc own nL R) {x : UInt32} (d : decode cc pc = .ok (.f2d, 1)) (hne : vf_n64 (FP.f2d x)) (kk : PX Z nL S k n (pc + 1) l (.double (FP.f2d x) :: st)) : PX Z nL S k n pc l (.float x :: st) := by
  obtain ⟨p, lq, e, R0, s, m, args, below, meth, c, D, C, A, Q⟩ := Z
  exact fun H locs ls hP hD hS hl => lv_f2d h.1 h.2.1 d hne (kk H locs ls hP hD hS hl)
theorem x_dneg (h : CX Z cc own nL R) {x : UInt64} (d : decode cc pc = .ok (.dneg, 1))  (kk : PX Z nL S k n (pc + 1) l (.double (FP.dneg x) :: st)) : PX Z nL S k n pc l (.double x :: st) := by
  obtain ⟨p, lq, e, R0, s, m, args, below, meth, c, D, C, A, Q⟩ := Z
  exact fun H locs ls hP hD hS hl => lv_dneg h.1 h.2.1 d (kk H locs ls hP hD hS hl)
theorem x_fcmp (h : CX Z cc own nL R) {x y : UInt32} {op : CmpOp} (d : decode cc pc = .ok (.fcmp op, 1))  (kk : PX Z nL S k n (pc + 1) l (.int (Op.cmpValue (FP.fcmp x y) op) :: st)) : PX Z nL S k n pc l (.float y :: .float x :: st) := by
  obtain ⟨p, lq, e, R0, s, m, args, below, meth, c, D, C, A, Q⟩ := Z
  exact fun H locs ls hP hD hS hl => lv_fcmp h.1 h.2.1 d (kk H locs ls hP hD hS hl)
theorem x_dcmp (h : CX Z cc own nL R) {x y : UInt64} {op : CmpOp} (d : decode cc pc = .ok (.dcmp op, 1))  (kk : PX Z nL S k n (pc + 1) l (.int (Op.cmpValue (FP.dcmp x y) op) :: st)) : PX Z nL S k n pc l (.double y :: .double x :: st) := by
  obtain ⟨p, lq, e, R0, s, m, args, below, meth, c, D, C, A, Q⟩ := Z
  exact fun H locs ls hP hD hS hl => lv_dcmp h.1 h.2.1 d (kk H locs ls hP hD hS hl)
theorem x_i2f (h : CX Z cc own nL R) {x : Int32} (d : decode cc pc = .ok (.i2f, 1))  (kk : PX Z nL S k n (pc + 1) l (.float (FP.i2f x) :: st)) : PX Z nL S k n pc l (.int x :: st) := by
  obtain ⟨p, lq, e, R0, s, m, args, below, meth, c, D, C, A, Q⟩ := Z
  exact fun H locs ls hP hD hS hl => lv_i2f h.1 h.2.1 d (kk H locs ls hP hD hS hl)
theorem x_i2d (h : CX Z cc own nL R) {x : Int32} (d : decode cc pc = .ok (.i2d, 1))  (kk : PX Z nL S k n (pc + 1) l (.double (FP.i2d x) :: st)) : PX Z nL S k n pc l (.int x :: st) := by
  obtain ⟨p, lq, e, R0, s, m, args, below, meth, c, D, C, A, Q⟩ := Z
  exact fun H locs ls hP hD hS hl => lv_i2d h.1 h.2.1 d (kk H locs ls hP hD hS hl)
theorem x_l2d (h : CX Z cc own nL R) {x : Int64} (d : decode cc pc = .ok (.l2d, 1))  (kk : PX Z nL S k n (pc + 1) l (.double (FP.l2d x) :: st)) : PX Z nL S k n pc l (.long x :: st) := by
  obtain ⟨p, lq, e, R0, s, m, args, below, meth, c, D, C, A, Q⟩ := Z
  exact fun H locs ls hP hD hS hl => lv_l2d h.1 h.2.1 d (kk H locs ls hP hD hS hl)
theorem x_f2i (h : CX Z cc own nL R) {x : UInt32} (d : decode cc pc = .ok (.f2i, 1))  (kk : PX Z nL S k n (pc + 1) l (.int (FP.f2i x) :: st)) : PX Z nL S k n pc l (.float x :: st) := by
  obtain ⟨p, lq, e, R0, s, m, args, below, meth, c, D, C, A, Q⟩ := Z
  exact fun H locs ls hP hD hS hl => lv_f2i h.1 h.2.1 d (kk H locs ls hP hD hS hl)
theorem x_d2l (h : CX Z cc own nL R) {x : UInt64} (d : decode cc pc = .ok (.d2l, 1))  (kk : PX Z nL S k n (pc + 1) l (.long (FP.d2l x) :: st)) : PX Z nL S k n pc l (.double x :: st) := by
  obtain ⟨p, lq, e, R0, s, m, args, below, meth, c, D, C, A, Q⟩ := Z
  exact fun H locs ls hP hD hS hl => lv_d2l h.1 h.2.1 d (kk H locs ls hP hD hS hl)
theorem x_dup (h : CX Z cc own nL R) {v : Value} (d : decode cc pc = .ok (.dup, 1)) (hv : v.category = 1) (kk : PX Z nL S k n (pc + 1) l (v :: v :: st)) : PX Z nL S k n pc l (v :: st) := by
  obtain ⟨p, lq, e, R0, s, m, args, below, meth, c, D, C, A, Q⟩ := Z
  exact fun H locs ls hP hD hS hl => lv_dup h.1 h.2.1 d hv (kk H locs ls hP hD hS hl)
theorem x_pop (h : CX Z cc own nL R) {v : Value} (d : decode cc pc = .ok (.pop, 1)) (hv : v.category = 1) (kk : PX Z nL S k n (pc + 1) l (st)) : PX Z nL S k n pc l (v :: st) := by
  obtain ⟨p, lq, e, R0, s, m, args, below, meth, c, D, C, A, Q⟩ := Z
  exact fun H locs ls hP hD hS hl => lv_pop h.1 h.2.1 d hv (kk H locs ls hP hD hS hl)
theorem x_dup2 (h : CX Z cc own nL R) {v w : Value} (d : decode cc pc = .ok (.dup2, 1)) (hv : v.category = 1) (hw : w.category = 1) (kk : PX Z nL S k n (pc + 1) l (v :: w :: v :: w :: st)) : PX Z nL S k n pc l (v :: w :: st) := by
  obtain ⟨p, lq, e, R0, s, m, args, below, meth, c, D, C, A, Q⟩ := Z
  exact fun H locs ls hP hD hS hl => lv_dup2_11 h.1 h.2.1 d hv hw (kk H locs ls hP hD hS hl)
theorem x_goto (h : CX Z cc own nL R) {off : Int} {t : Nat} (d : decode cc pc = .ok (.goto off, 3)) (ht : (pc : Int) + off = (t : Int)) (kk : PX Z nL S k n t l st) : PX Z nL S k n pc l st := by
  obtain ⟨p, lq, e, R0, s, m, args, below, meth, c, D, C, A, Q⟩ := Z
  exact fun H locs ls hP hD hS hl => lv_goto h.1 h.2.1 d ht (kk H locs ls hP hD hS hl)
theorem x_if_eq (h : CX Z cc own nL R) {x : Int32} {off : Int} {t : Nat} (d : decode cc pc = .ok (.ifCond .eq off, 3)) (ht : (pc : Int) + off = (t : Int)) (kt : x = 0 → PX Z nL S k n t l st) (kf : ¬ x = 0 → PX Z nL S k n (pc + 3) l st) : PX Z nL S k n pc l (.int x :: st) := by
  obtain ⟨p, lq, e, R0, s, m, args, below, meth, c, D, C, A, Q⟩ := Z
  exact fun H locs ls hP hD hS hl => lv_if_eq h.1 h.2.1 d ht (fun q => kt q H locs ls hP hD hS hl) (fun q => kf q H locs ls hP hD hS hl)
theorem x_icmp_eq (h : CX Z cc own nL R) {x y : Int32} {off : Int} {t : Nat} (d : decode cc pc = .ok (.if_icmp .eq off, 3)) (ht : (pc : Int) + off = (t : Int)) (kt : x = y → PX Z nL S k n t l st) (kf : ¬ x = y → PX Z nL S k n (pc + 3) l st) : PX Z nL S k n pc l (.int y :: .int x :: st) := by
  obtain ⟨p, lq, e, R0, s, m, args, below, meth, c, D, C, A, Q⟩ := Z
  exact fun H locs ls hP hD hS hl => lv_icmp_eq h.1 h.2.1 d ht (fun q => kt q H locs ls hP hD hS hl) (fun q => kf q H locs ls hP hD hS hl)
theorem x_if_ne (h : CX Z cc own nL R) {x : Int32} {off : Int} {t : Nat} (d : decode cc pc = .ok (.ifCond .ne off, 3)) (ht : (pc : Int) + off = (t : Int)) (kt : ¬ x = 0 → PX Z nL S k n t l st) (kf : x = 0 → PX Z nL S k n (pc + 3) l st) : PX Z nL S k n pc l (.int x :: st) := by
  obtain ⟨p, lq, e, R0, s, m, args, below, meth, c, D, C, A, Q⟩ := Z
  exact fun H locs ls hP hD hS hl => lv_if_ne h.1 h.2.1 d ht (fun q => kt q H locs ls hP hD hS hl) (fun q => kf q H locs ls hP hD hS hl)
theorem x_icmp_ne (h : CX Z cc own nL R) {x y : Int32} {off : Int} {t : Nat} (d : decode cc pc = .ok (.if_icmp .ne off, 3)) (ht : (pc : Int) + off = (t : Int)) (kt : ¬ x = y → PX Z nL S k n t l st) (kf : x = y → PX Z nL S k n (pc + 3) l st) : PX Z nL S k n pc l (.int y :: .int x :: st) := by
  obtain ⟨p, lq, e, R0, s, m, args, below, meth, c, D, C, A, Q⟩ := Z
  exact fun H locs ls hP hD hS hl => lv_icmp_ne h.1 h.2.1 d ht (fun q => kt q H locs ls hP hD hS hl) (fun q => kf q H locs ls hP hD hS hl)
theorem x_if_lt (h : CX Z cc own nL R) {x : Int32} {off : Int} {t : Nat} (d : decode cc pc = .ok (.ifCond .lt off, 3)) (ht : (pc : Int) + off = (t : Int)) (kt : x < 0 → PX Z nL S k n t l st) (kf : ¬ x < 0 → PX Z nL S k n (pc + 3) l st) : PX Z nL S k n pc l (.int x :: st) := by
  obtain ⟨p, lq, e, R0, s, m, args, below, meth, c, D, C, A, Q⟩ := Z
  exact fun H locs ls hP hD hS hl => lv_if_lt h.1 h.2.1 d ht (fun q => kt q H locs ls hP hD hS hl) (fun q => kf q H locs ls hP hD hS hl)
theorem x_icmp_lt (h : CX Z cc own nL R) {x y : Int32} {off : Int} {t : Nat} (d : decode cc pc = .ok (.if_icmp .lt off, 3)) (ht : (pc : Int) + off = (t : Int)) (kt : x < y → PX Z nL S k n t l st) (kf : ¬ x < y → PX Z nL S k n (pc + 3) l st) : PX Z nL S k n pc l (.int y :: .int x :: st) := by
  obtain ⟨p, lq, e, R0, s, m, args, below, meth, c, D, C, A, Q⟩ := Z
  exact fun H locs ls hP hD hS hl => lv_icmp_lt h.1 h.2.1 d ht (fun q => kt q H locs ls hP hD hS hl) (fun q => kf q H locs ls hP hD hS hl)
theorem x_if_ge (h : CX Z cc own nL R) {x : Int32} {off : Int} {t : Nat} (d : decode cc pc = .ok (.ifCond .ge off, 3)) (ht : (pc : Int) + off = (t : Int)) (kt : 0 ≤ x → PX Z nL S k n t l st) (kf : ¬ 0 ≤ x → PX Z nL S k n (pc + 3) l st) : PX Z nL S k n pc l (.int x :: st) := by
  obtain ⟨p, lq, e, R0, s, m, args, below, meth, c, D, C, A, Q⟩ := Z
  exact fun H locs ls hP hD hS hl => lv_if_ge h.1 h.2.1 d ht (fun q => kt q H locs ls hP hD hS hl) (fun q => kf q H locs ls hP hD hS hl)
theorem x_icmp_ge (h : CX Z cc own nL R) {x y : Int32} {off : Int} {t : Nat} (d : decode cc pc = .ok (.if_icmp .ge off, 3)) (ht : (pc : Int) + off = (t : Int)) (kt : y ≤ x → PX Z nL S k n t l st) (kf : ¬ y ≤ x → PX Z nL S k n (pc + 3) l st) : PX Z nL S k n pc l (.int y :: .int x :: st) := by
  obtain ⟨p, lq, e, R0, s, m, args, below, meth, c, D, C, A, Q⟩ := Z
  exact fun H locs ls hP hD hS hl => lv_icmp_ge h.1 h.2.1 d ht (fun q => kt q H locs ls hP hD hS hl) (fun q => kf q H locs ls hP hD hS hl)
theorem x_if_gt (h : CX Z cc own nL R) {x : Int32} {off : Int} {t : Nat} (d : decode cc pc = .ok (.ifCond .gt off, 3)) (ht : (pc : Int) + off = (t : Int)) (kt : 0 < x → PX Z nL S k n t l st) (kf : ¬ 0 < x → PX Z nL S k n (pc + 3) l st) : PX Z nL S k n pc l (.int x :: st) := by
  obtain ⟨p, lq, e, R0, s, m, args, below, meth, c, D, C, A, Q⟩ := Z
  exact fun H locs ls hP hD hS hl => lv_if_gt h.1 h.2.1 d ht (fun q => kt q H locs ls hP hD hS hl) (fun q => kf q H locs ls hP hD hS hl)
theorem x_icmp_gt (h : CX Z cc own nL R) {x y : Int32} {off : Int} {t : Nat} (d : decode cc pc = .ok (.if_icmp .gt off, 3)) (ht : (pc : Int) + off = (t : Int)) (kt : y < x → PX Z nL S k n t l st) (kf : ¬ y < x → PX Z nL S k n (pc + 3) l st) : PX Z nL S k n pc l (.int y :: .int x :: st) := by
  obtain ⟨p, lq, e, R0, s, m, args, below, meth, c, D, C, A, Q⟩ := Z
  exact fun H locs ls hP hD hS hl => lv_icmp_gt h.1 h.2.1 d ht (fun q => kt q H locs ls hP hD hS hl) (fun q => kf q H locs ls hP hD hS hl)
theorem x_if_le (h : CX Z cc own nL R) {x : Int32} {off : Int} {t : Nat} (d : decode cc pc = .ok (.ifCond .le off, 3)) (ht : (pc : Int) + off = (t : Int)) (kt : x ≤ 0 → PX Z nL S k n t l st) (kf : ¬ x ≤ 0 → PX Z nL S k n (pc + 3) l st) : PX Z nL S k n pc l (.int x :: st) := by
  obtain ⟨p, lq, e, R0, s, m, args, below, meth, c, D, C, A, Q⟩ := Z
  exact fun H locs ls hP hD hS hl => lv_if_le h.1 h.2.1 d ht (fun q => kt q H locs ls hP hD hS hl) (fun q => kf q H locs ls hP hD hS hl)
theorem x_icmp_le (h : CX Z cc own nL R) {x y : Int32} {off : Int} {t : Nat} (d : decode cc pc = .ok (.if_icmp .le off, 3)) (ht : (pc : Int) + off = (t : Int)) (kt : x ≤ y → PX Z nL S k n t l st) (kf : ¬ x ≤ y → PX Z nL S k n (pc + 3) l st) : PX Z nL S k n pc l (.int y :: .int x :: st) := by
  obtain ⟨p, lq, e, R0, s, m, args, below, meth, c, D, C, A, Q⟩ := Z
  exact fun H locs ls hP hD hS hl => lv_icmp_le h.1 h.2.1 d ht (fun q => kt q H locs ls hP hD hS hl) (fun q => kf q H locs ls hP hD hS hl)
theorem x_ifnonnull (h : CX Z cc own nL R) {r : Option Nat} {off : Int} {t : Nat} (d : decode cc pc = .ok (.ifnonnull off, 3)) (ht : (pc : Int) + off = (t : Int)) (kt : r ≠ none → PX Z nL S k n t l st) (kf : ¬ r ≠ none → PX Z nL S k n (pc + 3) l st) : PX Z nL S k n pc l (va_rf r :: st) := by
  obtain ⟨p, lq, e, R0, s, m, args, below, meth, c, D, C, A, Q⟩ := Z
  cases r with
  | none => exact fun H locs ls hP hD hS hl => lv_ifnonnullN h.1 h.2.1 d (kf (fun q => q rfl) H locs ls hP hD hS hl)
  | some a => exact fun H locs ls hP hD hS hl => lv_ifnonnull h.1 h.2.1 d ht (kt (fun q => by cases q) H locs ls hP hD hS hl)
theorem x_lookup (h : CX Z cc own nL R) {dflt : Int} {ps : Array (Int × Int)} {len : Nat} {x : Int32} {off : Int} {t : Nat} (d : decode cc pc = .ok (.lookupswitch dflt ps, len)) (hp : (ps.toList.zip (ps.toList.drop 1)).all (fun (a, next) => a.1 < next.1) = true) (ho : Op.lookupswitch.offset ps.toList dflt x.toInt = off) (ht : (pc : Int) + off = (t : Int)) (kk : PX Z nL S k n t l st) : PX Z nL S k n pc l (.int x :: st) := by
  obtain ⟨p, lq, e, R0, s, m, args, below, meth, c, D, C, A, Q⟩ := Z
  exact fun H locs ls hP hD hS hl => lv_lookup h.1 h.2.1 d hp ho ht (kk H locs ls hP hD hS hl)
theorem x_tabOut (h : CX Z cc own nL R) {dflt lo hi : Int} {offs : Array Int} {len : Nat} {x : Int32} {t : Nat} (d : decode cc pc = .ok (.tableswitch dflt lo hi offs, len)) (hh : x.toInt < lo ∨ hi < x.toInt) (ht : (pc : Int) + dflt = (t : Int)) (kk : PX Z nL S k n t l st) : PX Z nL S k n pc l (.int x :: st) := by
  obtain ⟨p, lq, e, R0, s, m, args, below, meth, c, D, C, A, Q⟩ := Z
  exact fun H locs ls hP hD hS hl => lv_tableOut h.1 h.2.1 d hh ht (kk H locs ls hP hD hS hl)
theorem x_tabIn (h : CX Z cc own nL R) {dflt lo hi : Int} {offs : Array Int} {len : Nat} {x : Int32} {off : Int} {t : Nat} (d : decode cc pc = .ok (.tableswitch dflt lo hi offs, len)) (h1 : ¬ x.toInt < lo) (h2 : ¬ hi < x.toInt) (ho : offs[(x.toInt - lo).toNat]? = some off) (ht : (pc : Int) + off = (t : Int)) (kk : PX Z nL S k n t l st) : PX Z nL S k n pc l (.int x :: st) := by
  obtain ⟨p, lq, e, R0, s, m, args, below, meth, c, D, C, A, Q⟩ := Z
  exact fun H locs ls hP hD hS hl => lv_tableIn h.1 h.2.1 d h1 h2 ho ht (kk H locs ls hP hD hS hl)
end XR
