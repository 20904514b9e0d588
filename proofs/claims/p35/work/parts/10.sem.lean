/-! WHAT A METHOD MEANS: its steps as functions of the pool; 'none' where the walk would not go on -/
def dr {β : Type} (S : PH) (c : Nat) (r : Option Nat) (f : Nat → Option β) : Option β := match r with
  | some a => if a ∈ p_L S ∧ p_K S a = c then f a else none
  | none => none
def ck {β : Type} (b : Bool) (o : Option β) : Option β := if b = true then o else none
def le_ {α β : Type} (v : α) (f : α → Option β) : Option β := f v
def wle {α : Type} (v : α) (f : α → Prop) : Prop := f v
def bd {α β : Type} (o : Option (α × PH)) (f : α → PH → Option β) : Option β := match o with
  | some (v, S) => f v S
  | none => none
def bt {α β : Type} (o : Option ((Nat ⊕ α) × PH)) (f : α → PH → Option β) (g : Nat → PH → Option β) : Option β := match o with
  | some (.inr v, S) => f v S
  | some (.inl j, S) => g j S
  | none => none
def ir {τ β : Type} (o : Option β) : Option (τ ⊕ β) := o.map Sum.inr
theorem dr_el {β : Type} {S : PH} {c : Nat} {r : Option Nat} {f : Nat → Option β} {y : β} (h : dr S c r f = some y) : ∃ a, r = some a ∧ (a ∈ p_L S ∧ p_K S a = c) ∧ f a = some y := by
  unfold dr at h
  cases r with
  | none => cases h
  | some a =>
    by_cases hc : a ∈ p_L S ∧ p_K S a = c
    · exact ⟨a, rfl, hc, (if_pos hc).symm.trans h⟩
    · exact absurd ((if_neg hc).symm.trans h) (fun q => by cases q)
theorem ck_el {β : Type} {b : Bool} {o : Option β} {y : β} (h : ck b o = some y) : b = true ∧ o = some y := by
  unfold ck at h
  by_cases hb : b = true
  · exact ⟨hb, (if_pos hb).symm.trans h⟩
  · exact absurd ((if_neg hb).symm.trans h) (fun q => by cases q)
theorem le_el {α β : Type} {v : α} {f : α → Option β} {y : β} (h : le_ v f = some y) : ∃ x, v = x ∧ f x = some y := ⟨v, rfl, h⟩
theorem bd_el {α β : Type} {o : Option (α × PH)} {f : α → PH → Option β} {y : β} (h : bd o f = some y) : ∃ v S, o = some (v, S) ∧ f v S = some y := by
  unfold bd at h
  cases o with
  | none => cases h
  | some q => exact ⟨q.1, q.2, rfl, h⟩
theorem bt_el {α β : Type} {o : Option ((Nat ⊕ α) × PH)} {f : α → PH → Option β} {g : Nat → PH → Option β} {y : β} (h : bt o f g = some y) : (∃ v S, o = some (.inr v, S) ∧ f v S = some y) ∨ (∃ j S, o = some (.inl j, S) ∧ g j S = some y) := by
  unfold bt at h
  cases o with
  | none => cases h
  | some q =>
    obtain ⟨v, S⟩ := q
    cases v with
    | inl j => exact Or.inr ⟨j, S, rfl, h⟩
    | inr v => exact Or.inl ⟨v, S, rfl, h⟩
theorem ir_el {τ β : Type} {o : Option β} {y : τ ⊕ β} (h : ir o = some y) : ∃ x, o = some x ∧ y = .inr x := by
  unfold ir at h
  cases o with
  | none => cases h
  | some x => exact ⟨x, rfl, (Option.some.inj h).symm⟩
theorem it_t {c : Prop} [Decidable c] {α : Type} {x y z : α} (hc : c) (h : (if c then x else y) = z) : x = z := (if_pos hc).symm.trans h
theorem it_f {c : Prop} [Decidable c] {α : Type} {x y z : α} (hc : ¬ c) (h : (if c then x else y) = z) : y = z := (if_neg hc).symm.trans h
/-! loops -/
def lpn {τ ρ : Type} (step : τ → Option (τ ⊕ ρ)) : Nat → τ → Option ρ
  | 0, _ => none
  | n + 1, t => match step t with
    | none => none
    | some (.inl t') => lpn step n t'
    | some (.inr r) => some r
theorem lpn_mono {τ ρ : Type} {step : τ → Option (τ ⊕ ρ)} {r : ρ} : ∀ {n m : Nat} {t : τ}, n ≤ m → lpn step n t = some r → lpn step m t = some r
  | 0, _, _, _, h => by cases h
  | n + 1, 0, _, hl, _ => absurd hl (by omega)
  | n + 1, m + 1, t, hl, h => by
    unfold lpn at h ⊢
    cases hs : step t with
    | none => rw [hs] at h; cases h
    | some x =>
      rw [hs] at h
      cases x with
      | inl t' => exact lpn_mono (by omega) h
      | inr r' => exact h
noncomputable def lp {τ ρ : Type} (step : τ → Option (τ ⊕ ρ)) (t : τ) : Option ρ := @dite _ (∃ n r, lpn step n t = some r) (Classical.propDecidable _) (fun h => some (Classical.choose (Classical.choose_spec h))) (fun _ => none)
theorem lp_of {τ ρ : Type} {step : τ → Option (τ ⊕ ρ)} {n : Nat} {t : τ} {r : ρ} (h : lpn step n t = some r) : lp step t = some r := by
  have hx : ∃ n r, lpn step n t = some r := ⟨n, r, h⟩
  unfold lp
  rw [dif_pos hx]
  have h2 := Classical.choose_spec (Classical.choose_spec hx)
  have h3 := lpn_mono (Nat.le_max_left n (Classical.choose hx)) h
  have h4 := lpn_mono (Nat.le_max_right n (Classical.choose hx)) h2
  exact h4.symm.trans h3
theorem lp_ex {τ ρ : Type} {step : τ → Option (τ ⊕ ρ)} {t : τ} {r : ρ} (h : lp step t = some r) : ∃ n, lpn step n t = some r := by
  unfold lp at h
  by_cases hx : ∃ n r, lpn step n t = some r
  · rw [dif_pos hx] at h
    have h2 := Classical.choose_spec (Classical.choose_spec hx)
    exact ⟨_, h2.trans h⟩
  · rw [dif_neg hx] at h
    cases h
theorem lp_inl {τ ρ : Type} {step : τ → Option (τ ⊕ ρ)} {t t' : τ} (h : step t = some (.inl t')) : lp step t = lp step t' := by
  have key : ∀ r, lp step t = some r ↔ lp step t' = some r := by
    intro r
    constructor
    · intro q
      obtain ⟨n, hn⟩ := lp_ex q
      cases n with
      | zero => cases hn
      | succ n =>
        unfold lpn at hn
        rw [h] at hn
        exact lp_of hn
    · intro q
      obtain ⟨n, hn⟩ := lp_ex q
      refine lp_of (n := n + 1) ?_
      unfold lpn
      rw [h]
      exact hn
  cases h1 : lp step t with
  | some r => exact ((key r).mp h1).symm
  | none =>
    cases h2 : lp step t' with
    | none => rfl
    | some r => exact absurd ((key r).mpr h2) (by rw [h1]; exact fun q => by cases q)
theorem lp_inr {τ ρ : Type} {step : τ → Option (τ ⊕ ρ)} {t : τ} {r : ρ} (h : step t = some (.inr r)) : lp step t = some r := lp_of (n := 1) (by unfold lpn; rw [h])
/-- the states of a loop one behind another -/
theorem lp_go {τ ρ : Type} {step : τ → Option (τ ⊕ ρ)} (F : Nat → τ) : ∀ n : Nat, (∀ i, i < n → step (F i) = some (.inl (F (i + 1)))) → lp step (F 0) = lp step (F n)
  | 0, _ => rfl
  | n + 1, h => (lp_go F n (fun i hi => h i (by omega))).trans (lp_inl (h n (by omega)))
def GX {τ ρ : Type} (P : τ → Prop) (G : ρ → Prop) (x : τ ⊕ ρ) : Prop := match x with
  | .inl t => P t
  | .inr r => G r
theorem lp_sim {τ ρ : Type} {step : τ → Option (τ ⊕ ρ)} {P : τ → Prop} {G : ρ → Prop} (hs : ∀ t x, step t = some x → GX P G x → P t) {t : τ} {r : ρ} (h : lp step t = some r) (hG : G r) : P t := by
  obtain ⟨n, hn⟩ := lp_ex h
  revert t
  induction n with
  | zero => intro t _ hn; cases hn
  | succ n ih =>
    intro t ht hn
    unfold lpn at hn
    cases hx : step t with
    | none => rw [hx] at hn; cases hn
    | some x =>
      rw [hx] at hn
      cases x with
      | inl t' => exact hs t _ hx (ih (lp_of hn) hn)
      | inr r' =>
        cases hn
        exact hs t _ hx hG
/-! the same for methods that may make objects: their ends by a predicate -/
def wdr (S : PH) (c : Nat) (r : Option Nat) (f : Nat → Prop) : Prop := ∃ a, r = some a ∧ (a ∈ p_L S ∧ p_K S a = c) ∧ f a
def wck (b : Bool) (o : Prop) : Prop := b = true ∧ o
def wbd {α : Type} (o : Option (α × PH)) (f : α → PH → Prop) : Prop := ∃ v S, o = some (v, S) ∧ f v S
def wbt {α : Type} (o : Option ((Nat ⊕ α) × PH)) (f : α → PH → Prop) (g : Nat → PH → Prop) : Prop := (∃ v S, o = some (.inr v, S) ∧ f v S) ∨ (∃ j S, o = some (.inl j, S) ∧ g j S)
theorem wit_t {c : Prop} [Decidable c] {x y : Prop} (hc : c) (h : if c then x else y) : x := by rwa [if_pos hc] at h
theorem wit_f {c : Prop} [Decidable c] {x y : Prop} (hc : ¬ c) (h : if c then x else y) : y := by rwa [if_neg hc] at h
theorem wle_el {α : Type} {v : α} {f : α → Prop} (h : wle v f) : ∃ x, v = x ∧ f x := ⟨v, rfl, h⟩
def wlpn {τ : Type} (step : (τ → Prop) → τ → Prop) : Nat → τ → Prop
  | 0, _ => False
  | n + 1, t => step (wlpn step n) t
def wlp {τ : Type} (step : (τ → Prop) → τ → Prop) (t : τ) : Prop := ∃ n, wlpn step n t
theorem wlp_sim {τ : Type} {step : (τ → Prop) → τ → Prop} {P : τ → Prop} (hs : ∀ K : τ → Prop, (∀ t, K t → P t) → ∀ t, step K t → P t) {t : τ} (h : wlp step t) : P t := by
  obtain ⟨n, hn⟩ := h
  revert t
  induction n with
  | zero => intro t h; exact h.elim
  | succ n ih => intro t h; exact hs _ (fun t h => ih h) t h
/-! how ends are told -/
def e_I (v : Int32) : Option Value := some (.int v)
def e_J (v : Int64) : Option Value := some (.long v)
def e_F (v : UInt32) : Option Value := some (.float v)
def e_D (v : UInt64) : Option Value := some (.double v)
def e_A (v : Option Nat) : Option Value := some (va_rf v)
def e_V (_ : Unit) : Option Value := none
def oQ {α : Type} (enc : α → Option Value) (Q : (Nat ⊕ α) → PH → Prop) : OT := fun o S => match o with
  | .inl ov => ∃ v, ov = enc v ∧ Q (.inr v) S
  | .inr j => Q (.inl j) S
def qN {α : Type} (y : α × PH) : (Nat ⊕ α) → PH → Prop := fun x S => x = .inr y.1 ∧ S = y.2
def qT {α : Type} (y : (Nat ⊕ α) × PH) : (Nat ⊕ α) → PH → Prop := fun x S => x = y.1 ∧ S = y.2
theorem z_N {α : Type} {enc : α → Option Value} {v : α} {S : PH} {y : α × PH} (h : (v, S) = y) : oQ enc (qN y) (.inl (enc v)) S := by subst h; exact ⟨v, rfl, rfl, rfl⟩
theorem z_T {α : Type} {enc : α → Option Value} {v : α} {S : PH} {y : (Nat ⊕ α) × PH} (h : ((.inr v : Nat ⊕ α), S) = y) : oQ enc (qT y) (.inl (enc v)) S := by subst h; exact ⟨v, rfl, rfl, rfl⟩
theorem z_X {α : Type} {enc : α → Option Value} {j : Nat} {S : PH} {y : (Nat ⊕ α) × PH} (h : ((.inl j : Nat ⊕ α), S) = y) : oQ enc (qT y) (.inr j) S := by subst h; exact ⟨rfl, rfl⟩
theorem z_W {α : Type} {enc : α → Option Value} {v : α} {S : PH} {Q : (Nat ⊕ α) → PH → Prop} (h : Q (.inr v) S) : oQ enc Q (.inl (enc v)) S := ⟨v, rfl, h⟩
theorem z_Y {α : Type} {enc : α → Option Value} {j : Nat} {S : PH} {Q : (Nat ⊕ α) → PH → Prop} (h : Q (.inl j) S) : oQ enc Q (.inr j) S := h
/-- behind a call of a method that returns y -/
theorem r_N {α : Type} {enc : α → Option Value} {y : α × PH} {F : Option Value → PH → Prop} (h : F (enc y.1) y.2) : ∀ ov S, oQ enc (qN y) (.inl ov) S → F ov S := by
  intro ov S q
  obtain ⟨v, rfl, h1, rfl⟩ := q
  cases h1
  exact h
theorem r_NX {α : Type} {enc : α → Option Value} {y : α × PH} {F : Nat → PH → Prop} : ∀ j S, oQ enc (qN y) (.inr j) S → F j S := by
  intro j S q
  exact absurd q.1 (fun h => by cases h)
theorem r_T {α : Type} {enc : α → Option Value} {v : α} {S0 : PH} {F : Option Value → PH → Prop} (h : F (enc v) S0) : ∀ ov S, oQ enc (qT ((.inr v : Nat ⊕ α), S0)) (.inl ov) S → F ov S := by
  intro ov S q
  obtain ⟨v, rfl, h1, rfl⟩ := q
  cases h1
  exact h
theorem r_TX {α : Type} {enc : α → Option Value} {v : α} {S0 : PH} {F : Nat → PH → Prop} : ∀ j S, oQ enc (qT ((.inr v : Nat ⊕ α), S0)) (.inr j) S → F j S := by
  intro j S q
  exact absurd q.1 (fun h => by cases h)
theorem r_X {α : Type} {enc : α → Option Value} {j0 : Nat} {S0 : PH} {F : Option Value → PH → Prop} : ∀ ov S, oQ enc (qT ((.inl j0 : Nat ⊕ α), S0)) (.inl ov) S → F ov S := by
  intro ov S q
  obtain ⟨v, -, h1, -⟩ := q
  cases h1
theorem r_XX {α : Type} {enc : α → Option Value} {j0 : Nat} {S0 : PH} {F : Nat → PH → Prop} (h : F j0 S0) : ∀ j S, oQ enc (qT ((.inl j0 : Nat ⊕ α), S0)) (.inr j) S → F j S := by
  intro j S q
  obtain ⟨h1, rfl⟩ := q
  cases h1
  exact h
theorem r_W {α : Type} {enc : α → Option Value} {Q : (Nat ⊕ α) → PH → Prop} {F : Option Value → PH → Prop} (h : ∀ v S, Q (.inr v) S → F (enc v) S) : ∀ ov S, oQ enc Q (.inl ov) S → F ov S := by
  intro ov S q
  obtain ⟨v, rfl, h1⟩ := q
  exact h v S h1
theorem x_us {args : Array Value} {s : State} (hx : ∀ w ∈ x_W, va_Nw w s) : ∀ w ∈ x_W, w.before args s = true := List.forall_mem_cons.mpr ⟨(hx _ (List.mem_of_getElem? (i := 0) rfl)), List.forall_mem_cons.mpr ⟨va_Nw.use rfl (hx _ (List.mem_of_getElem? (i := 1) rfl)), List.forall_mem_cons.mpr ⟨va_Nw.use rfl (hx _ (List.mem_of_getElem? (i := 2) rfl)), List.forall_mem_cons.mpr ⟨(hx _ (List.mem_of_getElem? (i := 3) rfl)), List.forall_mem_cons.mpr ⟨va_Nw.use rfl (hx _ (List.mem_of_getElem? (i := 4) rfl)), List.forall_mem_cons.mpr ⟨va_Nw.use rfl (hx _ (List.mem_of_getElem? (i := 5) rfl)), List.forall_mem_cons.mpr ⟨va_Nw.use rfl (hx _ (List.mem_of_getElem? (i := 6) rfl)), List.forall_mem_cons.mpr ⟨va_Nw.use rfl (hx _ (List.mem_of_getElem? (i := 7) rfl)), List.forall_mem_cons.mpr ⟨va_Nw.use rfl (hx _ (List.mem_of_getElem? (i := 8) rfl)), List.forall_mem_cons.mpr ⟨va_Nw.use rfl (hx _ (List.mem_of_getElem? (i := 9) rfl)), List.forall_mem_cons.mpr ⟨va_Nw.use rfl (hx _ (List.mem_of_getElem? (i := 10) rfl)), List.forall_mem_cons.mpr ⟨va_Nw.use rfl (hx _ (List.mem_of_getElem? (i := 11) rfl)), List.forall_mem_cons.mpr ⟨va_Nw.use rfl (hx _ (List.mem_of_getElem? (i := 12) rfl)), List.forall_mem_cons.mpr ⟨va_Nw.use rfl (hx _ (List.mem_of_getElem? (i := 13) rfl)), List.forall_mem_cons.mpr ⟨va_Nw.use rfl (hx _ (List.mem_of_getElem? (i := 14) rfl)), List.forall_mem_cons.mpr ⟨va_Nw.use rfl (hx _ (List.mem_of_getElem? (i := 15) rfl)), fun _ h => nomatch h⟩⟩⟩⟩⟩⟩⟩⟩⟩⟩⟩⟩⟩⟩⟩⟩
/-! a method's contract out of its walk -/
theorem mt_of {y : MethodName} {cy : ByteArray} {nLy : Nat} {ret : Option FieldType} {rf rl mc ms : Nat} {av : List Value} {S : PH} {O : OT} {own : String} {l0 : List (Nat × Value)} (hy : plainName y.cls = true) (hown : y.cls = own) (ha : (lg_sl av).length ≤ nLy) (hl0 : lv_args 0 av = l0)
    (body : ∀ Z, CX Z cy own nLy { frames := rf, cells := mc, slots := ms, locals := rl } → QX Z O mc ms ret → EX Z → (y.name = "<init>" → NX Z) → PX Z nLy S 0 0 0 l0 []) : MT y (.code y cy nLy ret) rf rl mc ms av S O := by
  intro lq hfl D C sz
  refine vx_ofW (cc := cy) (maxL := nLy) (ret := ret) hy rfl ?_
  intro p e s m args below meth c s₁ B hml hE hv
  obtain ⟨rfl, hsz, hP, hK, hD0, hM⟩ := hv
  have hts := atoms_spec (ws := Cond.code y cy nLy ret :: w_G) B.pre
  have hown' : s.vm.findClass own = some m.cls := by rw [← hown]; exact findClass_of_methodNamed B.named
  subst hsz
  have hl := lv_entry av (n := nLy) ha
  rw [lg_entry_eq]
  have hZ := body (p, lq, e, { frames := rf, cells := mc, slots := ms, locals := rl }, s, m, av.toArray, below, meth, c, D, C, va_A (w_P C S) s.heap.size, vx_MQ below (q_O D C (va_A (w_P C S) s.heap.size) O) (q_X D C (va_A (w_P C S) s.heap.size) O) av.toArray s mc ms (va_A (w_P C S) s.heap.size)) ⟨B.exec, B.bytes, hml, hown', fun w hw => hts w (List.mem_cons_of_mem _ hw), hK, fun q hq => Or.inr hq, B.notSynchronized, rfl, hfl, hM⟩ ⟨rfl, B.returns⟩ hE (fun h => (name_of_methodNamed B.named B.method).1.trans h)
  rw [hl0] at hl
  exact hZ s.heap [] _ hP hD0.self va_S.rf hl
/-- the table of a method with handlers -/
def HX : ZT → List (Nat × Nat × Nat × Nat) → Prop
  | (p, l, e, R, s, m, args, below, meth, c, D, C, A, Q), hh => c.exceptionTable.toList = tableOf hh
theorem mt_ofH {y : MethodName} {cy : ByteArray} {nLy : Nat} {ret : Option FieldType} {rf rl mc ms : Nat} {av : List Value} {S : PH} {O : OT} {own : String} {l0 : List (Nat × Value)} {hh : List (Nat × Nat × Nat × Nat)} (hy : plainName y.cls = true) (hown : y.cls = own) (ha : (lg_sl av).length ≤ nLy) (hl0 : lv_args 0 av = l0)
    (body : ∀ Z, CX Z cy own nLy { frames := rf, cells := mc, slots := ms, locals := rl } → QX Z O mc ms ret → HX Z hh → PX Z nLy S 0 0 0 l0 []) : MT y (.codeWith y cy nLy ret hh) rf rl mc ms av S O := by
  intro lq hfl D C sz
  refine vx_ofWH (cc := cy) (maxL := nLy) (ret := ret) (hh := hh) hy rfl ?_
  intro p e s m args below meth c s₁ B hml hv
  obtain ⟨rfl, hsz, hP, hK, hD0, hM⟩ := hv
  have hts := atoms_spec (ws := Cond.codeWith y cy nLy ret hh :: w_G) B.pre
  have hT := vx_table (x := y) B (hts _ List.mem_cons_self)
  have hown' : s.vm.findClass own = some m.cls := by rw [← hown]; exact findClass_of_methodNamed B.named
  subst hsz
  have hl := lv_entry av (n := nLy) ha
  rw [lg_entry_eq]
  have hZ := body (p, lq, e, { frames := rf, cells := mc, slots := ms, locals := rl }, s, m, av.toArray, below, meth, c, D, C, va_A (w_P C S) s.heap.size, vx_MQ below (q_O D C (va_A (w_P C S) s.heap.size) O) (q_X D C (va_A (w_P C S) s.heap.size) O) av.toArray s mc ms (va_A (w_P C S) s.heap.size)) ⟨B.exec, B.bytes, hml, hown', fun w hw => hts w (List.mem_cons_of_mem _ hw), hK, fun q hq => Or.inr hq, B.notSynchronized, rfl, hfl, hM⟩ ⟨rfl, B.returns⟩ hT
  rw [hl0] at hl
  exact hZ s.heap [] _ hP hD0.self va_S.rf hl
theorem l_st {l : Launch} (h : l.flags = flags0) : l.stackTraces = false := by unfold Launch.stackTraces; rw [h]; decide
abbrev x_nm : List String := ["java/lang/RuntimeException", "java/lang/Exception"]
section XT
variable {Z : ZT} {cc : ByteArray} {own : String} {nL : Nat} {R : Room} {S : PH} {k n pc : Nat} {l : List (Nat × Value)} {st : List Value} {mc ms : Nat} {O : OT} {ret : Option FieldType} {j ik is ic : Nat} {text : String}
/-- what the tables give for throwing x_n j -/
def TX (own : String) (ik ic j : Nat) : Prop := Cond.classLink own ik (x_n j) ∈ w_G ∧ Cond.initialized (x_n j) ∈ w_G ∧ (∀ w ∈ (vx_atS own ic (x_n j) x_nm).filter goodWord, w ∈ w_G) ∧ (∀ w ∈ (vx_atS own ic (x_n j) x_nm).filter (fun w => !goodWord w), w ∈ x_W) ∧ (∀ w ∈ Cond.classLink own ik (x_n j) :: Cond.initialized (x_n j) :: vx_atS own ic (x_n j) x_nm, vx_ot w = true) ∧ Bundle.fit (x_n j) = true ∧ (∀ q ∈ x_nm, Bundle.fit q = true)
theorem x_throw (h : CX Z cc own nL R) (hQ : QX Z O mc ms ret) (hE : EX Z) (hO : O (.inr j) S) (hT : TX own ik ic j) (hstr : (own, is, text) ∈ x_T) (hlen : st.length ≤ 4) (hR : 6 ≤ R.frames ∧ 90 ≤ R.locals) (hm : k + 1 ≤ R.cells ∧ n + 6 ≤ R.slots) (h1 : k + 1 ≤ mc) (h2 : n + 6 ≤ ms)
    (d0 : decode cc pc = .ok (.new ik, 3)) (d3 : decode cc (pc + 3) = .ok (.dup, 1)) (d4 : decode cc (pc + 4) = .ok (.ldc is, 2)) (d6 : decode cc (pc + 6) = .ok (.invokespecial ic, 3)) (d9 : decode cc (pc + 9) = .ok (.athrow, 1)) : PX Z nL S k n pc l st := by
  obtain ⟨p, lq, e, R0, s, m, args, below, meth, c, D, C, A, Q⟩ := Z
  intro H locs ls hP hD hS hl
  obtain ⟨rfl, hr⟩ := hQ
  have hR0 : R0 = R := h.2.2.2.2.2.2.2.2.1
  have hcat := v_cat st
  have hM := h.2.2.2.2.2.2.2.2.2.2
  obtain ⟨t1, t2, t3, t4, t5, t6, t7⟩ := hT
  obtain ⟨sa, hsa⟩ := hM.2.2.2.2.2.1 _ hstr
  refine vx_throwS h.1 h.2.1 (l_st h.2.2.2.2.2.2.2.2.2.1) (names := x_nm) (sa := sa) h.2.2.2.1 t6 t7 (h.2.2.2.2.1 _ t1) (h.2.2.2.2.1 _ t2) hsa (vx_hat (B := x_W) (fun w hw => h.2.2.2.2.1 w (t3 w hw)) t4 (x_us hM.2.2.2.2.2.2.1)) t5 hM.1 hM.2.1 hS (hl.1.trans h.2.2.1.symm) d0 d3 d4 d6 d9 (fun x hx => (hE x hx).elim) (by rw [hR0]; show 2 + 3 < _; omega) (by rw [hR0]; show _ + (13 * (2 + 1) + 43) ≤ _; omega) (by rw [hR0]; exact hm.1) (by rw [hR0]; exact hm.2) h.2.2.2.2.2.2.2.1 (fun t hA hz hk => ⟨j, S, hO, rfl, hP.kept (fun i q hq => hk q.1 ((hP i q hq).lt)), hD, Nat.le_trans hS.1 hz, fun q q1 q2 => (hk q (Nat.lt_of_lt_of_le q1 hS.1)).trans (hS.2.1 q q1 q2)⟩) hS.2.2 h1 h2
theorem x_throwW (h : CX Z cc own nL R) (hQ : QX Z O mc ms ret) (hE : EX Z) (hO : O (.inr j) S) (hT : TX own ik ic j) (hstr : (own, is, text) ∈ x_T) (hlen : st.length ≤ 4) (hR : 6 ≤ R.frames ∧ 90 ≤ R.locals) (hm : k + 1 ≤ R.cells ∧ n + 6 ≤ R.slots) (h1 : k + 1 ≤ mc) (h2 : n + 6 ≤ ms)
    (d0 : decode cc pc = .ok (.new ik, 3)) (d3 : decode cc (pc + 3) = .ok (.dup, 1)) (d4 : decode cc (pc + 4) = .ok (.ldc_w is, 3)) (d6 : decode cc (pc + 7) = .ok (.invokespecial ic, 3)) (d9 : decode cc (pc + 10) = .ok (.athrow, 1)) : PX Z nL S k n pc l st := by
  obtain ⟨p, lq, e, R0, s, m, args, below, meth, c, D, C, A, Q⟩ := Z
  intro H locs ls hP hD hS hl
  obtain ⟨rfl, hr⟩ := hQ
  have hR0 : R0 = R := h.2.2.2.2.2.2.2.2.1
  have hcat := v_cat st
  have hM := h.2.2.2.2.2.2.2.2.2.2
  obtain ⟨t1, t2, t3, t4, t5, t6, t7⟩ := hT
  obtain ⟨sa, hsa⟩ := hM.2.2.2.2.2.1 _ hstr
  refine vx_throwSW h.1 h.2.1 (l_st h.2.2.2.2.2.2.2.2.2.1) (names := x_nm) (sa := sa) h.2.2.2.1 t6 t7 (h.2.2.2.2.1 _ t1) (h.2.2.2.2.1 _ t2) hsa (vx_hat (B := x_W) (fun w hw => h.2.2.2.2.1 w (t3 w hw)) t4 (x_us hM.2.2.2.2.2.2.1)) t5 hM.1 hM.2.1 hS (hl.1.trans h.2.2.1.symm) d0 d3 d4 d6 d9 (fun x hx => (hE x hx).elim) (by rw [hR0]; show 2 + 3 < _; omega) (by rw [hR0]; show _ + (13 * (2 + 1) + 43) ≤ _; omega) (by rw [hR0]; exact hm.1) (by rw [hR0]; exact hm.2) h.2.2.2.2.2.2.2.1 (fun t hA hz hk => ⟨j, S, hO, rfl, hP.kept (fun i q hq => hk q.1 ((hP i q hq).lt)), hD, Nat.le_trans hS.1 hz, fun q q1 q2 => (hk q (Nat.lt_of_lt_of_le q1 hS.1)).trans (hS.2.1 q q1 q2)⟩) hS.2.2 h1 h2
end XT
theorem z_R {α : Type} {enc : α → Option Value} {v : α} {S : PH} {y0 : α × PH} {y : (Nat ⊕ α) × PH} (hy : ((.inr y0.1 : Nat ⊕ α), y0.2) = y) (h : ((.inr v : Nat ⊕ α), S) = y) : oQ enc (qN y0) (.inl (enc v)) S := by
  subst h
  obtain ⟨h1, h2⟩ := Prod.mk.inj hy
  exact ⟨v, rfl, by rw [Sum.inr.inj h1], h2.symm⟩
theorem z_no {α : Type} {j : Nat} {S : PH} {y0 : α × PH} {y : (Nat ⊕ α) × PH} {X : Prop} (hy : ((.inr y0.1 : Nat ⊕ α), y0.2) = y) (h : ((.inl j : Nat ⊕ α), S) = y) : X := by
  subst h
  exact absurd (Prod.mk.inj hy).1 (fun z => nomatch z)
