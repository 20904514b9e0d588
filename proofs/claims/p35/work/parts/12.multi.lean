/-! ROWS THAT THE KIT HASN'T: an array of eight arrays of eight whole numbers; a copy out of a static array -/
/-- the outer row of arrays, when i inner ones stand, the first at h + 1 -/
def mu_c (cA : ClassId) (h i : Nat) : Cell := arrV cA 8 (fun j => va_rf (if j < i then some (h + 1 + j) else none))
def mu_n (cC : ClassId) : Cell := arrV cC 8 (fun _ => .int 0)
def mu_s (T : State) (cA cC : ClassId) : Nat → State
  | 0 => T.pushCell (mu_c cA T.heap.size 0)
  | i + 1 => ((mu_s T cA cC i).pushCell (mu_n cC)).setCell T.heap.size (mu_c cA T.heap.size (i + 1))
theorem mu_size (cA : ClassId) (h i : Nat) : (mu_c cA h i).slots.size = 8 := arrV_size _ _ _
theorem mu_nsize (cC : ClassId) : (mu_n cC).slots.size = 8 := arrV_size _ _ _
theorem mu_up (cA : ClassId) (h i : Nat) : (mu_c cA h i).setSlot i (.ref (h + 1 + i)) = mu_c cA h (i + 1) := by
  unfold mu_c Cell.setSlot arrV
  congr 1
  apply Array.ext
  · simp
  · intro j h1 h2
    simp only [Array.size_setIfInBounds, Array.size_ofFn] at h1
    rw [Array.getElem_setIfInBounds (by simpa using h1)]
    simp only [Array.getElem_ofFn]
    by_cases e : i = j
    · subst e
      rw [if_pos rfl, if_pos (by omega)]
      rfl
    · rw [if_neg e]
      by_cases g : j < i
      · rw [if_pos g, if_pos (by omega)]
      · rw [if_neg g, if_neg (by omega)]
theorem mu_facts (T : State) (cA cC : ClassId) : ∀ i, (mu_s T cA cC i).heap.size = T.heap.size + 1 + i ∧ (mu_s T cA cC i).heap[T.heap.size]? = some (mu_c cA T.heap.size i) ∧ (mu_s T cA cC i).vm = T.vm ∧ (mu_s T cA cC i).slotsUsed = T.slotsUsed + 8 + i * 8
  | 0 => ⟨by simp [mu_s], by simp [mu_s], rfl, by simp [mu_s, mu_size]⟩
  | i + 1 => by
    obtain ⟨a, b, c, d⟩ := mu_facts T cA cC i
    have hlt : T.heap.size < (mu_s T cA cC i).heap.size := by omega
    have hb : ((mu_s T cA cC i).pushCell (mu_n cC)).heap[T.heap.size]? = some (mu_c cA T.heap.size i) := by rw [State.heap_pushCell_of_lt (h := hlt)]; exact b
    refine ⟨?_, State.heap_setCell_self hb, by simp [mu_s, c], ?_⟩
    · simp [mu_s, State.setCell, a]; omega
    · simp [mu_s, d, mu_nsize]; omega
theorem mu_top (T : State) (f : JFrame) (cA cC : ClassId) : ∀ i, mu_s (T.setTop f) cA cC i = (mu_s T cA cC i).setTop f
  | 0 => rfl
  | i + 1 => by simp only [mu_s, mu_top T f cA cC i, State.heap_setTop, State.pushCell_setTop, State.setCell_setTop]
theorem mu_old (T : State) (cA cC : ClassId) {q : Nat} (hq : q < T.heap.size) : ∀ i, (mu_s T cA cC i).heap[q]? = T.heap[q]?
  | 0 => State.heap_pushCell_of_lt _ _ hq
  | i + 1 => by
    have f1 := (mu_facts T cA cC i).1
    show (((mu_s T cA cC i).pushCell (mu_n cC)).setCell T.heap.size _).heap[q]? = _
    have hlt : q < (mu_s T cA cC i).heap.size := by omega
    rw [State.heap_setCell_other (Nat.ne_of_gt hq), State.heap_pushCell_of_lt (h := hlt)]
    exact mu_old T cA cC hq i
theorem mu_in (T : State) (cA cC : ClassId) : ∀ i j, j < i → (mu_s T cA cC i).heap[T.heap.size + 1 + j]? = some (mu_n cC)
  | 0, _, h => absurd h (Nat.not_lt_zero _)
  | i + 1, j, h => by
    have f1 := (mu_facts T cA cC i).1
    show (((mu_s T cA cC i).pushCell (mu_n cC)).setCell T.heap.size _).heap[T.heap.size + 1 + j]? = _
    rw [State.heap_setCell_other (show T.heap.size ≠ T.heap.size + 1 + j by omega)]
    rcases Nat.lt_or_ge j i with g | g
    · have hlt : T.heap.size + 1 + j < (mu_s T cA cC i).heap.size := by omega
      rw [State.heap_pushCell_of_lt (h := hlt)]
      exact mu_in T cA cC i j g
    · rw [show T.heap.size + 1 + j = (mu_s T cA cC i).heap.size by omega]
      exact State.heap_pushCell_size _ _
section MU
variable {E : CtlPost} {e : Env} {d : Bool} {acts : List Action} {s : State}
/-- an array of eight, all v -/
theorem mu_new {c comp : ClassId} {k : Class} {ty : FieldType} {v : Value} (hk : s.vm.classes[c]? = some k) (hkd : k.kind = .array comp ty) (hl : ¬ 8 > e.platform.arrayLengthLimit) (hh : ¬ 8 * componentBytes ty > e.platform.maxHeapBytes) (hf : fits ty v = true) (hd : v.isDefault = true) {Q : Addr → Pre} (h1 : s.heap.size < e.platform.maxCells) (h2 : s.slotsUsed + 8 ≤ e.platform.maxSlots) (hq : Q s.heap.size d acts (s.pushCell (arrV c 8 (fun _ => v)))) : wp (Jvm.newArray c 8 v) Q E e d acts s := by
  have hw : ∀ i w, (Array.replicate 8 v)[i]? = some w → s.fitsSlot c .none i w = true := by
    intro i w hw
    rw [Array.getElem?_replicate] at hw
    split at hw
    · cases hw
      simp [State.fitsSlot, State.slotType?, hk, hkd, hf]
    · cases hw
  have ha : allocActs (Array.replicate 8 v) s.heap.size acts = acts := by
    unfold allocActs
    rw [if_pos (by rw [Array.all_replicate]; simp [hd])]
  rw [← arrV_new] at hq
  simp only [Jvm.newArray, Jvm.arrayFits, wp_bind', W.ask, W.ite, hl, if_false, wp_pure', W.theClass, hk, hkd, hh, W.alloc, W.stop, Option.some.injEq, exists_eq_left', Array.size_replicate, ha]
  rw [if_neg (by omega)]
  exact ⟨h1, h2, hw, hq⟩
/-- the model's way of making eight arrays of eight whole numbers -/
theorem mu_make {cA cC c0 : ClassId} {k kc : Class} (hk : s.vm.classes[cA]? = some k) (hkd : k.kind = .array cC (.array .int)) (hkc : s.vm.classes[cC]? = some kc) (hkcd : kc.kind = .array c0 .int) (hl : ¬ 8 > e.platform.arrayLengthLimit) (hh : ¬ 32 > e.platform.maxHeapBytes)
    (hc : s.heap.size + 9 ≤ e.platform.maxCells) (hs : s.slotsUsed + 72 ≤ e.platform.maxSlots) {Q : Addr → Pre} (hq : ∀ d' acts', Q s.heap.size d' acts' (mu_s s cA cC 8)) : wp (Op.multianewarray.make cA [8, 8]) Q E e d acts s := by
  have n8 : (8 : Int32).toNatClampNeg = 8 := by decide
  have g8 : ¬ (8 : Int32) < 0 := by decide
  have hfd : ([(8 : Int32)].find? (· < 0)) = none := by decide
  rw [Op.multianewarray.make]
  simp only [wp_bind', W.ite, g8, if_false, wp_pure', W.theClass, hk, hkd, Option.some.injEq, exists_eq_left', n8]
  refine mu_new hk hkd hl hh rfl rfl (by omega) (by omega) ?_
  simp only [hfd]
  rw [ite_self, wp_bind', Std.Legacy.Range.forIn_eq_forIn_range']
  have hsz : ([:8] : Std.Legacy.Range).size = 8 := by simp [Std.Legacy.Range.size]
  rw [hsz]
  show wp (forIn (List.range' 0 8 1) PUnit.unit _) _ E e d acts _
  refine wp_forIn_inv (fun rest s' => ∃ i, i ≤ 8 ∧ rest = List.range' i (8 - i) ∧ s' = mu_s s cA cC i) _ _ ⟨0, Nat.zero_le _, rfl, ?_⟩ ?_ ?_
  · show s.pushCell _ = s.pushCell _
    congr 1
  · rintro x rest s' d' acts' Q' ⟨i, hi, hr, rfl⟩ hnext
    have hlt : i < 8 := by
      rcases Nat.lt_or_ge i 8 with g | g
      · exact g
      · rw [show 8 - i = 0 by omega] at hr; cases hr
    obtain ⟨rfl, hrest⟩ : x = i ∧ rest = List.range' (i + 1) (8 - (i + 1)) := by
      rw [show 8 - i = (8 - (i + 1)) + 1 by omega, List.range'_succ] at hr
      exact ⟨(List.cons.inj hr).1, (List.cons.inj hr).2⟩
    obtain ⟨f1, f2, f3, f4⟩ := mu_facts s cA cC x
    rw [Op.multianewarray.make]
    simp only [wp_bind', W.ite, g8, if_false, wp_pure', W.theClass, f3, hkc, hkcd, Option.some.injEq, exists_eq_left', n8]
    refine mu_new (by rw [f3]; exact hkc) hkcd hl hh rfl rfl (by omega) (by omega) ?_
    simp only [wp_bind', W.writeLoc, wp_pure']
    have hlt2 : s.heap.size < (mu_s s cA cC x).heap.size := by omega
    refine ⟨mu_c cA s.heap.size x, by rw [State.heap_pushCell_of_lt (h := hlt2)]; exact f2, by simp [mu_c, arrV], by rw [mu_size]; exact hlt, ?_, hnext _ _ _ ⟨x + 1, hlt, hrest, ?_⟩⟩
    · have e1 : (mu_c cA s.heap.size x).cls = cA := rfl
      have e2 : (mu_c cA s.heap.size x).vm = .none := rfl
      rw [e1, e2]
      simp [State.fitsSlot, State.slotType?, f3, hk, hkd]
      rfl
    · rw [f1, mu_up cA]
      rfl
  · rintro s' d' acts' ⟨i, hi, hr, rfl⟩
    have h8 : i = 8 := by
      rcases Nat.lt_or_ge i 8 with g | g
      · rw [show 8 - i = (8 - (i + 1)) + 1 by omega, List.range'_succ] at hr; cases hr
      · omega
    subst h8
    simp only [wp_pure']
    exact hq _ _
end MU
section XM
variable {Z : ZT} {cc : ByteArray} {own : String} {nL : Nat} {R : Room} {S : PH} {k n pc : Nat} {l : List (Nat × Value)} {st : List Value}
theorem mu_stand {p : Program} {lq : Launch} {e : Env} {R : Room} {s : State} {m : MethodId} {args : Array Value} {below : List Frame} {meth : Method} {c : Code} {T : State} {locs : List Loc} {cells slots : Nat} (X : Stand p lq e R s m args below meth c T locs cells slots) (cA cC : ClassId) : ∀ i, Stand p lq e R s m args below meth c (mu_s T cA cC i) locs (cells + 1 + i) (slots + 8 + i * 8)
  | 0 => by
    have h := X.pushed (mu_c cA T.heap.size 0)
    rw [mu_size] at h
    simpa [mu_s] using h
  | i + 1 => by
    have Xi := mu_stand X cA cC i
    obtain ⟨f1, f2, f3, f4⟩ := mu_facts T cA cC i
    have hlt : T.heap.size < (mu_s T cA cC i).heap.size := by omega
    have hcell : ((mu_s T cA cC i).pushCell (mu_n cC)).heap[T.heap.size]? = some (mu_c cA T.heap.size i) := by rw [State.heap_pushCell_of_lt (h := hlt)]; exact f2
    have h := (Xi.pushed (mu_n cC)).stored hcell i (.ref (T.heap.size + 1 + i))
    rw [mu_nsize] at h
    have h2 := h.dropFresh (fun x hx => by
      rw [List.mem_singleton] at hx
      subst hx
      exact X.heapGrown)
    rw [mu_up cA] at h2
    rw [show slots + 8 + (i + 1) * 8 = slots + 8 + i * 8 + 8 by omega]
    exact h2
theorem mu_over {s : State} (h : va_Nw (.arrayOver (.array .int)) s) : ∃ (comp c : ClassId) (k : Class), s.vm.findClass "[I" = some comp ∧ s.vm.classes[c]? = some k ∧ k.kind = .array comp (.array .int) ∧ s.vm.findClass "[[I" = some c := by
  have h : (Cond.arrayOver (.array .int)).holds #[] s none s [] = true := h
  simp only [Cond.holds, Cond.value, beq_iff_eq] at h
  cases hc : s.vm.findClass (FieldType.array .int).toString with
  | none => simp [hc] at h
  | some comp =>
    simp only [hc, Option.bind_some, Option.bind_eq_some_iff, Option.map_eq_some_iff] at h
    obtain ⟨c, hi, k, hk, hb⟩ := h
    obtain ⟨hlt, hp, -⟩ := Array.findIdx?_eq_some_iff_getElem.mp hi
    have hkk : s.vm.classes[c] = k := (Array.getElem?_eq_some_iff.mp hk).2
    rw [hkk] at hp
    cases hkind : k.kind with
    | array component ty =>
      rw [hkind] at hb hp
      simp at hb hp
      exact ⟨comp, c, k, hc, hk, by rw [hkind, hp, hb.1], hb.2⟩
    | _ => rw [hkind] at hb; simp at hb
/-- what stands in the pool when i inner arrays are made -/
theorem mi_facts (S : PH) (q : Nat) : ∀ i, p_L (s_Mi S q (fun j => q + 1 + j) i) = p_L S ++ List.range' q (i + 1) ∧ (∀ a, a < q → p_K (s_Mi S q (fun j => q + 1 + j) i) a = p_K S a ∧ p_N (s_Mi S q (fun j => q + 1 + j) i) a = p_N S a ∧ p_I (s_Mi S q (fun j => q + 1 + j) i) a = p_I S a ∧ p_R (s_Mi S q (fun j => q + 1 + j) i) a = p_R S a ∧ p_J (s_Mi S q (fun j => q + 1 + j) i) a = p_J S a ∧ p_E (s_Mi S q (fun j => q + 1 + j) i) a = p_E S a) ∧ (p_K (s_Mi S q (fun j => q + 1 + j) i) q = 9 ∧ p_N (s_Mi S q (fun j => q + 1 + j) i) q = 8 ∧ p_R (s_Mi S q (fun j => q + 1 + j) i) q = fun j => if j < i then some (q + 1 + j) else none) ∧ (∀ j, j < i → p_K (s_Mi S q (fun j => q + 1 + j) i) (q + 1 + j) = 6 ∧ p_N (s_Mi S q (fun j => q + 1 + j) i) (q + 1 + j) = 8 ∧ p_I (s_Mi S q (fun j => q + 1 + j) i) (q + 1 + j) = fun _ => 0)
  | 0 => by
    refine ⟨rfl, fun a ha => ?_, ⟨s_NK _ _ _ _, s_NN _ _ _ _, ?_⟩, fun j hj => absurd hj (Nat.not_lt_zero _)⟩
    · have hne : a ≠ q := Nat.ne_of_lt ha
      exact ⟨va_up_ne _ _ hne, va_up_ne _ _ hne, u_r_ne hne, u_r_ne hne, u_r_ne hne, u_r_ne hne⟩
    · show p_R (s_N S q 9 8) q = _
      rw [s_NR]
      funext j
      rw [if_neg (Nat.not_lt_zero j)]
  | i + 1 => by
    obtain ⟨f1, f2, ⟨f3, f4, f5⟩, f6⟩ := mi_facts S q i
    have hq : q ≠ q + 1 + i := by omega
    refine ⟨?_, fun a ha => ?_, ⟨?_, ?_, ?_⟩, fun j hj => ?_⟩
    · show p_L (s_Mi S q (fun j => q + 1 + j) i) ++ [q + 1 + i] = _
      rw [f1, List.append_assoc]
      congr 1
      have h9 : List.range' q (i + 1 + 1) = List.range' q (i + 1) ++ [q + 1 * (i + 1)] := List.range'_concat
      rw [h9]
      congr 2
      omega
    · obtain ⟨g1, g2, g3, g4, g5, g6⟩ := f2 a ha
      have h1 : a ≠ q := Nat.ne_of_lt ha
      have h2 : a ≠ q + 1 + i := by omega
      refine ⟨(va_up_ne _ _ h2).trans g1, (va_up_ne _ _ h2).trans g2, (u_r_ne h2).trans g3, ?_, (u_r_ne h2).trans g5, (u_r_ne h2).trans g6⟩
      exact (u_2_ne h1).trans ((u_r_ne h2).trans g4)
    · exact (va_up_ne _ _ hq).trans f3
    · exact (va_up_ne _ _ hq).trans f4
    · show u_2 (p_R (s_N (s_Mi S q (fun j => q + 1 + j) i) (q + 1 + i) 6 8)) q i (some (q + 1 + i)) q = _
      have h9 : p_R (s_N (s_Mi S q (fun j => q + 1 + j) i) (q + 1 + i) 6 8) q = _ := (u_r_ne hq).trans f5
      funext j
      show (if q = q ∧ j = i then some (q + 1 + i) else p_R (s_N (s_Mi S q (fun j => q + 1 + j) i) (q + 1 + i) 6 8) q j) = _
      rw [h9]
      by_cases e : j = i
      · subst e
        rw [if_pos ⟨rfl, rfl⟩, if_pos (by omega)]
      · rw [if_neg (fun z => e z.2)]
        show (if j < i then some (q + 1 + j) else none) = _
        by_cases g : j < i
        · rw [if_pos g, if_pos (by omega)]
        · rw [if_neg g, if_neg (by omega)]
    · rcases Nat.lt_or_ge j i with g | g
      · obtain ⟨g1, g2, g3⟩ := f6 j g
        have h2 : q + 1 + j ≠ q + 1 + i := by omega
        exact ⟨(va_up_ne _ _ h2).trans g1, (va_up_ne _ _ h2).trans g2, (u_r_ne h2).trans g3⟩
      · have e : j = i := by omega
        subst e
        exact ⟨s_NK (s_Mi S q (fun j => q + 1 + j) j) (q + 1 + j) 6 8, s_NN (s_Mi S q (fun j => q + 1 + j) j) (q + 1 + j) 6 8, s_NI (s_Mi S q (fun j => q + 1 + j) j) (q + 1 + j) 6 8⟩
theorem x_multi (h : CX Z cc own nL R) {i : Nat} (hw : Cond.classLink own i "[[I" ∈ w_G) (hov : Cond.arrayOver (.array .int) ∈ x_W) (h1 : k + 9 ≤ R.cells) (h2 : n + 72 ≤ R.slots) (d : decode cc pc = .ok (.multianewarray i 2, 4)) {f : Nat → PH → Prop} (hf : wmul S f) (kk : ∀ q S', f q S' → PX Z nL S' (k + 9) (n + 72) (pc + 4) l (va_rf (some q) :: st)) : PX Z nL S k n pc l (.int 8 :: .int 8 :: st) := by
  obtain ⟨p, lq, e, R0, s, m, args, below, meth, c, D, C, A, Q⟩ := Z
  intro H locs ls hP hD hS hl
  have hR : R0 = R := h.2.2.2.2.2.2.2.2.1
  have hM := h.2.2.2.2.2.2.2.2.2.2
  have hA := h.2.2.2.2.2.2.1
  obtain ⟨comp, cA, kA, e1, e2, e3, e4⟩ := mu_over (hM.2.2.2.2.2.2.1 _ hov)
  have hA3 : s.vm.findClass "[[I" = some (C 3) := (h.2.2.2.2.2.1.2 3 (C 3, .array .int) rfl).2
  have hA0 : s.vm.findClass "[I" = some (C 0) := (h.2.2.2.2.2.1.2 0 (C 0, .int) rfl).2
  cases Option.some.inj (e4.symm.trans hA3)
  cases Option.some.inj (e1.symm.trans hA0)
  obtain ⟨-, kC, hkC, c0, hkCk⟩ := (h.2.2.2.2.2.1.2 0 (C 0, .int) rfl).1 8 (fun _ => .int 0)
  have hlo : ∀ a, a ∈ p_L S → a < H.size := fun a ha => by
    obtain ⟨z, hz⟩ := w_get (C := C) ha
    exact (hP z _ hz).lt
  obtain ⟨f1, f2, ⟨f3, f4, f5⟩, f6⟩ := mi_facts S H.size 8
  have hfq := hf H.size (fun j => H.size + 1 + j) (fun q => absurd (hlo _ q) (Nat.lt_irrefl _)) (fun i hi q => by
    rw [(mi_facts S H.size i).1] at q
    rcases List.mem_append.mp q with q | q
    · have := hlo _ q; omega
    · have := (List.mem_range'_1.mp q); omega)
  intro T hT X
  have hpl : e.platform.magicAccessors = ({} : Platform).magicAccessors := by rw [X.admits.platform]
  obtain ⟨c9, hf9, hcl⟩ := Cond.classLink_spec h.2.2.2.1 (h.2.2.2.2.1 _ hw) e.platform hpl
  cases Option.some.inj (hf9.symm.trans hA3)
  obtain ⟨hg1, hwarm, hready⟩ := State.classEntry (e := e) X.warmed hcl
  generalize T.vm.noted m.cls i (.cls (C 3)) = vm₁ at hg1 hwarm hready
  have hal : s.vm.Alike vm₁ := hwarm.alike
  obtain ⟨kA1, hkA1, heA⟩ := hal.2.2 _ _ e2
  obtain ⟨kC1, hkC1, heC⟩ := hal.2.2 _ _ hkC
  have hkA2 : kA1.kind = .array (C 0) (.array .int) := by rw [heA]; exact e3
  have hkC2 : kC1.kind = .array c0 .int := by rw [heC]; exact hkCk
  have X1 := X.noted hwarm
  have X2 := mu_stand X1 (C 3) (C 0) 8
  obtain ⟨hr1, hr2⟩ := X.roomAbove (show k + 9 ≤ R0.cells by rw [hR]; exact h1) (show n + 72 ≤ R0.slots by rw [hR]; exact h2)
  have hsz : (T.setVm vm₁).heap.size = H.size := by rw [← hT]; rfl
  have hold : ∀ a, a < H.size → (mu_s (T.setVm vm₁) (C 3) (C 0) 8).heap[a]? = H[a]? := fun a ha => by
    rw [mu_old (T.setVm vm₁) (C 3) (C 0) (by rw [hsz]; exact ha)]
    rw [← hT]; rfl
  have hout : (mu_s (T.setVm vm₁) (C 3) (C 0) 8).heap[H.size]? = some (mu_c (C 3) H.size 8) := by
    have := (mu_facts (T.setVm vm₁) (C 3) (C 0) 8).2.1
    rw [hsz] at this
    exact this
  have hinn : ∀ j, j < 8 → (mu_s (T.setVm vm₁) (C 3) (C 0) 8).heap[H.size + 1 + j]? = some (mu_n (C 0)) := fun j hj => by
    have := mu_in (T.setVm vm₁) (C 3) (C 0) 8 j hj
    rw [hsz] at this
    exact this
  have hP' : va_P D vwCl (w_P C (s_Mi S H.size (fun j => H.size + 1 + j) 8)) (mu_s (T.setVm vm₁) (C 3) (C 0) 8).heap := by
    intro z x hx
    obtain ⟨a, ha, rfl⟩ := List.mem_map.mp (List.mem_of_getElem? hx)
    rw [f1] at ha
    rcases List.mem_append.mp ha with ha | ha
    · obtain ⟨g1, g2, g3, g4, g5, g6⟩ := f2 a (hlo a ha)
      rw [c_F_eq g1 g2 g3 g4 g5 g6]
      obtain ⟨z2, hz2⟩ := w_get (C := C) ha
      exact hP.kept (fun i q hq => hold q.1 ((hP i q hq).lt)) z2 _ hz2
    · have ha := List.mem_range'_1.mp ha
      by_cases g : a = H.size
      · subst g
        rw [c_9 f3]
        show _ = some (vp_cell _ _)
        rw [hout, f4, f5]
        rfl
      · obtain ⟨j, rfl⟩ : ∃ j, a = H.size + 1 + j := ⟨a - H.size - 1, by omega⟩
        obtain ⟨g1, g2, g3⟩ := f6 j (by omega)
        rw [c_6 g1]
        show _ = some (vp_cell _ _)
        rw [hinn j (by omega), g2, g3]
        rfl
  have hD' : va_D A (w_P C (s_Mi S H.size (fun j => H.size + 1 + j) 8)) := by
    have hget : ∀ z x, (w_P C (s_Mi S H.size (fun j => H.size + 1 + j) 8))[z]? = some x → (z < (p_L S).length ∧ ∃ x' : Nat × va_E, (w_P C S)[z]? = some x' ∧ x'.1 = x.1) ∨ ((p_L S).length ≤ z ∧ x.1 = H.size + (z - (p_L S).length)) := by
      intro z x hx
      have hx2 : (p_L (s_Mi S H.size (fun j => H.size + 1 + j) 8))[z]? = some x.1 := by
        have h9 : ((p_L (s_Mi S H.size (fun j => H.size + 1 + j) 8)).map (fun a => (a, c_F C (s_Mi S H.size (fun j => H.size + 1 + j) 8) a)))[z]? = some x := hx
        rw [List.getElem?_map] at h9
        obtain ⟨a, ha, rfl⟩ := Option.map_eq_some_iff.mp h9
        exact ha
      rw [f1] at hx2
      rcases Nat.lt_or_ge z (p_L S).length with g | g
      · rw [List.getElem?_append_left g] at hx2
        refine Or.inl ⟨g, (x.1, c_F C S x.1), ?_, rfl⟩
        show ((p_L S).map _)[z]? = _
        rw [List.getElem?_map, hx2]
        rfl
      · rw [List.getElem?_append_right g, List.getElem?_range'] at hx2
        · refine Or.inr ⟨g, ?_⟩
          have := Option.some.inj hx2
          omega
        · have := (List.getElem?_eq_some_iff.mp hx2).1
          simpa using this
    constructor
    · intro i j x y hx hy hxy
      rcases hget i x hx with ⟨g1, x', g2, g3⟩ | ⟨g1, g2⟩ <;> rcases hget j y hy with ⟨k1, y', k2, k3⟩ | ⟨k1, k2⟩
      · exact hD.1 i j x' y' g2 k2 (by rw [g3, k3, hxy])
      · have := (hP i x' g2).lt
        omega
      · have := (hP j y' k2).lt
        omega
      · omega
    · intro z x hx
      rcases hget z x hx with ⟨g1, x', g2, g3⟩ | ⟨g1, g2⟩
      · rw [← g3]; exact hD.2 z x' g2
      · rw [g2]; exact hA _ (by have := hS.1; omega)
  have hS' : va_S A s.heap (mu_s (T.setVm vm₁) (C 3) (C 0) 8).heap locs := by
    refine ⟨?_, fun q q1 q2 => ?_, hS.2.2⟩
    · rw [(mu_facts (T.setVm vm₁) (C 3) (C 0) 8).1, hsz]
      have := hS.1
      omega
    · rw [hold q (Nat.lt_of_lt_of_le q1 hS.1)]
      exact hS.2.1 q q1 q2
  obtain ⟨t9, a1, b1⟩ := kk H.size _ hfq _ locs ls hP' hD' hS' hl (mu_s (T.setVm vm₁) (C 3) (C 0) 8) rfl X2
  refine ⟨t9, ?_, b1⟩
  have hexec := h.1
  have hdg : decode c.code pc = .ok (.multianewarray i 2, 4) := by rw [h.2.1]; exact d
  have hl1 : ¬ 8 > e.platform.arrayLengthLimit := by rw [Launch.admits_arrayLengthLimit X.admits]; omega
  have hh1 : ¬ 32 > e.platform.maxHeapBytes := by rw [Launch.admits_maxHeapBytes X.admits]; omega
  jvm_step X.here [hexec, hdg]
  simp only [Op.multianewarray.sem, wp_bind', W.resolveClassAt_links (State.method?_setTop (F0 m pc ls (.int 8 :: .int 8 :: st)) X.here.top) hg1]
  rw [W.popN, if_neg (by decide)]
  refine ⟨F0 m pc ls (.int 8 :: .int 8 :: st), State.topJava?_setTop' (s := T.setVm vm₁) (F0 m pc ls (.int 8 :: .int 8 :: st)) X.here.top, [.int 8, .int 8], st, rfl, rfl, ?_⟩
  simp only [List.mapM_cons, List.mapM_nil, wp_bind', wp_pure']
  refine mu_make (k := kA1) (kc := kC1) (cC := C 0) (c0 := c0) hkA1 hkA2 hkC1 hkC2 hl1 hh1 (by show T.heap.size + 9 ≤ _; omega) (by show T.slotsUsed + 72 ≤ _; omega) (fun d' acts' => ?_)
  have eS : ((T.setTop (F0 m pc ls (.int 8 :: .int 8 :: st))).setVm vm₁).setTop (F0 m pc ls st) = (T.setVm vm₁).setTop (F0 m pc ls st) := by
    show ((T.setVm vm₁).setTop (F0 m pc ls (.int 8 :: .int 8 :: st))).setTop _ = _
    rw [State.setTop_setTop]
  rw [eS, mu_top]
  simp only [wp_bind', W.mark, W.pushRef, State.topJava?_setTop' _ X2.here.top, Option.some.injEq, exists_eq_left', State.setTop_setTop, State.heap_setTop]
  intro acts
  simp [jvm, X2.here.top]
  rw [hT]
  exact a1
theorem x_copyT (h : CX Z cc own nL R) {i a t : Nat} {r : Option Nat} {vs : List Int32} (hw1 : Cond.methodLink own i arraycopyName ∈ w_G) (hw2 : Cond.native arraycopyName ∈ w_G) (hw3 : Cond.static arraycopyName ∈ w_G) (hw4 : Cond.initialized "java/lang/System" ∈ w_G) (ht : ST Z t vs) (e1 : r = some a) (ha : a ∈ p_L S ∧ p_K S a = 6) {sp dp z : Int32} (h1 : ¬ sp < 0) (h2 : ¬ dp < 0) (h3 : ¬ z < 0) (h4 : sp.toNatClampNeg + z.toNatClampNeg ≤ 4) (h5 : dp.toNatClampNeg + z.toNatClampNeg ≤ p_N S a) (hst : st.length ≤ 4) (hRf : 1 ≤ R.frames) (hRl : 8 + (nativeFrameWords "java/lang/System" "arraycopy" 5 + 11) ≤ R.locals) (d : decode cc pc = .ok (.invokestatic i, 3)) (kk : PX Z nL (s_W S a (va_cpy (fun j => List.getD vs j 0) (p_I S a) sp.toNatClampNeg dp.toNatClampNeg z.toNatClampNeg)) k n (pc + 3) l st) : PX Z nL S k n pc l (.int z :: .int dp :: va_rf r :: .int sp :: .ref t :: st) := by
  obtain ⟨p, lq, e, R0, s, m, args, below, meth, c, D, C, A, Q⟩ := Z
  subst e1
  intro H locs ls hP hD hS hl
  have hR : R0 = R := h.2.2.2.2.2.2.2.2.1
  have hcat := v_cat st
  have nn : ∀ w : Int32, ¬ w < 0 → w.toInt = (w.toNatClampNeg : Int) := by
    intro w hw
    have hw0 : (0 : Int) ≤ w.toInt := by
      have := Int32.not_lt.mp hw
      simpa using Int32.le_iff_toInt_le.mp this
    show w.toInt = ((w.toInt.toNat : Nat) : Int)
    omega
  generalize hF : va_cpy (fun j => List.getD vs j 0) (p_I S a) sp.toNatClampNeg dp.toNatClampNeg z.toNatClampNeg = F at kk
  obtain ⟨q, hq0⟩ := w_get (C := C) ha.1
  have hq : (w_P C S)[q]? = some (a, .inl (C 0, p_N S a, .inl (p_I S a))) := hq0.trans (by rw [c_6 ha.2])
  have hW := w_set (S' := s_W S a F) (C := C) hD ha.1 hq0 rfl (c_6 (S := s_W S a F) ha.2) (fun b hb => c_F_eq rfl rfl (u_r_ne hb) rfl rfl rfl)
  have hu : F = p_I (s_W S a F) a := by
    show _ = u_r _ a _ a
    rw [u_r_self]
  have hW : (w_P C S).set q (a, .inl (C 0, p_N S a, .inl F)) = w_P C (s_W S a F) := by rw [← hu] at hW; exact hW
  obtain ⟨cell, g1, g2, g3, g4, -, g6, g7⟩ := ht
  obtain ⟨g5, k0, hk0, cm0, hkk0⟩ := g2
  obtain ⟨-, k1, hk1, cm1, hkk1⟩ := (h.2.2.2.2.2.1.2 0 (C 0, .int) rfl).1 (p_N S a) (fun j => .int (p_I S a j))
  have hc0 : H[t]? = some cell := by rw [hS.2.1 t (Array.getElem?_eq_some_iff.mp g1).1 g7]; exact g1
  have hc1 : H[a]? = some (vp_cell (C 0) (p_N S a, .inl (p_I S a))) := hP q _ hq
  intro T hT X
  obtain ⟨vm', X', step⟩ := X.arraycopy h.1 h.2.2.2.1 (h.2.2.2.2.1 _ hw1) (h.2.2.2.2.1 _ hw2) (h.2.2.2.2.1 _ hw3) (h.2.2.2.2.1 _ hw4) (src := t) (dst := a) (cs := cell) (cd := vp_cell (C 0) (p_N S a, .inl (p_I S a))) (srcPos := sp) (destPos := dp) (n := z) (by rw [hT]; exact hc0) (by rw [hT]; exact hc1)
    g5 (fun _ q => by cases q) g3 (fun q => by cases q) hk0 hk1 hkk0 hkk1 (by simp [refKind]) h1 h2 h3
    (by rw [nn sp h1, nn z h3]; omega)
    (by rw [nn dp h2, nn z h3]; show ¬ _ > ((arrV (C 0) (p_N S a) (fun j => .int (p_I S a j))).slots.size : Int); rw [arrV_size]; omega)
    (fun vm₁ _ i hi => by
      have e9 : cell.slots.getD (sp.toNatClampNeg + i) .null = .int (List.getD vs (sp.toNatClampNeg + i) 0) := by
        rw [Array.getD_eq_getD_getElem?, g6 _ (by omega)]
        rfl
      rw [e9]
      exact ⟨rfl, trivial⟩)
    (g := F0 m pc ls (.int z :: .int dp :: .ref a :: .int sp :: .ref t :: st)) rfl (by rw [h.2.2.1]; exact hl.1) (rest := st) rfl (by rw [h.2.1]; exact d) (by rw [hR]; exact hRf) (by rw [hR]; show 2 * 0 + _ + _ ≤ _; omega)
  have e9 : copied cell (vp_cell (C 0) (p_N S a, .inl (p_I S a))) sp dp z = vp_cell (C 0) (p_N S a, .inl F) := by rw [← hF]; exact va_copiedX (fun w => .int w) cell (C 0) (fun j => List.getD vs j 0) (p_I S a) g6 h4
  rw [e9] at X' step
  have hlt : a < H.size := (Array.getElem?_eq_some_iff.mp hc1).1
  generalize hnew : vp_cell (C 0) (p_N S a, .inl F) = new at X' step
  have hheap : ((T.setVm vm').setCell a new).heap = H.setIfInBounds a new := by rw [← hT]; rfl
  have oq : ∀ q : Nat, q ≠ a → (H.setIfInBounds a new)[q]? = H[q]? := fun q hq => by simp [Array.getElem?_setIfInBounds, Ne.symm hq]
  have hP1 := hP.set (e := .inl (C 0, p_N S a, .inl F)) hD hq (show (H.setIfInBounds a new)[a]? = some (vp_cell (C 0) (p_N S a, .inl F)) by rw [hnew]; simp [Array.getElem?_setIfInBounds, hlt]) oq
  have hD1 := hD.set (e := .inl (C 0, p_N S a, .inl F)) hq
  rw [hW] at hP1 hD1
  obtain ⟨t9, a1, b1⟩ := kk _ _ ls hP1 hD1 ⟨by simp; exact hS.1, fun q g1 g2 => by
      rw [oq q (fun e => g2 (by rw [e]; exact hD.2 _ _ hq))]
      exact hS.2.1 q g1 g2, fun q9 hq9 => by
      rcases List.mem_append.mp hq9 with g | g
      · exact hS.2.2 q9 g
      · obtain ⟨z9, -, hz⟩ := List.mem_map.mp g
        rw [← hz]
        exact hD.2 _ _ hq⟩ hl _ hheap X'
  exact ⟨t9, step t9 a1, b1⟩
end XM
