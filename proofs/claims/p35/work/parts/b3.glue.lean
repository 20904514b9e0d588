/-! THE WALK AND THE PURE SIDE TOGETHER -/
theorem law_loop {Z : ZT} {b L : Nat} {xs : Nat → Int32} (hC : CX Z cL_law RL 18 room_1) (hX : SX Z b L xs) (hEnd : EL Z) (hL : L ≤ 260) {x : Nat} : ∀ (n t : Nat), t + n = 40 → ∀ S, LX x t S → PX Z 18 S (121 + 200 * t) (1024 + 1600 * t) 97 [(0, va_rf (some b)), (1, va_rf (some x)), (3, .int 1), (4, .int (nI t))] [] := by
  intro n
  induction n with
  | zero =>
    intro t ht S hS
    have e : t = 40 := by omega
    subst e
    exact wk_law_round hC hX hEnd (by omega) (by omega) (some x) 1 (nI 40) S (fun _ _ _ _ => False) (fun _ _ _ _ h => h.elim) (r_last hS)
  | succ n ih =>
    intro t ht S hS
    refine wk_law_round (k0 := 121 + 200 * t) (n0 := 1024 + 1600 * t) hC hX hEnd (by omega) (by omega) (some x) 1 (nI t) S (fun r1 i3 i4 T => r1 = some x ∧ i3 = 1 ∧ i4 = nI (t + 1) ∧ LX x (t + 1) T) (fun r1 i3 i4 T h => ?_) (r_round hS hL (by omega) (fun T hT => ⟨rfl, rfl, rfl, hT⟩))
    obtain ⟨rfl, rfl, rfl, hT⟩ := h
    have h1 := ih (t + 1) (by omega) T hT
    rw [show 121 + 200 * (t + 1) = 121 + 200 * t + 200 by omega, show 1024 + 1600 * (t + 1) = 1024 + 1600 * t + 1600 by omega] at h1
    exact h1
theorem law_all {Z : ZT} {b L : Nat} {xs : Nat → Int32} (hC : CX Z cL_law RL 18 room_1) (hX : SX Z b L xs) (hEnd : EL Z) (hL : L ≤ 260) (S0 : PH) : PX Z 18 S0 0 0 0 [(0, va_rf (some b))] [] := by
  refine wk_law_start hC hX hEnd S0 (fun r1 i3 i4 S => ∃ x, r1 = some x ∧ i3 = 1 ∧ i4 = nI 0 ∧ LX x 0 S) (fun r1 i3 i4 S h => ?_) (start_law hL (fun x S h => ⟨x, rfl, rfl, rfl, h⟩))
  obtain ⟨x, rfl, rfl, rfl, hS⟩ := h
  exact law_loop hC hX hEnd hL 40 0 rfl S hS
/-! what the tables say -/
def g_ok (w : Cond) : Bool := match w with
  | .arrayOver _ => true
  | w => w.onTables
theorem g_tab : ∀ w ∈ x_W, w ∈ lw_tbl ∧ g_ok w = true := by decide +kernel
theorem g_nw {w : Cond} {args : Array Value} {s : State} (hk : g_ok w = true) (h : w.before args s = true) : va_Nw w s := by
  unfold g_ok at hk
  split at hk
  · exact h
  · exact va_Nw.of hk h
theorem g_str : ∀ q ∈ x_T, Cond.stringRef q.1 q.2.1 q.2.2 ∈ lw_tbl := by decide +kernel
def g_gv : List Cond := flatC (Jvm.Cond.and given_1 narrow_1)
theorem g_exa : ∀ q ∈ x_T, Cond.exactly (.string q.1 q.2.1) "java/lang/String" ∈ g_gv := by decide +kernel
def g_TT : List (String × List Int32) := [("FIRST_VALUES", [3, 1, 4, 1]), ("LEAST_VALUES", [1, 0, 0, 0]), ("GREATEST_VALUES", [4, 2, 9, 3])]
theorem g_sta : ∀ q ∈ g_TT, Cond.arrayOf (.static RX4 q.1 "[I") .int ∈ g_gv ∧ Cond.eq (.length (.static RX4 q.1 "[I")) (.int (Int32.ofNat 4)) ∈ g_gv ∧ (∀ j ∈ List.range 4, Cond.eq (.elem (.static RX4 q.1 "[I") (.int (Int32.ofNat j))) (.int (q.2.getD j 0)) ∈ g_gv) ∧ Cond.laysStatic RX4 q.1 "[I" ∈ lw_tbl ∧ Cond.initialized RX4 ∈ lw_tbl := by decide +kernel
theorem g_thr : Cond.isRef (.static Bundle.tN "UNASSIGNED_STACK" Bundle.steD) ∈ g_gv ∧ Cond.isRef (.static Bundle.tN "SUPPRESSED_SENTINEL" Bundle.listD) ∈ g_gv ∧ Cond.laysStatic Bundle.tN "UNASSIGNED_STACK" Bundle.steD ∈ lw_tbl ∧ Cond.laysStatic Bundle.tN "SUPPRESSED_SENTINEL" Bundle.listD ∈ lw_tbl ∧ Cond.initialized Bundle.tN ∈ lw_tbl := by decide +kernel
theorem g_ins : Cond.instantiable RX0 3 ∈ lw_tbl ∧ Cond.instantiable RX1 8 ∈ lw_tbl ∧ Cond.instantiable RX2 17 ∈ lw_tbl ∧ Cond.instantiable RX3 2 ∈ lw_tbl ∧ Cond.instantiable RX4 6 ∈ lw_tbl := by decide +kernel
theorem g_arr : Cond.arrayClass .int ∈ lw_tbl ∧ Cond.arrayOver (.object RX2) ∈ x_W ∧ Cond.arrayOver (.array .int) ∈ x_W := by decide +kernel
theorem g_prim {s : State} {args : Array Value} {ty : FieldType} (h : (Cond.arrayClass ty).before args s = true) : ∃ c, ArrOfT s c ty ∧ s.vm.findClass ("[" ++ ty.toString) = some c := by
  obtain ⟨c, k, comp, f1, f2, f3⟩ := Cond.arrayClass_spec (args := args) (first := s) (o := none) (s := s) (idx := []) h
  exact ⟨c, fun n z => ⟨fun k h => (by cases h), k, f2, comp, f3⟩, f1⟩
theorem g_aT {s : State} {args : Array Value} {A : Nat → Prop} (hts : ∀ w ∈ lw_tbl, w.before args s = true) (hs : ∀ w ∈ g_gv, w.before args s = true) (hA : ∀ a : Nat, a < s.heap.size → ¬ A a) (q : String × List Int32) (hq : q ∈ g_TT) : a_T q.1 q.2 A s s.heap := by
  obtain ⟨h1, h2, h3, h4, h5⟩ := g_sta q hq
  obtain ⟨t, ht, hT⟩ := va_Tof (N := 4) (f := fun j => .int (q.2.getD j 0)) (A := A) (by decide) (hs _ h1) (va_eqt (hs _ h2)) (fun j hj => va_eqt (hs _ (h3 j (List.mem_range.mpr hj)))) hA
  exact ⟨t, va_Zref (hts _ h4) (hts _ h5) ht hA, hT⟩
theorem g_aM {s : State} {args : Array Value} {A : Nat → Prop} (hts : ∀ w ∈ lw_tbl, w.before args s = true) (hs : ∀ w ∈ g_gv, w.before args s = true) (hA : ∀ a : Nat, a < s.heap.size → ¬ A a) : a_M A s s.heap := by
  obtain ⟨t1, t2, t3, t4, t5⟩ := g_thr
  refine ⟨vx_Zqof (hts _ t3) (hts _ t5) (hs _ t1) hA, vx_Zqof (hts _ t4) (hts _ t5) (hs _ t2) hA, g_aT hts hs hA ("FIRST_VALUES", [3, 1, 4, 1]) (by simp [g_TT]), g_aT hts hs hA ("LEAST_VALUES", [1, 0, 0, 0]) (by simp [g_TT]), g_aT hts hs hA ("GREATEST_VALUES", [4, 2, 9, 3]) (by simp [g_TT]), fun q hq => ?_, fun w hw => g_nw (g_tab w hw).2 (hts w (g_tab w hw).1), trivial⟩
  obtain ⟨a, c, cA, kA, q1, -⟩ := Cond.exactly_spec (args := args) (first := s) (o := none) (s := s) (idx := []) (hs _ (g_exa q hq))
  exact ⟨a, vk_R.of (hts _ (g_str q hq)) q1⟩
theorem g_K {s : State} {args : Array Value} (hts : ∀ w ∈ lw_tbl, w.before args s = true) : ∃ (D : va_G) (C : Nat → ClassId), va_K D vwCl (t_C C) s := by
  have hw : ∀ {l : List Cond}, (∀ w ∈ l, w ∈ w_G) → ∀ w ∈ l, w ∈ lw_tbl := fun h w k => (List.mem_filter.mp (h w k)).1
  obtain ⟨n0, n1, n2, n3, n4⟩ := g_ins
  obtain ⟨c0, i0, k0⟩ := u_known (C := RX0) (T := TX0) (N := 3) hts (hw kf_0.2.1) (hts _ n0)
  obtain ⟨c1, i1, k1⟩ := u_known (C := RX1) (T := TX1) (N := 8) hts (hw kf_1.2.1) (hts _ n1)
  obtain ⟨c2, i2, k2⟩ := u_known (C := RX2) (T := TX2) (N := 17) hts (hw kf_2.2.1) (hts _ n2)
  obtain ⟨c3, i3, k3⟩ := u_known (C := RX3) (T := TX3) (N := 2) hts (hw kf_3.2.1) (hts _ n3)
  obtain ⟨c4, i4, k4⟩ := u_known (C := RX4) (T := TX4) (N := 6) hts (hw kf_4.2.1) (hts _ n4)
  obtain ⟨a1, a5, a6⟩ := g_arr
  obtain ⟨d0, e0, f0⟩ := g_prim (hts _ a1)
  obtain ⟨comp, d2, kk, p1, p2, p3, p4, p5⟩ := Cond.arrayOver_spec (args := args) (first := s) (o := none) (s := s) (idx := []) (hts _ (g_tab _ a5).1)
  obtain ⟨comp3, d3, kk3, r1, r2, r3, r4⟩ := mu_over (g_nw (g_tab _ a6).2 (hts _ (g_tab _ a6).1))
  refine ⟨(fun k => [c0, c1, c2, c3, c4].getD k c0, fun k => [i0, i1, i2, i3, i4].getD k i0), fun k => [d0, d0, d2, d3, d0, d0].getD k d0, ?_, ?_⟩
  · intro k q hq
    match k, hq with
    | 0, hq => cases hq; exact k0
    | 1, hq => cases hq; exact k1
    | 2, hq => cases hq; exact k2
    | 3, hq => cases hq; exact k3
    | 4, hq => cases hq; exact k4
    | k + 5, hq => simp [vwCl] at hq
  · intro k q hq
    match k, hq with
    | 0, hq => cases hq; exact ⟨e0, f0⟩
    | 1, hq => cases hq; exact ⟨e0, f0⟩
    | 2, hq => cases hq; exact ⟨fun n z => ⟨fun k h => (by cases h), kk, p3, comp, p4⟩, kk, comp, p3, p4, p1, p5⟩
    | 3, hq => cases hq; exact ⟨fun n z => ⟨fun k h => (by cases h), kk3, r2, comp3, r3⟩, r4⟩
    | 4, hq => cases hq; exact ⟨e0, f0⟩
    | 5, hq => cases hq; exact ⟨e0, f0⟩
    | k + 6, hq => simp [t_C] at hq
def S00 : PH := ([], fun _ => 0, fun _ => 0, fun _ _ => 0, fun _ _ => none, fun _ _ => 0, fun _ _ => 0)
/-- from the entry, for every script of at most 260 ints, the law comes to its end with true -/
theorem whole_start {p : Program} {e : Env} {s : State} {m : MethodId} {below : List Frame} {meth : Method} {c : Code} (l : Launch) (hflags : l.flags = flags0) {b L : Nat} {xs : Nat → Int32} (hL : L ≤ 260) (C0 : lw_At p s m meth c b L xs) : W p l e room_1 s m #[Value.ref b] below meth c s.heap [] 0 0 (lw_Z below #[Value.ref b] s) (entryFrame m ([Value.ref b] : List Value).toArray 18) := by
  obtain ⟨hx, hb, hr, hml, hown, hts, hX, hbl, hlocks, hgv⟩ := id C0
  have hs : ∀ w ∈ g_gv, w.before #[Value.ref b] s = true := flat_of_before (Jvm.Cond.and given_1 narrow_1) hgv
  have hA : ∀ q : Nat, s.heap.size ≤ q → (fun q : Nat => s.heap.size ≤ q) q := fun _ h => h
  have hnA : ∀ a : Nat, a < s.heap.size → ¬ (fun q : Nat => s.heap.size ≤ q) a := fun a h => Nat.not_le.mpr h
  obtain ⟨D, C, hK⟩ := g_K hts
  have hM := g_aM hts hs hnA
  have hS : va_S (fun q : Nat => s.heap.size ≤ q) s.heap s.heap [] := va_S.rf
  have hP : va_P D vwCl (w_P C S00) s.heap := fun k q h => by
    have h : ([] : va_W)[k]? = some q := h
    simp at h
  have hD : va_D (fun q : Nat => s.heap.size ≤ q) (w_P C S00) := ⟨fun i j p q h => by
    have h : ([] : va_W)[i]? = some p := h
    simp at h, fun k q h => by
    have h : ([] : va_W)[k]? = some q := h
    simp at h⟩
  have hl := lv_entry ([.ref b]) (n := 18) (Nat.le_of_ble_eq_true rfl)
  rw [lg_entry_eq]
  generalize (lg_sl ([.ref b]) ++ List.replicate (18 - (lg_sl ([.ref b])).length) Slot.unset).toArray = ls at hl ⊢
  have hl : lv_has ls 18 [(0, .ref b)] := hl
  have hCX : CX (p, l, e, room_1, s, m, #[Value.ref b], below, meth, c, D, C, (fun q : Nat => s.heap.size ≤ q), lw_Z below #[Value.ref b] s) cL_law RL 18 room_1 := ⟨hx, hb, hml, hown, fun w hw => hts w (List.mem_filter.mp hw).1, hK, hA, hlocks, rfl, hflags, hM⟩
  have hSX : SX (p, l, e, room_1, s, m, #[Value.ref b], below, meth, c, D, C, (fun q : Nat => s.heap.size ≤ q), lw_Z below #[Value.ref b] s) b L xs := ⟨hX, hbl, hnA b hbl⟩
  have hEL : EL (p, l, e, room_1, s, m, #[Value.ref b], below, meth, c, D, C, (fun q : Nat => s.heap.size ≤ q), lw_Z below #[Value.ref b] s) := by
    intro S k n pc lq hk hn hd H locs ls hP hD hS hl
    refine W.widen (k := 600130) (n := 7301080) hk hn ?_
    refine va_forget (fun q hq => hS.2.2 q hq) ?_
    refine W.base ?_
    exact lw_ret (Drawn.sameBut.refl s.drawn lw_cs) hx hb hr hlocks hd
  exact law_all hCX hSX hEL hL S00 s.heap [] ls hP hD hS hl
