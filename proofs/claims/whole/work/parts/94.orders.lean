/-! ORDERS IN A TEXT: the class -/
def og (C : Nat → Int32) (k : Nat) : Nat := (dgt (C k)).toNatClampNeg
def a_ord (C : Nat → Int32) (v : AS) (p : Nat) : Bool × AS :=
  if C p = nI 119 then (if nI 999 ≤ v 13 0 then (false, v) else (true, (a_week v).2))
  else if C p = nI 100 then (if a_isP v (dgt (C (p + 1))) then (!decide ((a_disc v (og C (p + 1))).1 < nI 10), (a_disc v (og C (p + 1))).2) else (false, v))
  else if C p = nI 114 then (if a_isP v (dgt (C (p + 1))) then (!decide ((a_reb v (og C (p + 1))).1 < nI 10), (a_reb v (og C (p + 1))).2) else (false, v))
  else if C p = nI 115 then (if a_isP v (dgt (C (p + 2))) then (if a_cw v (og C (p + 1)) (og C (p + 2)) then (true, a_wrv v (og C (p + 1)) (og C (p + 2)) (dgt (C (p + 4)))) else (false, v)) else (false, v))
  else if C p = nI 116 then (if a_isP v (dgt (C (p + 2))) then (decide ((a_take v (og C (p + 1)) (og C (p + 2))).1 = nI 0), (a_take v (og C (p + 1)) (og C (p + 2))).2) else (false, v))
  else (if a_isP v (dgt (C (p + 2))) then (if a_cx v (og C (p + 1)) (og C (p + 2)) then (true, a_drop v (og C (p + 1)) (og C (p + 2))) else (false, v)) else (false, v))
def ords (C : Nat → Int32) (tn : Nat) : Nat → Nat → Nat → AS → Nat × AS
  | 0, _, k, v => (k, v)
  | f + 1, p, k, v => if tn ≤ p then (k, v) else if (a_ord C v p).1 then ords C tn f (p + (osz (C p) + 1)) (k + 1) (a_ord C v p).2 else (k, (a_ord C v p).2)
theorem d7_9 {c : Int32} (h : d7 c = true) : d9 c = true ∧ ∃ j, j ≤ 7 ∧ c = nI (48 + j) ∧ dgt c = nI j ∧ c - nI 48 = nI j := by
  obtain ⟨j, h1, h2, h3⟩ := d7_n h
  have e : d9 c = true := by
    rw [h2]
    have : ∀ j, j < 8 → d9 (nI (48 + j)) = true := by decide
    exact this j (by omega)
  refine ⟨e, j, h1, h2, ?_, h3⟩
  unfold dgt
  rw [if_pos e]
  exact h3
theorem d9_g {c : Int32} (h : d9 c = true) : ∃ j, j ≤ 9 ∧ dgt c = nI j ∧ c - nI 48 = nI j := by
  obtain ⟨j, h1, h2, h3⟩ := d9_n h
  refine ⟨j, h1, ?_, h3⟩
  unfold dgt
  rw [if_pos h]
  exact h3
/-- an order that reads well -/
def OK (C : Nat → Int32) (p : Nat) : Prop := (C p = nI 119) ∨ (C p ≠ nI 119 ∧ (C p = nI 100 ∨ C p = nI 114) ∧ d7 (C (p + 1)) = true) ∨ (C p ≠ nI 119 ∧ C p ≠ nI 100 ∧ C p ≠ nI 114 ∧ C p = nI 115 ∧ d7 (C (p + 1)) = true ∧ d7 (C (p + 2)) = true ∧ d9 (C (p + 4)) = true) ∨ (C p ≠ nI 119 ∧ C p ≠ nI 100 ∧ C p ≠ nI 114 ∧ C p ≠ nI 115 ∧ (C p = nI 116 ∨ C p = nI 120) ∧ d7 (C (p + 1)) = true ∧ d7 (C (p + 2)) = true)
theorem rdo_ok {C : Nat → Int32} {p : Nat} (h : (rdo C p).1 = true) : OK C p ∧ (rdo C p).2 = p + osz (C p) := by
  unfold rdo at h ⊢
  unfold OK osz
  by_cases c1 : C p = nI 116 ∨ C p = nI 120
  · rw [if_pos c1] at h ⊢
    have n0 : C p ≠ nI 119 := by rcases c1 with c | c <;> rw [c] <;> decide
    have n1 : C p ≠ nI 100 := by rcases c1 with c | c <;> rw [c] <;> decide
    have n2 : C p ≠ nI 114 := by rcases c1 with c | c <;> rw [c] <;> decide
    have n3 : C p ≠ nI 115 := by rcases c1 with c | c <;> rw [c] <;> decide
    rw [if_neg n1, if_neg n2, if_neg n3, if_neg n0]
    cases k1 : d7 (C (p + 1)) with
    | false => rw [k1] at h; cases h
    | true =>
      cases k2 : d7 (C (p + 2)) with
      | false => rw [k1, k2] at h; cases h
      | true => exact ⟨Or.inr (Or.inr (Or.inr ⟨n0, n1, n2, n3, c1, rfl, rfl⟩)), rfl⟩
  rw [if_neg c1] at h ⊢
  by_cases c2 : C p = nI 115
  · rw [if_pos c2] at h ⊢
    have n0 : C p ≠ nI 119 := by rw [c2]; decide
    have n1 : C p ≠ nI 100 := by rw [c2]; decide
    have n2 : C p ≠ nI 114 := by rw [c2]; decide
    rw [if_neg n1, if_neg n2, if_pos c2]
    cases k1 : d7 (C (p + 1)) with
    | false => rw [k1] at h; cases h
    | true =>
      cases k2 : d7 (C (p + 2)) with
      | false => rw [k1, k2] at h; cases h
      | true =>
        by_cases k3 : C (p + 3) = nI 61
        · rw [k1, k2, if_pos k3] at h
          rw [if_pos k3]
          cases k4 : d9 (C (p + 4)) with
          | false => rw [k4] at h; cases h
          | true => exact ⟨Or.inr (Or.inr (Or.inl ⟨n0, n1, n2, c2, rfl, rfl, rfl⟩)), rfl⟩
        · rw [k1, k2, if_neg k3] at h; cases h
  rw [if_neg c2] at h ⊢
  by_cases c3 : C p = nI 100 ∨ C p = nI 114
  · rw [if_pos c3] at h ⊢
    have n0 : C p ≠ nI 119 := by rcases c3 with c | c <;> rw [c] <;> decide
    cases k1 : d7 (C (p + 1)) with
    | false => rw [k1] at h; cases h
    | true =>
      refine ⟨Or.inr (Or.inl ⟨n0, c3, rfl⟩), ?_⟩
      show p + 2 = _
      rcases c3 with c | c
      · rw [if_pos c]
      · rw [if_neg (by rw [c]; decide), if_pos c]
  rw [if_neg c3] at h ⊢
  by_cases c4 : C p = nI 119
  · rw [if_pos c4]
    refine ⟨Or.inl c4, ?_⟩
    rw [c4]
    rfl
  · rw [if_neg c4] at h; cases h
/-- in a week: the order at p reads well, and the next one begins behind it or there is none -/
theorem week_ok {C : Nat → Int32} {tn p : Nat} (hC : C tn = 0) (hw : dst C tn = 2) (hp : p < tn) (hd : dst C p = 1) : (rdo C p).1 = true ∧ p + osz (C p) ≤ tn ∧ dst C (p + osz (C p)) = 2 ∧ (p + osz (C p) = tn ∨ C (p + osz (C p)) = nI 59 ∧ dst C (p + (osz (C p) + 1)) = 1 ∧ p + (osz (C p) + 1) < tn) := by
  obtain ⟨h1, h2⟩ := rdo_dst hd
  have z : dst C (tn + 1) = 0 := by rw [dst_s hw, hC]; rfl
  have after : ∀ q, tn < q → dst C q = 0 := by
    intro q hq
    have := dst_0 z (q - (tn + 1))
    rwa [show tn + 1 + (q - (tn + 1)) = q by omega] at this
  have dead : ∀ q, dst C (q + 1) = 0 → q < tn → False := by
    intro q e hq
    have := dst_0 e (tn - (q + 1))
    rw [show q + 1 + (tn - (q + 1)) = tn by omega, hw] at this
    omega
  have hr : (rdo C p).1 = true := by
    cases g : (rdo C p).1 with
    | true => rfl
    | false =>
      obtain ⟨g1, g2, g3⟩ := h2 g
      rcases Nat.lt_trichotomy (rdo C p).2 tn with l | l | l
      · exact (dead _ g3 l).elim
      · rw [l] at g2; exact absurd hw g2
      · exact absurd (after _ l) g1
  obtain ⟨h3, h4⟩ := h1 hr
  have e := (rdo_ok hr).2
  rw [e] at h3 h4
  have le : p + osz (C p) ≤ tn := by
    rcases Nat.lt_or_ge tn (p + osz (C p)) with l | l
    · have := after _ l; omega
    · exact l
  refine ⟨hr, le, h3, ?_⟩
  by_cases l : p + osz (C p) = tn
  · exact Or.inl l
  · right
    have s := dst_s h3
    by_cases c : C (p + osz (C p)) = nI 59
    · rw [c] at s
      have s : dst C (p + osz (C p) + 1) = 1 := s
      refine ⟨c, s, ?_⟩
      rcases Nat.lt_or_ge (p + (osz (C p) + 1)) tn with g | g
      · exact g
      · have : p + osz (C p) + 1 = tn := by omega
        rw [this, hw] at s
        omega
    · have s : dst C (p + osz (C p) + 1) = 0 := by
        rw [s]
        show (if C (p + osz (C p)) = nI 59 then 1 else 0) = 0
        rw [if_neg c]
      exact (dead _ s (by omega)).elim
theorem an_wrv {v : AS} {p q : Nat} {s : Int32} : a_n (a_wrv v p q s) = a_n v := an_e (by unfold a_wrv; rw [u_ne (by omega)])
theorem an_drop {v : AS} {p q : Nat} : a_n (a_drop v p q) = a_n v := an_e (by unfold a_drop; rw [u_ne (by omega), u_ne (by omega), u_ne (by omega)])
theorem iv_ord {C : Nat → Int32} {v : AS} {p : Nat} (hI : IV v) (ho : OK C p) : IV (a_ord C v p).2 ∧ a_n (a_ord C v p).2 = a_n v := by
  have pq : ∀ {i : Int32}, a_isP v i = true → i.toNatClampNeg < a_n v := by
    intro i h
    obtain ⟨q, hq, rfl⟩ := isP_n hI h
    have := hI.in_.2
    rw [n_cl (by omega)]
    exact hq
  have pp : ∀ {k}, d7 (C k) = true → og C k < 8 := by
    intro k h
    obtain ⟨_, j, j7, _, e, _⟩ := d7_9 h
    unfold og
    rw [e, n_cl (by omega)]
    omega
  unfold a_ord
  rcases ho with c | ⟨n0, c, d⟩ | ⟨n0, n1, n2, c, d1, d2, d4⟩ | ⟨n0, n1, n2, n3, c, d1, d2⟩
  · rw [if_pos c]
    split
    · exact ⟨hI, rfl⟩
    · exact ⟨iv_week hI, an_week⟩
  · rw [if_neg n0]
    by_cases c1 : C p = nI 100
    · rw [if_pos c1]
      by_cases h2 : a_isP v (dgt (C (p + 1))) = true
      · rw [if_pos h2]
        exact ⟨iv_disc hI (pq h2), an_disc⟩
      · rw [if_neg h2]; exact ⟨hI, rfl⟩
    · rw [if_neg c1, if_pos (c.resolve_left c1)]
      by_cases h2 : a_isP v (dgt (C (p + 1))) = true
      · rw [if_pos h2]
        exact ⟨iv_reb hI (pq h2), an_reb⟩
      · rw [if_neg h2]; exact ⟨hI, rfl⟩
  · rw [if_neg n0, if_neg n1, if_neg n2, if_pos c]
    by_cases h2 : a_isP v (dgt (C (p + 2))) = true
    · rw [if_pos h2]
      split
      · obtain ⟨j, j9, e, _⟩ := d9_g d4
        rw [e]
        exact ⟨iv_write hI (pq h2) (pp d1) j9, an_wrv⟩
      · exact ⟨hI, rfl⟩
    · rw [if_neg h2]; exact ⟨hI, rfl⟩
  · rw [if_neg n0, if_neg n1, if_neg n2, if_neg n3]
    by_cases c1 : C p = nI 116
    · rw [if_pos c1]
      by_cases h2 : a_isP v (dgt (C (p + 2))) = true
      · rw [if_pos h2]
        exact ⟨iv_take hI (pq h2) (pp d1), an_take⟩
      · rw [if_neg h2]; exact ⟨hI, rfl⟩
    · rw [if_neg c1]
      by_cases h2 : a_isP v (dgt (C (p + 2))) = true
      · rw [if_pos h2]
        split
        · rename_i h3
          exact ⟨iv_drop hI (pq h2) (pp d1) (of_decide_eq_true h3), an_drop⟩
        · exact ⟨hI, rfl⟩
      · rw [if_neg h2]; exact ⟨hI, rfl⟩
theorem ite_b {b : Bool} {S : PH} {y z : Int32} : (if b = true then (some (y, S) : Option (Int32 × PH)) else some (z, S)) = some (if b = true then y else z, S) := by
  cases b <;> rfl
section CO
variable {S : PH} {G : Nat → Nat} {x nw : Nat} {v : AS} {tn : Nat} {tx : Nat → Int32}
theorem TT_put (h : RC S G x nw) (ht : TT S x tn tx) : TT (put S G 0 v) x tn tx := by
  have g3 : G (rf S x 3) = 5 := h.2.2.2.2.2.1.2.1.2
  have g30 : G (rf S (rf S x 3) 0) = 6 := h.2.2.2.2.2.1.2.2.2
  have i3 : p_I (put S G 0 v) (rf S x 3) = p_I S (rf S x 3) := pv_o (by omega)
  have i30 : p_I (put S G 0 v) (rf S (rf S x 3) 0) = p_I S (rf S (rf S x 3) 0) := pv_o (by omega)
  refine ⟨?_, ht.2.1, ?_⟩
  · show p_I (put S G 0 v) (rf S x 3) 1 = nI tn
    rw [i3]; exact ht.1
  · show p_I (put S G 0 v) (rf S (rf S x 3) 0) = tx
    rw [i30]; exact ht.2.2
theorem p_ord (hg : Gi G) (h : RC S G x nw) (ht : TT S x tn tx) (hI : IV v) {p : Nat} (hp : p < 900) (ho : OK (cd tn tx) p) : m_X4_doOrder (some x) (nI p) (put S G 0 v) = some (if (a_ord (cd tn tx) v p).1 then nI 1 else nI 0, put S G 0 (a_ord (cd tn tx) v p).2) := by
  have hn8 := hI.in_.2
  have e1 : nI p + 1 = nI (p + 1) := nI_add p 1
  have e2 : nI p + 2 = nI (p + 2) := nI_add p 2
  have e4 : nI p + 4 = nI (p + 4) := nI_add p 4
  have hD : ∀ {w : AS} {k : Nat}, k < 1000 → m_X3_digit (some (rf S x 3)) (nI k) (put S G 0 w) = some (dgt (cd tn tx k), put S G 0 w) := fun {w k} hk => p_digit (hP h) (TT_put h ht) hk
  have hC : m_X3_code (some (rf S x 3)) (nI p) (put S G 0 v) = some (cd tn tx p, put S G 0 v) := p_code (hP h) (TT_put h ht) (by omega)
  have x4 : ∀ {w : AS} {β : Type} {f : Nat → Option β}, dr (put S G 0 w) 4 (some x) f = f x := fun {w β f} => h.x4
  have x3 : ∀ {w : AS} {β : Type} {f : Nat → Option β}, dr (put S G 0 w) 3 (some (rf S x 3)) f = f (rf S x 3) := fun {w β f} => h.tx
  have hp1 := p_isPaper (hP (v := v) h) (rep_put h.st)
  unfold m_X4_doOrder a_ord og
  rw [x4, R_put, h.r3, x3, e1, hD (by omega), bd_t, x4, R_put, h.r3, x3, e2, hD (by omega), bd_t, x4, R_put, h.r3, x3, hC, bd_t]
  generalize cd tn tx = C at *
  have qn : ∀ {i : Int32}, a_isP v i = true → ∃ q, q < 8 ∧ i = nI q ∧ i.toNatClampNeg = q := by
    intro i h
    obtain ⟨q, hq, rfl⟩ := isP_n hI h
    exact ⟨q, by omega, rfl, n_cl (by omega)⟩
  rcases ho with c | ⟨n0, c, d⟩ | ⟨n0, n1, n2, c, d1, d2, d4⟩ | ⟨n0, n1, n2, n3, c, d1, d2⟩
  · rw [if_pos c, c, if_neg (show ¬ nI 119 = 100 by decide), if_neg (show ¬ nI 119 = 114 by decide), if_neg (show ¬ nI 119 = 115 by decide), if_neg (show ¬ nI 119 = 116 by decide), if_pos (show nI 119 = 119 from rfl), x4]
    have e : m_X4_canWeekPass (some x) (put S G 0 v) = some (if nI 999 ≤ v 13 0 then nI 0 else nI 1, put S G 0 v) := by
      unfold m_X4_canWeekPass
      rw [x4, R_put, h.r0, dr_put, h.now, g_i h.st 13 (by decide) (by decide)]
      rw [show (999 : Int32) = nI 999 from rfl]
      split <;> rfl
    rw [e, bd_t]
    by_cases g : nI 999 ≤ v 13 0
    · rw [if_pos g, if_pos g, if_pos (show nI 0 = 0 from rfl)]
      rfl
    · rw [if_neg g, if_neg g, if_neg (show ¬ nI 1 = 0 by decide), x4, p_passWeek hg h, bd_t]
      rfl
  · rw [if_neg n0]
    obtain ⟨_, j, j7, _, ej, _⟩ := d7_9 d
    by_cases c1 : C p = nI 100
    · rw [if_pos c1, c1, if_pos (show nI 100 = 100 from rfl), x4, hp1, bd_t]
      by_cases h2 : a_isP v (dgt (C (p + 1))) = true
      · obtain ⟨q, q8, eq, ec⟩ := qn h2
        rw [if_pos h2, if_pos h2, if_neg (show ¬ nI 1 = 0 by decide), x4, ec, eq, p_discuss hg h q8, bd_t]
        by_cases g : (a_disc v q).1 < nI 10
        · rw [if_pos (show (a_disc v q).1 < 10 from g), decide_eq_true g]
          rfl
        · rw [if_neg (show ¬ (a_disc v q).1 < 10 from g), decide_eq_false g]
          rfl
      · rw [if_neg h2, if_neg h2, if_pos (show nI 0 = 0 from rfl)]
        rfl
    · have c2 := c.resolve_left c1
      rw [if_neg c1, if_pos c2, c2, if_neg (show ¬ nI 114 = 100 by decide), if_pos (show nI 114 = 114 from rfl), x4, hp1, bd_t]
      by_cases h2 : a_isP v (dgt (C (p + 1))) = true
      · obtain ⟨q, q8, eq, ec⟩ := qn h2
        rw [if_pos h2, if_pos h2, if_neg (show ¬ nI 1 = 0 by decide), x4, ec, eq, p_rebut hg h q8, bd_t]
        by_cases g : (a_reb v q).1 < nI 10
        · rw [if_pos (show (a_reb v q).1 < 10 from g), decide_eq_true g]
          rfl
        · rw [if_neg (show ¬ (a_reb v q).1 < 10 from g), decide_eq_false g]
          rfl
      · rw [if_neg h2, if_neg h2, if_pos (show nI 0 = 0 from rfl)]
        rfl
  · obtain ⟨_, i, i7, _, ei, _⟩ := d7_9 d1
    rw [if_neg n0, if_neg n1, if_neg n2, if_pos c, c, if_neg (show ¬ nI 115 = 100 by decide), if_neg (show ¬ nI 115 = 114 by decide), if_pos (show nI 115 = 115 from rfl), x4, hp1, bd_t]
    by_cases h2 : a_isP v (dgt (C (p + 2))) = true
    · obtain ⟨q, q8, eq, ec⟩ := qn h2
      rw [if_pos h2, if_pos h2, if_neg (show ¬ nI 1 = 0 by decide), x4, ec, eq, ei, n_cl (show i < 2147483648 by omega), p_canWrite (hP h) (rep_put h.st) (by omega) q8, bd_t]
      by_cases g : a_cw v i q = true
      · rw [if_pos g, if_pos g, if_neg (show ¬ nI 1 = 0 by decide), x4, R_put, h.r3, x3, e4, hD (by omega), bd_t, x4, p_write hg h (by omega) q8, bd_t]
        rfl
      · rw [if_neg g, if_neg g, if_pos (show nI 0 = 0 from rfl)]
        rfl
    · rw [if_neg h2, if_neg h2, if_pos (show nI 0 = 0 from rfl)]
      rfl
  · obtain ⟨_, i, i7, _, ei, _⟩ := d7_9 d1
    rw [if_neg n0, if_neg n1, if_neg n2, if_neg n3]
    by_cases c1 : C p = nI 116
    · rw [if_pos c1, c1, if_neg (show ¬ nI 116 = 100 by decide), if_neg (show ¬ nI 116 = 114 by decide), if_neg (show ¬ nI 116 = 115 by decide), if_pos (show nI 116 = 116 from rfl), x4, hp1, bd_t]
      by_cases h2 : a_isP v (dgt (C (p + 2))) = true
      · obtain ⟨q, q8, eq, ec⟩ := qn h2
        rw [if_pos h2, if_pos h2, if_neg (show ¬ nI 1 = 0 by decide), x4, ec, eq, ei, n_cl (show i < 2147483648 by omega), p_take hg h (by omega) q8 hI.s1.1 hI.s1.2, bd_t]
        by_cases g : (a_take v i q).1 = nI 0
        · rw [if_pos (show (a_take v i q).1 = 0 from g), decide_eq_true g]
          rfl
        · rw [if_neg (show ¬ (a_take v i q).1 = 0 from g), decide_eq_false g]
          rfl
      · rw [if_neg h2, if_neg h2, if_pos (show nI 0 = 0 from rfl)]
        rfl
    · have c2 := c.resolve_left c1
      rw [if_neg c1, c2, if_neg (show ¬ nI 120 = 100 by decide), if_neg (show ¬ nI 120 = 114 by decide), if_neg (show ¬ nI 120 = 115 by decide), if_neg (show ¬ nI 120 = 116 by decide), if_neg (show ¬ nI 120 = 119 by decide), if_pos (show nI 120 = 120 from rfl), x4, hp1, bd_t]
      by_cases h2 : a_isP v (dgt (C (p + 2))) = true
      · obtain ⟨q, q8, eq, ec⟩ := qn h2
        rw [if_pos h2, if_pos h2, if_neg (show ¬ nI 1 = 0 by decide), x4, ec, eq, ei, n_cl (show i < 2147483648 by omega), p_canDrop (hP h) (rep_put h.st) (by omega) q8, bd_t]
        by_cases g : a_cx v i q = true
        · rw [if_pos g, if_pos g, if_neg (show ¬ nI 1 = 0 by decide), x4, p_drop hg h (by omega) q8, bd_t]
          rfl
        · rw [if_neg g, if_neg g, if_pos (show nI 0 = 0 from rfl)]
          rfl
      · rw [if_neg h2, if_neg h2, if_pos (show nI 0 = 0 from rfl)]
        rfl
end CO
