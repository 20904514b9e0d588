/-! THE TEXT: what may come next -/
def cd (tn : Nat) (tx : Nat → Int32) (i : Nat) : Int32 := if i < tn then tx i else 0
def due1 (c : Int32) : Nat := if c = nI 100 then 3 else if c = nI 114 then 3 else if c = nI 115 then 5 else if c = nI 116 then 4 else if c = nI 119 then 2 else if c = nI 120 then 4 else 0
def d7 (c : Int32) : Bool := a_in c (nI 48) (nI 55)
def d9 (c : Int32) : Bool := a_in c (nI 48) (nI 57)
def due (d : Nat) (c : Int32) : Nat := if d = 1 then due1 c else if d = 2 then (if c = nI 59 then 1 else 0) else if d = 3 then (if d7 c then 2 else 0) else if d = 4 then (if d7 c then 3 else 0) else if d = 5 then (if d7 c then 6 else 0) else if d = 6 then (if d7 c then 7 else 0) else if d = 7 then (if c = nI 61 then 8 else 0) else if d = 8 then (if d9 c then 2 else 0) else 0
def dst (C : Nat → Int32) : Nat → Nat
  | 0 => 1
  | i + 1 => due (dst C i) (C i)
theorem due1_le (c : Int32) : due1 c ≤ 8 := by unfold due1; (repeat' split) <;> omega
theorem due_le (d : Nat) (c : Int32) : due d c ≤ 8 := by
  unfold due
  split
  · exact due1_le c
  · (repeat' split) <;> omega
theorem dst_le (C : Nat → Int32) : ∀ i, dst C i ≤ 8
  | 0 => by show 1 ≤ 8; omega
  | i + 1 => due_le _ _
theorem due_0 (c : Int32) : due 0 c = 0 := rfl
theorem dst_0 {C : Nat → Int32} {i : Nat} (h : dst C i = 0) : ∀ k, dst C (i + k) = 0
  | 0 => h
  | k + 1 => by
    show due (dst C (i + k)) (C (i + k)) = 0
    rw [dst_0 h k]
    rfl
/-- where the automaton goes wrong first -/
def fwg (C : Nat → Int32) : Nat → Nat → Nat
  | 0, i => i
  | k + 1, i => if dst C (i + 1) = 0 then i else fwg C k (i + 1)
def a_fw (C : Nat → Int32) (tn : Nat) : Nat := fwg C tn 0
theorem fwg_in (C : Nat → Int32) : ∀ k i, dst C i ≠ 0 → i ≤ fwg C k i ∧ fwg C k i ≤ i + k ∧ dst C (fwg C k i) ≠ 0 ∧ (fwg C k i = i + k ∨ dst C (fwg C k i + 1) = 0)
  | 0, i, h => ⟨Nat.le_refl _, Nat.le_refl _, h, Or.inl rfl⟩
  | k + 1, i, h => by
    have e : fwg C (k + 1) i = (if dst C (i + 1) = 0 then i else fwg C k (i + 1)) := rfl
    rw [e]
    split
    · rename_i h0
      exact ⟨Nat.le_refl _, by omega, h, Or.inr h0⟩
    · rename_i h0
      obtain ⟨h1, h2, h3, h4⟩ := fwg_in C k (i + 1) h0
      exact ⟨by omega, by omega, h3, by rcases h4 with h4 | h4
                                        · exact Or.inl (by omega)
                                        · exact Or.inr h4⟩
theorem fw_eq {C : Nat → Int32} {tn p : Nat} (h1 : p ≤ tn) (h2 : dst C p ≠ 0) (h3 : p = tn ∨ dst C (p + 1) = 0) : a_fw C tn = p := by
  obtain ⟨k1, k2, k3, k4⟩ := fwg_in C tn 0 (by show 1 ≠ 0; omega)
  unfold a_fw
  generalize fwg C tn 0 = q at k1 k2 k3 k4 ⊢
  rcases Nat.lt_trichotomy q p with g | g | g
  · rcases k4 with k4 | k4
    · omega
    · have := dst_0 k4 (p - (q + 1))
      rw [show q + 1 + (p - (q + 1)) = p by omega] at this
      exact absurd this h2
  · exact g
  · rcases h3 with h3 | h3
    · omega
    · have := dst_0 h3 (q - (p + 1))
      rw [show p + 1 + (q - (p + 1)) = q by omega] at this
      exact absurd this k3
theorem a_in_D (c g : Int32) (S : PH) : m_X3_isDigit c g S = some (if a_in c (nI 48) g then nI 1 else nI 0, S) := by
  unfold m_X3_isDigit a_in
  by_cases h1 : c < (48 : Int32)
  · rw [if_pos h1, decide_eq_true (show c < nI 48 from h1)]; rfl
  · rw [if_neg h1, decide_eq_false (show ¬ c < nI 48 from h1)]
    by_cases h2 : g < c
    · rw [if_pos h2, decide_eq_true h2]; rfl
    · rw [if_neg h2, decide_eq_false h2]; rfl
theorem p_due1 (c : Int32) (S : PH) : m_X3_dueAfterLetter c S = some (nI (due1 c), S) := by
  unfold m_X3_dueAfterLetter due1
  simp only [show (100 : Int32) = nI 100 from rfl, show (114 : Int32) = nI 114 from rfl, show (115 : Int32) = nI 115 from rfl, show (116 : Int32) = nI 116 from rfl, show (119 : Int32) = nI 119 from rfl, show (120 : Int32) = nI 120 from rfl]
  repeat' split
  all_goals rfl
theorem ite_k {b : Bool} {S : PH} {y z : Int32} : (if (if b = true then nI 1 else nI 0) = 0 then (some (y, S) : Option (Int32 × PH)) else some (z, S)) = some (if b = true then z else y, S) := by
  cases b <;> rfl
theorem p_due {d : Nat} (hd : d ≤ 8) (c : Int32) (S : PH) : m_X3_dueAfter (nI d) c S = some (nI (due d c), S) := by
  rcases (show d = 0 ∨ d = 1 ∨ d = 2 ∨ d = 3 ∨ d = 4 ∨ d = 5 ∨ d = 6 ∨ d = 7 ∨ d = 8 by omega) with rfl | rfl | rfl | rfl | rfl | rfl | rfl | rfl | rfl
  · rfl
  · show (bd (m_X3_dueAfterLetter c S) fun v2 S3 => some (v2, S3)) = some (nI (due1 c), S)
    rw [p_due1, bd_t]
  · show (if c = nI 59 then some ((1 : Int32), S) else some ((0 : Int32), S)) = some (nI (if c = nI 59 then 1 else 0), S)
    split <;> rfl
  · show (bd (m_X3_isDigit c (nI 55) S) fun v8 S9 => if v8 = 0 then some ((0 : Int32), S9) else some ((2 : Int32), S9)) = some (nI (if d7 c then 2 else 0), S)
    rw [a_in_D, bd_t, ite_k]
    show some (if d7 c = true then (2 : Int32) else 0, S) = _
    cases d7 c <;> rfl
  · show (bd (m_X3_isDigit c (nI 55) S) fun v8 S9 => if v8 = 0 then some ((0 : Int32), S9) else some ((3 : Int32), S9)) = some (nI (if d7 c then 3 else 0), S)
    rw [a_in_D, bd_t, ite_k]
    show some (if d7 c = true then (3 : Int32) else 0, S) = _
    cases d7 c <;> rfl
  · show (bd (m_X3_isDigit c (nI 55) S) fun v8 S9 => if v8 = 0 then some ((0 : Int32), S9) else some ((6 : Int32), S9)) = some (nI (if d7 c then 6 else 0), S)
    rw [a_in_D, bd_t, ite_k]
    show some (if d7 c = true then (6 : Int32) else 0, S) = _
    cases d7 c <;> rfl
  · show (bd (m_X3_isDigit c (nI 55) S) fun v8 S9 => if v8 = 0 then some ((0 : Int32), S9) else some ((7 : Int32), S9)) = some (nI (if d7 c then 7 else 0), S)
    rw [a_in_D, bd_t, ite_k]
    show some (if d7 c = true then (7 : Int32) else 0, S) = _
    cases d7 c <;> rfl
  · show (if c = nI 61 then some ((8 : Int32), S) else some ((0 : Int32), S)) = some (nI (if c = nI 61 then 8 else 0), S)
    split <;> rfl
  · show (bd (m_X3_isDigit c (nI 57) S) fun v8 S9 => if v8 = 0 then some ((0 : Int32), S9) else some ((2 : Int32), S9)) = some (nI (if d9 c then 2 else 0), S)
    rw [a_in_D, bd_t, ite_k]
    show some (if d9 c = true then (2 : Int32) else 0, S) = _
    cases d9 c <;> rfl
def dgt (c : Int32) : Int32 := if d9 c then c - nI 48 else nI 0
def osz (c : Int32) : Nat := if c = nI 100 then 2 else if c = nI 114 then 2 else if c = nI 115 then 5 else if c = nI 119 then 1 else 3
section CT
variable {S : PH} {G : Nat → Nat} {x nw : Nat} {tn : Nat} {tx : Nat → Int32}
/-- the text's row -/
def TT (S : PH) (x tn : Nat) (tx : Nat → Int32) : Prop := p_I S (rf S x 3) 1 = nI tn ∧ tn ≤ 60 ∧ p_I S (rf S (rf S x 3) 0) = tx
theorem p_code (h : RC S G x nw) (ht : TT S x tn tx) {i : Nat} (hi : i < 1000) : m_X3_code (some (rf S x 3)) (nI i) S = some (cd tn tx i, S) := by
  obtain ⟨t1, t2, t3⟩ := ht
  unfold m_X3_code cd
  rw [if_neg (show ¬ nI i < 0 from nI_pos (by omega)), h.tx, t1]
  by_cases g : i < tn
  · rw [if_neg (show ¬ nI tn ≤ nI i by rw [nI_leI (by omega) (by omega)]; omega), h.cd, h.ncd, if_neg (show ¬ Int32.ofNat 60 ≤ nI i by show ¬ nI 60 ≤ nI i; rw [nI_leI (by omega) (by omega)]; omega), ck_n (by omega) (by omega), t3, n_cl (by omega), if_pos g]
  · rw [if_pos (show nI tn ≤ nI i by rw [nI_leI (by omega) (by omega)]; omega), if_neg g]
theorem p_digit (h : RC S G x nw) (ht : TT S x tn tx) {i : Nat} (hi : i < 1000) : m_X3_digit (some (rf S x 3)) (nI i) S = some (dgt (cd tn tx i), S) := by
  unfold m_X3_digit dgt
  rw [h.tx, p_code h ht hi, bd_t, show (57 : Int32) = nI 57 from rfl, a_in_D, bd_t]
  show (if (if d9 (cd tn tx i) = true then nI 1 else nI 0) = 0 then _ else _) = _
  rw [ite_k]
  rfl
theorem p_osz (h : RC S G x nw) (ht : TT S x tn tx) {i : Nat} (hi : i < 1000) : m_X3_orderSize (some (rf S x 3)) (nI i) S = some (nI (osz (cd tn tx i)), S) := by
  unfold m_X3_orderSize osz
  rw [h.tx, p_code h ht hi, bd_t]
  simp only [show (100 : Int32) = nI 100 from rfl, show (114 : Int32) = nI 114 from rfl, show (115 : Int32) = nI 115 from rfl, show (119 : Int32) = nI 119 from rfl]
  repeat' split
  all_goals rfl
theorem p_fw (h : RC S G x nw) (ht : TT S x tn tx) : m_X3_firstWrong (some (rf S x 3)) S = some (nI (a_fw (cd tn tx) tn), S) := by
  obtain ⟨t1, t2, t3⟩ := ht
  unfold m_X3_firstWrong
  refine lpG tn (fun i => (nI (dst (cd tn tx) i), nI i, S)) (fun i => (nI (fwg (cd tn tx) (tn - i) i), S)) rfl (fun i hi => ?_) ?_
  · have e : fwg (cd tn tx) (tn - i) i = (if dst (cd tn tx) (i + 1) = 0 then i else fwg (cd tn tx) (tn - (i + 1)) (i + 1)) := by
      rw [show tn - i = (tn - (i + 1)) + 1 by omega]
      rfl
    have d8 := dst_le (cd tn tx) (i + 1)
    have e1 : nI i + 1 = nI (i + 1) := nI_add i 1
    unfold st_X3_firstWrong_4
    dsimp only
    rw [h.tx, t1, if_neg (show ¬ nI tn ≤ nI i by rw [nI_leI (by omega) (by omega)]; omega), p_code h ⟨t1, t2, t3⟩ (by omega), bd_t, p_due (dst_le _ _), bd_t, e, e1]
    show (if nI (dst (cd tn tx) (i + 1)) = 0 then _ else _) = _ ∨ (if nI (dst (cd tn tx) (i + 1)) = 0 then _ else _) = _ ∧ _
    by_cases g : dst (cd tn tx) (i + 1) = 0
    · left
      rw [g, if_pos rfl, if_pos (show nI 0 = 0 from rfl)]
      rfl
    · right
      have g2 : ¬ nI (dst (cd tn tx) (i + 1)) = 0 := fun z => g ((nI_eq (show dst (cd tn tx) (i + 1) < 2147483648 by omega) (show 0 < 2147483648 by omega)).mp z)
      rw [if_neg g2, if_neg g]
      exact ⟨rfl, rfl⟩
  · unfold st_X3_firstWrong_4
    dsimp only
    rw [h.tx, t1, if_pos (Int32.le_refl _), Nat.sub_self]
    rfl
theorem p_week (h : RC S G x nw) (ht : TT S x tn tx) : m_X3_isWeek (some (rf S x 3)) S = some (if dst (cd tn tx) tn = 2 then nI 1 else nI 0, S) := by
  obtain ⟨t1, t2, t3⟩ := ht
  unfold m_X3_isWeek
  refine lpF tn (fun i => (nI (dst (cd tn tx) i), nI i, S)) _ rfl (fun i hi => ?_) ?_
  · have e1 : nI i + 1 = nI (i + 1) := nI_add i 1
    unfold st_X3_isWeek_4
    dsimp only
    rw [h.tx, t1, if_neg (show ¬ nI tn ≤ nI i by rw [nI_leI (by omega) (by omega)]; omega), p_code h ⟨t1, t2, t3⟩ (by omega), bd_t, p_due (dst_le _ _), bd_t, e1]
    rfl
  · have d8 := dst_le (cd tn tx) tn
    unfold st_X3_isWeek_4
    dsimp only
    rw [h.tx, t1, if_pos (Int32.le_refl _)]
    by_cases g : dst (cd tn tx) tn = 2
    · rw [g, if_pos (show nI 2 = 2 from rfl), if_pos rfl]
      rfl
    · have g2 : ¬ nI (dst (cd tn tx) tn) = 2 := fun z => g ((nI_eq (show dst (cd tn tx) tn < 2147483648 by omega) (show 2 < 2147483648 by omega)).mp z)
      rw [if_neg g2, if_neg g]
      rfl
theorem k_err (h : RC S G x nw) (ht : TT S x tn tx) : m_X4_firstError (some x) S = some (nI (a_fw (cd tn tx) tn), S) := by
  unfold m_X4_firstError
  rw [h.x4, h.r3, h.tx, p_fw h ht, bd_t]
end CT
