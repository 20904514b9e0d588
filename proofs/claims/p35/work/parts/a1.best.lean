/-! WHAT IS AHEAD: the best reviewer -/
def BE (v : AS) (p j : Nat) : Prop := (a_load v j).toInt ≤ (a_load v p).toInt ∧ ((a_load v p).toInt = (a_load v j).toInt → (a_tok v p).toInt ≤ (a_tok v j).toInt ∧ ((a_tok v p).toInt = (a_tok v j).toInt → j ≤ p))
section BB
variable {v : AS} {q : Nat}
theorem b3_in : ∀ n, n ≤ 8 → ((a_b3 v q n).1 = nM ∧ ∀ p, p < n → ¬ a_why v p q = nI 0) ∨ ∃ j, j < n ∧ a_b3 v q n = (nI j, a_load v j, a_tok v j) ∧ a_why v j q = nI 0 ∧ ∀ p, p < n → a_why v p q = nI 0 → BE v p j
  | 0, _ => Or.inl ⟨rfl, fun p h => by omega⟩
  | n + 1, hn => by
    have ih := b3_in n (by omega)
    have e : a_b3 v q (n + 1) = (if a_why v n q = nI 0 then (if (a_b3 v q n).1 = nM then (nI n, a_load v n, a_tok v n) else if a_load v n < (a_b3 v q n).2.1 then (nI n, a_load v n, a_tok v n) else if a_load v n = (a_b3 v q n).2.1 then (if a_tok v n ≤ (a_b3 v q n).2.2 then a_b3 v q n else (nI n, a_load v n, a_tok v n)) else a_b3 v q n) else a_b3 v q n) := rfl
    have self : BE v n n := ⟨Int.le_refl _, fun _ => ⟨Int.le_refl _, fun _ => Nat.le_refl _⟩⟩
    by_cases hw : a_why v n q = nI 0
    · rw [if_pos hw] at e
      rcases ih with ⟨h1, h2⟩ | ⟨j, hj, h1, h2, h3⟩
      · rw [if_pos h1] at e
        refine Or.inr ⟨n, by omega, e, hw, fun p hp hpw => ?_⟩
        by_cases hpn : p = n
        · rw [hpn]; exact self
        · exact absurd hpw (h2 p (by omega))
      · have c0 : (a_b3 v q n).1 = nI j := congrArg Prod.fst h1
        have c1 : (a_b3 v q n).2.1 = a_load v j := congrArg (fun s : Int32 × Int32 × Int32 => s.2.1) h1
        have c2 : (a_b3 v q n).2.2 = a_tok v j := congrArg (fun s : Int32 × Int32 × Int32 => s.2.2) h1
        rw [if_neg (show ¬ (a_b3 v q n).1 = nM by rw [c0]; exact nM_ne (by omega)), c1, c2] at e
        by_cases g1 : a_load v n < a_load v j
        · rw [if_pos g1] at e
          rw [i_lt] at g1
          refine Or.inr ⟨n, by omega, e, hw, fun p hp hpw => ?_⟩
          by_cases hpn : p = n
          · rw [hpn]; exact self
          · obtain ⟨b1, b2⟩ := h3 p (by omega) hpw
            exact ⟨by omega, fun z => by omega⟩
        · rw [if_neg g1] at e
          rw [i_lt] at g1
          by_cases g2 : a_load v n = a_load v j
          · rw [if_pos g2] at e
            by_cases g3 : a_tok v n ≤ a_tok v j
            · rw [if_pos g3] at e
              rw [i_le] at g3
              refine Or.inr ⟨j, by omega, e.trans h1, h2, fun p hp hpw => ?_⟩
              by_cases hpn : p = n
              · rw [hpn]
                exact ⟨by have := congrArg Int32.toInt g2; omega, fun _ => ⟨g3, fun _ => by omega⟩⟩
              · exact h3 p (by omega) hpw
            · rw [if_neg g3] at e
              rw [i_le] at g3
              refine Or.inr ⟨n, by omega, e, hw, fun p hp hpw => ?_⟩
              by_cases hpn : p = n
              · rw [hpn]; exact self
              · obtain ⟨b1, b2⟩ := h3 p (by omega) hpw
                refine ⟨by rw [g2]; exact b1, fun z => ?_⟩
                rw [g2] at z
                have b3 := (b2 z).1
                exact ⟨by omega, fun _ => by omega⟩
          · rw [if_neg g2] at e
            refine Or.inr ⟨j, by omega, e.trans h1, h2, fun p hp hpw => ?_⟩
            by_cases hpn : p = n
            · rw [hpn]
              refine ⟨by omega, fun z => absurd (Int32.toInt_inj.mp z) g2⟩
            · exact h3 p (by omega) hpw
    · rw [if_neg hw] at e
      rw [e]
      rcases ih with ⟨h1, h2⟩ | ⟨j, hj, h1, h2, h3⟩
      · refine Or.inl ⟨h1, fun p hp => ?_⟩
        by_cases hpn : p = n
        · rw [hpn]; exact hw
        · exact h2 p (by omega)
      · refine Or.inr ⟨j, by omega, h1, h2, fun p hp hpw => ?_⟩
        by_cases hpn : p = n
        · rw [hpn] at hpw; exact absurd hpw hw
        · exact h3 p (by omega) hpw
theorem best_in (v : AS) (q : Nat) : (a_best v q = nM ∧ ∀ p, p < 8 → ¬ a_why v p q = nI 0) ∨ ∃ j, j < 8 ∧ a_best v q = nI j ∧ a_why v j q = nI 0 ∧ ∀ p, p < 8 → a_why v p q = nI 0 → BE v p j := by
  rcases b3_in (v := v) (q := q) 8 (Nat.le_refl 8) with h | ⟨j, h1, h2, h3, h4⟩
  · exact Or.inl h
  · exact Or.inr ⟨j, h1, congrArg Prod.fst h2, h3, h4⟩
/-- why not, by its number -/
theorem why_n (v : AS) (p q : Nat) : ∃ k, k ≤ 6 ∧ a_why v p q = nI k := by
  unfold a_why
  split
  · split
    · split
      · split
        · exact ⟨4, by omega, rfl⟩
        · split
          · split
            · exact ⟨0, by omega, rfl⟩
            · exact ⟨6, by omega, rfl⟩
          · exact ⟨5, by omega, rfl⟩
      · exact ⟨3, by omega, rfl⟩
    · exact ⟨2, by omega, rfl⟩
  · exact ⟨1, by omega, rfl⟩
/-- the papers in conflict with a person, as bits -/
theorem pic_hb (v : AS) (p : Nat) : ∀ n, n ≤ 8 → ∀ q, q < 8 → hb (fo (fun q m => if hb (a_conf v q) (nI p) then m ||| mb q else m) n (nI 0)) (nI q) = (decide (q < n) && hb (a_conf v q) (nI p))
  | 0, _, q, hq => by
    show hb (nI 0) (nI q) = _
    rw [hb_0 q hq, decide_eq_false (by omega)] <;> rfl
  | n + 1, hn, q, hq => by
    have ih := pic_hb v p n (by omega) q hq
    show hb (if hb (a_conf v n) (nI p) then fo (fun q m => if hb (a_conf v q) (nI p) then m ||| mb q else m) n (nI 0) ||| mb n else fo (fun q m => if hb (a_conf v q) (nI p) then m ||| mb q else m) n (nI 0)) (nI q) = _
    generalize fo (fun q m => if hb (a_conf v q) (nI p) then m ||| mb q else m) n (nI 0) = m at ih ⊢
    by_cases hc : hb (a_conf v n) (nI p) = true
    · rw [if_pos hc, hb_or _ _ hq, ih, hb_mb n (by omega) q hq]
      by_cases h1 : n = q
      · subst h1
        rw [decide_eq_true (rfl : n = n), decide_eq_true (show n < n + 1 by omega), hc, Bool.or_true] <;> rfl
      · rw [decide_eq_false h1, Bool.or_false]
        by_cases h2 : q < n
        · rw [decide_eq_true h2, decide_eq_true (show q < n + 1 by omega)]
        · rw [decide_eq_false h2, decide_eq_false (show ¬ q < n + 1 by omega)]
    · rw [if_neg hc, ih]
      by_cases h1 : n = q
      · subst h1
        rw [Bool.eq_false_iff.mpr hc, Bool.and_false, Bool.and_false]
      · by_cases h2 : q < n
        · rw [decide_eq_true h2, decide_eq_true (show q < n + 1 by omega)]
        · rw [decide_eq_false h2, decide_eq_false (show ¬ q < n + 1 by omega)]
end BB
