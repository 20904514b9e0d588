/-! BESIDE: what the class's side takes of the other parts -/
def a_in (a l u : Int32) : Bool := !decide (a < l) && !decide (u < a)
theorem i_lt {a b : Int32} : a < b ↔ a.toInt < b.toInt := Int32.lt_iff_toInt_lt
theorem i_le {a b : Int32} : a ≤ b ↔ a.toInt ≤ b.toInt := Int32.le_iff_toInt_le
theorem isS_iff {a : Int32} : isS a = true ↔ 0 ≤ a.toInt ∧ a.toInt ≤ 9 := by
  have e9 : (nI 9).toInt = 9 := by decide
  have e0 : (nI 0).toInt = 0 := by decide
  unfold isS
  rw [Bool.and_eq_true, Bool.not_eq_true', Bool.not_eq_true', decide_eq_false_iff_not, decide_eq_false_iff_not, i_lt, i_lt, e9, e0]
  omega
theorem nM_ne {j : Nat} (h : j < 2147483648) : ¬ nI j = nM := by
  intro z
  have := congrArg Int32.toInt z
  rw [nI_toInt (by omega)] at this
  have h2 : nM.toInt = -1 := by decide
  omega
theorem lw_in (g : Nat → Int32) : ∀ n, n ≤ 8 → (a_lw g n = (nM, nI 10) ∧ ∀ p, p < n → isS (g p) = false) ∨ ∃ j, j < n ∧ a_lw g n = (nI j, g j) ∧ isS (g j) = true ∧ (∀ p, p < n → isS (g p) = true → g j ≤ g p) ∧ (∀ p, p < j → isS (g p) = true → g j < g p)
  | 0, _ => Or.inl ⟨rfl, fun p h => by omega⟩
  | n + 1, hn => by
    have ih := lw_in g n (by omega)
    have e : a_lw g (n + 1) = (if isS (g n) then (if (a_lw g n).2 ≤ g n then a_lw g n else (nI n, g n)) else a_lw g n) := rfl
    cases hs : isS (g n) with
    | false =>
      rw [hs] at e
      simp only [Bool.false_eq_true, ↓reduceIte] at e
      rw [e]
      rcases ih with ⟨h1, h2⟩ | ⟨j, h1, h3, h4, h5, h6⟩
      · refine Or.inl ⟨h1, fun p g1 => ?_⟩
        by_cases g3 : p = n
        · rw [g3]; exact hs
        · exact h2 p (by omega)
      · refine Or.inr ⟨j, by omega, h3, h4, fun p g1 g3 => ?_, h6⟩
        by_cases g4 : p = n
        · rw [g4, hs] at g3; cases g3
        · exact h5 p (by omega) g3
    | true =>
      rw [hs] at e
      simp only [↓reduceIte] at e
      rcases ih with ⟨h1, h2⟩ | ⟨j, h1, h3, h4, h5, h6⟩
      · have hlt : ¬ nI 10 ≤ g n := by
          have := isS_iff.mp hs
          have e10 : (nI 10).toInt = 10 := by decide
          rw [i_le, e10]
          omega
        rw [h1] at e
        simp only [hlt, ↓reduceIte] at e
        refine Or.inr ⟨n, by omega, e, hs, fun p g1 g3 => ?_, fun p g1 g3 => ?_⟩
        · by_cases g4 : p = n
          · rw [g4]; exact Int32.le_refl _
          · rw [h2 p (by omega)] at g3; cases g3
        · rw [h2 p (by omega)] at g3; cases g3
      · rw [h3] at e
        by_cases hle : g j ≤ g n
        · simp only [hle, ↓reduceIte] at e
          refine Or.inr ⟨j, by omega, e, h4, fun p g1 g3 => ?_, h6⟩
          by_cases g4 : p = n
          · rw [g4]; exact hle
          · exact h5 p (by omega) g3
        · simp only [hle, ↓reduceIte] at e
          have hlt : g n < g j := Int32.not_le.mp hle
          refine Or.inr ⟨n, by omega, e, hs, fun p g1 g3 => ?_, fun p g1 g3 => ?_⟩
          · by_cases g4 : p = n
            · rw [g4]; exact Int32.le_refl _
            · exact Int32.le_trans (Int32.le_of_lt hlt) (h5 p (by omega) g3)
          · exact Int32.lt_of_lt_of_le hlt (h5 p (by omega) g3)
theorem bits_bc : ∀ j, j < 256 → a_bc (nI j) = nI (cnt (fun q => hb (nI j) (nI q)) 8) := by decide +kernel
theorem sm_le {c : Nat → Nat} {b : Nat} : ∀ n, (∀ i, i < n → c i ≤ b) → sm c n ≤ n * b
  | 0, _ => by simp [sm]
  | n + 1, h => by
    have h1 := sm_le n (fun i hi => h i (by omega))
    have h2 := h n (by omega)
    simp only [sm]
    rw [Nat.succ_mul]
    omega
theorem u_self {u : AS} {f k : Nat} {w : Int32} : (u_2 u f k w) f = up1 (u f) k w := by
  funext j
  unfold u_2 up1
  simp only [true_and]
theorem lp_rel {τ ρ : Type} {step : τ → Option (τ ⊕ ρ)} {t : τ} (N : Nat) (R : Nat → τ → Prop) (h0 : R 0 t) (h : ∀ i, i < N → ∀ t, R i t → ∃ t', step t = some (.inl t') ∧ R (i + 1) t') : ∃ t', R N t' ∧ lp step t = lp step t' := by
  have key : ∀ k, k ≤ N → ∃ t', R k t' ∧ lp step t = lp step t' := by
    intro k
    induction k with
    | zero => intro _; exact ⟨t, h0, rfl⟩
    | succ k ih =>
      intro hk
      obtain ⟨t1, h1, h2⟩ := ih (by omega)
      obtain ⟨t2, h3, h4⟩ := h k (by omega) t1 h1
      exact ⟨t2, h4, h2.trans (lp_inl h3)⟩
  exact key N (Nat.le_refl N)
theorem u_cm {w : AS} {f k g j : Nat} {x y : Int32} (h : f ≠ g) : u_2 (u_2 w f k x) g j y = u_2 (u_2 w g j y) f k x := by
  funext a b
  show (if a = g ∧ b = j then y else if a = f ∧ b = k then x else w a b) = (if a = f ∧ b = k then x else if a = g ∧ b = j then y else w a b)
  by_cases e1 : a = f ∧ b = k
  · rw [if_neg (fun z : a = g ∧ b = j => h (e1.1.symm.trans z.1)), if_pos e1, if_pos e1]
  · rw [if_neg e1, if_neg e1]
theorem ur_id {w : AS} {f : Nat} : u_r w f (w f) = w := by
  funext a
  unfold u_r
  by_cases e : a = f
  · rw [if_pos e, e]
  · rw [if_neg e]
theorem ur_u {w : AS} {f k : Nat} {g : Nat → Int32} {x : Int32} : u_2 (u_r w f g) f k x = u_r w f (up1 g k x) := by
  funext a b
  show (if a = f ∧ b = k then x else (if a = f then g else w a) b) = (if a = f then up1 g k x else w a) b
  by_cases e : a = f
  · rw [if_pos e, if_pos e]
    unfold up1
    simp only [e, true_and]
  · rw [if_neg e, if_neg e, if_neg (fun z => e z.1)]
theorem u2_ur {w : AS} {f k : Nat} {x : Int32} : u_2 w f k x = u_r w f (up1 (w f) k x) := by
  have h := ur_u (w := w) (f := f) (k := k) (g := w f) (x := x)
  rwa [ur_id] at h
theorem ur_ne {w : AS} {f a : Nat} {g : Nat → Int32} (h : a ≠ f) : u_r w f g a = w a := by unfold u_r; exact if_neg h
theorem ur_s {w : AS} {f : Nat} {g : Nat → Int32} : u_r w f g f = g := by unfold u_r; exact if_pos rfl
theorem sc_no : ∀ k, k < 11 → nI k - nI 1 ≠ nI k ∧ nI k + nI 1 ≠ nI k ∧ nI k - nI 1 = nI k + nM := by decide
theorem pay_ne (w : Int32) (v : AS) : ∀ i f, f ≠ 3 → a_pay w v i f = v f
  | 0, _, _ => rfl
  | i + 1, f, h => by
    have e : a_pay w v (i + 1) = (if hb w (nI i) then u_2 (a_pay w v i) 3 i (a_pay w v i 3 i + nI 1) else a_pay w v i) := rfl
    rw [e]
    split
    · rw [u_ne h]; exact pay_ne w v i f h
    · exact pay_ne w v i f h
theorem m_1 : nM = (-1 : Int32) := by decide
