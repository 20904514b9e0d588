/-! CUTS AND FLOWS of eight persons and eight papers -/
theorem sm_add (f g : Nat → Nat) : ∀ n, sm (fun i => f i + g i) n = sm f n + sm g n
  | 0 => rfl
  | n + 1 => by
    have ih := sm_add f g n
    simp only [sm]
    omega
theorem sm_zero : ∀ n, sm (fun _ => 0) n = 0
  | 0 => rfl
  | n + 1 => by simp only [sm, sm_zero n]
theorem sm_swap (a : Nat → Nat → Nat) (m : Nat) : ∀ n, sm (fun p => sm (fun q => a p q) m) n = sm (fun q => sm (fun p => a p q) n) m
  | 0 => (sm_zero m).symm
  | n + 1 => by
    have ih := sm_swap a m n
    show sm (fun p => sm (fun q => a p q) m) n + sm (fun q => a n q) m = sm (fun q => sm (fun p => a p q) n + a n q) m
    rw [sm_add, ih]
theorem sm_mono {f g : Nat → Nat} : ∀ n, (∀ i, i < n → f i ≤ g i) → sm f n ≤ sm g n
  | 0, _ => Nat.le_refl _
  | n + 1, h => by
    have ih := sm_mono n (fun i hi => h i (by omega))
    have := h n (by omega)
    simp only [sm]
    omega
theorem cnt_sm (P : Nat → Bool) : ∀ n, cnt P n = sm (fun i => bn (P i)) n
  | 0 => rfl
  | n + 1 => by simp only [cnt, sm, cnt_sm P n]
section CU
variable (cap dem : Nat → Nat) (E : Nat → Nat → Bool)
def gc (X K : Nat → Bool) : Nat := sm (fun p => if X p then cap p else 0) 8 + sm (fun q => if K q then sm (fun p => bn (!X p && E p q)) 8 else dem q) 8
def gd (X K : Nat → Bool) : Nat := sm (fun q => if K q then 0 else dem q) 8 + sm (fun p => if X p then cap p else sm (fun q => bn (K q && E p q)) 8) 8
def rc_ (X : Nat → Bool) : Nat := sm (fun p => if X p then cap p else 0) 8 + sm (fun q => min (dem q) (cnt (fun p => !X p && E p q) 8)) 8
def cc_ (K : Nat → Bool) : Nat := sm (fun q => if K q then 0 else dem q) 8 + sm (fun p => min (cap p) (cnt (fun q => K q && E p q) 8)) 8
theorem gc_gd (X K : Nat → Bool) : gc cap dem E X K = gd cap dem E X K := by
  unfold gc gd
  have e1 : sm (fun q => if K q then sm (fun p => bn (!X p && E p q)) 8 else dem q) 8 = sm (fun q => if K q then 0 else dem q) 8 + sm (fun q => sm (fun p => bn (K q && (!X p && E p q))) 8) 8 := by
    rw [← sm_add]
    refine sm_cg (fun q _ => ?_)
    cases K q with
    | true =>
      show sm (fun p => bn (!X p && E p q)) 8 = 0 + sm (fun p => bn (true && (!X p && E p q))) 8
      simp only [Bool.true_and, Nat.zero_add]
    | false =>
      show dem q = dem q + sm (fun p => bn (false && (!X p && E p q))) 8
      simp only [Bool.false_and]
      rw [show (fun _ : Nat => bn false) = fun _ => 0 from rfl, sm_zero, Nat.add_zero]
  have e2 : sm (fun p => if X p then cap p else sm (fun q => bn (K q && E p q)) 8) 8 = sm (fun p => if X p then cap p else 0) 8 + sm (fun p => sm (fun q => bn (K q && (!X p && E p q))) 8) 8 := by
    rw [← sm_add]
    refine sm_cg (fun p _ => ?_)
    cases X p with
    | true =>
      show cap p = cap p + sm (fun q => bn (K q && (!true && E p q))) 8
      simp only [Bool.not_true, Bool.false_and, Bool.and_false]
      rw [show (fun _ : Nat => bn false) = fun _ => 0 from rfl, sm_zero, Nat.add_zero]
    | false =>
      show sm (fun q => bn (K q && E p q)) 8 = 0 + sm (fun q => bn (K q && (!false && E p q))) 8
      simp only [Bool.not_false, Bool.true_and, Nat.zero_add]
  rw [e1, e2, sm_swap (fun p q => bn (K q && (!X p && E p q))) 8 8]
  omega
theorem rc_le (X K : Nat → Bool) : rc_ cap dem E X ≤ gc cap dem E X K := by
  unfold rc_ gc
  refine Nat.add_le_add_left (sm_mono 8 (fun q _ => ?_)) _
  rw [cnt_sm]
  split
  · exact Nat.min_le_right _ _
  · exact Nat.min_le_left _ _
theorem rc_at (X : Nat → Bool) : ∃ K, gc cap dem E X K = rc_ cap dem E X := by
  refine ⟨fun q => decide (cnt (fun p => !X p && E p q) 8 ≤ dem q), ?_⟩
  unfold rc_ gc
  congr 1
  refine sm_cg (fun q _ => ?_)
  rw [← cnt_sm]
  dsimp only
  by_cases h : cnt (fun p => !X p && E p q) 8 ≤ dem q
  · rw [if_pos (decide_eq_true h), Nat.min_eq_right h]
  · rw [if_neg (fun z => h (of_decide_eq_true z)), Nat.min_eq_left (by omega)]
theorem cc_le (X K : Nat → Bool) : cc_ cap dem E K ≤ gc cap dem E X K := by
  rw [gc_gd]
  unfold cc_ gd
  refine Nat.add_le_add_left (sm_mono 8 (fun q _ => ?_)) _
  rw [cnt_sm]
  split
  · exact Nat.min_le_left _ _
  · exact Nat.min_le_right _ _
theorem cc_at (K : Nat → Bool) : ∃ X, gc cap dem E X K = cc_ cap dem E K := by
  refine ⟨fun p => decide (cap p ≤ cnt (fun q => K q && E p q) 8), ?_⟩
  rw [gc_gd]
  unfold cc_ gd
  congr 1
  refine sm_cg (fun p _ => ?_)
  rw [← cnt_sm]
  dsimp only
  by_cases h : cap p ≤ cnt (fun q => K q && E p q) 8
  · rw [if_pos (decide_eq_true h), Nat.min_eq_left h]
  · rw [if_neg (fun z => h (of_decide_eq_true z)), Nat.min_eq_right (by omega)]
theorem cut_eq {A B : Nat} (h1 : ∀ X, A ≤ rc_ cap dem E X) (h2 : ∃ X, rc_ cap dem E X = A) (h3 : ∀ K, B ≤ cc_ cap dem E K) (h4 : ∃ K, cc_ cap dem E K = B) : A = B := by
  obtain ⟨X, hX⟩ := h2
  obtain ⟨K, hK⟩ := h4
  obtain ⟨K1, hK1⟩ := rc_at cap dem E X
  obtain ⟨X1, hX1⟩ := cc_at cap dem E K
  have a := h3 K1
  have b := cc_le cap dem E X K1
  have c := h1 X1
  have d := rc_le cap dem E X1 K
  omega
/-- a flow: who holds what -/
def FL (H : Nat → Nat → Bool) : Prop := (∀ p q, p < 8 → q < 8 → H p q = true → E p q = true) ∧ (∀ p, p < 8 → sm (fun q => bn (H p q)) 8 ≤ cap p) ∧ ∀ q, q < 8 → sm (fun p => bn (H p q)) 8 ≤ dem q
def all_ (H : Nat → Nat → Bool) : Nat := sm (fun q => sm (fun p => bn (H p q)) 8) 8
theorem bn_mono {a b : Bool} (h : a = true → b = true) : bn a ≤ bn b := by
  cases a with
  | false => exact Nat.zero_le _
  | true => rw [h rfl]; exact Nat.le_refl _
theorem bn_split (x h : Bool) : bn h = bn (x && h) + bn (!x && h) := by cases x <;> cases h <;> rfl
theorem fl_weak {H : Nat → Nat → Bool} (h : FL cap dem E H) (X : Nat → Bool) : all_ H ≤ rc_ cap dem E X := by
  obtain ⟨h1, h2, h3⟩ := h
  have e : all_ H = sm (fun p => sm (fun q => bn (X p && H p q)) 8) 8 + sm (fun q => sm (fun p => bn (!X p && H p q)) 8) 8 := by
    rw [sm_swap (fun p q => bn (X p && H p q)) 8 8, ← sm_add]
    refine sm_cg (fun q _ => ?_)
    show sm (fun p => bn (H p q)) 8 = sm (fun p => bn (X p && H p q)) 8 + sm (fun p => bn (!X p && H p q)) 8
    rw [← sm_add]
    exact sm_cg (fun p _ => bn_split _ _)
  rw [e]
  unfold rc_
  refine Nat.add_le_add (sm_mono 8 (fun p hp => ?_)) (sm_mono 8 (fun q hq => ?_))
  · cases hX : X p with
    | true =>
      refine Nat.le_trans (sm_mono 8 (fun q hq => ?_)) (h2 p hp)
      rw [Bool.true_and]
      exact Nat.le_refl _
    | false =>
      rw [show (fun q => bn (false && H p q)) = fun _ => 0 from rfl, sm_zero]
      exact Nat.zero_le _
  · refine Nat.le_min.mpr ⟨Nat.le_trans (sm_mono 8 (fun p hp => bn_mono (fun z => ?_))) (h3 q hq), ?_⟩
    · rw [Bool.and_eq_true] at z
      exact z.2
    · rw [cnt_sm]
      refine sm_mono 8 (fun p hp => bn_mono (fun z => ?_))
      rw [Bool.and_eq_true] at z ⊢
      exact ⟨z.1, h1 p q hp hq z.2⟩
/-- nothing leads out of the persons X and papers T -/
def BK (H : Nat → Nat → Bool) (L : Nat → Prop) (X T : Nat → Bool) : Prop := (∀ p q, p < 8 → q < 8 → T q = true → E p q = true → H p q = false → X p = true) ∧ (∀ p, p < 8 → X p = true → L p) ∧ ∀ p q, p < 8 → q < 8 → X p = true → H p q = true → T q = true
theorem fl_strong {H : Nat → Nat → Bool} (h : FL cap dem E H) {X T : Nat → Bool} (hb : BK E H (fun p => sm (fun q => bn (H p q)) 8 = cap p) X T) (hT : ∀ q, q < 8 → T q = false → sm (fun p => bn (H p q)) 8 = dem q) : rc_ cap dem E X = all_ H := by
  obtain ⟨b1, b2, b3⟩ := hb
  have k : gc cap dem E X T = all_ H := by
    unfold gc
    have e1 : sm (fun p => if X p then cap p else 0) 8 = sm (fun p => sm (fun q => bn (X p && H p q)) 8) 8 := by
      refine sm_cg (fun p hp => ?_)
      cases hX : X p with
      | true =>
        rw [if_pos rfl, ← b2 p hp hX]
        exact sm_cg (fun q _ => by rw [Bool.true_and])
      | false =>
        rw [if_neg (by decide), show (fun q => bn (false && H p q)) = fun _ => 0 from rfl, sm_zero]
    rw [e1, sm_swap (fun p q => bn (X p && H p q)) 8 8, ← sm_add]
    refine sm_cg (fun q hq => ?_)
    show sm (fun p => bn (X p && H p q)) 8 + (if T q then sm (fun p => bn (!X p && E p q)) 8 else dem q) = sm (fun p => bn (H p q)) 8
    cases hTq : T q with
    | true =>
      rw [if_pos rfl, ← sm_add]
      refine sm_cg (fun p hp => ?_)
      rw [bn_split (X p) (H p q)]
      congr 1
      cases hX : X p with
      | true => rfl
      | false =>
        rw [Bool.not_false, Bool.true_and, Bool.true_and]
        cases hH : H p q with
        | true => rw [h.1 p q hp hq hH]
        | false =>
          cases hE : E p q with
          | false => rfl
          | true =>
            have := b1 p q hp hq hTq hE hH
            rw [hX] at this
            cases this
    | false =>
      rw [if_neg (by decide), ← hT q hq hTq]
      have z : sm (fun p => bn (X p && H p q)) 8 = 0 := by
        rw [← sm_zero 8]
        refine sm_cg (fun p hp => ?_)
        cases hX : X p with
        | false => rfl
        | true =>
          cases hH : H p q with
          | false => rfl
          | true =>
            have := b3 p q hp hq hX hH
            rw [hTq] at this
            cases this
      rw [z, Nat.zero_add]
  have a := rc_le cap dem E X T
  have b := fl_weak cap dem E h X
  omega
end CU
