/-! THE REFERENCE, WRITTEN: the pool with other contents of its object (fields 0, 2, 5 to 10; rows 1, 3, 4, 11) -/
def mvv (I : Nat → Nat → Int32) (G : Nat → Nat) (u : AS) : Nat → Nat → Int32 := fun a k => if G a = 2012 then (if k = 0 ∨ k = 2 ∨ (5 ≤ k ∧ k < 11) then u k 0 else I a k) else if G a = 2001 then u 1 k else if G a = 2003 then u 3 k else if G a = 2004 then u 4 k else if G a = 2011 then u 11 k else I a k
def mput (S : PH) (G : Nat → Nat) (u : AS) : PH := (p_L S, p_K S, p_N S, mvv (p_I S) G u, p_R S, p_J S, p_E S)
theorem u_self {u : AS} {f k : Nat} {w : Int32} : (u_2 u f k w) f = up1 (u f) k w := by
  funext j
  unfold u_2 up1
  simp only [true_and]
section MP
variable {S : PH} {G : Nat → Nat} {m : Nat} {u : AS} {β : Type} {f : Nat → Option β}
theorem dr_mp {c : Nat} {r : Option Nat} : dr (mput S G u) c r f = dr S c r f := rfl
theorem N_mp : p_N (mput S G u) = p_N S := rfl
theorem R_mp : p_R (mput S G u) = p_R S := rfl
theorem rf_mp : rf (mput S G u) = rf S := rfl
theorem hM (h : RM S G m) : RM (mput S G u) G m := h
theorem mg_1 (h : RM S G m) : p_I (mput S G u) (rf S m 1) = u 1 := by
  funext k
  show mvv (p_I S) G u (rf S m 1) k = _
  have hc : G (rf S m 1) = 2001 := h.2.1.2
  unfold mvv
  rw [if_neg (by omega), if_pos hc]
theorem mg_3 (h : RM S G m) : p_I (mput S G u) (rf S m 3) = u 3 := by
  funext k
  show mvv (p_I S) G u (rf S m 3) k = _
  have hc : G (rf S m 3) = 2003 := h.2.2.1.2
  unfold mvv
  rw [if_neg (by omega), if_neg (by omega), if_pos hc]
theorem mg_4 (h : RM S G m) : p_I (mput S G u) (rf S m 4) = u 4 := by
  funext k
  show mvv (p_I S) G u (rf S m 4) k = _
  have hc : G (rf S m 4) = 2004 := h.2.2.2.1.2
  unfold mvv
  rw [if_neg (by omega), if_neg (by omega), if_neg (by omega), if_pos hc]
theorem mg_11 (h : RM S G m) : p_I (mput S G u) (rf S m 11) = u 11 := by
  funext k
  show mvv (p_I S) G u (rf S m 11) k = _
  have hc : G (rf S m 11) = 2011 := h.2.2.2.2.2
  unfold mvv
  rw [if_neg (by omega), if_neg (by omega), if_neg (by omega), if_neg (by omega), if_pos hc]
theorem mg_i (h : RM S G m) (k : Nat) (hk : k = 0 ∨ k = 2 ∨ (5 ≤ k ∧ k < 11)) : p_I (mput S G u) m k = u k 0 := by
  show mvv (p_I S) G u m k = _
  unfold mvv
  rw [if_pos h.1.2, if_pos hk]
theorem ms_a {c F k : Nat} {w : Int32} (hg : Gi G) (hF : F = 1 ∨ F = 3 ∨ F = 4 ∨ F = 11) (hc : G c = 2000 + F) : s_I (mput S G u) c k w = mput S G (u_2 u F k w) := by
  refine put_eq rfl rfl rfl ?_ rfl rfl rfl
  show u_2 (mvv (p_I S) G u) c k w = mvv (p_I S) G (u_2 u F k w)
  funext d j
  show (if d = c ∧ j = k then w else mvv (p_I S) G u d j) = _
  by_cases e : d = c
  · subst e
    have e1 : mvv (p_I S) G u d j = u F j := by
      unfold mvv
      rcases hF with rfl | rfl | rfl | rfl <;> (repeat (first | rw [if_pos (by omega)] | rw [if_neg (by omega)]))
    have e2 : mvv (p_I S) G (u_2 u F k w) d j = (u_2 u F k w) F j := by
      unfold mvv
      rcases hF with rfl | rfl | rfl | rfl <;> (repeat (first | rw [if_pos (by omega)] | rw [if_neg (by omega)]))
    rw [e1, e2, u_self]
    unfold up1
    simp only [true_and]
  · rw [if_neg (fun z => e z.1)]
    have hne : G d ≠ G c := fun z => e (hg d c (by omega) z)
    unfold mvv
    split
    · split
      · show u j 0 = (if j = F ∧ 0 = k then w else u j 0)
        rw [if_neg (by omega)]
      · rfl
    · split
      · show _ = (if 1 = F ∧ j = k then w else _)
        rw [if_neg (by omega)]
      · split
        · show _ = (if 3 = F ∧ j = k then w else _)
          rw [if_neg (by omega)]
        · split
          · show _ = (if 4 = F ∧ j = k then w else _)
            rw [if_neg (by omega)]
          · split
            · show _ = (if 11 = F ∧ j = k then w else _)
              rw [if_neg (by omega)]
            · rfl
theorem ms_1 (hg : Gi G) (h : RM S G m) {k : Nat} {w : Int32} : s_I (mput S G u) (rf S m 1) k w = mput S G (u_2 u 1 k w) := ms_a hg (by omega) h.2.1.2
theorem ms_3 (hg : Gi G) (h : RM S G m) {k : Nat} {w : Int32} : s_I (mput S G u) (rf S m 3) k w = mput S G (u_2 u 3 k w) := ms_a hg (by omega) h.2.2.1.2
theorem ms_4 (hg : Gi G) (h : RM S G m) {k : Nat} {w : Int32} : s_I (mput S G u) (rf S m 4) k w = mput S G (u_2 u 4 k w) := ms_a hg (by omega) h.2.2.2.1.2
theorem ms_11 (hg : Gi G) (h : RM S G m) {k : Nat} {w : Int32} : s_I (mput S G u) (rf S m 11) k w = mput S G (u_2 u 11 k w) := ms_a hg (by omega) h.2.2.2.2.2
theorem ms_i (hg : Gi G) (h : RM S G m) (F : Nat) (hF : F = 0 ∨ F = 2 ∨ (5 ≤ F ∧ F < 11)) {w : Int32} : s_I (mput S G u) m F w = mput S G (u_2 u F 0 w) := by
  refine put_eq rfl rfl rfl ?_ rfl rfl rfl
  show u_2 (mvv (p_I S) G u) m F w = mvv (p_I S) G (u_2 u F 0 w)
  have hc : G m = 2012 := h.1.2
  funext d j
  show (if d = m ∧ j = F then w else mvv (p_I S) G u d j) = _
  by_cases e : d = m
  · subst e
    unfold mvv
    rw [if_pos hc, if_pos hc]
    by_cases e2 : j = F
    · subst e2
      rw [if_pos ⟨rfl, rfl⟩, if_pos hF]
      show w = (if j = j ∧ 0 = 0 then w else _)
      rw [if_pos ⟨rfl, rfl⟩]
    · rw [if_neg (fun z => e2 z.2)]
      split
      · show _ = (if j = F ∧ 0 = 0 then w else _)
        rw [if_neg (fun z => e2 z.1)]
      · rfl
  · rw [if_neg (fun z => e z.1)]
    have hne : G d ≠ G m := fun z => e (hg d m (by omega) z)
    have hd : ¬ G d = 2012 := by omega
    unfold mvv
    simp only [if_neg hd]
    rw [u_ne (by omega), u_ne (by omega), u_ne (by omega), u_ne (by omega)]
end MP
/-- nothing is other but the first chunk of the row -/
def s1 (u u' : AS) : Prop := (∀ f, f ≠ 1 → u' f = u f) ∧ ∀ i, 161 ≤ i → u' 1 i = u 1 i
theorem s1.rf (u : AS) : s1 u u := ⟨fun _ _ => rfl, fun _ _ => rfl⟩
theorem s1.tr {u w z : AS} (h : s1 u w) (g : s1 w z) : s1 u z := ⟨fun f hf => (g.1 f hf).trans (h.1 f hf), fun i hi => (g.2 i hi).trans (h.2 i hi)⟩
theorem s1.set {u w : AS} (h : s1 u w) {k : Nat} {x : Int32} (hk : k < 161) : s1 u (u_2 w 1 k x) := ⟨fun f hf => (u_ne hf).trans (h.1 f hf), fun i hi => (u_k (by omega)).trans (h.2 i hi)⟩
theorem lp_rel {τ ρ : Type} {step : τ → Option (τ ⊕ ρ)} {t : τ} (N : Nat) (R : Nat → τ → Prop) (h0 : R 0 t) (h : ∀ i, i < N → ∀ t, R i t → ∃ t', step t = some (.inl t') ∧ R (i + 1) t') : ∃ t', R N t' ∧ lp step t = lp step t' := by
  have key : ∀ k, k ≤ N → ∃ t', R k t' ∧ lp step t = lp step t' := by
    intro k
    induction k with
    | zero => intro _; exact ⟨t, h0, rfl⟩
    | succ k ih =>
      intro hk
      obtain ⟨t1, h1, h2⟩ := ih (by omega)
      obtain ⟨t2, h3, h4⟩ := h k (by omega) t1 h1
      exact ⟨t2, h4, h2.trans (lp_inl h3)⟩
  exact key N (Nat.le_refl N)
