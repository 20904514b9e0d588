/-! THE REFERENCE, READ: spreads, pairs, the best reviewer, all properties -/
/-- a number that is 0 or greater and the greatest of a row's -/
theorem d1_in (g : Nat → Int32) (p : Nat) (a : Int32) : ∀ n, a ≤ fo (fun q m => if dd g p q ≤ m then m else dd g p q) n a ∧ (∀ q, q < n → dd g p q ≤ fo (fun q m => if dd g p q ≤ m then m else dd g p q) n a) ∧ (fo (fun q m => if dd g p q ≤ m then m else dd g p q) n a = a ∨ ∃ q, q < n ∧ fo (fun q m => if dd g p q ≤ m then m else dd g p q) n a = dd g p q)
  | 0 => ⟨Int32.le_refl _, fun q h => by omega, Or.inl rfl⟩
  | n + 1 => by
    obtain ⟨h1, h2, h3⟩ := d1_in g p a n
    have e : fo (fun q m => if dd g p q ≤ m then m else dd g p q) (n + 1) a = (if dd g p n ≤ fo (fun q m => if dd g p q ≤ m then m else dd g p q) n a then fo (fun q m => if dd g p q ≤ m then m else dd g p q) n a else dd g p n) := rfl
    rw [e]
    by_cases hle : dd g p n ≤ fo (fun q m => if dd g p q ≤ m then m else dd g p q) n a
    · rw [if_pos hle]
      refine ⟨h1, fun q hq => ?_, ?_⟩
      · by_cases g4 : q = n
        · rw [g4]; exact hle
        · exact h2 q (by omega)
      · rcases h3 with h3 | ⟨q, h3, h4⟩
        · exact Or.inl h3
        · exact Or.inr ⟨q, by omega, h4⟩
    · rw [if_neg hle]
      have hlt := Int32.le_of_lt (Int32.not_le.mp hle)
      refine ⟨Int32.le_trans h1 hlt, fun q hq => ?_, Or.inr ⟨n, by omega, rfl⟩⟩
      by_cases g4 : q = n
      · rw [g4]; exact Int32.le_refl _
      · exact Int32.le_trans (h2 q (by omega)) hlt
theorem d1_8 (g : Nat → Int32) (p : Nat) (a : Int32) : a ≤ a_d1 g p a ∧ (∀ q, q < 8 → dd g p q ≤ a_d1 g p a) ∧ (a_d1 g p a = a ∨ ∃ q, q < 8 ∧ a_d1 g p a = dd g p q) := d1_in g p a 8
theorem dif_gen (F : Nat → Int32 → Int32) (d : Nat → Nat → Int32) (hF : ∀ p a, a ≤ F p a ∧ (∀ q, q < 8 → d p q ≤ F p a) ∧ (F p a = a ∨ ∃ q, q < 8 ∧ F p a = d p q)) : ∀ n, nI 0 ≤ fo F n (nI 0) ∧ (∀ p q, p < n → q < 8 → d p q ≤ fo F n (nI 0)) ∧ (fo F n (nI 0) = nI 0 ∨ ∃ p q, p < n ∧ q < 8 ∧ fo F n (nI 0) = d p q)
  | 0 => ⟨Int32.le_refl _, fun p q h => by omega, Or.inl rfl⟩
  | n + 1 => by
    obtain ⟨h1, h2, h3⟩ := dif_gen F d hF n
    have e : fo F (n + 1) (nI 0) = F n (fo F n (nI 0)) := rfl
    rw [e]
    obtain ⟨k1, k2, k3⟩ := hF n (fo F n (nI 0))
    refine ⟨Int32.le_trans h1 k1, fun p q hp hq => ?_, ?_⟩
    · by_cases g4 : p = n
      · rw [g4]; exact k2 q hq
      · exact Int32.le_trans (h2 p q (by omega) hq) k1
    · rcases k3 with k3 | ⟨q, k3, k4⟩
      · rcases h3 with h3 | ⟨p, q, h3, h4, h5⟩
        · exact Or.inl (k3.trans h3)
        · exact Or.inr ⟨p, q, by omega, h4, k3.trans h5⟩
      · exact Or.inr ⟨n, q, by omega, k3, k4⟩
theorem max_in (g : Nat → Int32) : ∀ n, 0 ≤ (fo (fun i m => if isS (g i) then mmax m (g i) else m) n (nI 0)).toInt ∧ (fo (fun i m => if isS (g i) then mmax m (g i) else m) n (nI 0)).toInt ≤ 9 ∧ (∀ p, p < n → isS (g p) = true → (g p).toInt ≤ (fo (fun i m => if isS (g i) then mmax m (g i) else m) n (nI 0)).toInt) ∧ ((∀ p, p < n → isS (g p) = false) ∧ (fo (fun i m => if isS (g i) then mmax m (g i) else m) n (nI 0)) = nI 0 ∨ ∃ p, p < n ∧ isS (g p) = true ∧ (fo (fun i m => if isS (g i) then mmax m (g i) else m) n (nI 0)) = g p)
  | 0 => ⟨(by show 0 ≤ (nI 0).toInt; decide), (by show (nI 0).toInt ≤ 9; decide), fun p h => by omega, Or.inl ⟨fun p h => by omega, rfl⟩⟩
  | n + 1 => by
    obtain ⟨h1, h2, h3, h4⟩ := max_in g n
    have e : fo (fun i m => if isS (g i) then mmax m (g i) else m) (n + 1) (nI 0) = (if isS (g n) then mmax (fo (fun i m => if isS (g i) then mmax m (g i) else m) n (nI 0)) (g n) else fo (fun i m => if isS (g i) then mmax m (g i) else m) n (nI 0)) := rfl
    rw [e]
    generalize fo (fun i m => if isS (g i) then mmax m (g i) else m) n (nI 0) = R at h1 h2 h3 h4 ⊢
    cases hs : isS (g n) with
    | false =>
      simp only [Bool.false_eq_true, ↓reduceIte]
      refine ⟨h1, h2, fun p hp hq => ?_, ?_⟩
      · by_cases g4 : p = n
        · rw [g4, hs] at hq; cases hq
        · exact h3 p (by omega) hq
      · rcases h4 with ⟨h4, h5⟩ | ⟨p, h4, h5, h6⟩
        · refine Or.inl ⟨fun p hp => ?_, h5⟩
          by_cases g4 : p = n
          · rw [g4]; exact hs
          · exact h4 p (by omega)
        · exact Or.inr ⟨p, by omega, h5, h6⟩
    | true =>
      simp only [↓reduceIte, mmax]
      have hg := isS_iff.mp hs
      by_cases hlt : R < g n
      · rw [if_pos hlt]
        have := i_lt.mp hlt
        refine ⟨by omega, by omega, fun p hp hq => ?_, Or.inr ⟨n, by omega, hs, rfl⟩⟩
        by_cases g4 : p = n
        · rw [g4]; omega
        · have := h3 p (by omega) hq; omega
      · rw [if_neg hlt]
        have hle : (g n).toInt ≤ R.toInt := i_le.mp (Int32.not_lt.mp hlt)
        refine ⟨h1, h2, fun p hp hq => ?_, ?_⟩
        · by_cases g4 : p = n
          · rw [g4]; exact hle
          · exact h3 p (by omega) hq
        · rcases h4 with ⟨h4, h5⟩ | ⟨p, h4, h5, h6⟩
          · refine Or.inr ⟨n, by omega, hs, ?_⟩
            have e0 : (nI 0).toInt = 0 := by decide
            apply Int32.toInt_inj.mp
            rw [h5] at hle ⊢
            omega
          · exact Or.inr ⟨p, by omega, h5, h6⟩
theorem min_in (g : Nat → Int32) : ∀ n, 0 ≤ (fo (fun i m => if isS (g i) then mmin m (g i) else m) n (nI 9)).toInt ∧ (fo (fun i m => if isS (g i) then mmin m (g i) else m) n (nI 9)).toInt ≤ 9 ∧ (∀ p, p < n → isS (g p) = true → (fo (fun i m => if isS (g i) then mmin m (g i) else m) n (nI 9)).toInt ≤ (g p).toInt) ∧ ((∀ p, p < n → isS (g p) = false) ∧ (fo (fun i m => if isS (g i) then mmin m (g i) else m) n (nI 9)) = nI 9 ∨ ∃ p, p < n ∧ isS (g p) = true ∧ (fo (fun i m => if isS (g i) then mmin m (g i) else m) n (nI 9)) = g p)
  | 0 => ⟨(by show 0 ≤ (nI 9).toInt; decide), (by show (nI 9).toInt ≤ 9; decide), fun p h => by omega, Or.inl ⟨fun p h => by omega, rfl⟩⟩
  | n + 1 => by
    obtain ⟨h1, h2, h3, h4⟩ := min_in g n
    have e : fo (fun i m => if isS (g i) then mmin m (g i) else m) (n + 1) (nI 9) = (if isS (g n) then mmin (fo (fun i m => if isS (g i) then mmin m (g i) else m) n (nI 9)) (g n) else fo (fun i m => if isS (g i) then mmin m (g i) else m) n (nI 9)) := rfl
    rw [e]
    generalize fo (fun i m => if isS (g i) then mmin m (g i) else m) n (nI 9) = R at h1 h2 h3 h4 ⊢
    cases hs : isS (g n) with
    | false =>
      simp only [Bool.false_eq_true, ↓reduceIte]
      refine ⟨h1, h2, fun p hp hq => ?_, ?_⟩
      · by_cases g4 : p = n
        · rw [g4, hs] at hq; cases hq
        · exact h3 p (by omega) hq
      · rcases h4 with ⟨h4, h5⟩ | ⟨p, h4, h5, h6⟩
        · refine Or.inl ⟨fun p hp => ?_, h5⟩
          by_cases g4 : p = n
          · rw [g4]; exact hs
          · exact h4 p (by omega)
        · exact Or.inr ⟨p, by omega, h5, h6⟩
    | true =>
      simp only [↓reduceIte, mmin]
      have hg := isS_iff.mp hs
      by_cases hlt : g n < R
      · rw [if_pos hlt]
        have := i_lt.mp hlt
        refine ⟨by omega, by omega, fun p hp hq => ?_, Or.inr ⟨n, by omega, hs, rfl⟩⟩
        by_cases g4 : p = n
        · rw [g4]; omega
        · have := h3 p (by omega) hq; omega
      · rw [if_neg hlt]
        have hle : R.toInt ≤ (g n).toInt := i_le.mp (Int32.not_lt.mp hlt)
        refine ⟨h1, h2, fun p hp hq => ?_, ?_⟩
        · by_cases g4 : p = n
          · rw [g4]; exact hle
          · exact h3 p (by omega) hq
        · rcases h4 with ⟨h4, h5⟩ | ⟨p, h4, h5, h6⟩
          · refine Or.inr ⟨n, by omega, hs, ?_⟩
            have e0 : (nI 9).toInt = 9 := by decide
            apply Int32.toInt_inj.mp
            rw [h5] at hle ⊢
            omega
          · exact Or.inr ⟨p, by omega, h5, h6⟩
theorem sub_i {a b : Int32} (ha : 0 ≤ a.toInt ∧ a.toInt ≤ 9) (hb : 0 ≤ b.toInt ∧ b.toInt ≤ 9) : (a - b).toInt = a.toInt - b.toInt := by
  obtain ⟨j, hj, rfl⟩ := nI_of (x := a) (by rw [i_lt]; have : (0 : Int32).toInt = 0 := (by decide); omega)
  obtain ⟨k, hk, rfl⟩ := nI_of (x := b) (by rw [i_lt]; have : (0 : Int32).toInt = 0 := (by decide); omega)
  rw [nI_toInt (by omega)] at ha
  rw [nI_toInt (by omega)] at hb
  rw [pk_sub_toInt (by omega) (by omega), nI_toInt (by omega), nI_toInt (by omega)]
theorem dif_spr (g : Nat → Int32) : a_dif g = a_spr g := by
  obtain ⟨h1, h2, h3⟩ := dif_gen (a_d1 g) (dd g) (d1_8 g) 8
  obtain ⟨x1, x2, x3, x4⟩ := max_in g 8
  obtain ⟨n1, n2, n3, n4⟩ := min_in g 8
  have e0 : (nI 0).toInt = 0 := by decide
  unfold a_dif a_spr
  have eD : fo (fun p m => a_d1 g p m) 8 (nI 0) = fo (a_d1 g) 8 (nI 0) := rfl
  rw [eD]
  revert h1 h2 h3
  generalize fo (a_d1 g) 8 (nI 0) = D
  intro h1 h2 h3
  generalize fo (fun i m => if isS (g i) then mmax m (g i) else m) 8 (nI 0) = X at x1 x2 x3 x4 ⊢
  generalize fo (fun i m => if isS (g i) then mmin m (g i) else m) 8 (nI 9) = N at n1 n2 n3 n4 ⊢
  have hs := sub_i ⟨x1, x2⟩ ⟨n1, n2⟩
  have h1 := i_le.mp h1
  have hdd : ∀ p q, p < 8 → q < 8 → (dd g p q).toInt ≤ D.toInt := fun p q hp hq => i_le.mp (h2 p q hp hq)
  have ddv : ∀ p q, isS (g p) = true → isS (g q) = true → (dd g p q).toInt = (g p).toInt - (g q).toInt := by
    intro p q hp hq
    unfold dd
    rw [if_pos hp, if_pos hq]
    exact sub_i (isS_iff.mp hp) (isS_iff.mp hq)
  have dd0 : ∀ p q, isS (g p) = false ∨ isS (g q) = false → dd g p q = nI 0 := by
    intro p q h
    unfold dd
    rcases h with h | h
    · rw [h]; rfl
    · rw [h]
      split
      · rfl
      · rfl
  apply Int32.toInt_inj.mp
  unfold mmax
  rcases x4 with ⟨x4, x5⟩ | ⟨p, hp, x4, x5⟩
  · have d0 : D.toInt = 0 := by
      rcases h3 with h3 | ⟨p, q, hp, hq, h3⟩
      · rw [h3]; exact e0
      · rw [h3, dd0 p q (Or.inl (x4 p hp))]; exact e0
    rcases n4 with ⟨n4, n5⟩ | ⟨q, hq, n4, n5⟩
    · have e9 : (nI 9).toInt = 9 := by decide
      rw [if_neg, e0, d0]
      rw [i_lt, hs, x5, n5]
      omega
    · rw [x4 q hq] at n4; cases n4
  · rcases n4 with ⟨n4, n5⟩ | ⟨q, hq, n4, n5⟩
    · rw [n4 p hp] at x4; cases x4
    · have hD1 := hdd p q hp hq
      rw [ddv p q x4 n4, ← x5, ← n5] at hD1
      have hD2 : D.toInt ≤ max 0 (X.toInt - N.toInt) := by
        rcases h3 with h3 | ⟨p', q', hp', hq', h3⟩
        · rw [h3, e0]; omega
        · cases g1 : isS (g p') with
          | false => rw [h3, dd0 p' q' (Or.inl g1), e0]; omega
          | true =>
            cases g2 : isS (g q') with
            | false => rw [h3, dd0 p' q' (Or.inr g2), e0]; omega
            | true =>
              have := x3 p' hp' g1
              have := n3 q' hq' g2
              rw [h3, ddv p' q' g1 g2]
              omega
      by_cases hlt : nI 0 < X - N
      · rw [if_pos hlt, hs]
        have := i_lt.mp hlt
        rw [hs, e0] at this
        omega
      · rw [if_neg hlt, e0]
        have := i_le.mp (Int32.not_lt.mp hlt)
        rw [hs, e0] at this
        omega
/-! pairs -/
theorem bits_bc : ∀ j, j < 256 → a_bc (nI j) = nI (cnt (fun q => hb (nI j) (nI q)) 8) := by decide +kernel
theorem bits_lo : ∀ p, p < 8 → ∀ j, j < 256 → a_ones (nI j &&& (mb p - nI 1)) = nI (cnt (fun q => hb (nI j) (nI q)) p) := by decide +kernel
theorem fo_sum (c : Nat → Nat) (k : Nat) : ∀ n, fo (fun i a => a + nI (c i)) n (nI k) = nI (k + sm c n)
  | 0 => rfl
  | n + 1 => by
    show fo (fun i a => a + nI (c i)) n (nI k) + nI (c n) = nI (k + (sm c n + c n))
    rw [fo_sum c k n, nI_add, Nat.add_assoc]
theorem pair_sum (b : Nat → Nat → Bool) (h : ∀ p q, p < 8 → q < 8 → b p q = b q p ∧ b p p = false) : sm (fun p => cnt (b p) 8) 8 = 2 * sm (fun p => cnt (b p) p) 8 := by
  have s10 := (h 0 1 (by omega) (by omega)).1
  have s20 := (h 0 2 (by omega) (by omega)).1
  have s30 := (h 0 3 (by omega) (by omega)).1
  have s40 := (h 0 4 (by omega) (by omega)).1
  have s50 := (h 0 5 (by omega) (by omega)).1
  have s60 := (h 0 6 (by omega) (by omega)).1
  have s70 := (h 0 7 (by omega) (by omega)).1
  have s21 := (h 1 2 (by omega) (by omega)).1
  have s31 := (h 1 3 (by omega) (by omega)).1
  have s41 := (h 1 4 (by omega) (by omega)).1
  have s51 := (h 1 5 (by omega) (by omega)).1
  have s61 := (h 1 6 (by omega) (by omega)).1
  have s71 := (h 1 7 (by omega) (by omega)).1
  have s32 := (h 2 3 (by omega) (by omega)).1
  have s42 := (h 2 4 (by omega) (by omega)).1
  have s52 := (h 2 5 (by omega) (by omega)).1
  have s62 := (h 2 6 (by omega) (by omega)).1
  have s72 := (h 2 7 (by omega) (by omega)).1
  have s43 := (h 3 4 (by omega) (by omega)).1
  have s53 := (h 3 5 (by omega) (by omega)).1
  have s63 := (h 3 6 (by omega) (by omega)).1
  have s73 := (h 3 7 (by omega) (by omega)).1
  have s54 := (h 4 5 (by omega) (by omega)).1
  have s64 := (h 4 6 (by omega) (by omega)).1
  have s74 := (h 4 7 (by omega) (by omega)).1
  have s65 := (h 5 6 (by omega) (by omega)).1
  have s75 := (h 5 7 (by omega) (by omega)).1
  have s76 := (h 6 7 (by omega) (by omega)).1
  simp only [sm, cnt, s10, s20, s30, s40, s50, s60, s70, s21, s31, s41, s51, s61, s71, s32, s42, s52, s62, s72, s43, s53, s63, s73, s54, s64, s74, s65, s75, s76, (h 0 0 (by omega) (by omega)).2, (h 1 1 (by omega) (by omega)).2, (h 2 2 (by omega) (by omega)).2, (h 3 3 (by omega) (by omega)).2, (h 4 4 (by omega) (by omega)).2, (h 5 5 (by omega) (by omega)).2, (h 6 6 (by omega) (by omega)).2, (h 7 7 (by omega) (by omega)).2, show bn false = 0 from rfl]
  omega
theorem sm_le {c : Nat → Nat} {b : Nat} : ∀ n, (∀ i, i < n → c i ≤ b) → sm c n ≤ n * b
  | 0, _ => by simp [sm]
  | n + 1, h => by
    have h1 := sm_le n (fun i hi => h i (by omega))
    have h2 := h n (by omega)
    simp only [sm]
    rw [Nat.succ_mul]
    omega
section MO
variable {S : PH} {G : Nat → Nat} {m n : Nat} {v : AS}
theorem pairs_eq (hI : IV v) : a_pairs v = fo (fun p a => a + a_ones (v 1 p &&& (mb p - nI 1))) 8 (nI 0) := by
  have hw := hI.ww
  have e1 : fo (fun i m => m + a_bc (v 1 i)) 8 (nI 0) = nI (0 + sm (fun p => cnt (fun q => hb (v 1 p) (nI q)) 8) 8) := by
    rw [← fo_sum]
    refine fo_congr (fun i a hi => ?_)
    have hh := hw.1 i hi
    have h2 := bits_bc (nv v 1 i) (Nat.lt_succ_of_le hh.2)
    rw [← hh.1] at h2
    rw [h2]
  have e2 : fo (fun p a => a + a_ones (v 1 p &&& (mb p - nI 1))) 8 (nI 0) = nI (0 + sm (fun p => cnt (fun q => hb (v 1 p) (nI q)) p) 8) := by
    rw [← fo_sum]
    refine fo_congr (fun i a hi => ?_)
    have hh := hw.1 i hi
    have h2 := bits_lo i hi (nv v 1 i) (Nat.lt_succ_of_le hh.2)
    rw [← hh.1] at h2
    rw [h2]
  have hs := pair_sum (fun p q => hb (v 1 p) (nI q)) (fun p q hp hq => hw.2 p q hp hq)
  have hle : sm (fun p => cnt (fun q => hb (v 1 p) (nI q)) 8) 8 ≤ 8 * 8 := sm_le 8 (fun i _ => cnt_le _ 8)
  unfold a_pairs
  rw [e1, e2, hs, Nat.zero_add, Nat.zero_add, pk_div (by omega) (by omega) (by omega), Nat.mul_div_cancel_left _ (by omega)]
theorem o_pairs (h : RM S G m) (hc : cr (p_I S (rf S m 1)) 0 n v) (hn : n ≤ 8) (hI : IV v) : m_X5_pairs (some m) S = some (a_pairs v, S) := by
  rw [pairs_eq hI]
  unfold m_X5_pairs
  refine lpF 8 (fun i => (fo (fun p a => a + a_ones (v 1 p &&& (mb p - nI 1))) i (nI 0), nI i, S)) _ rfl (fun i hi => ?_) ?_
  · simp (disch := omega) only [st_X5_pairs_4, o_ones, z_0, z_1, z_2, z_3, z_4, z_5, z_6, z_7, z_8, z_9, z_10, z_12, z_13, z_15, z_17, z_20, z_25, z_31, z_33, z_41, z_49, z_57, z_60, z_72, z_100, z_161, z_255, z_256, z_999, z_9999, of_n, nI_add, pk_mul, n_le, n_lt, n_eq, n_cl, ck_n, ck_d, ck_tr, le_t, bd_t, ir_t, bt_r, bt_l, b_t, b_f, b_lt, b_lf, b_ef, z_m1, b_i0, b_i1, z_not, z_ps, f_mb, f_rf, ↓reduceIte, Nat.zero_add, Nat.add_zero, Nat.one_mul, Nat.mul_one, Nat.zero_mul, Nat.mul_zero, not_true_eq_false, not_false_eq_true, h.mm, h.s, h.ns, h.k, h.nk, h.t, h.nt, h.y, h.ny, hc.t, hc.p0, hc.p1, hc.p2, hc.p3, hc.p4, hc.q0, hc.q1, hc.q2, hc.q3, hc.q4, hc.c0, hc.c1, hc.c2, hc.c3, hc.i.1, hc.i.2.1, hc.i.2.2.1, hc.i.2.2.2.1, hc.i.2.2.2.2, hc.sc hn, nar_b, fo]
  · simp (disch := omega) only [st_X5_pairs_4, z_0, z_1, z_2, z_3, z_4, z_5, z_6, z_7, z_8, z_9, z_10, z_12, z_13, z_15, z_17, z_20, z_25, z_31, z_33, z_41, z_49, z_57, z_60, z_72, z_100, z_161, z_255, z_256, z_999, z_9999, of_n, nI_add, pk_mul, n_le, n_lt, n_eq, n_cl, ck_n, ck_d, ck_tr, le_t, bd_t, ir_t, bt_r, bt_l, b_t, b_f, b_lt, b_lf, b_ef, z_m1, b_i0, b_i1, z_not, z_ps, f_mb, f_rf, ↓reduceIte, Nat.zero_add, Nat.add_zero, Nat.one_mul, Nat.mul_one, Nat.zero_mul, Nat.mul_zero, not_true_eq_false, not_false_eq_true]
theorem o_counted (h : RM S G m) (hc : cr (p_I S (rf S m 1)) 0 n v) (hn : n ≤ 8) (hI : IV v) (hk : n = a_n v) {hl : Int32} (hs : p_I S m 2 = hl) {w : Nat} (hw : w < 12) : m_X5_counted (some m) (nI w) S = some (a_num v hl w, S) := by
  rcases (show w = 0 ∨ w = 1 ∨ w = 2 ∨ w = 3 ∨ w = 4 ∨ w = 5 ∨ w = 6 ∨ w = 7 ∨ w = 8 ∨ w = 9 ∨ w = 10 ∨ w = 11 by omega) with rfl | rfl | rfl | rfl | rfl | rfl | rfl | rfl | rfl | rfl | rfl | rfl <;>
    simp (disch := omega) only [m_X5_counted, z_11, o_spent h hc, o_tokens h hc, o_revs h hc hn hI hk, o_wrts h hc hn hI hk, o_decd h hc hn hI hk, o_pairs h hc hn hI, hs, z_0, z_1, z_2, z_3, z_4, z_5, z_6, z_7, z_8, z_9, z_10, z_12, z_13, z_15, z_17, z_20, z_25, z_31, z_33, z_41, z_49, z_57, z_60, z_72, z_100, z_161, z_255, z_256, z_999, z_9999, of_n, nI_add, pk_mul, n_le, n_lt, n_eq, n_cl, ck_n, ck_d, ck_tr, le_t, bd_t, ir_t, bt_r, bt_l, b_t, b_f, b_lt, b_lf, b_ef, z_m1, b_i0, b_i1, z_not, z_ps, f_mb, f_rf, ↓reduceIte, Nat.zero_add, Nat.add_zero, Nat.one_mul, Nat.mul_one, Nat.zero_mul, Nat.mul_zero, not_true_eq_false, not_false_eq_true, h.mm, h.s, h.ns, h.k, h.nk, h.t, h.nt, h.y, h.ny, hc.t, hc.p0, hc.p1, hc.p2, hc.p3, hc.p4, hc.q0, hc.q1, hc.q2, hc.q3, hc.q4, hc.c0, hc.c1, hc.c2, hc.c3, hc.i.1, hc.i.2.1, hc.i.2.2.1, hc.i.2.2.2.1, hc.i.2.2.2.2, hc.sc hn, nar_b, a_num]
theorem o_paper (h : RM S G m) (hc : cr (p_I S (rf S m 1)) 0 n v) (hn : n ≤ 8) {q w : Nat} (hq : q < n) (hw : w < 10) : m_X5_ofPaper (some m) (nI q) (nI w) S = some (a_pap v q w, S) := by
  rcases (show w = 0 ∨ w = 1 ∨ w = 2 ∨ w = 3 ∨ w = 4 ∨ w = 5 ∨ w = 6 ∨ w = 7 ∨ w = 8 ∨ w = 9 by omega) with rfl | rfl | rfl | rfl | rfl | rfl | rfl | rfl | rfl | rfl <;>
    simp (disch := omega) only [m_X5_ofPaper, j_X5_ofPaper_71, o_of h, o_rev h hc hn hq, o_wri h hc hn hq, o_sum h hc hn hq, o_dif h hc hn hq, dif_spr, o_canDecide h hc hn hq, pk_sub, Nat.add_sub_cancel, Nat.reduceAdd, Nat.reduceSub, z_0, z_1, z_2, z_3, z_4, z_5, z_6, z_7, z_8, z_9, z_10, z_12, z_13, z_15, z_17, z_20, z_25, z_31, z_33, z_41, z_49, z_57, z_60, z_72, z_100, z_161, z_255, z_256, z_999, z_9999, of_n, nI_add, pk_mul, n_le, n_lt, n_eq, n_cl, ck_n, ck_d, ck_tr, le_t, bd_t, ir_t, bt_r, bt_l, b_t, b_f, b_lt, b_lf, b_ef, z_m1, b_i0, b_i1, z_not, z_ps, f_mb, f_rf, ↓reduceIte, Nat.zero_add, Nat.add_zero, Nat.one_mul, Nat.mul_one, Nat.zero_mul, Nat.mul_zero, not_true_eq_false, not_false_eq_true, h.mm, h.s, h.ns, h.k, h.nk, h.t, h.nt, h.y, h.ny, hc.t, hc.p0, hc.p1, hc.p2, hc.p3, hc.p4, hc.q0, hc.q1, hc.q2, hc.q3, hc.q4, hc.c0, hc.c1, hc.c2, hc.c3, hc.i.1, hc.i.2.1, hc.i.2.2.1, hc.i.2.2.2.1, hc.i.2.2.2.2, hc.sc hn, nar_b, a_pap]
theorem load_nI (v : AS) (p : Nat) : a_load v p = nI (cnt (fun q => !decide (v (20 + q) p = nM) && decide (v 9 q = nI 0)) 8) := by
  have e : ∀ n, fo (fun q n => if v (20 + q) p = nM then n else if v 9 q = nI 0 then n + nI 1 else n) n (nI 0) = nI (cnt (fun q => !decide (v (20 + q) p = nM) && decide (v 9 q = nI 0)) n) := by
    intro n
    induction n with
    | zero => rfl
    | succ n ih =>
      simp only [fo, cnt]
      rw [ih]
      by_cases h1 : v (20 + n) p = nM
      · simp only [h1, ↓reduceIte, decide_true, Bool.not_true, Bool.false_and, show bn false = 0 from rfl, Nat.add_zero]
      · by_cases h2 : v 9 n = nI 0
        · simp only [h1, h2, ↓reduceIte, decide_true, decide_false, Bool.not_false, Bool.true_and, show bn true = 1 from rfl, nI_add]
        · simp only [h1, h2, ↓reduceIte, decide_false, Bool.not_false, Bool.true_and, show bn false = 0 from rfl, Nat.add_zero]
  exact e 8
theorem b3_in (v : AS) (q : Nat) : ∀ i, a_b3 v q i = (nM, nI 0, nI 0) ∨ ∃ j, j < i ∧ a_b3 v q i = (nI j, a_load v j, a_tok v j)
  | 0 => Or.inl rfl
  | i + 1 => by
    have e : a_b3 v q (i + 1) = (if a_why v i q = nI 0 then (if (a_b3 v q i).1 = nM then (nI i, a_load v i, a_tok v i) else if a_load v i < (a_b3 v q i).2.1 then (nI i, a_load v i, a_tok v i) else if a_load v i = (a_b3 v q i).2.1 then (if a_tok v i ≤ (a_b3 v q i).2.2 then a_b3 v q i else (nI i, a_load v i, a_tok v i)) else a_b3 v q i) else a_b3 v q i) := rfl
    have ih : a_b3 v q i = (nM, nI 0, nI 0) ∨ ∃ j, j < i + 1 ∧ a_b3 v q i = (nI j, a_load v j, a_tok v j) := by
      rcases b3_in v q i with h | ⟨j, h1, h2⟩
      · exact Or.inl h
      · exact Or.inr ⟨j, by omega, h2⟩
    have nw : (nI i, a_load v i, a_tok v i) = ((nM, nI 0, nI 0) : Int32 × Int32 × Int32) ∨ ∃ j, j < i + 1 ∧ (nI i, a_load v i, a_tok v i) = (nI j, a_load v j, a_tok v j) := Or.inr ⟨i, by omega, rfl⟩
    rw [e]
    repeat' split
    all_goals first | exact ih | exact nw
theorem o_best (h : RM S G m) (hc : cr (p_I S (rf S m 1)) 0 n v) (hn : n ≤ 8) (hI : IV v) (hk : n = a_n v) {q : Nat} (hq : q < n) : m_X5_best (some m) (nI q) S = some (a_best v q, S) := by
  have hq8 : q < 8 := by omega
  unfold m_X5_best
  refine lpF 8 (fun i => ((a_b3 v q i).1, nI i, S)) _ rfl (fun i hi => ?_) ?_
  · have e : a_b3 v q (i + 1) = (if a_why v i q = nI 0 then (if (a_b3 v q i).1 = nM then (nI i, a_load v i, a_tok v i) else if a_load v i < (a_b3 v q i).2.1 then (nI i, a_load v i, a_tok v i) else if a_load v i = (a_b3 v q i).2.1 then (if a_tok v i ≤ (a_b3 v q i).2.2 then a_b3 v q i else (nI i, a_load v i, a_tok v i)) else a_b3 v q i) else a_b3 v q i) := rfl
    have hwhy := o_why (t := 0) h hc hn hi hq hI.s1.1 hI.s1.2 (hI.de hq8).1 (hI.de hq8).2 (rev_on _)
    rcases b3_in v q i with g | ⟨j, g1, g2⟩
    · rw [g] at e ⊢
      simp (disch := omega) only [st_X5_best_4, j_X5_best_32, j_X5_best_70, hwhy, z_0, z_1, z_2, z_3, z_4, z_5, z_6, z_7, z_8, z_9, z_10, z_12, z_13, z_15, z_17, z_20, z_25, z_31, z_33, z_41, z_49, z_57, z_60, z_72, z_100, z_161, z_255, z_256, z_999, z_9999, of_n, nI_add, pk_mul, n_le, n_lt, n_eq, n_cl, ck_n, ck_d, ck_tr, le_t, bd_t, ir_t, bt_r, bt_l, b_t, b_f, b_lt, b_lf, b_ef, z_m1, b_i0, b_i1, z_not, z_ps, f_mb, f_rf, ↓reduceIte, Nat.zero_add, Nat.add_zero, Nat.one_mul, Nat.mul_one, Nat.zero_mul, Nat.mul_zero, not_true_eq_false, not_false_eq_true, h.mm, h.s, h.ns, h.k, h.nk, h.t, h.nt, h.y, h.ny, hc.t, hc.p0, hc.p1, hc.p2, hc.p3, hc.p4, hc.q0, hc.q1, hc.q2, hc.q3, hc.q4, hc.c0, hc.c1, hc.c2, hc.c3, hc.i.1, hc.i.2.1, hc.i.2.2.1, hc.i.2.2.2.1, hc.i.2.2.2.2, hc.sc hn, nar_b, e]
      repeat' (split <;> rename_i hc <;> (try simp only [hc, ↓reduceIte, not_false_eq_true, Bool.false_eq_true, decide_true, decide_false, Bool.not_true, Bool.not_false, Bool.false_and, Bool.true_and]) <;> try rfl)
    · rw [g2] at e ⊢
      have hne : ¬ nI j = nM := nM_ne (by omega)
      have l1 := cnt_le (fun q => !decide (v (20 + q) i = nM) && decide (v 9 q = nI 0)) 8
      have l2 := cnt_le (fun q => !decide (v (20 + q) j = nM) && decide (v 9 q = nI 0)) 8
      have ls : a_load v j - a_load v i = nI 0 ↔ a_load v i = a_load v j := by
        rw [load_nI v i, load_nI v j]
        generalize cnt (fun q => !decide (v (20 + q) i = nM) && decide (v 9 q = nI 0)) 8 = x at l1 ⊢
        generalize cnt (fun q => !decide (v (20 + q) j = nM) && decide (v 9 q = nI 0)) 8 = y at l2 ⊢
        rw [← Int32.toInt_inj, pk_sub_toInt (by omega) (by omega), nI_eq (by omega) (by omega), nI_toInt (by omega)]
        omega
      have lp : nI 0 < a_load v j - a_load v i ↔ a_load v i < a_load v j := by
        rw [load_nI v i, load_nI v j]
        generalize cnt (fun q => !decide (v (20 + q) i = nM) && decide (v 9 q = nI 0)) 8 = x at l1 ⊢
        generalize cnt (fun q => !decide (v (20 + q) j = nM) && decide (v 9 q = nI 0)) 8 = y at l2 ⊢
        rw [i_lt, pk_sub_toInt (by omega) (by omega), nI_ltI (by omega) (by omega), nI_toInt (by omega)]
        omega
      simp (disch := omega) only [st_X5_best_4, j_X5_best_32, j_X5_best_70, hwhy, o_load h hc hn hI hk, hne, ls, lp, z_0, z_1, z_2, z_3, z_4, z_5, z_6, z_7, z_8, z_9, z_10, z_12, z_13, z_15, z_17, z_20, z_25, z_31, z_33, z_41, z_49, z_57, z_60, z_72, z_100, z_161, z_255, z_256, z_999, z_9999, of_n, nI_add, pk_mul, n_le, n_lt, n_eq, n_cl, ck_n, ck_d, ck_tr, le_t, bd_t, ir_t, bt_r, bt_l, b_t, b_f, b_lt, b_lf, b_ef, z_m1, b_i0, b_i1, z_not, z_ps, f_mb, f_rf, ↓reduceIte, Nat.zero_add, Nat.add_zero, Nat.one_mul, Nat.mul_one, Nat.zero_mul, Nat.mul_zero, not_true_eq_false, not_false_eq_true, h.mm, h.s, h.ns, h.k, h.nk, h.t, h.nt, h.y, h.ny, hc.t, hc.p0, hc.p1, hc.p2, hc.p3, hc.p4, hc.q0, hc.q1, hc.q2, hc.q3, hc.q4, hc.c0, hc.c1, hc.c2, hc.c3, hc.i.1, hc.i.2.1, hc.i.2.2.1, hc.i.2.2.2.1, hc.i.2.2.2.2, hc.sc hn, nar_b, e]
      repeat' (split <;> rename_i hc <;> (try simp only [hc, ↓reduceIte, not_false_eq_true, Bool.false_eq_true, decide_true, decide_false, Bool.not_true, Bool.not_false, Bool.false_and, Bool.true_and]) <;> try rfl)
  · simp (disch := omega) only [st_X5_best_4, z_0, z_1, z_2, z_3, z_4, z_5, z_6, z_7, z_8, z_9, z_10, z_12, z_13, z_15, z_17, z_20, z_25, z_31, z_33, z_41, z_49, z_57, z_60, z_72, z_100, z_161, z_255, z_256, z_999, z_9999, of_n, nI_add, pk_mul, n_le, n_lt, n_eq, n_cl, ck_n, ck_d, ck_tr, le_t, bd_t, ir_t, bt_r, bt_l, b_t, b_f, b_lt, b_lf, b_ef, z_m1, b_i0, b_i1, z_not, z_ps, f_mb, f_rf, ↓reduceIte, Nat.zero_add, Nat.add_zero, Nat.one_mul, Nat.mul_one, Nat.zero_mul, Nat.mul_zero, not_true_eq_false, not_false_eq_true, a_best]
end MO
