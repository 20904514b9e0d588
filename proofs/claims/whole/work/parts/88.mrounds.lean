/-! THE REFERENCE: rounds, on the written scores alone -/
/-- t holds r's written scores, one behind the other -/
def cmp (r t : Nat → Int32) (n : Nat) : Prop := ∀ p, p < n → isS (r p) = true → t (cnt (sc r) p) = r p
theorem cnt_mo (P : Nat → Bool) : ∀ {a b : Nat}, a ≤ b → cnt P a ≤ cnt P b
  | a, 0, h => by rw [show a = 0 by omega]; exact Nat.le_refl _
  | a, b + 1, h => by
    by_cases e : a = b + 1
    · rw [e]; exact Nat.le_refl _
    · exact Nat.le_trans (cnt_mo P (show a ≤ b by omega)) (Nat.le_add_right _ _)
theorem cp_lt {P : Nat → Bool} {p n : Nat} (hp : p < n) (h : P p = true) : cnt P p < cnt P n := by
  have e : cnt P (p + 1) = cnt P p + 1 := by simp only [cnt, h]; rfl
  have := cnt_mo P (show p + 1 ≤ n by omega)
  omega
theorem cp_ix {P : Nat → Bool} : ∀ {n k : Nat}, k < cnt P n → ∃ p, p < n ∧ P p = true ∧ cnt P p = k
  | 0, k, h => by simp only [cnt] at h; omega
  | n + 1, k, h => by
    by_cases g : k < cnt P n
    · obtain ⟨p, h1, h2, h3⟩ := cp_ix g
      exact ⟨p, by omega, h2, h3⟩
    · simp only [cnt] at h
      cases hP : P n with
      | false => rw [hP] at h; have : bn false = 0 := rfl; omega
      | true => rw [hP] at h; have : bn true = 1 := rfl; exact ⟨n, by omega, hP, by omega⟩
theorem cmp_sum {r t : Nat → Int32} : ∀ n, cmp r t n → fo (fun k s => s + t k) (cnt (sc r) n) (nI 0) = fo (fun i m => if isS (r i) then m + r i else m) n (nI 0)
  | 0, _ => rfl
  | n + 1, h => by
    have ih := cmp_sum n (fun p hp => h p (by omega))
    simp only [cnt, fo]
    rw [← ih]
    cases hs : isS (r n) with
    | false =>
      have e : bn (sc r n) = 0 := by show bn (isS (r n)) = 0; rw [hs]; rfl
      rw [e]
      rfl
    | true =>
      have e : bn (sc r n) = 1 := by show bn (isS (r n)) = 1; rw [hs]; rfl
      rw [e]
      have := h n (by omega) hs
      simp only [fo, this, ↓reduceIte]
theorem mx_in (d : Nat → Int32) (a : Int32) : ∀ n, a ≤ fo (fun q m => if d q ≤ m then m else d q) n a ∧ (∀ q, q < n → d q ≤ fo (fun q m => if d q ≤ m then m else d q) n a) ∧ (fo (fun q m => if d q ≤ m then m else d q) n a = a ∨ ∃ q, q < n ∧ fo (fun q m => if d q ≤ m then m else d q) n a = d q)
  | 0 => ⟨Int32.le_refl _, fun q h => by omega, Or.inl rfl⟩
  | n + 1 => by
    obtain ⟨h1, h2, h3⟩ := mx_in d a n
    have e : fo (fun q m => if d q ≤ m then m else d q) (n + 1) a = (if d n ≤ fo (fun q m => if d q ≤ m then m else d q) n a then fo (fun q m => if d q ≤ m then m else d q) n a else d n) := rfl
    rw [e]
    by_cases hle : d n ≤ fo (fun q m => if d q ≤ m then m else d q) n a
    · rw [if_pos hle]
      refine ⟨h1, fun q hq => ?_, ?_⟩
      · by_cases g4 : q = n
        · rw [g4]; exact hle
        · exact h2 q (by omega)
      · rcases h3 with h3 | ⟨q, h3, h4⟩
        · exact Or.inl h3
        · exact Or.inr ⟨q, by omega, h4⟩
    · rw [if_neg hle]
      have hlt := Int32.le_of_lt (Int32.not_le.mp hle)
      refine ⟨Int32.le_trans h1 hlt, fun q hq => ?_, Or.inr ⟨n, by omega, rfl⟩⟩
      by_cases g4 : q = n
      · rw [g4]; exact Int32.le_refl _
      · exact Int32.le_trans (h2 q (by omega)) hlt
theorem cmp_dif {r t : Nat → Int32} (h : cmp r t 8) : fo (fun k m => if t (k / cnt (sc r) 8) - t (k % cnt (sc r) 8) ≤ m then m else t (k / cnt (sc r) 8) - t (k % cnt (sc r) 8)) (cnt (sc r) 8 * cnt (sc r) 8) (nI 0) = a_spr r := by
  rw [← dif_spr]
  obtain ⟨x1, x2, x3⟩ := dif_gen (a_d1 r) (dd r) (d1_8 r) 8
  have eD : a_dif r = fo (a_d1 r) 8 (nI 0) := rfl
  rw [eD]
  obtain ⟨y1, y2, y3⟩ := mx_in (fun k => t (k / cnt (sc r) 8) - t (k % cnt (sc r) 8)) (nI 0) (cnt (sc r) 8 * cnt (sc r) 8)
  refine Int32.le_antisymm ?_ ?_
  · rcases y3 with y3 | ⟨k, hk, y3⟩
    · rw [y3]; exact x1
    · rw [y3]
      have hn : 0 < cnt (sc r) 8 := by
        rcases Nat.eq_zero_or_pos (cnt (sc r) 8) with g | g
        · rw [g] at hk; omega
        · exact g
      obtain ⟨p, p1, p2, p3⟩ := cp_ix (P := sc r) (n := 8) (k := k / cnt (sc r) 8) ((Nat.div_lt_iff_lt_mul hn).mpr hk)
      obtain ⟨q, q1, q2, q3⟩ := cp_ix (P := sc r) (n := 8) (k := k % cnt (sc r) 8) (Nat.mod_lt _ hn)
      have e1 := h p p1 p2
      have e2 := h q q1 q2
      rw [p3] at e1
      rw [q3] at e2
      show t (k / cnt (sc r) 8) - t (k % cnt (sc r) 8) ≤ _
      rw [e1, e2]
      have := x2 p q p1 q1
      unfold dd at this
      rw [if_pos (show isS (r p) = true from p2), if_pos (show isS (r q) = true from q2)] at this
      exact this
  · rcases x3 with x3 | ⟨p, q, p1, q1, x3⟩
    · rw [x3]; exact y1
    · rw [x3]
      unfold dd
      by_cases p2 : isS (r p) = true
      · rw [if_pos p2]
        by_cases q2 : isS (r q) = true
        · rw [if_pos q2]
          have l1 := cp_lt (P := sc r) p1 p2
          have l2 := cp_lt (P := sc r) q1 q2
          have hn : 0 < cnt (sc r) 8 := by omega
          have hk : cnt (sc r) p * cnt (sc r) 8 + cnt (sc r) q < cnt (sc r) 8 * cnt (sc r) 8 := by
            have := Nat.mul_le_mul_right (cnt (sc r) 8) (show cnt (sc r) p + 1 ≤ cnt (sc r) 8 by omega)
            rw [Nat.succ_mul] at this
            omega
          have := y2 _ hk
          have d1 : (cnt (sc r) p * cnt (sc r) 8 + cnt (sc r) q) / cnt (sc r) 8 = cnt (sc r) p := by
            rw [Nat.mul_comm, Nat.mul_add_div hn, Nat.div_eq_of_lt l2, Nat.add_zero]
          have d2 : (cnt (sc r) p * cnt (sc r) 8 + cnt (sc r) q) % cnt (sc r) 8 = cnt (sc r) q := by
            rw [Nat.mul_comm, Nat.mul_add_mod, Nat.mod_eq_of_lt l2]
          rw [d1, d2, h p p1 p2, h q q1 q2] at this
          exact this
        · rw [if_neg q2]; exact y1
      · rw [if_neg p2]; exact y1
theorem bnr_sc (r : Nat → Int32) : ∀ p, isS (a_bnr r p) = isS (r p) := by
  intro p
  have h := bnr_ok r
  cases hs : isS (r p) with
  | true =>
    rcases Nat.lt_or_ge p 8 with g | g
    · exact h.1 p g hs
    · rw [h.2 p (Or.inr g)]; exact hs
  | false => rw [h.2 p (Or.inl hs)]; exact hs
theorem bnr_cnt (r : Nat → Int32) (n : Nat) : cnt (sc (a_bnr r)) n = cnt (sc r) n := cnt_cg (fun i _ => bnr_sc r i)
/-- the row of scores that are tried after one talk -/
def t_up (n : Nat) (mean : Int32) (t : Nat → Int32) : Nat → Int32 := fun k => if k < n then a_mv mean (t k) else t k
theorem cmp_up {r t : Nat → Int32} (h : cmp r t 8) (h0 : ¬ a_bc (a_wri r) = nI 0) : cmp (a_bnr r) (t_up (cnt (sc r) 8) (a_sum r / a_bc (a_wri r)) t) 8 := by
  intro p hp hs
  rw [bnr_sc] at hs
  rw [bnr_cnt]
  unfold t_up
  rw [if_pos (cp_lt hp hs), h p hp hs]
  unfold a_bnr
  rw [if_neg h0]
  exact (if_pos hp).symm
/-- nothing is other but the row that is tried -/
def s11 (u u' : AS) : Prop := ∀ f, f ≠ 11 → u' f = u f
section MR
variable {S : PH} {G : Nat → Nat} {m : Nat} {u v : AS} {hs : List AS} {sl : Nat → Option AS} {tn : Nat} {tx : Nat → Int32}
theorem MU_11 (hu : MU u v hs sl tn tx) {u' : AS} (h : s11 u u') : MU u' v hs sl tn tx := by
  unfold MU at hu ⊢
  rw [h 1 (by omega), h 2 (by omega), h 3 (by omega), h 4 (by omega), h 5 (by omega)]
  exact hu
theorem o_talked (hg : Gi G) (h : RM S G m) {r : Nat → Int32} (hc : cmp r (u 11) 8) (h0 : 0 < cnt (sc r) 8) : ∃ u', m_X5_talked (some m) (nI (cnt (sc r) 8)) (mput S G u) = some (a_spr (a_bnr r), mput S G u') ∧ s11 u u' ∧ cmp (a_bnr r) (u' 11) 8 := by
  have n8 := cnt_le (sc r) 8
  have hbc : ¬ a_bc (a_wri r) = nI 0 := by
    rw [wri_bc, nI_eq (by omega) (by omega)]
    omega
  obtain ⟨mk, mk9, hmk⟩ := mean_nI r hbc
  have h2 := cmp_up hc hbc
  have eD := cmp_dif h2
  rw [bnr_cnt] at eD
  have eS : fo (fun k s => s + u 11 k) (cnt (sc r) 8) (nI 0) = a_sum r := cmp_sum 8 hc
  have sc9 : ∀ k, k < cnt (sc r) 8 → ∃ j, j ≤ 9 ∧ u 11 k = nI j := by
    intro k hk
    obtain ⟨p, p1, p2, p3⟩ := cp_ix hk
    have := hc p p1 p2
    rw [p3] at this
    have e := isS_n p2
    exact ⟨_, e.2, this.trans e.1⟩
  rw [wri_bc] at hmk h2 eD
  generalize hN : cnt (sc r) 8 = n at *
  have gI : ∀ w : AS, p_I (mput S G w) (rf S m 11) = w 11 := fun w => mg_11 h
  refine ⟨u_r u 11 (t_up n (a_sum r / nI n) (u 11)), ?_, fun f hf => ur_ne hf, by rw [ur_s]; exact h2⟩
  unfold m_X5_talked
  have step3 : lp (st_X5_talked_90 (some m) (nI n)) (nI 0, nI 0, mput S G (u_r u 11 (t_up n (a_sum r / nI n) (u 11)))) = some (a_spr (a_bnr r), mput S G (u_r u 11 (t_up n (a_sum r / nI n) (u 11)))) := by
    rw [← eD]
    generalize t_up n (a_sum r / nI n) (u 11) = t
    have nn : n * n ≤ 64 := Nat.mul_le_mul n8 n8
    refine lpF (n * n) (fun i => (fo (fun k m => if t (k / n) - t (k % n) ≤ m then m else t (k / n) - t (k % n)) i (nI 0), nI i, mput S G (u_r u 11 t))) _ rfl (fun i hi => ?_) ?_
    · have d1 : i / n < n := (Nat.div_lt_iff_lt_mul h0).mpr hi
      have d2 : i % n < n := Nat.mod_lt _ h0
      have d3 : nI i / nI n = nI (i / n) := pk_div (by omega) h0 (by omega)
      have d4 : nI i - nI (i / n) * nI n = nI (i % n) := by
        rw [pk_mul, pk_sub (by have := Nat.div_mul_le_self i n; omega)]
        congr 1
        have := Nat.div_add_mod i n
        rw [Nat.mul_comm] at this
        omega
      have d5 : ¬ (nI n * nI n ≤ nI i) := by
        rw [pk_mul, nI_leI (by omega) (by omega)]
        omega
      have d6 : ¬ nI n = 0 := fun z => by have := (nI_eq (show n < 2147483648 by omega) (show 0 < 2147483648 by omega)).mp z; omega
      have y1 : ∀ {β : Type} {f : Nat → Option β}, dr (mput S G (u_r u 11 t)) 6 (p_R S m 11) f = f (rf S m 11) := fun {β f} => h.y
      have eF : fo (fun k m => if t (k / n) - t (k % n) ≤ m then m else t (k / n) - t (k % n)) (i + 1) (nI 0) = (if t (i / n) - t (i % n) ≤ fo (fun k m => if t (k / n) - t (k % n) ≤ m then m else t (k / n) - t (k % n)) i (nI 0) then fo (fun k m => if t (k / n) - t (k % n) ≤ m then m else t (k / n) - t (k % n)) i (nI 0) else t (i / n) - t (i % n)) := rfl
      rw [eF]
      generalize fo (fun k m => if t (k / n) - t (k % n) ≤ m then m else t (k / n) - t (k % n)) i (nI 0) = A
      unfold st_X5_talked_90
      dsimp only
      rw [if_neg d5, dr_mp, h.mm, ck_d d6, R_mp, y1, N_mp, h.ny, d3, ck_n (by omega) (by omega), ck_d d6, d4, ck_n (by omega) (by omega), le_t, gI, ur_s, n_cl (by omega), n_cl (by omega)]
      have e1 : nI i + 1 = nI (i + 1) := nI_add i 1
      rw [e1]
      split <;> rfl
    · have d5 : nI n * nI n ≤ nI (n * n) := by rw [pk_mul]; exact Int32.le_refl _
      unfold st_X5_talked_90
      dsimp only
      rw [if_pos d5]
      rfl
  have step2 : lp (st_X5_talked_31 (some m) (nI n)) (a_sum r / nI n, nI 0, mput S G u) = some (a_spr (a_bnr r), mput S G (u_r u 11 (t_up n (a_sum r / nI n) (u 11)))) := by
    have z0 : (fun k => if k < 0 then a_mv (a_sum r / nI n) (u 11 k) else u 11 k) = u 11 := by funext k; rw [if_neg (by omega)]
    refine lpF n (fun i => (a_sum r / nI n, nI i, mput S G (u_r u 11 (t_up i (a_sum r / nI n) (u 11))))) _ ?_ (fun i hi => ?_) ?_
    · unfold t_up
      rw [z0, ur_id]
    · have y1 : ∀ {w : AS} {β : Type} {f : Nat → Option β}, dr (mput S G w) 6 (p_R S m 11) f = f (rf S m 11) := fun {w β f} => h.y
      have d5 : ¬ (nI n ≤ nI i) := by rw [nI_leI (by omega) (by omega)]; omega
      have e1 : nI i + 1 = nI (i + 1) := nI_add i 1
      have g1 : t_up i (a_sum r / nI n) (u 11) i = u 11 i := if_neg (by omega)
      obtain ⟨j, j9, hj⟩ := sc9 i hi
      have eU : ∀ x, x = a_mv (a_sum r / nI n) (u 11 i) → u_2 (u_r u 11 (t_up i (a_sum r / nI n) (u 11))) 11 i x = u_r u 11 (t_up (i + 1) (a_sum r / nI n) (u 11)) := by
        intro x hx
        rw [ur_u, hx]
        unfold t_up
        rw [mv_up (f := fun k => a_mv (a_sum r / nI n) (u 11 k))]
      have hS : isS (u 11 i) = true := by rw [hj, isS_nI (by omega)]; exact decide_eq_true j9
      unfold st_X5_talked_31
      dsimp only
      rw [if_neg d5, dr_mp, h.mm, R_mp, y1, N_mp, h.ny, ck_n (by omega) (by omega), gI, ur_s, n_cl (by omega), g1]
      unfold j_X5_talked_76
      simp only [y1, N_mp, h.ny, ck_n (show i < 8 by omega) (show 8 < 2147483648 by omega), ms_11 hg h, n_cl (show i < 2147483648 by omega), le_t, e1]
      have em : a_mv (a_sum r / nI n) (u 11 i) = (if u 11 i = a_sum r / nI n then u 11 i else if a_sum r / nI n ≤ u 11 i then u 11 i + nM else u 11 i + nI 1) := by unfold a_mv; rw [if_pos hS]
      rw [hmk, hj] at em eU ⊢
      by_cases q1 : mk = j
      · subst q1
        rw [if_pos rfl] at em
        rw [if_pos (Int32.le_refl _), if_pos (Int32.le_refl _), eU _ (by rw [em]; exact add_0 _)]
      · have q2 : ¬ nI j = nI mk := fun z => q1 ((nI_eq (by omega) (by omega)).mp z).symm
        rw [if_neg q2] at em
        by_cases q3 : mk ≤ j
        · have l1 : nI mk ≤ nI j := by rw [nI_leI (by omega) (by omega)]; exact q3
          have l2 : ¬ nI j ≤ nI mk := by rw [nI_leI (by omega) (by omega)]; omega
          rw [if_pos l1] at em
          rw [if_pos l1, if_neg l2, eU _ (by rw [em]; rfl)]
        · have l1 : ¬ nI mk ≤ nI j := by rw [nI_leI (by omega) (by omega)]; exact q3
          rw [if_neg l1] at em
          rw [if_neg l1, eU _ (by rw [em]; rfl)]
    · have d5 : nI n ≤ nI n := Int32.le_refl _
      unfold st_X5_talked_31
      dsimp only
      rw [if_pos d5, show ((0 : Int32)) = nI 0 from rfl, step3]
      rfl
  refine lpF n (fun i => (fo (fun k s => s + u 11 k) i (nI 0), nI i, mput S G u)) _ rfl (fun i hi => ?_) ?_
  · have y1 : ∀ {w : AS} {β : Type} {f : Nat → Option β}, dr (mput S G w) 6 (p_R S m 11) f = f (rf S m 11) := fun {w β f} => h.y
    have d5 : ¬ (nI n ≤ nI i) := by rw [nI_leI (by omega) (by omega)]; omega
    have e1 : nI i + 1 = nI (i + 1) := nI_add i 1
    unfold st_X5_talked_4
    dsimp only
    rw [if_neg d5, dr_mp, h.mm, R_mp, y1, N_mp, h.ny, ck_n (by omega) (by omega), gI, n_cl (by omega), le_t, e1]
    rfl
  · have d5 : nI n ≤ nI n := Int32.le_refl _
    have d6 : ¬ nI n = 0 := fun z => by have := (nI_eq (show n < 2147483648 by omega) (show 0 < 2147483648 by omega)).mp z; omega
    unfold st_X5_talked_4
    dsimp only
    rw [if_pos d5, ck_d d6, le_t, eS, show ((0 : Int32)) = nI 0 from rfl, step2]
    rfl
end MR
