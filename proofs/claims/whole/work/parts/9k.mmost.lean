/-! THE REFERENCE: the most reviews without a person -/
theorem nI_or (a b : Nat) : nI a ||| nI b = nI (a ||| b) := by
  apply Int32.toBitVec_inj.mp
  show (BitVec.ofNat 32 a) ||| (BitVec.ofNat 32 b) = BitVec.ofNat 32 (a ||| b)
  rw [BitVec.ofNat_or]
theorem or_lt {a b : Nat} (h : a < 256) (k : b < 256) : a ||| b < 256 := Nat.or_lt_two_pow (n := 8) h k
theorem co_hb : ∀ c, c < 256 → ∀ p, p < 8 → hb (nI (255 - c)) (nI p) = !hb (nI c) (nI p) := by decide +kernel
theorem mb_n : ∀ a, a < 8 → mb a = nI (2 ^ a) ∧ 2 ^ a < 256 := by decide
theorem left_n {set : Nat} (hs : set < 256) {ab y : Int32} (h : (ab = nM ∧ y = nI 0) ∨ ∃ a, a < 8 ∧ ab = nI a ∧ y = mb a) : ∃ k, k < 256 ∧ (255 : Int32) - (nI set ||| y) = nI k ∧ ∀ p, p < 8 → hb (nI k) (nI p) = !(bi set p || decide (nI p = ab)) := by
  obtain ⟨c, hc, ec⟩ : ∃ c, c < 256 ∧ y = nI c := by
    rcases h with ⟨_, h⟩ | ⟨a, a8, _, h⟩
    · exact ⟨0, by omega, h⟩
    · exact ⟨2 ^ a, (mb_n a a8).2, by rw [h, (mb_n a a8).1]⟩
  refine ⟨255 - (set ||| c), by omega, ?_, fun p hp => ?_⟩
  · rw [ec, nI_or]
    exact pk_sub (a := 255) (by have := or_lt hs hc; omega)
  · rw [co_hb _ (or_lt hs hc) p hp, ← nI_or, hb_or _ _ hp, ← ec]
    show (!(hb (nI set) (nI p) || hb y (nI p))) = !(hb (nI set) (nI p) || decide (nI p = ab))
    congr 2
    rcases h with ⟨h1, h2⟩ | ⟨a, a8, h1, h2⟩
    · rw [h2, hb_0 p hp, h1, decide_eq_false (nM_ne (by omega))]
    · rw [h2, hb_mb a a8 p hp, h1]
      by_cases e : a = p
      · rw [decide_eq_true e, decide_eq_true (by rw [e])]
      · rw [decide_eq_false e, decide_eq_false (fun z => e ((nI_eq (by omega) (by omega)).mp z).symm)]
theorem mn_1000 (F : Nat → Nat) : ∀ n, a_mn F n ≤ 1000
  | 0 => Nat.le_refl _
  | n + 1 => by
    have ih := mn_1000 F n
    have e : a_mn F (n + 1) = (if F n < a_mn F n then F n else a_mn F n) := rfl
    rw [e]
    split <;> omega
section MW2
variable {S : PH} {G : Nat → Nat} {m : Nat} {u v : AS}
theorem o_131 (h : RM S G m) (hI : IV v) (hc : cr (u 1) 0 (a_n v) v) (hy : ∀ q, q < a_n v → u 11 q = mk8 (e_ab v q) 8) {ab : Int32} {L : Nat → Bool} {k : Nat} (hk : k < 256) (hL : ∀ p, p < 8 → hb (nI k) (nI p) = L p) {lo set cut : Nat} (hlo : lo ≤ 1000) (hcut : cut < 200000) : lp (st_X5_mostWithout_131 (some m) ab) (nI lo, nI set, nI cut, nI k, nI 0, mput S G u) = some (.inl (nI (if cut + sm (e_add v L) (a_n v) < lo then cut + sm (e_add v L) (a_n v) else lo), nI (set + 1), mput S G u)) := by
  have hn := hI.in_.2
  obtain ⟨d1, d2, _⟩ := hI.s0
  have hcR := cI h hc
  have es : nI set + 1 = nI (set + 1) := nI_add set 1
  have u8 : u 1 8 = nI (a_n v) := hc.i.1.trans hI.in_.1
  have sB := sm_le (c := e_add v L) (b := 8) (a_n v) (fun q _ => Nat.le_trans (Nat.min_le_right _ _) (cnt_le _ 8))
  refine lpF (a_n v) (fun i => (nI lo, nI set, nI (cut + sm (e_add v L) i), nI k, nI i, mput S G u)) _ rfl (fun i hi => ?_) ?_
  · have i8 : i < 8 := by omega
    have e1 : nI i + 1 = nI (i + 1) := nI_add i 1
    have cl := cnt_le (rw_ (v (20 + i))) 8
    obtain ⟨j, j1, j2⟩ := mk_n (e_ab v i)
    have hby : a_ones (mk8 (e_ab v i) 8 &&& nI k) = nI (cnt (fun p => e_ab v i p && L p) 8) := by
      rw [j2, nI_and, ← bc_ones _ (and_lt hk), bits_bc _ (and_lt hk)]
      congr 1
      refine cnt_cg (fun p hp => ?_)
      rw [← nI_and, hb_and _ _ hp, hL p hp, ← j2, mk_hb _ hp]
    have cb := cnt_le (fun p => e_ab v i p && L p) 8
    have ea : sm (e_add v L) (i + 1) = sm (e_add v L) i + e_add v L i := rfl
    have dd2 : (nI 0 ≤ nI (nv v 11 0) - nI (cnt (rw_ (v (20 + i))) 8)) ↔ cnt (rw_ (v (20 + i))) 8 ≤ nv v 11 0 := by
      rw [i_le, pk_sub_toInt (by omega) (by omega)]
      show (0 : Int) ≤ _ ↔ _
      omega
    unfold st_X5_mostWithout_131
    dsimp only
    rw [dr_mp, h.mm, R_mp, dr_mp, h.s, N_mp, h.ns, show ((8 : Int32)) = nI 8 from rfl, ck_n (by omega) (by omega), mg_1 h, u8, if_neg (show ¬ nI (a_n v) ≤ nI i by rw [nI_leI (by omega) (by omega)]; omega), show ((4 : Int32)) = nI 4 from rfl, ck_n (by omega) (by omega), show ((0 : Int32)) = nI 0 from rfl, o_rev (hM h) hcR hn hi, bd_t, o_ones, bd_t, rev_on, rev_bc, hc.c0, d1, le_t, dr_mp, h.mm, R_mp, dr_mp, h.y, N_mp, h.ny, ck_n i8 (by omega), n_cl (by omega), mg_11 h, hy i hi, o_ones, bd_t, hby, e1, nI_add, le_t]
    rw [ea]
    unfold e_add e_fr
    by_cases g : cnt (rw_ (v (20 + i))) 8 ≤ nv v 11 0
    · rw [if_pos (dd2.mpr g), pk_sub g]
      by_cases g2 : cnt (fun p => e_ab v i p && L p) 8 ≤ nv v 11 0 - cnt (rw_ (v (20 + i))) 8
      · rw [if_pos (show nI (cnt (fun p => e_ab v i p && L p) 8) ≤ nI (nv v 11 0 - cnt (rw_ (v (20 + i))) 8) by rw [nI_leI (by omega) (by omega)]; exact g2), Nat.min_eq_right g2, Nat.add_assoc]
      · rw [if_neg (show ¬ nI (cnt (fun p => e_ab v i p && L p) 8) ≤ nI (nv v 11 0 - cnt (rw_ (v (20 + i))) 8) by rw [nI_leI (by omega) (by omega)]; exact g2), nI_add, le_t, Nat.min_eq_left (by omega), Nat.add_assoc]
    · rw [if_neg (fun z => g (dd2.mp z)), show nv v 11 0 - cnt (rw_ (v (20 + i))) 8 = 0 by omega, Nat.zero_min, nI_add, le_t]
      rfl
  · unfold st_X5_mostWithout_131
    dsimp only
    rw [dr_mp, h.mm, R_mp, dr_mp, h.s, N_mp, h.ns, show ((8 : Int32)) = nI 8 from rfl, ck_n (by omega) (by omega), mg_1 h, u8, if_pos (Int32.le_refl _), es]
    by_cases g : cut + sm (e_add v L) (a_n v) < lo
    · rw [if_neg (show ¬ nI lo ≤ nI (cut + sm (e_add v L) (a_n v)) by rw [nI_leI (by omega) (by omega)]; omega), if_pos g]
      rfl
    · rw [if_pos (show nI lo ≤ nI (cut + sm (e_add v L) (a_n v)) by rw [nI_leI (by omega) (by omega)]; omega), if_neg g]
      rfl
end MW2
