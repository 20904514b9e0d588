/-! THE REFERENCE: who is able; the least cut, its own way -/
def e_ab (v : AS) (q p : Nat) : Bool := decide (v 9 q = nI 0) && (decide (v (20 + q) p = nM) && (!hb (a_conf v q) (nI p) && hb (v 0 p) (v 5 q)))
theorem rev_hb (r : Nat → Int32) {p : Nat} (hp : p < 8) : hb (a_rev r) (nI p) = !decide (r p = nM) := by
  rw [rev_mk]
  exact mk_hb _ hp
theorem A_fit (v : AS) {q p : Nat} (hp : p < 8) : e_ab v q p = (decide (v 9 q = nI 0) && e_fit v q p) := by
  unfold e_ab e_fit
  rw [hb_or _ _ hp, rev_hb _ hp]
  cases decide (v 9 q = nI 0) <;> cases decide (v (20 + q) p = nM) <;> cases hb (a_conf v q) (nI p) <;> cases hb (v 0 p) (v 5 q) <;> rfl
/-- what a paper adds to a cut -/
def e_add (v : AS) (L : Nat → Bool) (q : Nat) : Nat := min (e_fr v q) (cnt (fun p => e_ab v q p && L p) 8)
theorem add_dem (v : AS) (L : Nat → Bool) {q : Nat} (hq : q < a_n v) : e_add v L q = min (e_dem v q) (cnt (fun p => L p && e_E v p q) 8) := by
  unfold e_add e_dem
  by_cases h9 : v 9 q = nI 0
  · by_cases hf : 0 < e_fr v q
    · have ho : e_op v q = true := by unfold e_op; rw [decide_eq_true hq, decide_eq_true h9, decide_eq_true hf]; rfl
      rw [if_pos ho]
      congr 1
      refine cnt_cg (fun p hp => ?_)
      unfold e_E
      rw [ho, A_fit v hp, decide_eq_true h9, Bool.true_and]
      exact Bool.and_comm _ _
    · have ho : ¬ e_op v q = true := by
        intro z
        unfold e_op at z
        rw [Bool.and_eq_true, Bool.and_eq_true] at z
        exact hf (of_decide_eq_true z.2.2)
      rw [if_neg ho]
      omega
  · have ho : ¬ e_op v q = true := by
      intro z
      unfold e_op at z
      rw [Bool.and_eq_true, Bool.and_eq_true] at z
      exact h9 (of_decide_eq_true z.2.1)
    rw [if_neg ho]
    have z : cnt (fun p => e_ab v q p && L p) 8 = 0 := cnt_0 (fun p _ => by unfold e_ab; rw [decide_eq_false h9]; rfl)
    rw [z]
    omega
theorem sm_ext {f : Nat → Nat} {n : Nat} : ∀ m, n ≤ m → (∀ i, n ≤ i → i < m → f i = 0) → sm f m = sm f n
  | 0, h, _ => by rw [show n = 0 by omega]
  | m + 1, h, k => by
    by_cases e : n = m + 1
    · rw [e]
    · show sm f m + f m = sm f n
      rw [k m (by omega) (by omega), sm_ext m (by omega) (fun i h1 h2 => k i h1 (by omega)), Nat.add_zero]
/-- the reference's cut for the set of number j -/
def e_cut (v : AS) (ab : Int32) (j : Nat) : Nat := sm (fun p => if bi j p then (if nI p = ab then 0 else e_cap v p) else 0) 8 + sm (e_add v (fun p => !(bi j p || decide (nI p = ab)))) (a_n v)
theorem cut_rc (v : AS) (h8 : a_n v ≤ 8) (ab : Int32) (j : Nat) : e_cut v ab j = rc_ (fun r => if nI r = ab then 0 else e_cap v r) (e_dem v) (e_E v) (fun p => bi j p || decide (nI p = ab)) := by
  unfold e_cut rc_
  congr 1
  · refine sm_cg (fun p _ => ?_)
    dsimp only
    by_cases e : nI p = ab
    · rw [if_pos e]
      split <;> split <;> rfl
    · have ex : (bi j p || decide (nI p = ab)) = bi j p := by rw [decide_eq_false e, Bool.or_false]
      simp only [ex]
  · have k := sm_ext (f := fun q => min (e_dem v q) (cnt (fun p => !(bi j p || decide (nI p = ab)) && e_E v p q) 8)) (n := a_n v) 8 h8 (fun q h1 _ => by
      have ho : ¬ e_op v q = true := by
        intro z
        unfold e_op at z
        rw [Bool.and_eq_true] at z
        have := of_decide_eq_true z.1
        omega
      unfold e_dem
      rw [if_neg ho]
      omega)
    rw [k]
    exact sm_cg (fun q hq => add_dem v _ hq)
theorem cut_min {v : AS} (hI : IV v) (ab : Int32) : a_mn (e_cut v ab) 256 = m_v v ab := by
  have h8 := hI.in_.2
  have hd : ∀ q, q < 8 → e_dem v q ≤ 8 := fun q _ => e_dem8 hI q
  obtain ⟨h1, h2⟩ := mn_in (e_cut v ab) 256
  have sub : ∀ X, rc_ (fun r => if nI r = ab then 0 else e_cap v r) (e_dem v) (e_E v) (fun p => X p || decide (nI p = ab)) ≤ rc_ (fun r => if nI r = ab then 0 else e_cap v r) (e_dem v) (e_E v) X := by
    intro X
    unfold rc_
    refine Nat.add_le_add (sm_mono 8 (fun p _ => ?_)) (sm_mono 8 (fun q _ => ?_))
    · dsimp only
      by_cases e : nI p = ab
      · rw [if_pos e]
        split <;> split <;> omega
      · have ex : (X p || decide (nI p = ab)) = X p := by rw [decide_eq_false e, Bool.or_false]
        simp only [ex]
        exact Nat.le_refl _
    · refine Nat.le_min.mpr ⟨Nat.min_le_left _ _, Nat.le_trans (Nat.min_le_right _ _) ?_⟩
      rw [cnt_sm, cnt_sm]
      refine sm_mono 8 (fun p _ => bn_mono (fun z => ?_))
      rw [Bool.and_eq_true, Bool.not_eq_true', Bool.or_eq_false_iff] at z
      rw [Bool.and_eq_true, Bool.not_eq_true']
      exact ⟨z.1.1, z.2⟩
  have le : ∀ X, a_mn (e_cut v ab) 256 ≤ rc_ (fun r => if nI r = ab then 0 else e_cap v r) (e_dem v) (e_E v) X := by
    intro X
    obtain ⟨j, j1, j2⟩ := bi_all X
    have a := h1 j j1
    rw [cut_rc v h8] at a
    rw [rc_cg (X' := fun p => bi j p || decide (nI p = ab)) (X := fun p => X p || decide (nI p = ab)) (cap' := fun r => if nI r = ab then 0 else e_cap v r) (cap := fun r => if nI r = ab then 0 else e_cap v r) (fun _ _ => rfl) (fun p hp => by rw [j2 p hp])] at a
    exact Nat.le_trans a (sub X)
  refine min_uq hd le ?_
  rcases h2 with h2 | ⟨j, h2, h3⟩
  · exfalso
    have a := h1 0 (by omega)
    rw [h2] at a
    unfold e_cut at a
    have z : sm (fun p => if bi 0 p then (if nI p = ab then 0 else e_cap v p) else 0) 8 = 0 := by
      refine (sm_cg (g' := fun _ => 0) (fun p hp => ?_)).trans (sm_zero 8)
      rw [if_neg]
      intro z
      have := hb_0 p hp
      unfold bi at z
      rw [this] at z
      cases z
    have b := sm_le (c := e_add v (fun p => !(bi 0 p || decide (nI p = ab)))) (b := 8) (a_n v) (fun q _ => Nat.le_trans (Nat.min_le_right _ _) (cnt_le _ 8))
    omega
  · exact ⟨_, by rw [h3, cut_rc v h8]⟩
section AB
variable {S : PH} {G : Nat → Nat} {m n : Nat} {v : AS}
theorem o_able (h : RM S G m) (hc : cr (p_I S (rf S m 1)) 0 n v) (hn : n ≤ 8) (hI : IV v) {q : Nat} (hq : q < n) : m_X5_able (some m) (nI q) S = some (mk8 (e_ab v q) 8, S) := by
  have hq8 : q < 8 := by omega
  obtain ⟨d1, d2⟩ := hI.de hq8
  unfold m_X5_able
  refine lpF 8 (fun i => (mk8 (e_ab v q) i, nI i, S)) _ rfl (fun i hi => ?_) ?_
  · have e1 : nI i + 1 = nI (i + 1) := nI_add i 1
    have b1 : (1 : Int32) <<< (nI i &&& 31) = mb i := rfl
    have e : mk8 (e_ab v q) (i + 1) = (if e_ab v q i = true then mk8 (e_ab v q) i ||| mb i else mk8 (e_ab v q) i) := rfl
    have n8 : ¬ (8 : Int32) ≤ nI i := by
      show ¬ nI 8 ≤ nI i
      rw [nI_leI (by omega) (by omega)]
      omega
    have no : e_ab v q i = false → j_X5_able_64 (some m) (nI q) (mk8 (e_ab v q) i) (nI i) (0 : Int32) S = some (.inl (mk8 (e_ab v q) (i + 1), nI (i + 1), S)) := by
      intro z
      unfold j_X5_able_64
      rw [if_pos rfl, le_t, e1, e, z, if_neg Bool.false_ne_true, show mk8 (e_ab v q) i ||| 0 = mk8 (e_ab v q) i from or_0 _]
    have o4 := o_of h hq8 (show 4 < 13 by omega)
    rw [hc.q4 hq] at o4
    have o0 := o_of h hq8 (show 0 < 13 by omega)
    rw [show 57 + 13 * q + 0 = 57 + 13 * q from rfl, hc.q0 hq] at o0
    have hco := o_conf h hc hn hi hq hI.s1.1 hI.s1.2
    have hp0 := hc.p0 hi
    have e17 : (17 : Int32) + nI i = nI (17 + i) := nI_add 17 i
    unfold st_X5_able_4
    dsimp only
    rw [if_neg n8, h.mm, show (4 : Int32) = nI 4 from rfl, o4, bd_t]
    by_cases h9 : v 9 q = nI 0
    · rw [if_pos (show v 9 q = 0 from h9), h.mm, o_score h hc hn hi hq, bd_t]
      by_cases hs : v (20 + q) i = nM
      · rw [if_pos (show v (20 + q) i = -1 from hs), h.mm, hco, bd_t]
        cases g : hb (a_conf v q) (nI i) with
        | true =>
          rw [if_neg (show ¬ (if true = true then nI 1 else nI 0) = 0 by decide)]
          exact no (by unfold e_ab; rw [g, Bool.not_true, Bool.false_and, Bool.and_false, Bool.and_false])
        | false =>
          rw [if_pos (show (if false = true then nI 1 else nI 0) = 0 from rfl), h.mm, h.s, h.ns, e17, ck_n (by omega) (by omega), n_cl (by omega), hp0, show ((0 : Int32)) = nI 0 from rfl, o0, bd_t, o_has, bd_t]
          cases g2 : hb (v 0 i) (v 5 q) with
          | false =>
            rw [if_pos (show (if false = true then nI 1 else nI 0) = nI 0 from rfl)]
            exact no (by unfold e_ab; rw [g2, Bool.and_false, Bool.and_false, Bool.and_false])
          | true =>
            rw [if_neg (show ¬ (if true = true then nI 1 else nI 0) = nI 0 by decide)]
            unfold j_X5_able_64
            rw [if_neg (show ¬ (1 : Int32) = 0 by decide), b1, le_t, e1, e]
            have z : e_ab v q i = true := by unfold e_ab; rw [decide_eq_true h9, decide_eq_true hs, g, g2]; rfl
            rw [if_pos z]
      · rw [if_neg (show ¬ v (20 + q) i = -1 from hs)]
        exact no (by unfold e_ab; rw [decide_eq_false hs, Bool.false_and, Bool.and_false])
    · rw [if_neg (show ¬ v 9 q = 0 from h9)]
      exact no (by unfold e_ab; rw [decide_eq_false h9, Bool.false_and])
  · unfold st_X5_able_4
    dsimp only
    rw [if_pos (show (8 : Int32) ≤ nI 8 from Int32.le_refl _)]
    rfl
end AB
