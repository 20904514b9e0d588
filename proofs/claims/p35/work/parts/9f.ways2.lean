/-! MATCHING: by ways, to its end; by cuts -/
section WZ
variable {S : PH} {G : Nat → Nat} {x nw : Nat} {E : Nat → Nat → Bool}
theorem MS_cut {cap dem : Nat → Nat} {wi w : AS} {H : Nat → Nat → Bool} (h : MS E cap dem wi w H 8 0) : (∀ X, all_ H ≤ rc_ cap dem E X) ∧ ∃ X, rc_ cap dem E X = all_ H := by
  obtain ⟨m1, m2, m3, m4, m5, m6, m7⟩ := h
  have hF : FL cap dem E H := ⟨m2, fun p hp => (m3 p hp).1, fun q hq => (m5 q hq hq).1⟩
  have key : ∀ n, n ≤ 8 → ∃ X T, BK E H (fun r => sm (fun q => bn (H r q)) 8 = cap r) X T ∧ ∀ q, q < n → T q = false → sm (fun a => bn (H a q)) 8 = dem q := by
    intro n
    induction n with
    | zero => exact fun _ => ⟨fun _ => false, fun _ => false, ⟨fun _ _ _ _ g => absurd g Bool.false_ne_true, fun _ _ g => absurd g Bool.false_ne_true, fun _ _ _ _ g => absurd g Bool.false_ne_true⟩, fun q hq => by omega⟩
    | succ n ih =>
      intro hn
      obtain ⟨X, T, k1, k2⟩ := ih (by omega)
      rcases (m5 n (by omega) (by omega)).2 with g | ⟨X', T', g1, g2⟩
      · refine ⟨X, T, k1, fun q hq hT => ?_⟩
        by_cases e : q = n
        · rw [e]; exact g
        · exact k2 q (by omega) hT
      · refine ⟨_, _, BK_or k1 g1, fun q hq hT => ?_⟩
        have hT : (T q || T' q) = false := hT
        rw [Bool.or_eq_false_iff] at hT
        by_cases e : q = n
        · rw [e, g2] at hT; exact absurd hT.2 (by decide)
        · exact k2 q (by omega) hT.1
  obtain ⟨X, T, k1, k2⟩ := key 8 (Nat.le_refl 8)
  exact ⟨fl_weak cap dem E hF, X, fl_strong cap dem E hF k1 (fun q hq hT => k2 q hq hT)⟩
/-- what is the same in all that the Matching does: persons' means, what fits, what is free -/
def c3 (w w' : AS) : Prop := ∀ i, i < 3 → w' i = w i
theorem p_ways (hg : Gi G) (h : RC S G x nw) {cap dem : Nat → Nat} {w0 : AS} (hE : ∀ r q, r < 8 → q < 8 → hb (w0 1 r) (nI q) = E r q) (hcap : ∀ r, r < 8 → w0 0 r = nI (cap r) ∧ cap r < 20000) (hdem : ∀ q, q < 8 → w0 2 q = nI (dem q) ∧ dem q ≤ 8) (ab : Int32) : ∃ w' A, m_X1_byWays (some (rf S x 4)) ab (mw S G w0) = some (nI A, mw S G w') ∧ c3 w0 w' ∧ (∀ X, A ≤ rc_ (fun r => if nI r = ab then 0 else cap r) dem E X) ∧ ∃ X, rc_ (fun r => if nI r = ab then 0 else cap r) dem E X = A := by
  have mt : ∀ {w : AS} {β : Type} {f : Nat → Option β}, dr (mw S G w) 1 (some (rf S x 4)) f = f (rf S x 4) := fun {w β f} => h.mt
  have ma : ∀ {w : AS} (j : Nat) (hj : j < 8) {β : Type} {f : Nat → Option β}, dr (mw S G w) 6 (p_R S (rf S x 4) j) f = f (rf S (rf S x 4) j) := fun {w} j hj {β f} => h.ma j hj
  generalize hc' : (fun r => if nI r = ab then 0 else cap r) = cap'
  have ec : ∀ r, cap' r = if nI r = ab then 0 else cap r := fun r => by rw [← hc']
  /- first: all have what they have -/
  obtain ⟨t', ⟨w1, rfl, k2, k3⟩, h4⟩ := lp_rel (step := st_X1_byWays_2 (some (rf S x 4)) ab) (t := (nI 0, mw S G w0)) 8 (fun i t => ∃ w', t = (nI i, mw S G w') ∧ (∀ r, r < i → w' 3 r = nI (cap' r) ∧ w' 4 r = nI 0) ∧ c3 w0 w') ⟨w0, rfl, fun r hr => by omega, fun _ _ => rfl⟩ (fun i hi t ht => by
    obtain ⟨w', rfl, k2, k3⟩ := ht
    have n8 : ¬ (8 : Int32) ≤ nI i := by
      show ¬ nI 8 ≤ nI i
      rw [nI_leI (by omega) (by omega)]
      omega
    have e1 : nI i + 1 = nI (i + 1) := nI_add i 1
    have key : ∀ y, y = nI (cap' i) → j_X1_byWays_28 (some (rf S x 4)) ab (nI i) (p_R S (rf S x 4) 3) (nI i) y (mw S G w') = some (.inl (nI (i + 1), mw S G (u_2 (u_2 w' 3 i (nI (cap' i))) 4 i (nI 0)))) := by
      intro y hy
      unfold j_X1_byWays_28
      rw [ma 3 (by omega), N_mw, h.nma 3 (by omega), ck_n hi (by omega), n_cl (by omega), smw hg h 3 (by omega), le_t, mt, R_mw, ma 4 (by omega), N_mw, h.nma 4 (by omega), ck_n hi (by omega), smw hg h 4 (by omega), le_t, e1, hy]
      rfl
    have fin : ∃ w'' : AS, (nI (i + 1), mw S G (u_2 (u_2 w' 3 i (nI (cap' i))) 4 i (nI 0))) = (nI (i + 1), mw S G w'') ∧ (∀ r, r < i + 1 → w'' 3 r = nI (cap' r) ∧ w'' 4 r = nI 0) ∧ c3 w0 w'' := by
      refine ⟨_, rfl, fun r hr => ?_, fun j hj => by rw [u_ne (by omega), u_ne (by omega)]; exact k3 j hj⟩
      by_cases e : r = i
      · subst e
        rw [u_ne (show (3 : Nat) ≠ 4 by omega), u_s, u_s]
        exact ⟨rfl, rfl⟩
      · rw [u_k e, u_k e, u_k e, u_k e]
        exact k2 r (by omega)
    unfold st_X1_byWays_2
    dsimp only
    rw [if_neg n8, mt, R_mw]
    by_cases e : nI i = ab
    · rw [if_pos e, key 0 (by rw [ec, if_pos e]; rfl)]
      exact ⟨_, rfl, fin⟩
    · rw [if_neg e, ma 0 (by omega), N_mw, h.nma 0 (by omega), ck_n hi (by omega), n_cl (by omega), gmw h 0 (by omega), k3 0 (by omega), key _ (by rw [ec, if_neg e]; exact (hcap i hi).1)]
      exact ⟨_, rfl, fin⟩)
  have hE1 : ∀ r q, r < 8 → q < 8 → hb (w1 1 r) (nI q) = E r q := fun r q hr hq => by rw [k3 1 (by omega)]; exact hE r q hr hq
  have cap20 : ∀ r, r < 8 → cap' r < 20000 := fun r hr => by have := (hcap r hr).2; rw [ec]; split <;> omega
  have hd1 : ∀ q, q < 8 → w1 2 q = nI (dem q) ∧ dem q ≤ 8 := fun q hq => by rw [k3 2 (by omega)]; exact hdem q hq
  have hz : ∀ a, sm (fun q => bn ((fun _ _ => false : Nat → Nat → Bool) a q)) 8 = 0 := fun a => sm_zero 8
  have hM : MS E cap' dem w1 w1 (fun _ _ => false) 0 0 := by
    refine ⟨fun a q ha hq => by rw [(k2 a ha).2]; exact hb_0 q hq, fun a q _ _ g => absurd g Bool.false_ne_true, fun r hr => ?_, fun _ _ => rfl, fun q hq => by omega, fun _ => ⟨sm_zero 8, Nat.zero_le _⟩, fun q _ _ => sm_zero 8⟩
    rw [hz r, (k2 r hr).1]
    exact ⟨Nat.zero_le _, rfl⟩
  /- each paper in its turn -/
  have big : ∀ H s, s ≤ 8 → (∀ q, q < s → sm (fun a => bn ((H : Nat → Nat → Bool) a q)) 8 ≤ 8) → sm (fun q => sm (fun a => bn (H a q)) 8) s ≤ 64 := by
    intro H s hs hq
    have := sm_le (b := 8) s hq
    omega
  obtain ⟨t2, ⟨w2, H2, rfl, m2⟩, h5⟩ := lp_rel (step := st_X1_byWays_46 (some (rf S x 4)) ab) (t := (nI 0, nI 0, mw S G w1)) 8 (fun s t => ∃ w' H', t = (nI (sm (fun q => sm (fun a => bn (H' a q)) 8) s), nI s, mw S G w') ∧ MS E cap' dem w1 w' H' s 0) ⟨w1, _, rfl, hM⟩ (fun s hs t ht => by
    obtain ⟨w', H', rfl, m⟩ := ht
    have hc8 : ∀ q, q < s → sm (fun a => bn (H' a q)) 8 ≤ 8 := fun q hq => by
      have a := (m.2.2.2.2.1 q hq (by omega)).1
      have b := (hd1 q (by omega)).2
      omega
    have hb64 := big H' s (by omega) hc8
    obtain ⟨w2, H2, z1, z2⟩ := p_paper55 hg h hE1 cap20 hd1 (ab := ab) (s := s) (tot := sm (fun q => sm (fun a => bn (H' a q)) 8) s) hs (by omega) (dem s) 0 (by omega) w' H' m rfl
    refine ⟨_, ?_, w2, H2, rfl, z2⟩
    have n8 : ¬ (8 : Int32) ≤ nI s := by
      show ¬ nI 8 ≤ nI s
      rw [nI_leI (by omega) (by omega)]
      omega
    unfold st_X1_byWays_46
    dsimp only
    rw [if_neg n8]
    exact z1)
  refine ⟨w2, all_ H2, ?_, fun i hi => by rw [m2.2.2.2.1 i hi]; exact k3 i hi, (MS_cut m2).1, (MS_cut m2).2⟩
  unfold m_X1_byWays
  rw [show ((0 : Int32)) = nI 0 from rfl, h4]
  refine lp_inr ?_
  unfold st_X1_byWays_2
  dsimp only
  rw [if_pos (show (8 : Int32) ≤ nI 8 from Int32.le_refl _), show ((0 : Int32)) = nI 0 from rfl, h5]
  have e : lp (st_X1_byWays_46 (some (rf S x 4)) ab) (nI (sm (fun q => sm (fun a => bn (H2 a q)) 8) 8), nI 8, mw S G w2) = some (nI (all_ H2), mw S G w2) := by
    refine lp_inr ?_
    unfold st_X1_byWays_46
    dsimp only
    rw [if_pos (show (8 : Int32) ≤ nI 8 from Int32.le_refl _)]
    rfl
  rw [e]
  rfl
end WZ
