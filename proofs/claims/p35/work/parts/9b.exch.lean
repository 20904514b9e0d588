/-! MATCHING: what the search has seen; the exchange along a way -/
/-- seen persons sp, seen papers sq (in the queue: qu 0 to qu (en - 1)); ι r: the place of the paper that wanted r -/
def FI (E H : Nat → Nat → Bool) (w : AS) (s : Nat) (sp sq : Nat → Bool) (qu ι : Nat → Nat) (en : Nat) : Prop :=
  (en = cnt sq 8 ∧ 1 ≤ en ∧ qu 0 = s) ∧ (∀ i, i < en → qu i < 8 ∧ sq (qu i) = true ∧ w 7 i = nI (qu i)) ∧ (∀ q, q < 8 → sq q = true → ∃ i, i < en ∧ qu i = q) ∧ (∀ r, r < 8 → sp r = true → ι r < en ∧ w 5 r = nI (qu (ι r)) ∧ E r (qu (ι r)) = true ∧ H r (qu (ι r)) = false ∧ w 3 r = nI 0) ∧ ∀ i, 0 < i → i < en → ∃ r, r < 8 ∧ sp r = true ∧ w 6 (qu i) = nI r ∧ H r (qu i) = true ∧ ι r < i
section EX
variable {S : PH} {G : Nat → Nat} {x nw : Nat} {w : AS} {E H : Nat → Nat → Bool} {s p en : Nat} {sp sq : Nat → Bool} {qu ι : Nat → Nat}
theorem FI.e8 (h : FI E H w s sp sq qu ι en) : en ≤ 8 := by rw [h.1.1]; exact cnt_le _ 8
theorem p_xl (hg : Gi G) (h : RC S G x nw) (hF : FI E H w s sp sq qu ι en) (hsp : sp p = false) {w1 : AS} (h5 : w1 5 = w 5) (h6 : w1 6 = w 6) : ∀ i k, i < en → i + k ≤ 7 → ∀ wk Hk, HB wk Hk → XI E H Hk p (qu i) → (∀ r, r < 8 → sp r = true → ι r < i → ∀ q, q < 8 → Hk r q = H r q) → (∀ j, j ≠ 4 → wk j = w1 j) → ∃ w' H', lp (st_X1_exchange_32 (some (rf S x 4)) (nI p) (nI s)) (nI (qu i), nI k, mw S G wk) = some ((), mw S G w') ∧ HB w' H' ∧ XI E H H' p s ∧ (∀ j, j ≠ 4 → w' j = w1 j) := by
  obtain ⟨f1, f2, f3, f4, f5⟩ := hF
  intro i
  induction i using Nat.strongRecOn with
  | ind i ih =>
    intro k hi hk wk Hk hB hX hU hO
    have qi := (f2 i hi).1
    by_cases e : qu i = s
    · refine ⟨wk, Hk, lp_inr ?_, hB, by rw [← e]; exact hX, hO⟩
      unfold st_X1_exchange_32
      dsimp only
      rw [e, if_pos rfl]
      rfl
    · have i0 : 0 < i := by
        rcases Nat.eq_zero_or_pos i with z | z
        · rw [z] at e; exact absurd f1.2.2 e
        · exact z
      obtain ⟨r, r8, r1, r2, r3, r4⟩ := f5 i i0 hi
      obtain ⟨g1, g2, g3, g4, g5⟩ := f4 r r8 r1
      have qd := (f2 (ι r) g1).1
      have ur := hU r r8 r1 r4
      have k1 : Hk r (qu i) = true := by rw [ur _ qi]; exact r3
      have k2 : Hk r (qu (ι r)) = false := by rw [ur _ qd]; exact g4
      have hB1 := HB_clear (r := r) hB qi
      have hB2 := HB_set (r := r) hB1 qd
      have hX2 := XI_s hX r8 qi qd r3 g4 g3 k1 k2
      generalize hm1 : wk 4 r &&& (mb (qu i) ^^^ nM) = m1 at hB1 hB2
      have e4 : u_2 wk 4 r m1 4 r = m1 := u_s
      rw [e4] at hB2
      have st : st_X1_exchange_32 (some (rf S x 4)) (nI p) (nI s) (nI (qu i), nI k, mw S G wk) = some (.inl (nI (qu (ι r)), nI (k + 1), mw S G (u_2 (u_2 wk 4 r m1) 4 r (m1 ||| mb (qu (ι r)))))) := by
        have n1 : ¬ nI (qu i) = nI s := by
          intro z
          have s8 : s < 8 := by rw [← f1.2.2]; exact (f2 0 (by omega)).1
          exact e ((nI_eq (by omega) (by omega)).mp z)
        have n2 : ¬ (8 : Int32) ≤ nI k := by
          show ¬ nI 8 ≤ nI k
          rw [nI_leI (by omega) (by omega)]
          omega
        have e1 : nI k + 1 = nI (k + 1) := nI_add k 1
        have mt : ∀ {w : AS} {β : Type} {f : Nat → Option β}, dr (mw S G w) 1 (some (rf S x 4)) f = f (rf S x 4) := fun {w β f} => h.mt
        have ma : ∀ {w : AS} (j : Nat) (hj : j < 8) {β : Type} {f : Nat → Option β}, dr (mw S G w) 6 (p_R S (rf S x 4) j) f = f (rf S (rf S x 4) j) := fun {w} j hj {β f} => h.ma j hj
        have b1 : (1 : Int32) <<< (nI (qu i) &&& 31) = mb (qu i) := rfl
        have b2 : (1 : Int32) <<< (nI (qu (ι r)) &&& 31) = mb (qu (ι r)) := rfl
        unfold st_X1_exchange_32
        dsimp only
        rw [if_neg n1, if_neg n2, mt, R_mw, ma 6 (by omega), N_mw, h.nma 6 (by omega), ck_n qi (by omega), n_cl (by omega), gmw h 6 (by omega), hO 6 (by omega), h6, r2, le_t, ma 4 (by omega), h.nma 4 (by omega), ck_n r8 (by omega), ck_n r8 (by omega), n_cl (by omega), gmw h 4 (by omega), b1, ← m_1, hm1, smw hg h 4 (by omega), le_t, mt, R_mw, ma 5 (by omega), N_mw, h.nma 5 (by omega), ck_n r8 (by omega), gmw h 5 (by omega), u_ne (by omega), hO 5 (by omega), h5, g2, le_t, ma 4 (by omega), h.nma 4 (by omega), ck_n r8 (by omega), ck_n r8 (by omega), gmw h 4 (by omega), e4, b2, smw hg h 4 (by omega), le_t, e1]
      rw [lp_inl st]
      refine ih (ι r) r4 (k + 1) g1 (by omega) _ _ hB2 hX2 (fun r' h8 hs hl q hq => ?_) (fun j hj => ?_)
      · have hne : r' ≠ r := fun z => by rw [z] at hl; omega
        unfold up2
        rw [if_neg (fun z => hne z.1), if_neg (fun z => hne z.1)]
        exact hU r' h8 hs (by omega) q hq
      · rw [u_ne hj, u_ne hj]
        exact hO j hj
theorem p_exch (hg : Gi G) (h : RC S G x nw) (hB : HB w H) (hE : ∀ a q, a < 8 → q < 8 → H a q = true → E a q = true) (hF : FI E H w s sp sq qu ι en) (hp : p < 8) (hsp : sp p = false) {i0 : Nat} (hi : i0 < en) (hw : w 5 p = nI (qu i0)) (he : E p (qu i0) = true) (hh : H p (qu i0) = false) : ∃ w' H', m_X1_exchange (some (rf S x 4)) (nI p) (nI s) (mw S G w) = some ((), mw S G w') ∧ HB w' H' ∧ XI E H H' p s ∧ (∀ j, j ≠ 3 → j ≠ 4 → w' j = w j) ∧ w' 3 = up1 (w 3) p (w 3 p - 1) := by
  have q0 := (hF.2.1 i0 hi).1
  have e8 := hF.e8
  have hB0 : HB (u_2 w 3 p (w 3 p - 1)) H := fun a q ha hq => by rw [u_ne (by omega)]; exact hB a q ha hq
  have hB1 := HB_set (r := p) hB0 q0
  have hX := XI_0 hp q0 hE he hh
  have k := p_xl hg h hF hsp (w1 := u_2 w 3 p (w 3 p - 1)) (u_ne (by omega)) (u_ne (by omega)) i0 0 hi (by omega) _ _ hB1 hX (fun r h8 hs hl q hq => by
    unfold up2
    rw [if_neg]
    rintro ⟨z, _⟩
    rw [z, hsp] at hs
    cases hs) (fun j hj => u_ne hj)
  obtain ⟨w', H', k1, k2, k3, k4⟩ := k
  refine ⟨w', H', ?_, k2, k3, fun j j3 j4 => by rw [k4 j j4, u_ne j3], by rw [k4 3 (by omega), u_self]⟩
  rw [← k1]
  have mt : ∀ {w : AS} {β : Type} {f : Nat → Option β}, dr (mw S G w) 1 (some (rf S x 4)) f = f (rf S x 4) := fun {w β f} => h.mt
  have ma : ∀ {w : AS} (j : Nat) (hj : j < 8) {β : Type} {f : Nat → Option β}, dr (mw S G w) 6 (p_R S (rf S x 4) j) f = f (rf S (rf S x 4) j) := fun {w} j hj {β f} => h.ma j hj
  have b1 : (1 : Int32) <<< (nI (qu i0) &&& 31) = mb (qu i0) := rfl
  unfold m_X1_exchange
  rw [mt, R_mw, ma 3 (by omega), N_mw, h.nma 3 (by omega), ck_n hp (by omega), ck_n hp (by omega), n_cl (by omega), gmw h 3 (by omega), smw hg h 3 (by omega), le_t, mt, R_mw, ma 5 (by omega), N_mw, h.nma 5 (by omega), ck_n hp (by omega), gmw h 5 (by omega), u_ne (show (5 : Nat) ≠ 3 by omega), hw, le_t, ma 4 (by omega), h.nma 4 (by omega), ck_n hp (by omega), ck_n hp (by omega), gmw h 4 (by omega), b1, smw hg h 4 (by omega), le_t]
  rfl
end EX
