/-! THE LAW: its start -/
theorem mb_n : ∀ a, a < 8 → mb a = nI (2 ^ a) ∧ 1 ≤ 2 ^ a ∧ 2 ^ a ≤ 255 := by decide
theorem wk_rich {v : AS} {m t : Nat} (h14 : v 14 0 = nI m) (h11 : v 11 2 = nI t) (hm : 8 * t ≤ m) (hb : m < 20000) : ∀ n, n ≤ 8 → (a_wk v n).1 = nI (n * t) ∧ (a_wk v n).2 14 0 = nI (m - n * t)
  | 0, _ => ⟨by rw [Nat.zero_mul] <;> rfl, by rw [Nat.zero_mul, Nat.sub_zero]; exact h14⟩
  | n + 1, hn => by
    obtain ⟨e1, e2⟩ := wk_rich h14 h11 hm hb n (by omega)
    have nt : n * t ≤ 7 * t := Nat.mul_le_mul_right t (by omega)
    have st : (n + 1) * t = n * t + t := Nat.succ_mul n t
    have e : a_wk v (n + 1) = (if (a_wk v n).2 14 0 < v 11 2 then a_wk v n else ((a_wk v n).1 + v 11 2, a_give (a_wk v n).2 n (v 11 2))) := rfl
    rw [e, e2, h11, if_neg (by rw [nI_ltI (by omega) (by omega)]; omega), st]
    refine ⟨?_, ?_⟩
    · show (a_wk v n).1 + nI t = _
      rw [e1, nI_add]
    · show u_2 (u_2 (a_wk v n).2 14 0 ((a_wk v n).2 14 0 - nI t)) 2 n ((a_wk v n).2 2 n + nI t) 14 0 = _
      rw [u_ne (by omega), u_s, e2, pk_sub (by omega)]
      congr 1
      omega
section SL
variable {x L : Nat} {S0 : PH} {xs : Nat → Int32} {K : Option Nat → Int32 → Int32 → PH → Prop}
theorem start_law (hL : L ≤ 260) (hK : ∀ x S, LX x 0 S → K (some x) 1 0 S) : w_law_start xs L S0 K := by
  intro x hx
  have k1 : x ∈ p_L (s_N S0 x 4 0) ∧ p_K (s_N S0 x 4 0) x = 4 := ⟨List.mem_append_right _ List.mem_cons_self, va_s⟩
  refine wdr_t k1 (wk_X4_init ⟨fun a c h0 _ => absurd rfl h0, fun _ _ => rfl⟩ k1 (fun S1 G1 qa qb qc qd qe qf p1 w1 u1 => ?_))
  have h0 : RelC S1 G1 x qa v0 [] 0 (fun _ => none) 0 (fun _ => 0) := p0_rel p1 w1 (fun d => by
    rcases u1 d with k | k
    · exact Or.inl k
    · right
      omega)
  obtain ⟨c0, e0⟩ := p_cell xs L hL (k := 80) (by omega)
  obtain ⟨c1, e1⟩ := p_cell xs L hL (k := 81) (by omega)
  obtain ⟨c2, e2⟩ := p_cell xs L hL (k := 82) (by omega)
  obtain ⟨c3, e3⟩ := p_cell xs L hL (k := 83) (by omega)
  obtain ⟨i0, hi0, f0⟩ := up_n c0 (n := 4) (by omega) (by omega)
  obtain ⟨i1, hi1, f1⟩ := up_n c1 (n := 8) (by omega) (by omega)
  obtain ⟨i2, hi2, f2⟩ := up_n c2 (n := 4) (by omega) (by omega)
  obtain ⟨i3, hi3, f3⟩ := up_n c3 (n := 8) (by omega) (by omega)
  obtain ⟨g1, g2, g3⟩ := mb_n i1 hi1
  obtain ⟨g4, g5, g6⟩ := mb_n i3 hi3
  have hv1 : IV (a_pa v0 (nI i0) (nI (2 ^ i1))) := iv_pa iv_v0 _ _ (by rw [an_v0]; omega)
  generalize 2 ^ i1 = j1 at g1 g2 g3 hv1
  generalize 2 ^ i3 = j3 at g4 g5 g6
  have n1 : a_n (a_pa v0 (nI i0) (nI j1)) = 1 := by
    show (u_2 (u_2 (u_2 v0 5 _ _) 6 _ _) 12 0 (nI (0 + 1)) 12 0).toNatClampNeg = 1
    rw [u_s] <;> rfl
  have q1 : f_paper v0 (nI i0) (nI j1) = (.inr (nI 0), some (a_pa v0 (nI i0) (nI j1))) := by
    unfold f_paper
    rw [if_pos (in_nI (by omega) (by omega) (by omega)), if_pos (in_nI (by omega) (by omega) (by omega)), if_pos (by rw [an_v0]; omega), an_v0]
  have w1 : ∀ f, f ≠ 5 → f ≠ 6 → f ≠ 12 → a_pa v0 (nI i0) (nI j1) f = v0 f := fun f h5 h6 h12 => by
    show u_2 (u_2 (u_2 v0 5 _ _) 6 _ _) 12 0 _ f = _
    rw [u_ne h12, u_ne h6, u_ne h5]
  generalize a_pa v0 (nI i0) (nI j1) = v1 at hv1 n1 q1 w1
  have hv2 : IV (a_pa v1 (nI i2) (nI j3)) := iv_pa hv1 _ _ (by rw [n1]; omega)
  have q2 : f_paper v1 (nI i2) (nI j3) = (.inr (nI 1), some (a_pa v1 (nI i2) (nI j3))) := by
    unfold f_paper
    rw [if_pos (in_nI (by omega) (by omega) (by omega)), if_pos (in_nI (by omega) (by omega) (by omega)), if_pos (by rw [n1]; omega), n1]
  have n2 : a_n (a_pa v1 (nI i2) (nI j3)) = 2 := by
    show (u_2 (u_2 (u_2 v1 5 _ _) 6 _ _) 12 0 (nI (a_n v1 + 1)) 12 0).toNatClampNeg = 2
    rw [u_s, n1] <;> rfl
  have w2 : ∀ f, f ≠ 5 → f ≠ 6 → f ≠ 12 → a_pa v1 (nI i2) (nI j3) f = v0 f := fun f h5 h6 h12 => by
    show u_2 (u_2 (u_2 v1 5 _ _) 6 _ _) 12 0 _ f = _
    rw [u_ne h12, u_ne h6, u_ne h5, w1 f h5 h6 h12]
  generalize a_pa v1 (nI i2) (nI j3) = v2 at hv2 n2 q2 w2
  have j2 : JV 0 v2 := by
    refine ⟨fun p hp => ?_, ?_, by rw [n2]; omega, fun q hq => ⟨?_, fun z => absurd ?_ z⟩⟩
    · refine nat_nI (j := 15) ?_ (by omega) (by omega)
      rw [w2 0 (by omega) (by omega) (by omega)]
      unfold v0
      rw [if_pos rfl, if_pos hp]
    · refine nat_nI (j := 0) ?_ (by omega) (by omega)
      rw [w2 13 (by omega) (by omega) (by omega)] <;> rfl
    · rw [w2 (20 + q) (by omega) (by omega) (by omega)]
      have z : cnt (rw_ (v0 (20 + q))) 8 = 0 := cnt_0 (fun p hp => by
        unfold rw_ v0
        rw [if_neg (by omega), if_pos (by omega), if_pos hp]
        decide)
      omega
    · rw [w2 9 (by omega) (by omega) (by omega)] <;> rfl
  have wk := (wk_rich (v := v2) (m := 100) (t := 4) (by rw [w2 14 (by omega) (by omega) (by omega)] <;> rfl) (by rw [w2 11 (by omega) (by omega) (by omega)] <;> rfl) (by omega) (by omega) 8 (by omega)).1
  obtain ⟨y, v3, q3, _, hv3, j3'⟩ := week_ok hv2 j2 (by omega)
  have q3' : f_week v2 = (.inr (a_week v2).1, some (a_week v2).2) := by
    have h13 : v2 13 0 = nI 0 := by rw [w2 13 (by omega) (by omega) (by omega)] <;> rfl
    unfold f_week
    rw [if_neg (by rw [h13] <;> decide)]
  rw [q3'] at q3
  obtain ⟨z1, z2⟩ := Prod.mk.inj q3
  have z1 := Sum.inr.inj z1
  have z2 := Option.some.inj z2
  have z3 : y = nI 32 := z1.symm.trans wk
  rw [z1, z2, z3] at q3'
  have n3 : v3 12 0 = nI 2 := by
    obtain ⟨e12, _⟩ := hv2.in_
    rw [n2] at e12
    rw [← z2]
    show u_2 (a_wk v2 8).2 13 0 ((a_wk v2 8).2 13 0 + nI 1) 12 0 = _
    rw [u_ne (by omega), (wk_in hv2 8).2 12 (by omega) (by omega), e12]
  rw [wq_re, wle_t]
  refine wbd_t (e0 S1) ?_
  refine wbd_t (p_up c0 (n := 4) S1 (by omega) (by omega)) ?_
  refine wbd_t (e1 S1) ?_
  refine wbd_t (p_up c1 (n := 8) S1 (by omega) (by omega)) ?_
  rw [f0, f1, show (1 : Int32) <<< (nI i1 &&& 31) = nI j1 from g1]
  refine wdr_t h0.rc.1.1 ?_
  refine k_paper h0 iv_v0 (nI i0) (nI j1) (fun S2 G2 h1 _ => ?_)
  rw [q1] at h1 ⊢
  have h1 : RelC S2 G2 x qa v1 ((v0 :: []).take 6) ((0 + 1) % 6) (fun _ => none) 0 (fun _ => 0) := h1
  show wq _ _ (Sum.inr (nI 0)) S2
  rw [wq_re]
  refine wbd_t (e2 S2) ?_
  refine wbd_t (p_up c2 (n := 4) S2 (by omega) (by omega)) ?_
  refine wbd_t (e3 S2) ?_
  refine wbd_t (p_up c3 (n := 8) S2 (by omega) (by omega)) ?_
  rw [f2, f3, show (1 : Int32) <<< (nI i3 &&& 31) = nI j3 from g4]
  refine wdr_t h1.rc.1.1 ?_
  refine k_paper h1 hv1 (nI i2) (nI j3) (fun S3 G3 h2 _ => ?_)
  rw [q2] at h2 ⊢
  obtain ⟨nx2, h2⟩ : ∃ nx, RelC S3 G3 x qa v2 ((v1 :: (v0 :: []).take 6).take 6) nx (fun _ => none) 0 (fun _ => 0) := ⟨_, h2⟩
  show wq _ _ (Sum.inr (nI 1)) S3
  rw [wq_re]
  refine wdr_t h2.rc.1.1 ?_
  refine k_week h2 hv2 (fun S4 G4 h3 _ => ?_)
  rw [q3'] at h3 ⊢
  obtain ⟨nx3, hs3, h3⟩ : ∃ nx hs, RelC S4 G4 x qa v3 hs nx (fun _ => none) 0 (fun _ => 0) := ⟨_, _, h3⟩
  show wq _ _ (Sum.inr (nI 32)) S4
  rw [wq_re]
  refine wdr_t h3.rc.1.1 ?_
  refine k_keep h3 0 (fun S5 G5 h4 _ => ?_)
  rw [show f_keep v3 0 = .inr (v3 12 0) from if_pos (by decide), wq_re, n3, wle_t, if_pos (show nI 0 + nI 1 + nI 32 + nI 2 = (35 : Int32) by decide)]
  obtain ⟨S6, e6, h5⟩ := q_holds h4 hv3 j3'.2.2.2
  refine wbt_r e6 ?_
  rw [if_neg (show ¬ nI 1 = 0 by decide)]
  exact hK x S6 ⟨G5, qa, v3, hs3, nx3, _, 0, _, v3, h5, hv3, j3', if_pos ⟨by decide, by decide⟩, hv3, j3'⟩
end SL
