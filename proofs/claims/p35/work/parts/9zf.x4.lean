/-! THE START: the class's object as a whole -/
def CS (S : PH) (G : Nat → Nat) (x : Nat) (U : Nat → Prop) : Prop := GW S G ∧ (x ∈ p_L S ∧ p_K S x = 4) ∧ G x = 0 ∧ UT G U
section CSS
variable {S S' : PH} {G G' : Nat → Nat} {x : Nat} {U U' : Nat → Prop}
theorem cs_x (h : CS S G x U) (ho : ol S G S' G') : x ∈ p_L S' ∧ p_K S' x = 4 := by
  obtain ⟨k1, k2⟩ := ho x h.2.1.1
  exact ⟨k1.1, k1.2.1.trans h.2.1.2⟩
theorem cs_step (h : CS S G x U) (hw : GW S' G') (ho : ol S G S' G') (hU : UT G' U') (f : Nat) (r : Option Nat) : CS (s_R S' x f r) G' x U' ∧ ks S G (s_R S' x f r) G' ∧ (∀ j, p_R (s_R S' x f r) x j = if j = f then r else p_R S x j) ∧ ks S' G' (s_R S' x f r) G' := by
  have hx := cs_x h ho
  have hgx : G' x = 0 := (ho x h.2.1.1).2.trans h.2.2.1
  refine ⟨⟨⟨hw.1, hw.2⟩, hx, hgx, hU⟩, fun d hd hg => ?_, fun j => ?_, fun d hd hg => ?_⟩
  · have n : d ≠ x := by
      intro z
      rw [z] at hg
      exact hg h.2.2.1
    obtain ⟨k1, k2⟩ := ho d hd
    exact ⟨sme_tr k1 (sme_R k1.1 n), k2⟩
  · show u_2 (p_R S') x f r x j = _
    unfold u_2
    rw [(ho x h.2.1.1).1.2.2.2.2.1]
    by_cases e : j = f
    · rw [if_pos ⟨rfl, e⟩, if_pos e]
    · rw [if_neg (fun z => e z.2), if_neg e]
  · have n : d ≠ x := by
      intro z
      rw [z] at hg
      exact hg hgx
    exact ⟨sme_R hd n, rfl⟩
theorem cs_end (h : CS S G x U) (h1 : ¬ U 1) : GW S (va_up G x 1) ∧ ks S G S (va_up G x 1) ∧ ob S (va_up G x 1) x 4 1 := by
  refine ⟨⟨fun a c h0 e => ?_, fun c hc => ?_⟩, fun d hd hg => ?_, h.2.1, va_s⟩
  · have fr := ut_fr h.2.2.2 (t := 1) (by omega) h1
    by_cases ea : a = x
    · by_cases ec : c = x
      · rw [ea, ec]
      · rw [ea, va_s, va_o ec] at e
        exact absurd e.symm (fr c)
    · by_cases ec : c = x
      · rw [ec, va_s, va_o ea] at e
        exact absurd e (fr a)
      · rw [va_o ea] at e h0
        rw [va_o ec] at e
        exact h.1.1 a c h0 e
  · have n : c ≠ x := by
      intro z
      rw [z] at hc
      exact hc h.2.1.1
    rw [va_o n]
    exact h.1.2 c hc
  · have n : d ≠ x := by
      intro z
      rw [z] at hg
      exact hg h.2.2.1
    exact ⟨⟨hd, rfl, rfl, rfl, rfl, rfl, rfl⟩, va_o n⟩
end CSS
/-- the class's object as it is made -/
def P0 (S : PH) (G : Nat → Nat) (x qa qb qc qd qe qf : Nat) : Prop := ob S G x 4 1 ∧ (p_R S x 0 = some qa ∧ p_R S x 1 = some qb ∧ p_R S x 2 = some qc ∧ p_R S x 3 = some qd ∧ p_R S x 4 = some qe ∧ p_R S x 5 = some qf) ∧ PA S G qa ∧ PB S G qb ∧ PC S G qc ∧ PD S G qd ∧ PE S G qe ∧ PF S G qf
theorem P0.k {S S' : PH} {G G' : Nat → Nat} {x qa qb qc qd qe qf : Nat} (h : P0 S G x qa qb qc qd qe qf) (k : ks S G S' G') : P0 S' G' x qa qb qc qd qe qf := by
  obtain ⟨h1, h2, pa, pb, pc, pd, pe, pf⟩ := h
  obtain ⟨k1, s1⟩ := sme_s k h1 (by omega)
  refine ⟨k1, ?_, pa.k k, pb.k k, pc.k k, pd.k k, pe.k k, pf.k k⟩
  rw [s1.2.2.2.2.1]
  exact h2
theorem p0_rel {T6 : PH} {G6 : Nat → Nat} {x qa qb qc qd qe qf : Nat} (h : P0 T6 G6 x qa qb qc qd qe qf) (gw : GW T6 G6) (hU : UT G6 (fun t => t ≤ 16 ∨ (1000 ≤ t ∧ t < 1100) ∨ 2000 ≤ t)) : RelC T6 G6 x qa v0 [] 0 (fun _ => none) 0 (fun _ => 0) := by
  obtain ⟨ox, ⟨q0, q1, q2, q3, q4, q5⟩, pa, pb, pc, pd, pe, pf⟩ := h
  have f1 : rf T6 x 1 = qb := by unfold rf; rw [q1]; rfl
  have f2 : rf T6 x 2 = qc := by unfold rf; rw [q2]; rfl
  have f3 : rf T6 x 3 = qd := by unfold rf; rw [q3]; rfl
  have f4 : rf T6 x 4 = qe := by unfold rf; rw [q4]; rfl
  have f5 : rf T6 x 5 = qf := by unfold rf; rw [q5]; rfl
  have sn : ∀ b, 1 ≤ b → b ≤ 9 → sv T6 (G6) b none := by
    intro b hb hb9
    refine ⟨fun q hq => absurd hq (by simp), fun _ d z => ?_⟩
    rcases hU d with k | k
    · rw [k] at z; omega
    · omega
  refine ⟨⟨ox, q0, pa.1, ⟨by rw [q1, f1], by rw [f1]; exact pb.1, by rw [f1]; exact pb.2.1⟩, by rw [q2]; exact pc.1, ⟨by rw [q3, f3], by rw [f3]; exact pd.1, by rw [f3]; exact pd.2.1⟩, ⟨by rw [q4, f4], by rw [f4]; exact pe.1, by rw [f4]; exact pe.2⟩, by rw [q5]; exact pf.1⟩, gw, ⟨pa.2, aw_v0⟩, fun i hi => ?_, fun i hi => ?_, ?_, fun i w hw => ?_, fun i hi => ?_, ?_, fun k _ => ?_⟩
  · unfold hR
    rw [f1, pb.2.2.2.2]
    exact sn _ (by omega) (by omega)
  · rw [f2, pc.2]
    exact sn _ (by omega) (by omega)
  · rw [f1]
    exact ⟨pb.2.2.1, by omega, pb.2.2.2.1, Nat.zero_le _⟩
  · simp at hw
  · rw [f2]
    exact ⟨fun _ => pc.2 i, fun w hw => absurd hw (by simp)⟩
  · rw [f3]
    exact ⟨pd.2.2.1, by omega, pd.2.2.2⟩
  · rw [f5, pf.2]
theorem wk_X4_init {S0 : PH} {x : Nat} (hw : GW S0 (fun _ => 0)) (hx : x ∈ p_L S0 ∧ p_K S0 x = 4) {Q : (Nat ⊕ Unit) → PH → Prop} (hQ : ∀ S G qa qb qc qd qe qf, P0 S G x qa qb qc qd qe qf → GW S G → UT G (fun t => t ≤ 16 ∨ (1000 ≤ t ∧ t < 1100)) → Q (.inr ()) S) : w_X4_init (some x) S0 Q := by
  have c0 : CS S0 (fun _ => 0) x (fun t => t < 0) := ⟨hw, hx, rfl, fun d => Or.inl rfl⟩
  unfold w_X4_init
  refine wdr_t hx ?_
  refine sub_state c0.1 c0.2.2.2 (fun t _ _ => by omega) (fun qa S1 G1 w1 o1 u1 _ pa => ?_)
  refine wdr_t (cs_x c0 o1) ?_
  obtain ⟨c1, _, r1, k1⟩ := cs_step c0 w1 o1 u1 0 (some qa)
  replace pa := pa.k k1
  generalize s_R S1 x 0 (some qa) = T1 at *
  refine sub_hist c1.1 c1.2.2.2 (by omega) (by omega) (fun qb S2 G2 w2 o2 u2 _ pb => ?_)
  refine wdr_t (cs_x c1 o2) ?_
  obtain ⟨c2, k2a, r2, k2⟩ := cs_step c1 w2 o2 u2 1 (some qb)
  replace pa := pa.k k2a
  replace pb := pb.k k2
  generalize s_R S2 x 1 (some qb) = T2 at *
  refine sub_arr (t := 4) c2.1 c2.2.2.2 (by omega) (by omega) (fun qc S3 G3 w3 o3 u3 _ pc1 pc2 pc3 => ?_)
  refine wdr_t (cs_x c2 o3) ?_
  obtain ⟨c3, k3a, r3, k3⟩ := cs_step c2 w3 o3 u3 2 (some qc)
  have pc : PC S3 G3 qc := ⟨pc1, fun i => congrFun pc3 i⟩
  replace pa := pa.k k3a
  replace pb := pb.k k3a
  replace pc := pc.k k3
  clear pc1 pc2 pc3
  generalize s_R S3 x 2 (some qc) = T3 at *
  refine sub_text c3.1 c3.2.2.2 (by omega) (by omega) (fun qd S4 G4 w4 o4 u4 _ pd => ?_)
  refine wdr_t (cs_x c3 o4) ?_
  obtain ⟨c4, k4a, r4, k4⟩ := cs_step c3 w4 o4 u4 3 (some qd)
  replace pa := pa.k k4a
  replace pb := pb.k k4a
  replace pc := pc.k k4a
  replace pd := pd.k k4
  generalize s_R S4 x 3 (some qd) = T4 at *
  refine sub_match c4.1 c4.2.2.2 (fun t _ _ => by omega) (fun qe S5 G5 w5 o5 u5 _ pe => ?_)
  refine wdr_t (cs_x c4 o5) ?_
  obtain ⟨c5, k5a, r5, k5⟩ := cs_step c4 w5 o5 u5 4 (some qe)
  replace pa := pa.k k5a
  replace pb := pb.k k5a
  replace pc := pc.k k5a
  replace pd := pd.k k5a
  replace pe := pe.k k5
  generalize s_R S5 x 4 (some qe) = T5 at *
  refine sub_arr (t := 16) c5.1 c5.2.2.2 (by omega) (by omega) (fun qf S6 G6 w6 o6 u6 _ pf1 pf2 pf3 => ?_)
  refine wdr_t (cs_x c5 o6) ?_
  obtain ⟨c6, k6a, r6, k6⟩ := cs_step c5 w6 o6 u6 5 (some qf)
  have pf : PF S6 G6 qf := ⟨pf1, pf2⟩
  replace pa := pa.k k6a
  replace pb := pb.k k6a
  replace pc := pc.k k6a
  replace pd := pd.k k6a
  replace pe := pe.k k6a
  replace pf := pf.k k6
  clear pf1 pf2 pf3
  generalize s_R S6 x 5 (some qf) = T6 at *
  obtain ⟨gw, kx, ox⟩ := cs_end c6 (by omega)
  replace pa := pa.k kx
  replace pb := pb.k kx
  replace pc := pc.k kx
  replace pd := pd.k kx
  replace pe := pe.k kx
  replace pf := pf.k kx
  have hU : UT (va_up G6 x 1) (fun t => t ≤ 16 ∨ (1000 ≤ t ∧ t < 1100)) := by
    intro d
    by_cases e : d = x
    · rw [e, va_s]; exact Or.inr (Or.inl (by omega))
    · rw [va_o e]
      rcases c6.2.2.2 d with k | k
      · exact Or.inl k
      · right
        omega
  have q0 : p_R T6 x 0 = some qa := by rw [r6, if_neg (by omega), r5, if_neg (by omega), r4, if_neg (by omega), r3, if_neg (by omega), r2, if_neg (by omega), r1, if_pos rfl]
  have q1 : p_R T6 x 1 = some qb := by rw [r6, if_neg (by omega), r5, if_neg (by omega), r4, if_neg (by omega), r3, if_neg (by omega), r2, if_pos rfl]
  have q2 : p_R T6 x 2 = some qc := by rw [r6, if_neg (by omega), r5, if_neg (by omega), r4, if_neg (by omega), r3, if_pos rfl]
  have q3 : p_R T6 x 3 = some qd := by rw [r6, if_neg (by omega), r5, if_neg (by omega), r4, if_pos rfl]
  have q4 : p_R T6 x 4 = some qe := by rw [r6, if_neg (by omega), r5, if_pos rfl]
  have q5 : p_R T6 x 5 = some qf := by rw [r6, if_pos rfl]
  exact hQ T6 (va_up G6 x 1) qa qb qc qd qe qf ⟨ox, ⟨q0, q1, q2, q3, q4, q5⟩, pa, pb, pc, pd, pe, pf⟩ gw hU
