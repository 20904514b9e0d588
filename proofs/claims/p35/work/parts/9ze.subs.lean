/-! THE START: the class's parts, one by one -/
section SUB2
variable {S : PH} {G : Nat → Nat} {U : Nat → Prop}
theorem sub_arr (hw : GW S G) (hU : UT G U) {k n t : Nat} (h0 : t ≠ 0) (ht : ¬ U t) {K : Nat → PH → Prop} (hK : ∀ q S' G', GW S' G' → ol S G S' G' → UT G' (fun e => U e ∨ e = t) → q ∉ p_L S → ar S' G' (some q) k n t → p_I S' q = (fun _ => 0) → p_R S' q = (fun _ => none) → K q S') : wnw S fun q => wle (s_N S q k n) fun S1 => K q S1 := by
  intro q hq
  refine hK q _ (va_up G q t) (GW_up hw hq (ut_fr hU h0 ht) rfl) (ol_N hq) (fun d => ?_) hq ⟨⟨rfl, ⟨List.mem_append_right _ List.mem_cons_self, va_s⟩, va_s⟩, va_s⟩ ur_s (if_pos rfl)
  by_cases e : d = q
  · rw [e, va_s]; exact Or.inr (Or.inr rfl)
  · rw [va_o e]
    rcases hU d with k | k
    · exact Or.inl k
    · exact Or.inr (Or.inl k)
theorem sub_hist (hw : GW S G) (hU : UT G U) (h2 : ¬ U 2) (h3 : ¬ U 3) {K : Nat → PH → Prop} (hK : ∀ q S' G', GW S' G' → ol S G S' G' → UT G' (fun t => U t ∨ (t = 2 ∨ t = 3)) → q ∉ p_L S → PB S' G' q → K q S') : wnw S fun q4 => wle (s_N S q4 0 0) fun S6 => wdr S6 0 (some q4) fun _ => w_X0_init (some q4) S6 (wq (fun _ S12 => K q4 S12) (fun _ _ => False)) := by
  intro q hq
  have hk1 : q ∈ p_L (s_N S q 0 0) ∧ p_K (s_N S q 0 0) q = 0 := ⟨List.mem_append_right _ List.mem_cons_self, va_s⟩
  refine wdr_t hk1 ?_
  unfold w_X0_init
  refine wdr_t hk1 ?_
  intro q4 hq4
  have hqq : q ≠ q4 := by
    intro z
    rw [← z] at hq4
    exact hq4 hk1.1
  have hk2 : q ∈ p_L (s_N (s_N S q 0 0) q4 8 6) ∧ p_K (s_N (s_N S q 0 0) q4 8 6) q = 0 := ⟨List.mem_append_left _ hk1.1, (va_o hqq).trans hk1.2⟩
  refine wdr_t hk2 (wdr_t hk2 (wdr_t hk2 ?_))
  have hw1 : GW (s_N S q 0 0) (va_up G q 2) := GW_up hw hq (ut_fr hU (by omega) h2) rfl
  have f3 : ∀ d, va_up G q 2 d ≠ 3 := by
    intro d
    by_cases e : d = q
    · rw [e, va_s]; omega
    · rw [va_o e]; exact ut_fr hU (by omega) h3 d
  refine hK q _ (va_up (va_up G q 2) q4 3) (GW_up hw1 hq4 f3 rfl) ?_ (fun d => ?_) hq ⟨⟨hk2, (va_o hqq).trans va_s⟩, ?_, ?_, ?_, fun i => ?_⟩
  · refine ol_t (ol_N (k := 0) (n := 0) (t := 2) hq) (fun d hd => ?_)
    have hd1 : d ∈ p_L (s_N S q 0 0) := List.mem_append_left _ hd
    have n1 : d ≠ q := fun z => hq (z ▸ hd)
    have n2 : d ≠ q4 := by
      intro z
      rw [z] at hd1
      exact hq4 hd1
    have m1 : d ∈ p_L (s_N (s_N S q 0 0) q4 8 6) := List.mem_append_left _ hd1
    exact ⟨sme_tr (sme_N hd1 n2) (sme_tr (sme_R m1 n1) (sme_tr (sme_I m1 n1) (sme_I m1 n1))), va_o n2⟩
  · by_cases e : d = q4
    · rw [e, va_s]; exact Or.inr (Or.inr (Or.inr rfl))
    · rw [va_o e]
      by_cases e : d = q
      · rw [e, va_s]; exact Or.inr (Or.inr (Or.inl rfl))
      · rw [va_o e]
        rcases hU d with k | k
        · exact Or.inl k
        · exact Or.inr (Or.inl k)
  · have e : p_R (s_I (s_I (s_R (s_N (s_N S q 0 0) q4 8 6) q 0 (some q4)) q 1 0) q 2 0) q 0 = some q4 := by
      show u_2 _ q 0 (some q4) q 0 = some q4
      unfold u_2
      exact if_pos ⟨rfl, rfl⟩
    rw [e]
    exact ⟨⟨rfl, ⟨List.mem_append_right _ List.mem_cons_self, va_s⟩, va_s⟩, va_s⟩
  · show u_2 (u_2 _ q 1 0) q 2 0 q 1 = 0
    unfold u_2
    rw [if_neg (by omega), if_pos ⟨rfl, rfl⟩]
  · show u_2 (u_2 _ q 1 0) q 2 0 q 2 = 0
    unfold u_2
    rw [if_pos ⟨rfl, rfl⟩]
  · have e : rf (s_I (s_I (s_R (s_N (s_N S q 0 0) q4 8 6) q 0 (some q4)) q 1 0) q 2 0) q 0 = q4 := by
      show (u_2 _ q 0 (some q4) q 0).getD 0 = q4
      unfold u_2
      rw [if_pos ⟨rfl, rfl⟩]
      rfl
    rw [e]
    show u_2 (u_r _ q4 (fun _ => none)) q 0 (some q4) q4 i = none
    unfold u_2
    rw [if_neg (fun z => hqq z.1.symm)]
    unfold u_r
    rw [if_pos rfl]
theorem sub_text (hw : GW S G) (hU : UT G U) (h5 : ¬ U 5) (h6 : ¬ U 6) {K : Nat → PH → Prop} (hK : ∀ q S' G', GW S' G' → ol S G S' G' → UT G' (fun t => U t ∨ (t = 5 ∨ t = 6)) → q ∉ p_L S → PD S' G' q → K q S') : wnw S fun q4 => wle (s_N S q4 3 0) fun S6 => wdr S6 3 (some q4) fun _ => w_X3_init (some q4) S6 (wq (fun _ S12 => K q4 S12) (fun _ _ => False)) := by
  intro q hq
  have hk1 : q ∈ p_L (s_N S q 3 0) ∧ p_K (s_N S q 3 0) q = 3 := ⟨List.mem_append_right _ List.mem_cons_self, va_s⟩
  refine wdr_t hk1 ?_
  unfold w_X3_init
  refine wdr_t hk1 ?_
  have h0 := ao_start (c := 3) (B := 6) (E := 7) (TB := 0) hw hU hq (t := 5) (by omega) h5 (by omega) (fun e e1 e2 => by
    have : e = 6 := by omega
    rw [this]; exact h6)
  refine h0.arr 0 6 60 6 (by omega) List.not_mem_nil (by omega) (by omega) (by simp) (fun hb => hb.elim) (fun S1 G1 h1 => ?_)
  refine h1.num 1 0 (fun S2 h2 => ?_)
  obtain ⟨e1, e2, e3⟩ := ao_end hU hq h2 (V := fun t => t = 5 ∨ t = 6) ⟨Or.inl rfl, fun e he => Or.inr (List.mem_singleton.mp he)⟩
  have F := h2.fs
  simp only [List.forall_mem_cons] at F
  refine hK q S2 G1 e1 e2 e3 hq ⟨h2.o, F.1.1.1, ?_, F.1.1.2⟩
  rw [h2.i]
  rfl
theorem sub_match (hw : GW S G) (hU : UT G U) (h5 : ∀ t, 7 ≤ t → t < 16 → ¬ U t) {K : Nat → PH → Prop} (hK : ∀ q S' G', GW S' G' → ol S G S' G' → UT G' (fun t => U t ∨ (7 ≤ t ∧ t < 16)) → q ∉ p_L S → PE S' G' q → K q S') : wnw S fun q4 => wle (s_N S q4 1 0) fun S6 => wdr S6 1 (some q4) fun _ => w_X1_init (some q4) S6 (wq (fun _ S12 => K q4 S12) (fun _ _ => False)) := by
  intro q hq
  have hk1 : q ∈ p_L (s_N S q 1 0) ∧ p_K (s_N S q 1 0) q = 1 := ⟨List.mem_append_right _ List.mem_cons_self, va_s⟩
  refine wdr_t hk1 ?_
  unfold w_X1_init
  refine wdr_t hk1 ?_
  have h0 := ao_start (c := 1) (B := 8) (E := 16) (TB := 0) hw hU hq (t := 7) (by omega) (h5 7 (by omega) (by omega)) (by omega) (fun e e1 e2 => h5 e (by omega) e2)
  refine h0.arr 0 6 8 8 (by omega) List.not_mem_nil (by omega) (by omega) (by simp) (fun hb => hb.elim) (fun S1 G1 h1 => ?_)
  refine h1.arr 1 6 8 9 (by omega) (by simp only [List.mem_cons, List.not_mem_nil, or_false]; omega) (by omega) (by omega) (by simp) (fun hb => hb.elim) (fun S2 G2 h2 => ?_)
  refine h2.arr 2 6 8 10 (by omega) (by simp only [List.mem_cons, List.not_mem_nil, or_false]; omega) (by omega) (by omega) (by simp) (fun hb => hb.elim) (fun S3 G3 h3 => ?_)
  refine h3.arr 3 6 8 11 (by omega) (by simp only [List.mem_cons, List.not_mem_nil, or_false]; omega) (by omega) (by omega) (by simp) (fun hb => hb.elim) (fun S4 G4 h4 => ?_)
  refine h4.arr 4 6 8 12 (by omega) (by simp only [List.mem_cons, List.not_mem_nil, or_false]; omega) (by omega) (by omega) (by simp) (fun hb => hb.elim) (fun S5 G5 h5 => ?_)
  refine h5.arr 5 6 8 13 (by omega) (by simp only [List.mem_cons, List.not_mem_nil, or_false]; omega) (by omega) (by omega) (by simp) (fun hb => hb.elim) (fun S6 G6 h6 => ?_)
  refine h6.arr 6 6 8 14 (by omega) (by simp only [List.mem_cons, List.not_mem_nil, or_false]; omega) (by omega) (by omega) (by simp) (fun hb => hb.elim) (fun S7 G7 h7 => ?_)
  refine h7.arr 7 6 8 15 (by omega) (by simp only [List.mem_cons, List.not_mem_nil, or_false]; omega) (by omega) (by omega) (by simp) (fun hb => hb.elim) (fun S8 G8 h8 => ?_)
  obtain ⟨e1, e2, e3⟩ := ao_end hU hq h8 (V := fun t => 7 ≤ t ∧ t < 16) ⟨by omega, fun e he => by
    simp only [List.mem_cons, List.not_mem_nil, or_false] at he
    omega⟩
  have F := h8.fs
  simp only [List.forall_mem_cons] at F
  obtain ⟨f7, f6, f5, f4, f3, f2, f1, f0, _⟩ := F
  refine hK q S8 G8 e1 e2 e3 hq ⟨h8.o, fun j hj => ?_⟩
  rcases (show j = 0 ∨ j = 1 ∨ j = 2 ∨ j = 3 ∨ j = 4 ∨ j = 5 ∨ j = 6 ∨ j = 7 by omega) with rfl | rfl | rfl | rfl | rfl | rfl | rfl | rfl
  · exact f0.1.1
  · exact f1.1.1
  · exact f2.1.1
  · exact f3.1.1
  · exact f4.1.1
  · exact f5.1.1
  · exact f6.1.1
  · exact f7.1.1
end SUB2
