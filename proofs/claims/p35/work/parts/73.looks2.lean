/-! THE FACE: rounds, means, the text's signs -/
section LM
variable {S : PH} {G : Nat → Nat} {x nw : Nat} {v : AS} {hs : List AS} {nx : Nat} {sl : Nat → Option AS} {tn : Nat} {tx : Nat → Int32}
/-- whole numbers change outside now, the saved states, the snapshots -/
theorem relC_W (h : RelC S G x nw v hs nx sl tn tx) {S' : PH} (eL : p_L S' = p_L S) (eK : p_K S' = p_K S) (eN : p_N S' = p_N S) (eR : p_R S' = p_R S) (hI : ∀ d, d ∈ p_L S → 1000 ≤ G d → p_I S' d = p_I S d) (hH : p_I S' (rf S x 1) = p_I S (rf S x 1)) {tn' : Nat} {tx' : Nat → Int32} (ht : p_I S' (rf S x 3) 1 = nI tn' ∧ tn' ≤ 60 ∧ p_I S' (rf S (rf S x 3) 0) = tx') (hk : ∀ k, 8 ≤ k → p_I S' (rf S x 5) k = 0) : RelC S' G x nw v hs nx sl tn' tx' := by
  have kK : kk S G S' G := fun d hd _ => ⟨⟨by rw [eL]; exact hd, by rw [eK], by rw [eN], rfl⟩, fun _ _ => by rw [eR]⟩
  refine relC_D (S' := S') h eL eK eN eR (fun _ => none) (fun b h1 h2 => Or.inl ⟨rfl, fun d hd k1 k2 => hI d hd (by omega)⟩) ⟨rep_kk kK h.rc.st h.rv (fun d hd k1 _ => hI d hd (by omega)), h.aw⟩ (by rw [hH]; exact h.hn) (fun i w hw => Or.inr ⟨rfl, h.hv i w hw⟩) (fun i hi => ⟨(h.so i hi).1, fun w hw => Or.inr ⟨rfl, hw⟩⟩) ht hk
theorem itr_8 {r : Nat → Int32} (hr : ∀ k, 8 ≤ k → r k = 0) : ∀ n k, 8 ≤ k → a_itr r n k = 0
  | 0, k, hk => hr k hk
  | n + 1, k, hk => by
    show a_bnr (a_itr r n) k = 0
    unfold a_bnr
    split
    · exact itr_8 hr n k hk
    · show (if k < 8 then _ else _) = _
      rw [if_neg (by omega)]
      exact itr_8 hr n k hk
def f_rd (v : AS) (j : Int32) : Nat ⊕ Int32 := if a_isP v j then .inr (a_rd (v (20 + j.toNatClampNeg)) 21 0).1 else .inl 2
theorem k_rd (h : RelC S G x nw v hs nx sl tn tx) (hI : IV v) (j : Int32) : ∃ S', m_X4_roundsToAgree (some x) j S = some (f_rd v j, S') ∧ RelC S' G x nw v hs nx sl tn tx ∧ fc S G S' G := by
  obtain ⟨g1, g3, g30, g5, gR, gS, gx, _, _⟩ := relC_tags h
  unfold m_X4_roundsToAgree f_rd
  rw [h.rc.x4, k_reqP h.rc h.rv]
  by_cases h2 : a_isP v j = true
  · rw [if_pos h2, if_pos h2, bt_r]
    obtain ⟨q, hq, rfl⟩ := isP_n hI h2
    have h8 := hI.in_.2
    have j8 : ∀ k, 8 ≤ k → v (20 + q) k = 0 := fun k hk => hI.aw.1 _ k (by omega) hk
    have pr := p_rounds h.rc h.rv (q := q) (by omega) j8 h.tk
    have i8 := itr_8 j8
    rw [n_cl (by omega)]
    generalize a_rd (v (20 + q)) 21 0 = R at pr ⊢
    rw [h.rc.x4, pr, bd_t]
    have oth : ∀ d, d ≠ rf S x 5 → p_I (s_W S (rf S x 5) (a_itr (v (20 + q)) R.2)) d = p_I S d := fun d hd => ur_o hd
    refine ⟨_, rfl, relC_W (S' := s_W S (rf S x 5) (a_itr (v (20 + q)) R.2)) h rfl rfl rfl rfl (fun d hd hg => oth d (fun z => by rw [z] at hg; omega)) (oth _ (fun z => by rw [z] at g1; omega)) ?_ ?_, ?_⟩
    · rw [oth _ (fun z => by rw [z] at g3; omega), oth _ (fun z => by rw [z] at g30; omega)]
      exact h.tt
    · intro k hk
      show u_r _ (rf S x 5) (a_itr (v (20 + q)) R.2) (rf S x 5) k = 0
      rw [ur_s]
      exact i8 R.2 k hk
    · intro d hd hg
      exact ⟨⟨hd, rfl, rfl, oth d (fun z => by rw [z] at hg; omega), rfl, rfl, rfl⟩, rfl⟩
  · rw [if_neg h2, if_neg h2]
    exact ⟨S, rfl, h, fc_r⟩
end LM
