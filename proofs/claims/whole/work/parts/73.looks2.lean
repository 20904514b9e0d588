/-! THE FACE: rounds, means, the text's signs -/
section LM
variable {S : PH} {G : Nat → Nat} {x nw : Nat} {v : AS} {hs : List AS} {nx : Nat} {sl : Nat → Option AS} {tn : Nat} {tx : Nat → Int32}
/-- whole numbers change outside now, the saved states, the snapshots -/
theorem relC_W (h : RelC S G x nw v hs nx sl tn tx) {S' : PH} (eL : p_L S' = p_L S) (eK : p_K S' = p_K S) (eN : p_N S' = p_N S) (eR : p_R S' = p_R S) (hI : ∀ d, d ∈ p_L S → 1000 ≤ G d → p_I S' d = p_I S d) (hH : p_I S' (rf S x 1) = p_I S (rf S x 1)) {tn' : Nat} {tx' : Nat → Int32} (ht : p_I S' (rf S x 3) 1 = nI tn' ∧ tn' ≤ 60 ∧ p_I S' (rf S (rf S x 3) 0) = tx') (hk : ∀ k, 8 ≤ k → p_I S' (rf S x 5) k = 0) : RelC S' G x nw v hs nx sl tn' tx' := by
  have kK : kk S G S' G := fun d hd _ => ⟨⟨by rw [eL]; exact hd, by rw [eK], by rw [eN], rfl⟩, fun _ _ => by rw [eR]⟩
  refine relC_D (S' := S') h eL eK eN eR (fun _ => none) (fun b h1 h2 => Or.inl ⟨rfl, fun d hd k1 k2 => hI d hd (by omega)⟩) ⟨rep_kk kK h.rc.st h.rv (fun d hd k1 _ => hI d hd (by omega)), h.aw⟩ (by rw [hH]; exact h.hn) (fun i w hw => Or.inr ⟨rfl, h.hv i w hw⟩) (fun i hi => ⟨(h.so i hi).1, fun w hw => Or.inr ⟨rfl, hw⟩⟩) ht hk
theorem itr_8 {r : Nat → Int32} (hr : ∀ k, 8 ≤ k → r k = 0) : ∀ n k, 8 ≤ k → a_itr r n k = 0
  | 0, k, hk => hr k hk
  | n + 1, k, hk => by
    show a_bnr (a_itr r n) k = 0
    unfold a_bnr
    split
    · exact itr_8 hr n k hk
    · show (if k < 8 then _ else _) = _
      rw [if_neg (by omega)]
      exact itr_8 hr n k hk
def f_rd (v : AS) (j : Int32) : Nat ⊕ Int32 := if a_isP v j then .inr (a_rd (v (20 + j.toNatClampNeg)) 21 0).1 else .inl 2
theorem k_rd (h : RelC S G x nw v hs nx sl tn tx) (hI : IV v) (j : Int32) : ∃ S', m_X4_roundsToAgree (some x) j S = some (f_rd v j, S') ∧ RelC S' G x nw v hs nx sl tn tx ∧ fc S G S' G := by
  obtain ⟨g1, g3, g30, g5, gR, gS, gx, _, _⟩ := relC_tags h
  unfold m_X4_roundsToAgree f_rd
  rw [h.rc.x4, k_reqP h.rc h.rv]
  by_cases h2 : a_isP v j = true
  · rw [if_pos h2, if_pos h2, bt_r]
    obtain ⟨q, hq, rfl⟩ := isP_n hI h2
    have h8 := hI.in_.2
    have j8 : ∀ k, 8 ≤ k → v (20 + q) k = 0 := fun k hk => hI.aw.1 _ k (by omega) hk
    have pr := p_rounds h.rc h.rv (q := q) (by omega) j8 h.tk
    have i8 := itr_8 j8
    rw [n_cl (by omega)]
    generalize a_rd (v (20 + q)) 21 0 = R at pr ⊢
    rw [h.rc.x4, pr, bd_t]
    have oth : ∀ d, d ≠ rf S x 5 → p_I (s_W S (rf S x 5) (a_itr (v (20 + q)) R.2)) d = p_I S d := fun d hd => ur_o hd
    refine ⟨_, rfl, relC_W (S' := s_W S (rf S x 5) (a_itr (v (20 + q)) R.2)) h rfl rfl rfl rfl (fun d hd hg => oth d (fun z => by rw [z] at hg; omega)) (oth _ (fun z => by rw [z] at g1; omega)) ?_ ?_, ?_⟩
    · rw [oth _ (fun z => by rw [z] at g3; omega), oth _ (fun z => by rw [z] at g30; omega)]
      exact h.tt
    · intro k hk
      show u_r _ (rf S x 5) (a_itr (v (20 + q)) R.2) (rf S x 5) k = 0
      rw [ur_s]
      exact i8 R.2 k hk
    · intro d hd hg
      exact ⟨⟨hd, rfl, rfl, oth d (fun z => by rw [z] at hg; omega), rfl, rfl, rfl⟩, rfl⟩
  · rw [if_neg h2, if_neg h2]
    exact ⟨S, rfl, h, fc_r⟩
def f_app (tn : Nat) (c : Int32) : Nat ⊕ Int32 := if a_in c (nI 33) (nI 126) then (if tn < 60 then .inr (nI (tn + 1)) else .inl 1) else .inl 0
theorem k_app (h : RelC S G x nw v hs nx sl tn tx) (c : Int32) : ∃ S', m_X4_append (some x) c S = some (f_app tn c, S') ∧ fc S G S' G ∧ RelC S' G x nw v hs nx sl (if a_in c (nI 33) (nI 126) ∧ tn < 60 then tn + 1 else tn) (if a_in c (nI 33) (nI 126) ∧ tn < 60 then up1 tx tn c else tx) := by
  obtain ⟨g1, g3, g30, g5, gR, gS, gx, _, _⟩ := relC_tags h
  obtain ⟨t1, t2, t3⟩ := h.tt
  unfold m_X4_append f_app
  rw [show (33 : Int32) = nI 33 from rfl, show (126 : Int32) = nI 126 from rfl, rng]
  by_cases h1 : a_in c (nI 33) (nI 126) = true
  · rw [if_pos h1, if_pos h1, h.rc.x4, h.rc.r3, h.rc.tx, le_t, t1]
    rw [if_neg (show ¬ nI tn < (0 : Int32) from nI_nlt (a := tn) (b := 0) (by omega) (by omega))]
    by_cases h2 : tn < 60
    · rw [if_pos (show nI tn < (60 : Int32) from nI_lt (b := 60) h2 (by omega)), if_pos h2, if_pos ⟨h1, h2⟩, if_pos ⟨h1, h2⟩]
      rw [h.rc.cd, h.rc.ncd, ck_n h2 (by omega), n_cl (by omega), le_t, dr_I, h.rc.x4, R_I, h.rc.r3, dr_I, h.rc.tx, le_t]
      have d1 : ∀ {β : Type} {a k a2 k2 : Nat} {w w2 : Int32} {f : Nat → Option β}, dr (s_I (s_I S a k w) a2 k2 w2) 4 (some x) f = f x := fun {β a k a2 k2 w w2 f} => h.rc.x4
      have d2 : ∀ {β : Type} {a k a2 k2 : Nat} {w w2 : Int32} {f : Nat → Option β}, dr (s_I (s_I S a k w) a2 k2 w2) 3 (some (rf S x 3)) f = f (rf S x 3) := fun {β a k a2 k2 w w2 f} => h.rc.tx
      rw [d1, R_I, R_I, h.rc.r3, d2]
      have e1 : nI tn + 1 = nI (tn + 1) := nI_add tn 1
      rw [e1]
      have p1 : p_I (s_I (s_I S (rf S (rf S x 3) 0) tn c) (rf S x 3) 1 (nI (tn + 1))) (rf S x 3) 1 = nI (tn + 1) := by
        show u_2 _ (rf S x 3) 1 (nI (tn + 1)) (rf S x 3) 1 = _
        rw [u_s]
      have oth : ∀ d, G d ≠ 5 → G d ≠ 6 → p_I (s_I (s_I S (rf S (rf S x 3) 0) tn c) (rf S x 3) 1 (nI (tn + 1))) d = p_I S d := by
        intro d z5 z6
        show u_2 (u_2 (p_I S) (rf S (rf S x 3) 0) tn c) (rf S x 3) 1 _ d = _
        rw [u2_o (fun z => by rw [z] at z5; omega), u2_o (fun z => by rw [z] at z6; omega)]
      rw [p1]
      refine ⟨_, rfl, fc_t (fc_I (by omega)) (fc_I (by omega)), relC_W (S' := s_I (s_I S (rf S (rf S x 3) 0) tn c) (rf S x 3) 1 (nI (tn + 1))) h rfl rfl rfl rfl (fun d hd hg => oth d (by omega) (by omega)) (oth _ (by omega) (by omega)) ⟨p1, by omega, ?_⟩ (by rw [oth _ (by omega) (by omega)]; exact h.tk)⟩
      show u_2 (u_2 (p_I S) (rf S (rf S x 3) 0) tn c) (rf S x 3) 1 _ (rf S (rf S x 3) 0) = _
      rw [u2_o (fun z => by rw [z] at g30; omega)]
      funext k
      show u_2 (p_I S) (rf S (rf S x 3) 0) tn c (rf S (rf S x 3) 0) k = up1 tx tn c k
      unfold u_2 up1
      by_cases e : k = tn
      · rw [if_pos ⟨rfl, e⟩, if_pos e]
      · rw [if_neg (fun z => e z.2), if_neg e, t3]
    · rw [if_neg (show ¬ nI tn < (60 : Int32) from nI_nlt (b := 60) (by omega) (by omega)), if_neg h2, if_neg (fun z => h2 z.2), if_neg (fun z => h2 z.2)]
      exact ⟨S, rfl, fc_r, h⟩
  · rw [if_neg h1, if_neg h1, if_neg (fun z => h1 z.1), if_neg (fun z => h1 z.1)]
    exact ⟨S, rfl, fc_r, h⟩
theorem k_clr (h : RelC S G x nw v hs nx sl tn tx) : ∃ S', m_X4_clearBuffer (some x) S = some (nI tn, S') ∧ fc S G S' G ∧ RelC S' G x nw v hs nx sl 0 tx := by
  obtain ⟨g1, g3, g30, g5, gR, gS, gx, _, _⟩ := relC_tags h
  obtain ⟨t1, t2, t3⟩ := h.tt
  unfold m_X4_clearBuffer
  rw [h.rc.x4, h.rc.r3, h.rc.tx, le_t, t1, le_t]
  have oth : ∀ d, G d ≠ 5 → p_I (s_I S (rf S x 3) 1 0) d = p_I S d := by
    intro d z5
    show u_2 (p_I S) (rf S x 3) 1 _ d = _
    rw [u2_o (fun z => by rw [z] at z5; omega)]
  refine ⟨_, rfl, fc_I (by omega), relC_W (S' := s_I S (rf S x 3) 1 0) h rfl rfl rfl rfl (fun d hd hg => oth d (by omega)) (oth _ (by omega)) ⟨?_, by omega, ?_⟩ (by rw [oth _ (by omega)]; exact h.tk)⟩
  · show u_2 (p_I S) (rf S x 3) 1 0 (rf S x 3) 1 = _
    rw [u_s]
    rfl
  · rw [oth _ (by omega)]
    exact t3
end LM
