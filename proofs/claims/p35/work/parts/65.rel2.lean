/-! THE WHOLE OBJECT: changes of whole numbers -/
section RP
variable {S : PH} {G : Nat → Nat} {x nw : Nat} {v : AS} {hs : List AS} {nx : Nat} {sl : Nat → Option AS} {tn : Nat} {tx : Nat → Int32}
theorem RelC.rc (h : RelC S G x nw v hs nx sl tn tx) : RC S G x nw := h.1
theorem RelC.gw (h : RelC S G x nw v hs nx sl tn tx) : GW S G := h.2.1
theorem RelC.gi (h : RelC S G x nw v hs nx sl tn tx) : Gi G := h.2.1.1
theorem RelC.rv (h : RelC S G x nw v hs nx sl tn tx) : rep S nw v := h.2.2.1.1
theorem RelC.aw (h : RelC S G x nw v hs nx sl tn tx) : AW v := h.2.2.1.2
theorem RelC.ri (h : RelC S G x nw v hs nx sl tn tx) : ∀ i, i < 6 → sv S G (1 + i) (p_R S (hR S x) i) := h.2.2.2.1
theorem RelC.si (h : RelC S G x nw v hs nx sl tn tx) : ∀ i, i < 2 → sv S G (7 + i) (p_R S (rf S x 2) i) := h.2.2.2.2.1
theorem RelC.hn (h : RelC S G x nw v hs nx sl tn tx) : p_I S (rf S x 1) 1 = nI nx ∧ nx < 6 ∧ p_I S (rf S x 1) 2 = nI hs.length ∧ hs.length ≤ 6 := h.2.2.2.2.2.1
theorem RelC.hv (h : RelC S G x nw v hs nx sl tn tx) : ∀ i w, hs[i]? = some w → ∃ q, p_R S (hR S x) ((nx + 5 - i) % 6) = some q ∧ rep S q w ∧ AW w := h.2.2.2.2.2.2.1
theorem RelC.so (h : RelC S G x nw v hs nx sl tn tx) : ∀ i, i < 2 → (sl i = none → p_R S (rf S x 2) i = none) ∧ ∀ w, sl i = some w → ∃ q, p_R S (rf S x 2) i = some q ∧ rep S q w ∧ AW w := h.2.2.2.2.2.2.2.1
theorem RelC.tt (h : RelC S G x nw v hs nx sl tn tx) : p_I S (rf S x 3) 1 = nI tn ∧ tn ≤ 60 ∧ p_I S (rf S (rf S x 3) 0) = tx := h.2.2.2.2.2.2.2.2.1
theorem RelC.tk (h : RelC S G x nw v hs nx sl tn tx) : ∀ k, 8 ≤ k → p_I S (rf S x 5) k = 0 := h.2.2.2.2.2.2.2.2.2
/-- a State by its number is one -/
theorem stB_u (hg : Gi G) {b a c : Nat} (h : stB S G b a) (k : stB S G b c) : a = c := hg a c (by have := h.1.2; omega) (h.1.2.trans k.1.2.symm)
theorem relC_D (h : RelC S G x nw v hs nx sl tn tx) {S' : PH} (eL : p_L S' = p_L S) (eK : p_K S' = p_K S) (eN : p_N S' = p_N S) (eR : p_R S' = p_R S) (W : Nat → Option AS) (hI : ∀ b, 1 ≤ b → b < 9 → (W b = none ∧ ∀ d, d ∈ p_L S → 1000 + 100 * b ≤ G d → G d < 1100 + 100 * b → p_I S' d = p_I S d) ∨ (∃ w, W b = some w ∧ AW w ∧ ∀ q, stB S G b q → rep S' q w)) {v' : AS} {hs' : List AS} {nx' : Nat} {sl' : Nat → Option AS} {tn' : Nat} {tx' : Nat → Int32} (hv : rep S' nw v' ∧ AW v') (hh : p_I S' (rf S x 1) 1 = nI nx' ∧ nx' < 6 ∧ p_I S' (rf S x 1) 2 = nI hs'.length ∧ hs'.length ≤ 6) (hhs : ∀ i w, hs'[i]? = some w → (W (1 + (nx' + 5 - i) % 6) = some w ∧ p_R S (hR S x) ((nx' + 5 - i) % 6) ≠ none) ∨ (W (1 + (nx' + 5 - i) % 6) = none ∧ ∃ q, p_R S (hR S x) ((nx' + 5 - i) % 6) = some q ∧ rep S q w ∧ AW w)) (hsl : ∀ i, i < 2 → (sl' i = none → p_R S (rf S x 2) i = none) ∧ ∀ w, sl' i = some w → (W (7 + i) = some w ∧ p_R S (rf S x 2) i ≠ none) ∨ (W (7 + i) = none ∧ sl i = some w)) (ht : p_I S' (rf S x 3) 1 = nI tn' ∧ tn' ≤ 60 ∧ p_I S' (rf S (rf S x 3) 0) = tx') (hk : ∀ k, 8 ≤ k → p_I S' (rf S x 5) k = 0) : RelC S' G x nw v' hs' nx' sl' tn' tx' := by
  have kK : kk S G S' G := fun d hd _ => ⟨⟨by rw [eL]; exact hd, by rw [eK], by rw [eN], rfl⟩, fun _ _ => by rw [eR]⟩
  have rE : rf S' = rf S := by funext a j; unfold rf; rw [eR]
  have hE : hR S' x = hR S x := by unfold hR; rw [rE]
  have svE : ∀ b, 1 ≤ b → b < 9 → ∀ r, sv S G b r → sv S' G b r := by
    intro b h1 h2 r hr
    refine ⟨fun q hq => ?_, hr.2⟩
    obtain ⟨k1, w, k2, k3⟩ := hr.1 q hq
    refine ⟨(stB_kk kK k1).1, ?_⟩
    rcases hI b h1 h2 with ⟨_, hi⟩ | ⟨w', _, ha, hi⟩
    · exact ⟨w, rep_kk kK k1 k2 hi, k3⟩
    · exact ⟨w', hi q k1, ha⟩
  refine ⟨(RC_kk kK h.rc).1, ⟨h.gi, fun c hc => h.gw.2 c (by rw [← eL]; exact hc)⟩, hv, fun i hi => ?_, fun i hi => ?_, ?_, fun i w hw => ?_, fun i hi => ⟨fun hn => ?_, fun w hw => ?_⟩, ?_, ?_⟩
  · rw [hE, eR]; exact svE _ (by omega) (by omega) _ (h.ri i hi)
  · rw [rE, eR]; exact svE _ (by omega) (by omega) _ (h.si i hi)
  · rw [rE]; exact hh
  · rw [hE, eR]
    have hlt : (nx' + 5 - i) % 6 < 6 := Nat.mod_lt _ (by decide)
    rcases hhs i w hw with ⟨k1, k2⟩ | ⟨k1, q, k2, k3, k4⟩
    · cases hq : p_R S (hR S x) ((nx' + 5 - i) % 6) with
      | none => exact absurd hq k2
      | some q =>
        have s := ((h.ri _ hlt).1 q hq).1
        rcases hI (1 + (nx' + 5 - i) % 6) (by omega) (by omega) with ⟨e, _⟩ | ⟨w', e, ha, hi⟩
        · rw [k1] at e; cases e
        · rw [k1] at e; cases e
          exact ⟨q, rfl, hi q s, ha⟩
    · have s := ((h.ri _ hlt).1 q k2).1
      rcases hI (1 + (nx' + 5 - i) % 6) (by omega) (by omega) with ⟨_, hi⟩ | ⟨w', e, _⟩
      · exact ⟨q, k2, rep_kk kK s k3 hi, k4⟩
      · rw [k1] at e; cases e
  · rw [rE, eR]; exact (hsl i hi).1 hn
  · rw [rE, eR]
    rcases (hsl i hi).2 w hw with ⟨k1, k2⟩ | ⟨k1, k2⟩
    · cases hq : p_R S (rf S x 2) i with
      | none => exact absurd hq k2
      | some q =>
        have s := ((h.si _ hi).1 q hq).1
        rcases hI (7 + i) (by omega) (by omega) with ⟨e, _⟩ | ⟨w', e, ha, hi'⟩
        · rw [k1] at e; cases e
        · rw [k1] at e; cases e
          exact ⟨q, rfl, hi' q s, ha⟩
    · obtain ⟨q, g1, g2, g3⟩ := (h.so i hi).2 w k2
      have s := ((h.si _ hi).1 q g1).1
      rcases hI (7 + i) (by omega) (by omega) with ⟨_, hi'⟩ | ⟨w', e, _⟩
      · exact ⟨q, g1, rep_kk kK s g2 hi', g3⟩
      · rw [k1] at e; cases e
  · rw [rE]; exact ht
  · rw [rE]; exact hk
theorem pv_in {I : Nat → Nat → Int32} {b d : Nat} {w : AS} (h : G d < 1000 + 100 * b ∨ 1100 + 100 * b ≤ G d) : pv I G b w d = I d := pv_o h
/-- now changes -/
theorem relC_put (h : RelC S G x nw v hs nx sl tn tx) {w : AS} (hw : AW w) : RelC (put S G 0 w) G x nw w hs nx sl tn tx := by
  have g1 : G (rf S x 1) = 2 := h.rc.2.2.2.1.2.1.2
  have g3 : G (rf S x 3) = 5 := h.rc.2.2.2.2.2.1.2.1.2
  have g30 : G (rf S (rf S x 3) 0) = 6 := h.rc.2.2.2.2.2.1.2.2.2
  have g5 : G (rf S x 5) = 16 := h.rc.2.2.2.2.2.2.2.2
  have i1 : p_I (put S G 0 w) (rf S x 1) = p_I S (rf S x 1) := pv_o (by omega)
  have i3 : p_I (put S G 0 w) (rf S x 3) = p_I S (rf S x 3) := pv_o (by omega)
  have i30 : p_I (put S G 0 w) (rf S (rf S x 3) 0) = p_I S (rf S (rf S x 3) 0) := pv_o (by omega)
  have i5 : p_I (put S G 0 w) (rf S x 5) = p_I S (rf S x 5) := pv_o (by omega)
  refine relC_D (S' := put S G 0 w) h rfl rfl rfl rfl (fun _ => none) (fun b h1 h2 => Or.inl ⟨rfl, fun d _ k1 k2 => pv_o (by omega)⟩) ⟨rep_put h.rc.st, hw⟩ (by rw [i1]; exact h.hn) (fun i w hw => Or.inr ⟨rfl, h.hv i w hw⟩) (fun i hi => ⟨(h.so i hi).1, fun w hw => Or.inr ⟨rfl, hw⟩⟩) (by rw [i3, i30]; exact h.tt) (by rw [i5]; exact h.tk)
/-- the class's own whole numbers -/
theorem relC_tags (h : RelC S G x nw v hs nx sl tn tx) : G (rf S x 1) = 2 ∧ G (rf S x 3) = 5 ∧ G (rf S (rf S x 3) 0) = 6 ∧ G (rf S x 5) = 16 ∧ G (hR S x) = 3 ∧ G (rf S x 2) = 4 ∧ G x = 1 ∧ G (rf S x 4) = 7 ∧ ∀ j, j < 8 → G (rf S (rf S x 4) j) = 8 + j := ⟨h.rc.2.2.2.1.2.1.2, h.rc.2.2.2.2.2.1.2.1.2, h.rc.2.2.2.2.2.1.2.2.2, h.rc.2.2.2.2.2.2.2.2, h.rc.2.2.2.1.2.2.2, h.rc.2.2.2.2.1.2, h.rc.1.2, h.rc.2.2.2.2.2.2.1.2.1.2, fun j hj => (h.rc.2.2.2.2.2.2.1.2.2 j hj).2⟩
theorem u2_ne {f : Nat → Nat → Int32} {a k d j : Nat} {w : Int32} (h : d ≠ a ∨ j ≠ k) : u_2 f a k w d j = f d j := by
  unfold u_2
  rw [if_neg]
  rintro ⟨e1, e2⟩
  rcases h with h | h
  · exact h e1
  · exact h e2
/-- a state is saved in a place that there is -/
theorem relC_save (h : RelC S G x nw v hs nx sl tn tx) (hq : p_R S (hR S x) nx ≠ none) : RelC (s_I (s_I (put S G (1 + nx) v) (rf S x 1) 1 (nI ((nx + 1) % 6))) (rf S x 1) 2 (nI (min 6 (hs.length + 1)))) G x nw v ((v :: hs).take 6) ((nx + 1) % 6) sl tn tx := by
  obtain ⟨g1, g3, g30, g5, gR, gS, gx, _, _⟩ := relC_tags h
  have hlt := h.hn.2.1
  have oth : ∀ d, G d ≠ 2 → G d < 1000 + 100 * (1 + nx) ∨ 1100 + 100 * (1 + nx) ≤ G d → p_I (s_I (s_I (put S G (1 + nx) v) (rf S x 1) 1 (nI ((nx + 1) % 6))) (rf S x 1) 2 (nI (min 6 (hs.length + 1)))) d = p_I S d := by
    intro d h2 h3
    have e : d ≠ rf S x 1 := fun z => h2 (z ▸ g1)
    show u_2 (u_2 (pv (p_I S) G (1 + nx) v) (rf S x 1) 1 _) (rf S x 1) 2 _ d = _
    rw [u2_o e, u2_o e]
    exact pv_o h3
  have blk : ∀ d, 1000 ≤ G d → p_I (s_I (s_I (put S G (1 + nx) v) (rf S x 1) 1 (nI ((nx + 1) % 6))) (rf S x 1) 2 (nI (min 6 (hs.length + 1)))) d = p_I (put S G (1 + nx) v) d := by
    intro d h2
    have e : d ≠ rf S x 1 := fun z => by rw [z] at h2; omega
    show u_2 (u_2 (pv (p_I S) G (1 + nx) v) (rf S x 1) 1 _) (rf S x 1) 2 _ d = _
    rw [u2_o e, u2_o e]
    rfl
  have repB : ∀ b q w, stB S G b q → rep (put S G (1 + nx) v) q w → rep (s_I (s_I (put S G (1 + nx) v) (rf S x 1) 1 (nI ((nx + 1) % 6))) (rf S x 1) 2 (nI (min 6 (hs.length + 1)))) q w := by
    intro b q w hs2 hr
    exact rep_kk (S := put S G (1 + nx) v) (S' := s_I (s_I (put S G (1 + nx) v) (rf S x 1) 1 (nI ((nx + 1) % 6))) (rf S x 1) 2 (nI (min 6 (hs.length + 1)))) (G := G) (G' := G) (fun d hd _ => ⟨⟨hd, rfl, rfl, rfl⟩, fun _ _ => rfl⟩) (b := b) hs2 hr (fun d _ k1 _ => blk d (by omega))
  refine relC_D (S' := s_I (s_I (put S G (1 + nx) v) (rf S x 1) 1 (nI ((nx + 1) % 6))) (rf S x 1) 2 (nI (min 6 (hs.length + 1)))) h rfl rfl rfl rfl (fun b => if b = 1 + nx then some v else none) (fun b h1 h2 => ?_) ⟨?_, h.aw⟩ ⟨?_, Nat.mod_lt _ (by decide), ?_, ?_⟩ (fun i w hw => ?_) (fun i hi => ⟨(h.so i hi).1, fun w hw => Or.inr ⟨if_neg (by omega), hw⟩⟩) ?_ ?_
  · by_cases e : b = 1 + nx
    · subst e
      exact Or.inr ⟨v, if_pos rfl, h.aw, fun q hq => repB _ q v hq (rep_put hq)⟩
    · exact Or.inl ⟨if_neg e, fun d _ k1 k2 => oth d (by omega) (by omega)⟩
  · exact repB 0 nw v h.rc.st (rep_o h.rc.st (by omega) h.rv)
  · show u_2 (u_2 _ (rf S x 1) 1 (nI ((nx + 1) % 6))) (rf S x 1) 2 _ (rf S x 1) 1 = _
    rw [u2_ne (Or.inr (by decide)), u_s]
  · show u_2 _ (rf S x 1) 2 _ (rf S x 1) 2 = _
    rw [u_s, List.length_take, List.length_cons]
  · rw [List.length_take]
    omega
  · show (if 1 + ((nx + 1) % 6 + 5 - i) % 6 = 1 + nx then some v else none) = some w ∧ _ ∨ (if 1 + ((nx + 1) % 6 + 5 - i) % 6 = 1 + nx then some v else none) = none ∧ _
    have hi : i < 6 := by
      have := (List.getElem?_eq_some_iff.mp hw).1
      rw [List.length_take] at this
      omega
    cases i with
    | zero =>
      have e : ((nx + 1) % 6 + 5 - 0) % 6 = nx := by omega
      rw [e, if_pos rfl]
      left
      have : some v = some w := by
        rw [← hw]
        rfl
      exact ⟨this, hq⟩
    | succ j =>
      have e : ((nx + 1) % 6 + 5 - (j + 1)) % 6 = (nx + 5 - j) % 6 := by omega
      have e2 : (nx + 5 - j) % 6 ≠ nx := by omega
      rw [e, if_neg (by omega)]
      right
      refine ⟨rfl, h.hv j w ?_⟩
      rw [List.getElem?_take_of_lt hi, List.getElem?_cons_succ] at hw
      exact hw
  · rw [oth _ (by omega) (by omega), oth _ (by omega) (by omega)]
    exact h.tt
  · rw [oth _ (by omega) (by omega)]
    exact h.tk
/-- the latest saved state is dropped -/
theorem relC_dropL (h : RelC S G x nw v hs nx sl tn tx) : RelC (s_I (s_I S (rf S x 1) 1 (nI ((nx + 5) % 6))) (rf S x 1) 2 (nI (hs.length - 1))) G x nw v hs.tail ((nx + 5) % 6) sl tn tx := by
  obtain ⟨g1, g3, g30, g5, gR, gS, gx, _, _⟩ := relC_tags h
  have hlt := h.hn.2.1
  have oth : ∀ d, G d ≠ 2 → p_I (s_I (s_I S (rf S x 1) 1 (nI ((nx + 5) % 6))) (rf S x 1) 2 (nI (hs.length - 1))) d = p_I S d := by
    intro d h2
    have e : d ≠ rf S x 1 := fun z => h2 (z ▸ g1)
    show u_2 (u_2 (p_I S) (rf S x 1) 1 _) (rf S x 1) 2 _ d = _
    rw [u2_o e, u2_o e]
  have kK : kk S G (s_I (s_I S (rf S x 1) 1 (nI ((nx + 5) % 6))) (rf S x 1) 2 (nI (hs.length - 1))) G := fun d hd _ => ⟨⟨hd, rfl, rfl, rfl⟩, fun _ _ => rfl⟩
  refine relC_D (S' := s_I (s_I S (rf S x 1) 1 (nI ((nx + 5) % 6))) (rf S x 1) 2 (nI (hs.length - 1))) h rfl rfl rfl rfl (fun b => none) (fun b h1 h2 => Or.inl ⟨rfl, fun d _ k1 k2 => oth d (by omega)⟩) ⟨rep_kk kK h.rc.st h.rv (fun d _ k1 _ => oth d (by omega)), h.aw⟩ ⟨?_, Nat.mod_lt _ (by decide), ?_, ?_⟩ (fun i w hw => Or.inr ⟨rfl, ?_⟩) (fun i hi => ⟨(h.so i hi).1, fun w hw => Or.inr ⟨rfl, hw⟩⟩) ?_ ?_
  · show u_2 (u_2 _ (rf S x 1) 1 _) (rf S x 1) 2 _ (rf S x 1) 1 = _
    rw [u2_ne (Or.inr (by decide)), u_s]
  · show u_2 _ (rf S x 1) 2 _ (rf S x 1) 2 = _
    rw [u_s, List.length_tail]
  · rw [List.length_tail]
    have := h.hn.2.2.2
    omega
  · have hi : i < 5 := by
      have := (List.getElem?_eq_some_iff.mp hw).1
      rw [List.length_tail] at this
      have := h.hn.2.2.2
      omega
    have e : ((nx + 5) % 6 + 5 - i) % 6 = (nx + 5 - (i + 1)) % 6 := by omega
    rw [e]
    refine h.hv (i + 1) w ?_
    rw [List.getElem?_tail] at hw
    exact hw
  · rw [oth _ (by omega), oth _ (by omega)]
    exact h.tt
  · rw [oth _ (by omega)]
    exact h.tk
/-- a snapshot in a place that there is -/
theorem relC_keep (h : RelC S G x nw v hs nx sl tn tx) {i : Nat} (hi : i < 2) (hq : p_R S (rf S x 2) i ≠ none) : RelC (put S G (7 + i) v) G x nw v hs nx (fun j => if j = i then some v else sl j) tn tx := by
  obtain ⟨g1, g3, g30, g5, gR, gS, gx, _, _⟩ := relC_tags h
  have oth : ∀ d, G d < 1000 + 100 * (7 + i) ∨ 1100 + 100 * (7 + i) ≤ G d → p_I (put S G (7 + i) v) d = p_I S d := fun d h3 => pv_o h3
  refine relC_D (S' := put S G (7 + i) v) h rfl rfl rfl rfl (fun b => if b = 7 + i then some v else none) (fun b h1 h2 => ?_) ⟨rep_o h.rc.st (by omega) h.rv, h.aw⟩ ?_ (fun j w hw => Or.inr ⟨if_neg (by omega), h.hv j w hw⟩) (fun j hj => ⟨fun hn => ?_, fun w hw => ?_⟩) ?_ ?_
  · by_cases e : b = 7 + i
    · subst e
      exact Or.inr ⟨v, if_pos rfl, h.aw, fun q hq => rep_put hq⟩
    · exact Or.inl ⟨if_neg e, fun d _ k1 k2 => oth d (by omega)⟩
  · rw [oth _ (by omega)]
    exact h.hn
  · by_cases e : j = i
    · rw [if_pos e] at hn; cases hn
    · rw [if_neg e] at hn
      exact (h.so j hj).1 hn
  · by_cases e : j = i
    · subst e
      rw [if_pos rfl] at hw
      exact Or.inl ⟨(if_pos rfl).trans hw, hq⟩
    · rw [if_neg e] at hw
      exact Or.inr ⟨if_neg (by omega), hw⟩
  · rw [oth _ (by omega), oth _ (by omega)]
    exact h.tt
  · rw [oth _ (by omega)]
    exact h.tk
end RP
