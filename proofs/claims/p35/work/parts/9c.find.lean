/-! MATCHING: the search -/
theorem FI_cg {E H : Nat → Nat → Bool} {w : AS} {s en : Nat} {sp sq sq' : Nat → Bool} {qu ι : Nat → Nat} (h : FI E H w s sp sq qu ι en) (e : ∀ q, q < 8 → sq' q = sq q) : FI E H w s sp sq' qu ι en := by
  obtain ⟨⟨a1, a2, a3⟩, f2, f3, f4, f5⟩ := h
  refine ⟨⟨by rw [cnt_cg e]; exact a1, a2, a3⟩, fun i hi => ?_, fun q hq g => f3 q hq (by rw [← e q hq]; exact g), f4, f5⟩
  obtain ⟨k1, k2, k3⟩ := f2 i hi
  exact ⟨k1, by rw [e _ k1]; exact k2, k3⟩
def qa (qu : Nat → Nat) (en q : Nat) : Nat → Nat := fun a => if a = en then q else qu a
def sa (sq : Nat → Bool) (q : Nat) : Nat → Bool := fun a => sq a || decide (a = q)
theorem qa_e {qu : Nat → Nat} {en q a : Nat} (h : a = en) : qa qu en q a = q := if_pos h
theorem qa_n {qu : Nat → Nat} {en q a : Nat} (h : a ≠ en) : qa qu en q a = qu a := if_neg h
theorem sa_e {sq : Nat → Bool} {q : Nat} : sa sq q q = true := by unfold sa; rw [decide_eq_true rfl, Bool.or_true]
theorem sa_t {sq : Nat → Bool} {q a : Nat} (h : sq a = true) : sa sq q a = true := by unfold sa; rw [h, Bool.true_or]
theorem sa_n {sq : Nat → Bool} {q a : Nat} (h : a ≠ q) : sa sq q a = sq a := by unfold sa; rw [decide_eq_false h, Bool.or_false]
section QH
variable {S : PH} {G : Nat → Nat} {x nw : Nat} {w : AS} {E H : Nat → Nat → Bool} {s en j : Nat} {sp sq : Nat → Bool} {qu ι : Nat → Nat}
theorem FI_add (hF : FI E H w s sp sq qu ι en) (hj : j < 8) (hs : sp j = true) (hι : ι j < en) {q : Nat} (hq : q < 8) (hH : H j q = true) (hn : sq q = false) : en < 8 ∧ FI E H (u_2 (u_2 w 6 q (nI j)) 7 en (nI q)) s sp (sa sq q) (qa qu en q) ι (en + 1) := by
  obtain ⟨⟨a1, a2, a3⟩, f2, f3, f4, f5⟩ := hF
  have hc : cnt (sa sq q) 8 = en + 1 := by
    have k := cnt_up (P := sq) (Q := sa sq q) hq (fun i _ hne => sa_n hne)
    rw [hn, sa_e] at k
    have e0 : bn false = 0 := rfl
    have e1 : bn true = 1 := rfl
    rw [e0, e1] at k
    omega
  have h8 := cnt_le (sa sq q) 8
  refine ⟨by omega, ⟨hc.symm, by omega, by rw [qa_n (by omega)]; exact a3⟩, fun i hi => ?_, fun a ha g => ?_, fun r hr g => ?_, fun i i0 hi => ?_⟩
  · by_cases e : i = en
    · rw [qa_e e]
      refine ⟨hq, sa_e, ?_⟩
      rw [e, u_s]
    · rw [qa_n e]
      obtain ⟨k1, k2, k3⟩ := f2 i (by omega)
      refine ⟨k1, sa_t k2, ?_⟩
      rw [u_k e, u_ne (by omega)]
      exact k3
  · by_cases e : a = q
    · exact ⟨en, by omega, by rw [qa_e rfl, e]⟩
    · rw [sa_n e] at g
      obtain ⟨i, h1, h2⟩ := f3 a ha g
      exact ⟨i, by omega, by rw [qa_n (by omega)]; exact h2⟩
  · obtain ⟨k1, k2, k3, k4, k5⟩ := f4 r hr g
    rw [qa_n (show ι r ≠ en by omega)]
    refine ⟨by omega, ?_, k3, k4, ?_⟩
    · rw [u_ne (by omega), u_ne (by omega)]; exact k2
    · rw [u_ne (by omega), u_ne (by omega)]; exact k5
  · by_cases e : i = en
    · rw [qa_e e]
      refine ⟨j, hj, hs, ?_, hH, by omega⟩
      rw [u_ne (by omega), u_s]
    · rw [qa_n e]
      obtain ⟨r, k1, k2, k3, k4, k5⟩ := f5 i i0 (by omega)
      refine ⟨r, k1, k2, ?_, k4, k5⟩
      have hne : qu i ≠ q := fun z => by
        have := (f2 i (by omega)).2.1
        rw [z, hn] at this
        cases this
      rw [u_ne (by omega), u_k hne]
      exact k3
theorem p_qh (hg : Gi G) (h : RC S G x nw) (hF : FI E H w s sp sq qu ι en) (hj : j < 8) (hs : sp j = true) (hι : ι j < en) {msk : Int32} (hm : ∀ q, q < 8 → hb msk (nI q) = (H j q && !sq q)) : ∃ w' qu' en', m_X1_queueHeld (some (rf S x 4)) (nI j) msk (nI en) (mw S G w) = some (nI en', mw S G w') ∧ FI E H w' s sp (fun q => sq q || H j q) qu' ι en' ∧ (∀ i, i ≠ 6 → i ≠ 7 → w' i = w i) ∧ en ≤ en' ∧ ∀ i, i < en → qu' i = qu i := by
  obtain ⟨t', ⟨w', qu', en', rfl, k2, k3, k4, k5⟩, h4⟩ := lp_rel (step := st_X1_queueHeld_6 (some (rf S x 4)) (nI j) msk (nI en)) (t := (nI en, nI 0, mw S G w)) 8 (fun i t => ∃ w' qu' en', t = (nI en', nI i, mw S G w') ∧ FI E H w' s sp (fun q => sq q || (decide (q < i) && H j q)) qu' ι en' ∧ (∀ i, i ≠ 6 → i ≠ 7 → w' i = w i) ∧ en ≤ en' ∧ ∀ i, i < en → qu' i = qu i) ⟨w, qu, en, rfl, FI_cg hF (fun q _ => by rw [decide_eq_false (by omega), Bool.false_and, Bool.or_false]), fun _ _ _ => rfl, Nat.le_refl _, fun _ _ => rfl⟩ (fun i hi t ht => by
    obtain ⟨w', qu', en', rfl, k2, k3, k4, k5⟩ := ht
    have n8 : ¬ (8 : Int32) ≤ nI i := by
      show ¬ nI 8 ≤ nI i
      rw [nI_leI (by omega) (by omega)]
      omega
    have e1 : nI i + 1 = nI (i + 1) := nI_add i 1
    have st : ∀ (b : Bool), b = (H j i && !sq i) → st_X1_queueHeld_6 (some (rf S x 4)) (nI j) msk (nI en) (nI en', nI i, mw S G w') = (if b = true then (if (8 : Int32) ≤ nI en' then some (.inl (nI en', nI (i + 1), mw S G w')) else (dr (mw S G w') 1 (some (rf S x 4)) fun a10 => dr (mw S G w') 6 (p_R (mw S G w') a10 6) fun a13 => ck (ix (nI i) (p_N (mw S G w') a13)) <| le_ (s_I (mw S G w') a13 (Int32.toNatClampNeg (nI i)) (nI j)) fun S17 => dr S17 1 (some (rf S x 4)) fun a19 => dr S17 6 (p_R S17 a19 7) fun a22 => ck (ix (nI en') (p_N S17 a22)) <| le_ (s_I S17 a22 (Int32.toNatClampNeg (nI en')) (nI i)) fun S26 => some (.inl ((nI en' + (1 : Int32)), (nI i + (1 : Int32)), S26)))) else some (.inl (nI en', nI (i + 1), mw S G w'))) := by
      intro b hb'
      unfold st_X1_queueHeld_6
      dsimp only
      rw [if_neg n8, p_hasN, bd_t, hm i hi, ← hb', e1]
      cases b
      · rw [if_pos (show (if false = true then nI 1 else nI 0) = 0 from rfl), if_neg (by decide)]
      · rw [if_neg (show ¬ (if true = true then nI 1 else nI 0) = 0 by decide), if_pos rfl]
    cases hb' : (H j i && !sq i) with
    | false =>
      rw [st false hb'.symm, if_neg (by decide)]
      refine ⟨_, rfl, w', qu', en', rfl, FI_cg k2 (fun q hq => ?_), k3, k4, k5⟩
      by_cases e : q = i
      · subst e
        rw [decide_eq_true (show q < q + 1 by omega), decide_eq_false (show ¬ q < q by omega)]
        revert hb'
        cases H j q <;> cases sq q <;> decide
      · by_cases e2 : q < i
        · rw [decide_eq_true (show q < i + 1 by omega), decide_eq_true e2]
        · rw [decide_eq_false (show ¬ q < i + 1 by omega), decide_eq_false e2]
    | true =>
      rw [st true hb'.symm, if_pos rfl]
      rw [Bool.and_eq_true, Bool.not_eq_true'] at hb'
      have hn : (fun q => sq q || (decide (q < i) && H j q)) i = false := by
        show (sq i || (decide (i < i) && H j i)) = false
        rw [hb'.2, decide_eq_false (by omega)]
        rfl
      obtain ⟨a1, a2⟩ := FI_add k2 hj hs (by omega) hi hb'.1 hn
      have n9 : ¬ (8 : Int32) ≤ nI en' := by
        show ¬ nI 8 ≤ nI en'
        rw [nI_leI (by omega) (by omega)]
        omega
      have e2 : nI en' + 1 = nI (en' + 1) := nI_add en' 1
      have mt : ∀ {w : AS} {β : Type} {f : Nat → Option β}, dr (mw S G w) 1 (some (rf S x 4)) f = f (rf S x 4) := fun {w β f} => h.mt
      have ma : ∀ {w : AS} (j : Nat) (hj : j < 8) {β : Type} {f : Nat → Option β}, dr (mw S G w) 6 (p_R S (rf S x 4) j) f = f (rf S (rf S x 4) j) := fun {w} j hj {β f} => h.ma j hj
      rw [if_neg n9, mt, R_mw, ma 6 (by omega), N_mw, h.nma 6 (by omega), ck_n hi (by omega), n_cl (by omega), smw hg h 6 (by omega), le_t, mt, R_mw, ma 7 (by omega), N_mw, h.nma 7 (by omega), ck_n a1 (by omega), n_cl (by omega), smw hg h 7 (by omega), le_t, e1, e2]
      refine ⟨_, rfl, _, _, _, rfl, FI_cg a2 (fun q hq => ?_), fun a h6 h7 => by rw [u_ne h7, u_ne h6]; exact k3 a h6 h7, by omega, fun a ha => by rw [qa_n (by omega)]; exact k5 a ha⟩
      show (sq q || (decide (q < i + 1) && H j q)) = ((sq q || (decide (q < i) && H j q)) || decide (q = i))
      by_cases e : q = i
      · subst e
        rw [decide_eq_true (show q < q + 1 by omega), decide_eq_true rfl, hb'.1, Bool.or_true]
        simp
      · by_cases e2 : q < i
        · rw [decide_eq_true (show q < i + 1 by omega), decide_eq_true e2, decide_eq_false e, Bool.or_false]
        · rw [decide_eq_false (show ¬ q < i + 1 by omega), decide_eq_false e2, decide_eq_false e, Bool.or_false])
  refine ⟨w', qu', en', ?_, FI_cg k2 (fun q hq => by rw [decide_eq_true hq, Bool.true_and]), k3, k4, k5⟩
  unfold m_X1_queueHeld
  rw [show ((0 : Int32)) = nI 0 from rfl, h4]
  refine lp_inr ?_
  have d8 : (8 : Int32) ≤ nI 8 := Int32.le_refl _
  unfold st_X1_queueHeld_6
  dsimp only
  rw [if_pos d8]
  rfl
end QH
