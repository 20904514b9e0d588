/-! WHAT IS AHEAD: a review can be taken just where a way leads to it; a taken review makes the most fewer -/
section WH
variable {v : AS} {p q : Nat}
theorem why_00 (h : a_why v p q = nI 0) : v 9 q = nI 0 ∧ v (20 + q) p = nM ∧ a_bc (a_rev (v (20 + q))) < v 11 0 ∧ hb (a_conf v q) (nI p) = false ∧ hb (v 0 p) (v 5 q) = true ∧ nI 2 ≤ a_tok v p := by
  unfold a_why at h
  split at h
  · rename_i h1
    split at h
    · rename_i h2
      split at h
      · rename_i h3
        split at h
        · exact absurd h (by decide)
        · rename_i h4
          split at h
          · rename_i h5
            split at h
            · rename_i h6
              exact ⟨h1, h2, h3, Bool.eq_false_iff.mpr h4, h5, h6⟩
            · exact absurd h (by decide)
          · exact absurd h (by decide)
      · exact absurd h (by decide)
    · exact absurd h (by decide)
  · exact absurd h (by decide)
theorem why_in (h1 : v 9 q = nI 0) (h2 : v (20 + q) p = nM) (h3 : a_bc (a_rev (v (20 + q))) < v 11 0) (h4 : hb (a_conf v q) (nI p) = false) (h5 : hb (v 0 p) (v 5 q) = true) (h6 : nI 2 ≤ a_tok v p) : a_why v p q = nI 0 := by
  unfold a_why
  rw [if_pos h1, if_pos h2, if_pos h3, h4, h5, if_neg (by decide), if_pos rfl, if_pos h6]
theorem rv_hb (r : Nat → Int32) (hp : p < 8) : hb (a_rev r) (nI p) = !decide (r p = nM) := by rw [rev_mk, mk_hb _ hp] <;> rfl
theorem fit_eq (hp : p < 8) : e_fit v q p = (decide (v (20 + q) p = nM) && (!hb (a_conf v q) (nI p) && hb (v 0 p) (v 5 q))) := by
  unfold e_fit
  rw [hb_or _ _ hp, rv_hb _ hp]
  cases decide (v (20 + q) p = nM) <;> cases hb (a_conf v q) (nI p) <;> cases hb (v 0 p) (v 5 q) <;> rfl
theorem E_iff (hp : p < 8) : e_E v p q = true ↔ q < a_n v ∧ v 9 q = nI 0 ∧ 0 < e_fr v q ∧ v (20 + q) p = nM ∧ hb (a_conf v q) (nI p) = false ∧ hb (v 0 p) (v 5 q) = true := by
  unfold e_E e_op
  rw [fit_eq hp]
  simp only [Bool.and_eq_true, decide_eq_true_eq, Bool.not_eq_true', and_assoc]
theorem fr_iff (hI : IV v) : a_bc (a_rev (v (20 + q))) < v 11 0 ↔ 0 < e_fr v q := by
  have e0 := hI.s0
  have hc := cnt_le (rw_ (v (20 + q))) 8
  unfold e_fr
  generalize nv v 11 0 = n0 at e0 ⊢
  rw [rev_bc, e0.1, nI_ltI (by omega) (by omega)]
  omega
theorem cap_iff (hI : IV v) (hp : p < 8) : nI 2 ≤ a_tok v p ↔ 0 < e_cap v p := by
  have hg := hI.go hp
  rw [hI.tok hp, nI_leI (by omega) (by omega)]
  unfold e_cap
  omega
theorem why_iff (hI : IV v) (hp : p < 8) (hq : q < a_n v) : a_why v p q = nI 0 ↔ e_E v p q = true ∧ 0 < e_cap v p := by
  rw [E_iff hp]
  constructor
  · intro h
    obtain ⟨h1, h2, h3, h4, h5, h6⟩ := why_00 h
    exact ⟨⟨hq, h1, (fr_iff hI).mp h3, h2, h4, h5⟩, (cap_iff hI hp).mp h6⟩
  · rintro ⟨⟨_, h1, h3, h2, h4, h5⟩, h6⟩
    exact why_in h1 h2 ((fr_iff hI).mpr h3) h4 h5 ((cap_iff hI hp).mpr h6)
theorem conf_cg {w : AS} (h1 : w 1 = v 1) (h6 : w 6 = v 6) (h11 : w 11 = v 11) (q : Nat) : a_conf w q = a_conf v q := by
  have hn : ∀ s, a_near w s = a_near v s := fun s => by unfold a_near; rw [h1]
  have hit : ∀ k s, a_it w k s = a_it v k s := by
    intro k s
    induction k with
    | zero => rfl
    | succ k ih => show a_it w k s ||| a_near w (a_it w k s) = a_it v k s ||| a_near v (a_it v k s); rw [ih, hn]
  show a_it w (w 11 1).toNatClampNeg (w 6 q) = a_it v (v 11 1).toNatClampNeg (v 6 q)
  rw [h6, h11, hit]
theorem cnt_mono {P Q : Nat → Bool} {n : Nat} (h : ∀ i, i < n → P i = true → Q i = true) : cnt P n ≤ cnt Q n := by
  rw [cnt_sm, cnt_sm]
  exact sm_mono n (fun i hi => bn_mono (h i hi))
theorem sm_two (f : Nat → Nat) : ∀ n, 2 * sm f n = sm (fun i => 2 * f i) n
  | 0 => rfl
  | n + 1 => by
    have := sm_two f n
    simp only [sm]
    omega
/-- the tokens' bound as the matching has it -/
def cx (v : AS) (r : Nat) : Nat := if nI r = nM then 0 else e_cap v r
theorem cx_e {r : Nat} (hr : r < 8) : cx v r = e_cap v r := if_neg (nM_ne (by omega))
theorem mv_e : m_v v nM = a_min (cx v) (e_dem v) (e_E v) := rfl
theorem rc_less {cap cap' dem dem' : Nat → Nat} {E E' : Nat → Nat → Bool} {X : Nat → Bool} {p q : Nat} (hp : p < 8) (hq8 : q < 8) (c1 : ∀ r, r < 8 → r ≠ p → cap' r = cap r) (c2 : cap' p + 1 = cap p) (d3 : ∀ i, dem' i ≤ dem i) (d2 : dem' q + 1 = dem q) (E1 : ∀ a b, a < 8 → E' a b = true → E a b = true) (E2 : E' p q = false) (hE : E p q = true) : rc_ cap' dem' E' X < rc_ cap dem E X := by
  have g1 : ∀ i, i < 8 → min (dem' i) (cnt (fun r => !X r && E' r i) 8) ≤ min (dem i) (cnt (fun r => !X r && E r i) 8) := fun i hi => by
    have a1 := d3 i
    have a2 : cnt (fun r => !X r && E' r i) 8 ≤ cnt (fun r => !X r && E r i) 8 := cnt_mono (fun r hr h => by
      rw [Bool.and_eq_true] at h ⊢
      exact ⟨h.1, E1 r i hr h.2⟩)
    omega
  have b1 : X p = false → min (dem' q) (cnt (fun r => !X r && E' r q) 8) + 1 ≤ min (dem q) (cnt (fun r => !X r && E r q) 8) := fun hXp => by
    have z1 := cnt_up (P := fun r => (!X r && E r q) && !decide (r = p)) (Q := fun r => !X r && E r q) (k := p) (n := 8) hp (fun i _ hi => by
      show (!X i && E i q) = ((!X i && E i q) && !decide (i = p))
      rw [decide_eq_false hi, Bool.not_false, Bool.and_true])
    have z2 : cnt (fun r => !X r && E' r q) 8 ≤ cnt (fun r => (!X r && E r q) && !decide (r = p)) 8 := cnt_mono (fun r hr h => by
      rw [Bool.and_eq_true] at h
      have hne : r ≠ p := fun z => by
        have h9 := h.2
        rw [z, E2] at h9
        exact absurd h9 (by decide)
      show ((!X r && E r q) && !decide (r = p)) = true
      rw [h.1, E1 r q hr h.2, decide_eq_false hne] <;> rfl)
    simp only [hXp, hE, decide_true, Bool.not_true, Bool.and_false, Bool.not_false, Bool.and_true] at z1
    have h5 : bn true = 1 := rfl
    have h6 : bn false = 0 := rfl
    omega
  show sm (fun r => if X r then cap' r else 0) 8 + sm (fun i => min (dem' i) (cnt (fun r => !X r && E' r i) 8)) 8 < sm (fun r => if X r then cap r else 0) 8 + sm (fun i => min (dem i) (cnt (fun r => !X r && E r i) 8)) 8
  generalize hG' : (fun i => min (dem' i) (cnt (fun r => !X r && E' r i) 8)) = G'
  generalize hG : (fun i => min (dem i) (cnt (fun r => !X r && E r i) 8)) = G
  have e1 : ∀ i, i < 8 → G' i ≤ G i := fun i hi => by rw [← hG', ← hG]; exact g1 i hi
  cases hXp : X p with
  | true =>
    have a1 := sm_up (g := fun r => if X r then cap r else 0) (g' := fun r => if X r then cap' r else 0) (k := p) hp (fun i hi hne => by
      show (if X i then cap' i else 0) = (if X i then cap i else 0)
      rw [c1 i hi hne])
    simp only [hXp, ↓reduceIte] at a1
    have a2 := sm_mono 8 e1
    omega
  | false =>
    have a1 : sm (fun r => if X r then cap' r else 0) 8 = sm (fun r => if X r then cap r else 0) 8 := sm_cg (fun i hi => by
      show (if X i then cap' i else 0) = (if X i then cap i else 0)
      by_cases hne : i = p
      · rw [hne, hXp] <;> rfl
      · rw [c1 i hi hne])
    have e2 : G' q + 1 ≤ G q := by rw [← hG', ← hG]; exact b1 hXp
    have b2 := sm_up (g := G) (g' := fun i => if i = q then G q - 1 else G i) (k := q) (n := 8) hq8 (fun i _ hne => if_neg hne)
    have b3 := sm_mono (f := G') (g := fun i => if i = q then G q - 1 else G i) 8 (fun i hi => by
      show G' i ≤ (if i = q then G q - 1 else G i)
      by_cases hne : i = q
      · rw [if_pos hne, hne]; omega
      · rw [if_neg hne]; exact e1 i hi)
    simp only [↓reduceIte] at b2
    omega
theorem m_take (hI : IV v) (hp : p < 8) (hq : q < a_n v) (hw : a_why v p q = nI 0) : m_v (a_take v p q).2 nM < m_v v nM := by
  have hq8 : q < 8 := Nat.lt_of_lt_of_le hq hI.in_.2
  have hIw := iv_take hI hq hp
  obtain ⟨k1, k2, k3, k4, k5, k6⟩ := why_00 hw
  obtain ⟨hE, hC⟩ := (why_iff hI hp hq).mp hw
  have ew : (a_take v p q).2 = u_2 (u_2 v (20 + q) p (nI 10)) 3 p (v 3 p + nI 2) := by unfold a_take; rw [if_pos hw]
  rw [ew] at hIw ⊢
  generalize hwd : u_2 (u_2 v (20 + q) p (nI 10)) 3 p (v 3 p + nI 2) = w at hIw ⊢
  have wf : ∀ f, f ≠ 3 → f ≠ 20 + q → w f = v f := fun f h3 h20 => by rw [← hwd, u_ne h3, u_ne h20]
  have w3 : ∀ r, r ≠ p → w 3 r = v 3 r := fun r hr => by rw [← hwd, u_k hr, u_ne (show 3 ≠ 20 + q by omega)]
  have w3p : w 3 p = v 3 p + nI 2 := by rw [← hwd, u_s]
  have wr : w (20 + q) = up1 (v (20 + q)) p (nI 10) := by rw [← hwd, u_ne (show 20 + q ≠ 3 by omega), u_self]
  have hg := hI.go hp
  have hs := hI.sp hp
  have n3 : nv w 3 p = nv v 3 p + 2 := by
    show (w 3 p).toNatClampNeg = _
    rw [w3p, hs.1, nI_add, n_cl (by omega)]
  have c1 : ∀ r, r < 8 → r ≠ p → cx w r = cx v r := fun r hr hne => by
    rw [cx_e hr, cx_e hr]
    unfold e_cap
    show ((w 2 r).toNatClampNeg - (w 3 r).toNatClampNeg) / 2 = _
    rw [wf 2 (by omega) (by omega), w3 r hne]
  have c2 : cx w p + 1 = cx v p := by
    rw [cx_e hp, cx_e hp]
    unfold e_cap at hC ⊢
    rw [n3, show nv w 2 p = nv v 2 p from congrArg (fun f : Nat → Int32 => (f p).toNatClampNeg) (wf 2 (by omega) (by omega))]
    omega
  have nn : a_n w = a_n v := by show (w 12 0).toNatClampNeg = _; rw [wf 12 (by omega) (by omega)]
  have n11 : nv w 11 0 = nv v 11 0 := by show (w 11 0).toNatClampNeg = _; rw [wf 11 (by omega) (by omega)]
  have cf : ∀ q', a_conf w q' = a_conf v q' := conf_cg (wf 1 (by omega) (by omega)) (wf 6 (by omega) (by omega)) (wf 11 (by omega) (by omega))
  have fo1 : ∀ q', q' ≠ q → e_fr w q' = e_fr v q' := fun q' hne => by
    unfold e_fr
    rw [n11, wf (20 + q') (by omega) (by omega)]
  have fo2 : e_fr w q + 1 = e_fr v q := by
    have h1 := (fr_iff (q := q) hI).mp k3
    have h2 := cnt_up (P := rw_ (v (20 + q))) (Q := rw_ (w (20 + q))) (k := p) hp (fun i _ hi => by unfold rw_; rw [wr]; unfold up1; rw [if_neg hi])
    have h3 : rw_ (v (20 + q)) p = false := by unfold rw_; rw [k2] <;> decide
    have h4 : rw_ (w (20 + q)) p = true := by unfold rw_; rw [wr]; unfold up1; rw [if_pos rfl] <;> decide
    rw [h3, h4] at h2
    have h5 : bn true = 1 := rfl
    have h6 : bn false = 0 := rfl
    unfold e_fr at h1 ⊢
    rw [n11]
    omega
  have op1 : ∀ q', e_op w q' = true → e_op v q' = true := fun q' h => by
    unfold e_op at h ⊢
    rw [nn, wf 9 (by omega) (by omega)] at h
    simp only [Bool.and_eq_true, decide_eq_true_eq] at h ⊢
    refine ⟨h.1, h.2.1, ?_⟩
    by_cases hne : q' = q
    · subst hne; omega
    · rw [← fo1 q' hne]; exact h.2.2
  have d1 : ∀ q', q' ≠ q → e_dem w q' = e_dem v q' := fun q' hne => by
    unfold e_dem e_op
    rw [fo1 q' hne, nn, wf 9 (by omega) (by omega)]
  have d2 : e_dem w q + 1 = e_dem v q := by
    have h1 := (fr_iff (q := q) hI).mp k3
    have h2 : e_op v q = true := by unfold e_op; rw [decide_eq_true hq, decide_eq_true k1, decide_eq_true h1] <;> rfl
    unfold e_dem
    rw [if_pos h2]
    by_cases h3 : 0 < e_fr w q
    · have h4 : e_op w q = true := by unfold e_op; rw [nn, wf 9 (by omega) (by omega), decide_eq_true hq, decide_eq_true k1, decide_eq_true h3] <;> rfl
      rw [if_pos h4]; exact fo2
    · have h4 : ¬ e_op w q = true := by unfold e_op; rw [decide_eq_false h3, Bool.and_false, Bool.and_false] <;> decide
      rw [if_neg h4]; omega
  have d3 : ∀ q', e_dem w q' ≤ e_dem v q' := fun q' => by
    by_cases hne : q' = q
    · subst hne; omega
    · rw [d1 q' hne]; exact Nat.le_refl _
  have E1 : ∀ a b, a < 8 → e_E w a b = true → e_E v a b = true := fun a b ha h => by
    unfold e_E at h ⊢
    rw [Bool.and_eq_true] at h ⊢
    refine ⟨op1 b h.1, ?_⟩
    have h2 := h.2
    rw [fit_eq ha, cf, wf 0 (by omega) (by omega), wf 5 (by omega) (by omega)] at h2
    rw [fit_eq ha]
    by_cases hne : b = q
    · subst hne
      rw [wr] at h2
      unfold up1 at h2
      by_cases hap : a = p
      · rw [if_pos hap] at h2
        exact absurd h2 (by rw [show decide (nI 10 = nM) = false by decide, Bool.false_and] <;> decide)
      · rw [if_neg hap] at h2; exact h2
    · rw [wf (20 + b) (by omega) (by omega)] at h2; exact h2
  have E2 : e_E w p q = false := by
    refine Bool.eq_false_iff.mpr (fun h => ?_)
    have h2 := ((E_iff hp).mp h).2.2.2.1
    rw [wr] at h2
    unfold up1 at h2
    rw [if_pos rfl] at h2
    exact absurd h2 (by decide)
  rw [mv_e, mv_e]
  obtain ⟨X, hX⟩ := (mnn_in (cap := cx v) (E := e_E v) (fun q' _ => e_dem8 hI q')).2.1
  have hle := (mnn_in (cap := cx w) (E := e_E w) (fun q' _ => e_dem8 hIw q')).1 X
  rw [← hX]
  exact Nat.lt_of_le_of_lt hle (rc_less hp hq8 c1 c2 d3 d2 E1 E2 hE)
theorem m_any (hI : IV v) : 0 < m_v v nM ↔ ∃ q p, q < a_n v ∧ p < 8 ∧ a_why v p q = nI 0 := by
  constructor
  · intro h
    refine Classical.byContradiction (fun hn => ?_)
    have hno : ∀ q p, q < a_n v → p < 8 → ¬ a_why v p q = nI 0 := fun q p h1 h2 h3 => hn ⟨q, p, h1, h2, h3⟩
    rw [mv_e] at h
    have hle : a_min (cx v) (e_dem v) (e_E v) ≤ sm (fun r => if decide (cx v r = 0) = true then cx v r else 0) 8 + sm (fun i => min (e_dem v i) (cnt (fun r => !decide (cx v r = 0) && e_E v r i) 8)) 8 := (mnn_in (cap := cx v) (E := e_E v) (fun q' _ => e_dem8 hI q')).1 (fun r => decide (cx v r = 0))
    have a1 : sm (fun r => if decide (cx v r = 0) = true then cx v r else 0) 8 = sm (fun _ => 0) 8 := sm_cg (fun i hi => by
      show (if decide (cx v i = 0) = true then cx v i else 0) = 0
      by_cases hz : cx v i = 0
      · rw [if_pos (decide_eq_true hz)]; exact hz
      · rw [if_neg (by rw [decide_eq_true_eq]; exact hz)])
    have a2 : sm (fun i => min (e_dem v i) (cnt (fun r => !decide (cx v r = 0) && e_E v r i) 8)) 8 = sm (fun _ => 0) 8 := sm_cg (fun i hi => by
      show min (e_dem v i) (cnt (fun r => !decide (cx v r = 0) && e_E v r i) 8) = 0
      have z : cnt (fun r => !decide (cx v r = 0) && e_E v r i) 8 = 0 := cnt_0 (fun r hr => by
        show (!decide (cx v r = 0) && e_E v r i) = false
        refine Bool.eq_false_iff.mpr (fun h9 => ?_)
        rw [Bool.and_eq_true] at h9
        have h8 := ((E_iff hr).mp h9.2).1
        have h7 : ¬ cx v r = 0 := by
          have := h9.1
          simpa using this
        rw [cx_e hr] at h7
        exact hno i r h8 hr ((why_iff hI hr h8).mpr ⟨h9.2, by omega⟩))
      omega)
    rw [a1, a2, sm_zero] at hle
    omega
  · rintro ⟨q, p, hq, hp, hw⟩
    have := m_take hI hp hq hw
    omega
theorem m_tok (hI : IV v) : 2 * m_v v nM ≤ sm (fun p => nv v 2 p - nv v 3 p) 8 := by
  rw [mv_e]
  have hle : a_min (cx v) (e_dem v) (e_E v) ≤ sm (fun r => if true = true then cx v r else 0) 8 + sm (fun i => min (e_dem v i) (cnt (fun r => !true && e_E v r i) 8)) 8 := (mnn_in (cap := cx v) (E := e_E v) (fun q' _ => e_dem8 hI q')).1 (fun _ => true)
  have a2 : sm (fun i => min (e_dem v i) (cnt (fun r => !true && e_E v r i) 8)) 8 = sm (fun _ => 0) 8 := sm_cg (fun i hi => by
    show min (e_dem v i) (cnt (fun r => !true && e_E v r i) 8) = 0
    have z : cnt (fun r => !true && e_E v r i) 8 = 0 := cnt_0 (fun r hr => rfl)
    omega)
  rw [a2, sm_zero] at hle
  have a3 := sm_mono (f := fun r => 2 * (if true = true then cx v r else 0)) (g := fun p => nv v 2 p - nv v 3 p) 8 (fun i hi => by
    show 2 * (if true = true then cx v i else 0) ≤ nv v 2 i - nv v 3 i
    rw [if_pos rfl, cx_e hi]
    unfold e_cap
    omega)
  have a4 : 2 * sm (fun r => if true = true then cx v r else 0) 8 = sm (fun r => 2 * (if true = true then cx v r else 0)) 8 := sm_two _ 8
  omega
end WH
