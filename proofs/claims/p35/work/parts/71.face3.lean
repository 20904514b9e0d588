/-! THE FACE: papers, snapshots, back -/
section FC
variable {S : PH} {G : Nat → Nat} {x nw : Nat} {v : AS} {hs : List AS} {nx : Nat} {sl : Nat → Option AS} {tn : Nat} {tx : Nat → Int32}
def a_pa (v : AS) (i j : Int32) : AS := u_2 (u_2 (u_2 v 5 (a_n v) i) 6 (a_n v) j) 12 0 (nI (a_n v + 1))
def f_paper (v : AS) (i j : Int32) : (Nat ⊕ Int32) × Option AS := if a_in i (nI 0) (nI 3) then (if a_in j (nI 1) (nI 255) then (if a_n v < 8 then (.inr (nI (a_n v)), some (a_pa v i j)) else (.inl 1, none)) else (.inl 0, none)) else (.inl 0, none)
theorem iv_pa (hI : IV v) (i j : Int32) (hn : a_n v < 8) : IV (a_pa v i j) := by
  have h2 := iv_free (iv_free hI (f := 5) (k := a_n v) (x := i) (by omega) hn) (f := 6) (k := a_n v) (x := j) (by omega) hn
  have e : a_n (u_2 (u_2 v 5 (a_n v) i) 6 (a_n v) j) = a_n v := by
    unfold a_n
    rw [u_ne (by omega), u_ne (by omega)]
  have k := iv_12 h2 (by rw [e]; exact hn)
  rw [e] at k
  exact k
theorem k_paper (h : RelC S G x nw v hs nx sl tn tx) (hI : IV v) (i j : Int32) {Q : (Nat ⊕ Int32) → PH → Prop} (hQ : ∀ S' G', RelO S' G' x nw v hs nx sl tn tx (f_paper v i j).2 → fc S G S' G' → Q (f_paper v i j).1 S') : w_X4_paper (some x) i j S Q := by
  unfold w_X4_paper
  unfold f_paper at hQ
  rw [show ((0 : Int32)) = nI 0 from rfl, show (4 : Int32) = nI 4 from rfl, rng4, show ((1 : Int32)) = nI 1 from rfl, show ((255 : Int32)) = nI 255 from rfl, rng]
  by_cases h1 : a_in i (nI 0) (nI 3) = true
  · rw [if_pos h1] at hQ ⊢
    by_cases h2 : a_in j (nI 1) (nI 255) = true
    · rw [if_pos h2] at hQ ⊢
      obtain ⟨en, h8⟩ := hI.in_
      rw [h.rc.Wx, h.rc.r0, h.rc.Wnow, wle_t, h.rv.i 12 (by decide) (by decide), en]
      rw [if_neg (show ¬ nI (a_n v) < nI 0 from nI_nlt (by omega) (by omega)), show (8 : Int32) = nI 8 from rfl]
      by_cases h3 : a_n v < 8
      · rw [if_pos h3] at hQ
        rw [if_pos (show nI (a_n v) < nI 8 from nI_lt h3 (by omega))]
        rw [h.rc.r1, h.rc.Whi, ← h.rc.r1, ← h.rc.r0]
        refine k_save h (fun S' G' k1 k2 => ?_)
        rw [wq_re]
        have hh : RC S' G' x nw := k1.rc
        have hg := k1.gi
        clear h
        have h := hh
        have kk := k_new (G := G) (w := a_pa v i j) k1 k2 (iv_pa hI i j h3).aw
        simp (disch := omega) only [z_0, z_1, z_2, z_3, z_4, z_5, z_6, z_7, z_8, z_9, z_10, z_12, z_13, z_15, z_17, z_20, z_25, z_31, z_33, z_41, z_49, z_57, z_60, z_72, z_100, z_161, z_255, z_256, z_999, z_9999, of_n, nI_add, pk_mul, n_le, n_lt, n_eq, n_cl, ck_n, ck_d, ck_tr, le_t, bd_t, ir_t, bt_r, bt_l, b_t, b_f, b_lt, b_lf, b_ef, z_m1, b_i0, b_i1, z_not, z_ps, f_mb, f_rf, ↓reduceIte, Nat.zero_add, Nat.add_zero, Nat.one_mul, Nat.mul_one, Nat.zero_mul, Nat.mul_zero, not_true_eq_false, not_false_eq_true, h.Wx, h.Wnow, h.r1, h.Whi, h.hi2, h.Wring, h.nring, h.Wsl, h.nsl, h.Wtx, h.Wcd, wdr_put, wle_t, wck_d, wck_tr, wck_n, wbd_e, wbt_re, wbt_le, h.st.Wd 0 (by decide), h.st.Wd 1 (by decide), h.st.Wd 2 (by decide), h.st.Wd 3 (by decide), h.st.Wd 4 (by decide), h.st.Wd 5 (by decide), h.st.Wd 6 (by decide), h.st.Wd 7 (by decide), h.st.Wd 8 (by decide), h.st.Wd 9 (by decide), h.st.W11, h.st.Ws, h.st.Ww, h.st.n 0 (by decide), h.st.n 1 (by decide), h.st.n 2 (by decide), h.st.n 3 (by decide), h.st.n 4 (by decide), h.st.n 5 (by decide), h.st.n 6 (by decide), h.st.n 7 (by decide), h.st.n 8 (by decide), h.st.n 9 (by decide), h.st.n11, h.st.ns, h.st.nw, wdr_put, h.r0, N_put, R_put, rf_put, a8_put, g_f h.st 0 (by decide), s_f hg h.st 0 (by decide), g_f h.st 1 (by decide), s_f hg h.st 1 (by decide), g_f h.st 2 (by decide), s_f hg h.st 2 (by decide), g_f h.st 3 (by decide), s_f hg h.st 3 (by decide), g_f h.st 4 (by decide), s_f hg h.st 4 (by decide), g_f h.st 5 (by decide), s_f hg h.st 5 (by decide), g_f h.st 6 (by decide), s_f hg h.st 6 (by decide), g_f h.st 7 (by decide), s_f hg h.st 7 (by decide), g_f h.st 8 (by decide), s_f hg h.st 8 (by decide), g_f h.st 9 (by decide), s_f hg h.st 9 (by decide), g_f11 h.st, s_f11 hg h.st, g_w h.st, s_w hg h.st, g_i h.st 12 (by decide) (by decide), s_i hg h.st 12 (by decide) (by decide), g_i h.st 13 (by decide) (by decide), s_i hg h.st 13 (by decide) (by decide), g_i h.st 14 (by decide) (by decide), s_i hg h.st 14 (by decide) (by decide), g_i h.st 15 (by decide) (by decide), s_i hg h.st 15 (by decide) (by decide), g_i h.st 16 (by decide) (by decide), s_i hg h.st 16 (by decide) (by decide), R_put]
        exact hQ _ G' kk.1 kk.2
      · rw [if_neg h3] at hQ
        rw [if_neg (show ¬ nI (a_n v) < nI 8 from nI_nlt (by omega) (by omega))]
        exact hQ S G h fc_r
    · rw [if_neg h2] at hQ ⊢
      exact hQ S G h fc_r
  · rw [if_neg h1] at hQ ⊢
    exact hQ S G h fc_r
/-- one back -/
def f_undo (hs : List AS) : (Nat ⊕ Int32) × Option AS := match hs with
  | [] => (.inl 1, none)
  | w :: t => (.inr (nI t.length), some w)
theorem relC_become (h : RelC S G x nw v hs nx sl tn tx) {q b : Nat} (hb : b ≠ 0) (hq : stB S G b q) {w : AS} (hr : rep S q w) (hw : AW w) : m_X2_become (some nw) (some q) S = some ((), put S G 0 w) := by
  have k := p_become (v := v) (w := w) h.gi h.rc.st hq (Ne.symm hb) hr h.aw hw
  rwa [put_self h.gi h.rc.st h.rv] at k
def RelU (S : PH) (G : Nat → Nat) (x nw : Nat) (v : AS) (nx : Nat) (sl : Nat → Option AS) (tn : Nat) (tx : Nat → Int32) : List AS → Prop
  | [] => RelC S G x nw v [] nx sl tn tx
  | w :: t => RelC S G x nw w t ((nx + 5) % 6) sl tn tx
theorem k_undo (h : RelC S G x nw v hs nx sl tn tx) : ∃ S', m_X4_undo (some x) S = some ((f_undo hs).1, S') ∧ fc S G S' G ∧ RelU S' G x nw v nx sl tn tx hs := by
  obtain ⟨g1, g3, g30, g5, gR, gS, gx, _, _⟩ := relC_tags h
  obtain ⟨n1, n2, n3, n4⟩ := h.hn
  unfold m_X4_undo
  rw [h.rc.x4, h.rc.r1, h.rc.hi2]
  cases hs with
  | nil =>
    refine ⟨S, ?_, fc_r, h⟩
    have e : m_X0_latest (some (rf S x 1)) S = some (none, S) := by
      unfold m_X0_latest
      rw [h.rc.hi2, n3]
      exact if_pos (by decide)
    rw [e, bd_t, if_neg (fun z => z rfl)]
    rfl
  | cons w t =>
    obtain ⟨q, hq, hrq, haw⟩ := h.hv 0 w rfl
    have hlt : (nx + 5 - 0) % 6 < 6 := Nat.mod_lt _ (by decide)
    have sq := ((h.ri _ hlt).1 q hq).1
    have hlen : (w :: t).length = t.length + 1 := rfl
    have bn : ∀ T : PH, p_L T = p_L S → p_K T = p_K S → p_I T (rf S x 1) = p_I S (rf S x 1) → m_X0_beforeNext (some (rf S x 1)) T = some (nI ((nx + 5) % 6), T) := by
      intro T e1 e2 e3
      unfold m_X0_beforeNext
      rw [dr_t (by rw [e1, e2]; exact h.rc.2.2.2.1.2.1.1), e3, n1]
      by_cases h0 : nx = 0
      · subst h0
        rfl
      · have e : (nx + 5) % 6 = nx - 1 := by omega
        rw [if_neg (show ¬ nI nx ≤ (0 : Int32) from fun z => h0 (by have := (nI_leI (show nx < 2147483648 by omega) (show 0 < 2147483648 by omega)).mp z; omega)), e]
        congr 2
        have := nI_add (nx - 1) 1
        rw [show nx - 1 + 1 = nx by omega] at this
        rw [← this]
        show nI (nx - 1) + nI 1 - nI 1 = _
        exact Int32.add_sub_cancel _ _
    have e : m_X0_latest (some (rf S x 1)) S = some (some q, S) := by
      unfold m_X0_latest
      rw [h.rc.hi2, n3, hlen]
      rw [if_neg (show ¬ nI (t.length + 1) ≤ (0 : Int32) from fun z => by have := (nI_leI (show t.length + 1 < 2147483648 by simp at n4; omega) (show 0 < 2147483648 by omega)).mp z; omega), bn S rfl rfl rfl, bd_t, h.rc.ring, h.rc.nring, ck_n (by omega) (by omega), n_cl (by omega)]
      exact congrArg (fun z => some (z, S)) hq
    have hb := relC_become h (b := 1 + (nx + 5 - 0) % 6) (by omega) sq hrq haw
    have r1 := relC_put h haw
    have i1 : p_I (put S G 0 w) (rf S x 1) = p_I S (rf S x 1) := pv_o (by omega)
    have r2 := relC_dropL r1
    have f1 : rf (put S G 0 w) = rf S := rfl
    rw [f1] at r2
    refine ⟨_, ?_, ?_, r2⟩
    · have sub1 : nI (t.length + 1) - 1 = nI t.length := by
        rw [← nI_add t.length 1]
        show nI t.length + nI 1 - nI 1 = _
        exact Int32.add_sub_cancel _ _
      have l5 : t.length < 6 := by rw [hlen] at n4; omega
      have mm : mmax (0 : Int32) (nI t.length) = nI t.length := by
        unfold mmax
        by_cases h0 : t.length = 0
        · rw [h0]; rfl
        · rw [if_pos (show (0 : Int32) < nI t.length from nI_lt (a := 0) (by omega) (by omega))]
      have p2 : ∀ y, p_I (s_I (put S G 0 w) (rf S x 1) 1 y) (rf S x 1) 2 = nI (t.length + 1) := by
        intro y
        show u_2 _ (rf S x 1) 1 y (rf S x 1) 2 = _
        rw [u2_ne (Or.inr (by decide))]
        show p_I (put S G 0 w) (rf S x 1) 2 = _
        rw [i1, n3, hlen]
      have d1 : m_X0_dropLatest (some (rf S x 1)) (put S G 0 w) = some ((), s_I (s_I (put S G 0 w) (rf S x 1) 1 (nI ((nx + 5) % 6))) (rf S x 1) 2 (nI ((w :: t).length - 1))) := by
        unfold m_X0_dropLatest
        rw [dr_put, h.rc.hi2, bn (put S G 0 w) rfl rfl i1, bd_t, dr_put, h.rc.hi2, le_t, dr_I, dr_put, h.rc.hi2, le_t, p2, sub1, mm, hlen]
        rfl
      have d2 : ∀ {β : Type} {y z : Int32} {f : Nat → Option β}, dr (s_I (s_I (put S G 0 w) (rf S x 1) 1 y) (rf S x 1) 2 z) 4 (some x) f = f x := fun {β y z f} => h.rc.x4
      have d3 : ∀ {β : Type} {y z : Int32} {f : Nat → Option β}, dr (s_I (s_I (put S G 0 w) (rf S x 1) 1 y) (rf S x 1) 2 z) 0 (some (rf S x 1)) f = f (rf S x 1) := fun {β y z f} => h.rc.hi2
      rw [e, bd_t, if_pos (Option.some_ne_none q), h.rc.x4, h.rc.r0, h.rc.now, hb, bd_t, dr_put, h.rc.x4, R_put, h.rc.r1, dr_put, h.rc.hi2, d1, bd_t, d2, R_I, R_I, R_put, h.rc.r1, d3]
      have p3 : ∀ y z, p_I (s_I (s_I (put S G 0 w) (rf S x 1) 1 y) (rf S x 1) 2 z) (rf S x 1) 2 = z := by
        intro y z
        show u_2 _ (rf S x 1) 2 z (rf S x 1) 2 = z
        rw [u_s]
      rw [p3]
      rfl
    · exact fc_t (fc_t (fc_put (by omega)) (fc_I (by omega))) (fc_I (by omega))
/-- a snapshot is kept -/
def f_keep (v : AS) (i : Int32) : Nat ⊕ Int32 := if a_in i (nI 0) (nI 1) then .inr (v 12 0) else .inl 0
def f_go (v : AS) (sl : Nat → Option AS) (i : Int32) : (Nat ⊕ Int32) × Option AS := if a_in i (nI 0) (nI 1) then (match sl i.toNatClampNeg with
  | none => (.inl 1, none)
  | some w => (.inr (w 12 0), some w)) else (.inl 0, none)
theorem k_reqL (i : Int32) (S : PH) : m_X4_requireSlot i S = some (if a_in i (nI 0) (nI 1) then .inr () else .inl 0, S) := by
  have e : (i < (2 : Int32)) = (i ≤ nI 1) := by
    refine propext ?_
    rw [Int32.le_iff_toInt_le, Int32.lt_iff_toInt_lt]
    show i.toInt < 2 ↔ i.toInt ≤ 1
    omega
  unfold m_X4_requireSlot j_X4_requireSlot_9
  simp only [e]
  rw [show ((0 : Int32)) = nI 0 from rfl, rng]
  split <;> rfl
theorem k_go (h : RelC S G x nw v hs nx sl tn tx) (i : Int32) {Q : (Nat ⊕ Int32) → PH → Prop} (hQ : ∀ S' G', RelO S' G' x nw v hs nx sl tn tx (f_go v sl i).2 → fc S G S' G' → Q (f_go v sl i).1 S') : w_X4_goBack (some x) i S Q := by
  unfold w_X4_goBack
  rw [k_reqL]
  unfold f_go at hQ
  by_cases h1 : a_in i (nI 0) (nI 1) = true
  · rw [if_pos h1] at hQ ⊢
    obtain ⟨p, hp, rfl⟩ := in_n (by omega) h1
    rw [n_cl (by omega)] at hQ
    rw [wbt_re, h.rc.Wx, h.rc.Wsl, h.rc.nsl, wck_n (by omega) (by omega), wle_t, n_cl (by omega)]
    have hp2 : p < 2 := by omega
    cases hs2 : sl p with
    | none =>
      rw [hs2] at hQ
      rw [(h.so p hp2).1 hs2, if_neg (fun z => z rfl)]
      exact hQ S G h fc_r
    | some w =>
      rw [hs2] at hQ
      obtain ⟨q, hq, _, _⟩ := (h.so p hp2).2 w hs2
      rw [hq, if_pos (Option.some_ne_none q), h.rc.r1, h.rc.Whi, ← h.rc.r1]
      rw [h.rc.r1, h.rc.r0]
      refine wk_save h (fun S' G' k1 k2 k3 => ?_)
      rw [wq_re]
      obtain ⟨q', hq', hr', ha'⟩ := (k1.so p hp2).2 w hs2
      have s1 := ((h.si p hp2).1 q hq).1
      have s2 := ((k1.si p hp2).1 q' hq').1
      have e : q = q' := by
        have g1 := k3 q s1.1.1.1 (by have := s1.1.2; omega)
        exact k1.gi q q' (by have := s1.1.2; omega) (by rw [g1, s1.1.2, s2.1.2])
      subst e
      have hb := relC_become k1 (by omega) s2 hr' ha'
      have r1 := relC_put k1 ha'
      rw [k1.rc.Wx, k1.rc.r0, k1.rc.Wnow, hb, wbd_e, wdr_put, k1.rc.Wx, R_put, k1.rc.r0, wdr_put, k1.rc.Wnow]
      have e12 : p_I (put S' G' 0 w) nw 12 = w 12 0 := g_i k1.rc.st 12 (by decide) (by decide)
      rw [e12]
      exact hQ _ G' r1 (fc_t k2 (fc_put (by omega)))
  · rw [if_neg h1] at hQ ⊢
    rw [wbt_le]
    exact hQ S G h fc_r
theorem k_keep_30 (h : RelC S G x nw v hs nx sl tn tx) {p q : Nat} (hp : p < 2) (hq : p_R S (rf S x 2) p = some q) {Q : (Nat ⊕ Int32) → PH → Prop} (hQ : ∀ S', RelC S' G x nw v hs nx (fun j => if j = p then some v else sl j) tn tx → fc S G S' G → Q (.inr (v 12 0)) S') (i : Int32) : wj_X4_keep_30 (some x) i Q (some q) S := by
  obtain ⟨sq, w, rq, aq⟩ := (h.si p hp).1 q hq
  have hb : m_X2_become (some q) (some nw) S = some ((), put S G (7 + p) v) := by
    have k := p_become (v := w) (w := v) h.gi sq h.rc.st (by omega) h.rv aq h.aw
    rwa [put_self h.gi sq rq] at k
  have r1 := relC_keep h hp (by rw [hq]; exact Option.some_ne_none q)
  unfold wj_X4_keep_30
  rw [h.rc.Wx, wdr_e sq.1.1, h.rc.r0, hb, wbd_e, wdr_put, h.rc.Wx, R_put, h.rc.r0, wdr_put, h.rc.Wnow]
  have e12 : p_I (put S G (7 + p) v) nw 12 = v 12 0 := r1.rv.i 12 (by decide) (by decide)
  rw [e12]
  exact hQ _ r1 (fc_put (by omega))
theorem k_keep (h : RelC S G x nw v hs nx sl tn tx) (i : Int32) {Q : (Nat ⊕ Int32) → PH → Prop} (hQ : ∀ S' G', RelC S' G' x nw v hs nx (fun j => if a_in i (nI 0) (nI 1) ∧ j = i.toNatClampNeg then some v else sl j) tn tx → fc S G S' G' → Q (f_keep v i) S') : w_X4_keep (some x) i S Q := by
  obtain ⟨g1, g3, g30, g5, gR, gS, gx, _, _⟩ := relC_tags h
  unfold w_X4_keep
  rw [k_reqL]
  unfold f_keep at hQ
  by_cases h1 : a_in i (nI 0) (nI 1) = true
  · rw [if_pos h1] at hQ ⊢
    obtain ⟨p, hp, rfl⟩ := in_n (by omega) h1
    rw [n_cl (by omega)] at hQ
    have hp2 : p < 2 := by omega
    have es : ∀ sl2 : Nat → Option AS, (fun j => if j = p then some v else sl2 j) = (fun j => if a_in (nI p) (nI 0) (nI 1) = true ∧ j = p then some v else sl2 j) := by
      intro sl2
      funext j
      by_cases e : j = p
      · rw [if_pos e, if_pos ⟨h1, e⟩]
      · rw [if_neg e, if_neg (fun z => e z.2)]
    rw [wbt_re, h.rc.Wx, h.rc.Wsl, h.rc.nsl, wck_n (by omega) (by omega), wle_t, n_cl (by omega)]
    cases hq : p_R S (rf S x 2) p with
    | some q =>
      rw [if_pos (Option.some_ne_none q)]
      exact k_keep_30 h hp2 hq (fun S' r1 r2 => hQ S' G (by rw [← es]; exact r1) r2) _
    | none =>
      rw [if_neg (fun z => z rfl)]
      intro q hqS
      have hnew := relC_new h (r := rf S x 2) (i := p) (b := 7 + p) (Or.inr ⟨rfl, hp2, rfl⟩) hq hqS (Q := wq (fun v39 S40 => wle (some q) fun r43 => wdr S40 4 (some x) fun a45 => wdr S40 8 (p_R S40 a45 2) fun a48 => wdr S40 2 r43 fun a51 => wck (ix (nI p) (p_N S40 a48)) <| wle (s_R S40 a48 p r43) fun S55 => wj_X4_keep_30 (some x) (nI p) Q r43 S55) (fun _ _ => False)) (fun S2 G2 hr hfc k2 e0 e1 rc2 qS2 i2 => ?_)
      · rw [wle_t, wdr_e hnew.1]
        exact hnew.2
      · have f2 : rf S2 x 2 = rf S x 2 := rf_e e0
        have r2 := fun f => rc2.Wsl (f := f)
        rw [f2] at r2
        have r3 := rc2.nsl
        rw [f2] at r3
        rw [wq_re, wle_t, rc2.Wx, r2, wdr_e qS2, r3, wck_n (by omega) (by omega), wle_t]
        have f4 : rf (s_R S2 (rf S x 2) p (some q)) x 2 = rf S x 2 := by
          have : p_R (s_R S2 (rf S x 2) p (some q)) x = p_R S2 x := u2_o (fun z => by rw [← z] at gS; omega)
          exact (rf_e this).trans f2
        refine k_keep_30 hr hp2 (q := q) (by
          rw [f4]
          show u_2 _ (rf S x 2) p (some q) (rf S x 2) p = _
          unfold u_2
          exact if_pos ⟨rfl, rfl⟩) (fun S' r1 r2 => hQ S' G2 ?_ (fc_t hfc r2)) _
        have e5 : (fun j => if j = p then some v else (if rf S x 2 = rf S x 2 ∧ j = p then some v0 else sl j)) = (fun j => if j = p then some v else sl j) := by
          funext j
          by_cases e : j = p
          · rw [if_pos e, if_pos e]
          · rw [if_neg e, if_neg e, if_neg (fun z => e z.2)]
        rw [e5] at r1
        rw [← es]
        exact r1
  · rw [if_neg h1] at hQ ⊢
    rw [wbt_le]
    have e5 : (fun j => if a_in i (nI 0) (nI 1) = true ∧ j = i.toNatClampNeg then some v else sl j) = sl := by
      funext j
      rw [if_neg (fun z => h1 z.1)]
    rw [e5] at hQ
    exact hQ S G h fc_r
end FC
