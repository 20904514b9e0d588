/-! THE LAW: one round keeps what holds -/
theorem lg_refl (y : Int64) : lg_cmp y y = 0 := by
  unfold lg_cmp
  simp
def LX (x t : Nat) (S : PH) : Prop := ∃ G nw v hs nx sl tn tx w0, RelC S G x nw v hs nx sl tn tx ∧ IV v ∧ JV (1 + t) v ∧ sl 0 = some w0 ∧ IV w0 ∧ JV (1 + t) w0
/-- a deed on v leads to w and answers y, on every pool -/
def DEED (x : Nat) (v w : AS) (sl : Nat → Option AS) (xx yy : Int32) (p q : Nat) (y : Int32) : Prop := ∀ S G nw hs nx tn tx, RelC S G x nw v hs nx sl tn tx → ∀ K' : Int32 → PH → Prop, (∀ S' G', RelC S' G' x nw w ((v :: hs).take 6) ((nx + 1) % 6) sl tn tx → K' y S') → (if a_up xx (nI 16) ≤ (13 : Int32) then w_L_act (some x) xx yy S (wq (fun v S => K' v S) (fun _ _ => False)) else wdr S 4 (some x) fun _ => w_X4_take (some x) (nI p) (nI q) S (wq (fun v S => K' v S) (fun _ _ => False)))
section RD
variable {x : Nat} {v w w0 : AS} {sl : Nat → Option AS} {b n p q t : Nat} {xx yy y : Int32}
theorem q_act (hI : IV v) (hJ : JV b v) (hb : b < 900) (hs0 : sl 0 = some w0) (hI0 : IV w0) (hJ0 : JV b w0) (hn : v 12 0 = nI n) (h8 : n ≤ 8) (h1 : 0 < n) (i1 i2 : Int32) (h13 : a_up i1 (nI 16) ≤ (13 : Int32)) : DOES x v sl b (fun S Q => w_L_act (some x) i1 i2 S Q) := by
  obtain ⟨c, hc16, hc⟩ := up_n i1 (n := 16) (by omega) (by omega)
  have h13 : c ≤ 13 := by
    rw [hc] at h13
    exact (nI_leI (a := c) (b := 13) (by omega) (by omega)).mp h13
  rcases (show c = 0 ∨ c = 1 ∨ c = 2 ∨ c = 3 ∨ c = 4 ∨ c = 5 ∨ c = 6 ∨ c = 7 ∨ c = 8 ∨ c = 9 ∨ c = 10 ∨ c = 11 ∨ c = 12 ∨ c = 13 by omega) with rfl | rfl | rfl | rfl | rfl | rfl | rfl | rfl | rfl | rfl | rfl | rfl | rfl | rfl
  · exact act_0 hI hJ hb hn h8 h1 i1 i2 hc
  · exact act_1 hI hJ hb hn h8 h1 i1 i2 hc
  · exact act_2 hI hJ hb hn h8 h1 i1 i2 hc
  · exact act_3 hI hJ hb hn h8 h1 i1 i2 hc
  · exact act_4 hI hJ hb hn h8 h1 i1 i2 hc
  · exact act_5 hI hJ hb hn h8 h1 i1 i2 hc
  · exact act_6 hI hJ hb hn h8 h1 i1 i2 hc
  · exact act_7 hI hJ hb hn h8 h1 i1 i2 hc
  · exact act_8 hI hJ hb hn h8 h1 i1 i2 hc
  · exact act_9 hI hJ hb hn h8 h1 i1 i2 hc
  · exact act_10 hI hJ hb hn h8 h1 i1 i2 hc
  · exact act_11 hI hJ hb hn h8 h1 i1 i2 hc
  · exact act_12 hI hJ hb hn h8 h1 i1 i2 hc
  · exact act_13 hI hJ hb hn h8 h1 i1 i2 hs0 hI0 hJ0 hc
theorem q_deed (hI : IV v) (hJ : JV b v) (hb : b < 900) (hs0 : sl 0 = some w0) (hI0 : IV w0) (hJ0 : JV b w0) (hn : v 12 0 = nI n) (h8 : n ≤ 8) (h1 : 0 < n) (hp : p < 8) (hq : q < n) (xx yy : Int32) : ∃ y w, ¬ y < 0 ∧ IV w ∧ JV (b + 1) w ∧ (¬ a_up xx (nI 16) ≤ (13 : Int32) → y = a_why v p q ∧ (0 < y ∨ m_v w nM < m_v v nM)) ∧ DEED x v w sl xx yy p q y := by
  by_cases h13 : a_up xx (nI 16) ≤ (13 : Int32)
  · obtain ⟨y, w, h1, h2, h3, h4⟩ := q_act (x := x) (sl := sl) hI hJ hb hs0 hI0 hJ0 hn h8 h1 xx yy h13
    refine ⟨y, w, h1, h2, h3, fun z => absurd h13 z, fun S G nw hs nx tn tx h K' hK => ?_⟩
    rw [if_pos h13]
    exact h4 S G nw hs nx tn tx h _ hK
  · have hqa : q < a_n v := by rw [an_e hn h8]; exact hq
    have e : f_take v (nI p) (nI q) = (.inr (a_take v p q).1, some (a_take v p q).2) := by
      unfold f_take
      rw [if_pos (in_nI (by omega) (by omega) (by omega)), if_pos (isP_t hI hqa), n_cl (by omega), n_cl (by omega)]
    obtain ⟨y, w, o1, o2, o3, o4⟩ := take_ok hI hJ hp hqa
    rw [e] at o1
    obtain ⟨z1, z2⟩ := Prod.mk.inj o1
    have z1 := Sum.inr.inj z1
    have z2 := Option.some.inj z2
    refine ⟨y, w, o2, o3, o4, fun _ => ?_, fun S G nw hs nx tn tx h K' hK => ?_⟩
    · rw [← z1, ← z2]
      by_cases hw : a_why v p q = nI 0
      · refine ⟨?_, Or.inr (m_take hI hp hqa hw)⟩
        unfold a_take
        rw [if_pos hw, hw]
      · have e1 : (a_take v p q).1 = a_why v p q := by unfold a_take; rw [if_neg hw]
        refine ⟨e1, Or.inl ?_⟩
        obtain ⟨k, hk, ek⟩ := why_n v p q
        rw [e1, ek]
        rw [ek] at hw
        have hk0 : k ≠ 0 := fun z => hw (by rw [z])
        exact (nI_ltI (a := 0) (b := k) (by omega) (by omega)).mpr (by omega)
    · rw [if_neg h13]
      refine wdr_t h.rc.1.1 (k_take h hI (nI p) (nI q) (fun S' G' h' _ => ?_))
      rw [e] at h' ⊢
      rw [z1, z2] at h'
      rw [z1]
      exact hK S' G' h'
variable {S : PH} {G : Nat → Nat} {nw : Nat} {hs tl : List AS} {nx tn : Nat} {tx : Nat → Int32} {xs : Nat → Int32} {L : Nat} {K : Option Nat → Int32 → Int32 → PH → Prop}
theorem r_454 (h : RelC S G x nw w hs nx sl tn tx) (hI : IV w) (hJ : JV (1 + (t + 1)) w) (hs0 : sl 0 = some w0) (hI0 : IV w0) (hJ0 : JV (1 + (t + 1)) w0) (ht : t < 100) (hK : ∀ T, LX x (t + 1) T → K (some x) 1 (nI (t + 1)) T) : wj_L_law_454 xs L K (some x) (nI t) S := by
  unfold wj_L_law_454
  rw [show nI t - nI t / (9 : Int32) * (9 : Int32) = nI (t % 9) from pk_rem (a := t) (d := 9) (by omega) (by omega) (by omega), show nI t + (1 : Int32) = nI (t + 1) from nI_add t 1]
  by_cases g : t % 9 = 7
  · rw [if_pos (show nI (t % 9) = (7 : Int32) by rw [g] <;> rfl)]
    refine wdr_t h.rc.1.1 (k_keep h 0 (fun S' G' h' _ => ?_))
    rw [show f_keep w 0 = .inr (w 12 0) from if_pos (by decide), wq_re]
    refine wdr_t h'.rc.1.1 ?_
    refine wbt_r (g_cnt0 h') ?_
    rw [if_pos rfl]
    exact hK S' ⟨G', nw, w, hs, nx, _, tn, tx, w, h', hI, hJ, if_pos ⟨by decide, by decide⟩, hI, hJ⟩
  · rw [if_neg (show ¬ nI (t % 9) = (7 : Int32) from fun z => g ((nI_eq (a := t % 9) (b := 7) (by omega) (by omega)).mp z))]
    exact hK S ⟨G, nw, w, hs, nx, sl, tn, tx, w0, h, hI, hJ, hs0, hI0, hJ0⟩
theorem r_426 (h : RelC S G x nw w hs nx sl tn tx) (hI : IV w) (hJ : JV (1 + (t + 1)) w) (hs0 : sl 0 = some w0) (hI0 : IV w0) (hJ0 : JV (1 + (t + 1)) w0) (ht : t < 100) (hK : ∀ T, LX x (t + 1) T → K (some x) 1 (nI (t + 1)) T) : wj_L_law_426 xs L K (some x) (nI t) xx S := by
  unfold wj_L_law_426
  rw [show nI t - nI t / (5 : Int32) * (5 : Int32) = nI (t % 5) from pk_rem (a := t) (d := 5) (by omega) (by omega) (by omega)]
  by_cases g : t % 5 = 2
  · rw [if_pos (show nI (t % 5) = (2 : Int32) by rw [g] <;> rfl)]
    refine wdr_t h.rc.1.1 ?_
    refine wbt_r (g_cnt0 h) ?_
    obtain ⟨en, h8⟩ := hI.in_
    have h2 := hJ.2.2.1
    generalize a_n w = n at en h8 h2
    obtain ⟨q, hq, eq⟩ := up_n (xx >>> ((9 : Int32) &&& 31)) (n := n) (by omega) (by omega)
    refine wbd_t (show m_L_up (xx >>> ((9 : Int32) &&& 31)) (w 12 0) S = some (a_up (xx >>> ((9 : Int32) &&& 31)) (nI n), S) by rw [en]; exact p_up _ S (by omega) (by omega)) ?_
    rw [eq]
    obtain ⟨S', e1, h'⟩ := q_ahead h hI en h8 hq
    refine wbt_r e1 ?_
    rw [if_neg (show ¬ nI 1 = 0 by decide)]
    exact r_454 h' hI hJ hs0 hI0 hJ0 ht hK
  · rw [if_neg (show ¬ nI (t % 5) = (2 : Int32) from fun z => g ((nI_eq (a := t % 5) (b := 2) (by omega) (by omega)).mp z))]
    exact r_454 h hI hJ hs0 hI0 hJ0 ht hK
theorem r_408 (h : RelC S G x nw w hs nx sl tn tx) (hI : IV w) (hJ : JV (1 + (t + 1)) w) (hs0 : sl 0 = some w0) (hI0 : IV w0) (hJ0 : JV (1 + (t + 1)) w0) (ht : t < 100) (hK : ∀ T, LX x (t + 1) T → K (some x) 1 (nI (t + 1)) T) : wj_L_law_408 xs L K (some x) 1 (nI t) xx S := by
  unfold wj_L_law_408
  rw [if_neg (show ¬ (1 : Int32) = 0 by decide), show nI t - nI t / (3 : Int32) * (3 : Int32) = nI (t % 3) from pk_rem (a := t) (d := 3) (by omega) (by omega) (by omega)]
  by_cases g : 0 < t % 3
  · rw [if_pos (show (0 : Int32) < nI (t % 3) from (nI_ltI (a := 0) (b := t % 3) (by omega) (by omega)).mpr g)]
    exact r_426 h hI hJ hs0 hI0 hJ0 ht hK
  · rw [if_neg (show ¬ (0 : Int32) < nI (t % 3) from fun z => g ((nI_ltI (a := 0) (b := t % 3) (by omega) (by omega)).mp z))]
    obtain ⟨S', e1, h'⟩ := q_holds h hI hJ.2.2.2
    refine wbt_r e1 ?_
    rw [if_neg (show ¬ nI 1 = 0 by decide)]
    exact r_426 h' hI hJ hs0 hI0 hJ0 ht hK
theorem r_306 (h : RelC S G x nw w (v :: tl) nx sl tn tx) (hIv : IV v) (hI : IV w) (hJ : JV (1 + (t + 1)) w) (hs0 : sl 0 = some w0) (hI0 : IV w0) (hJ0 : JV (1 + (t + 1)) w0) (ht : t < 100) (hD : DEED x v w sl xx yy p q y) (hK : ∀ T, LX x (t + 1) T → K (some x) 1 (nI (t + 1)) T) : wj_L_law_306 xs L K (some x) (nI t) xx yy (LK v) (nI p) (nI q) y 1 S := by
  unfold wj_L_law_306
  rw [if_neg (show ¬ (1 : Int32) = 0 by decide)]
  by_cases g : ((xx >>> ((8 : Int32) &&& 31)) &&& (3 : Int32)) = 0
  · rw [if_pos g]
    refine wbt_r (q_looks h hI) ?_
    refine wdr_t h.rc.1.1 ?_
    refine wbt_r (g_cnt11 h) ?_
    rw [wle_t, show nI (v :: tl).length = nI (tl.length + 1) from rfl, nI_pred]
    refine wdr_t h.rc.1.1 ?_
    obtain ⟨S1, u1, _, u2⟩ := k_undo h
    have u1 : m_X4_undo (some x) S = some (.inr (nI tl.length), S1) := u1
    have u2 : RelC S1 G x nw v tl ((nx + 5) % 6) sl tn tx := u2
    refine wbt_r u1 ?_
    rw [if_pos rfl]
    refine wbt_r (q_looks u2 hIv) ?_
    rw [if_pos (lg_refl _)]
    refine wbd_t (p_up xx (n := 16) S1 (by omega) (by omega)) ?_
    refine hD S1 G nw tl _ tn tx u2 _ (fun S' G' h' => ?_)
    unfold wj_L_law_387
    rw [if_pos rfl]
    refine wbt_r (q_looks h' hI) ?_
    rw [if_pos (lg_refl _)]
    exact r_408 h' hI hJ hs0 hI0 hJ0 ht hK
  · rw [if_neg g]
    exact r_408 h hI hJ hs0 hI0 hJ0 ht hK
theorem r_264 (h : RelC S G x nw w (v :: tl) nx sl tn tx) (hIv : IV v) (hI : IV w) (hJ : JV (1 + (t + 1)) w) (hs0 : sl 0 = some w0) (hI0 : IV w0) (hJ0 : JV (1 + (t + 1)) w0) (ht : t < 100) (hD : DEED x v w sl xx yy p q y) (hy : ¬ a_up xx (nI 16) ≤ (13 : Int32) → y = a_why v p q ∧ (0 < y ∨ m_v w nM < m_v v nM)) (hK : ∀ T, LX x (t + 1) T → K (some x) 1 (nI (t + 1)) T) {c1 c2 : Int32} (hc : c1 = c2) : wj_L_law_264 xs L K (some x) (nI t) xx yy (LK v) (nI p) (nI q) (a_why v p q) (nI (m_v v nM)) y c1 c2 S := by
  unfold wj_L_law_264
  rw [if_pos hc]
  refine wbd_t (p_up xx (n := 16) S (by omega) (by omega)) ?_
  by_cases g : a_up xx (nI 16) < (14 : Int32)
  · rw [if_pos g]
    exact r_306 h hIv hI hJ hs0 hI0 hJ0 ht hD hK
  · rw [if_neg g]
    obtain ⟨c, hc16, hcc⟩ := up_n xx (n := 16) (by omega) (by omega)
    have h13 : ¬ a_up xx (nI 16) ≤ (13 : Int32) := by
      rw [hcc] at g ⊢
      intro z
      have z := (nI_leI (a := c) (b := 13) (by omega) (by omega)).mp z
      exact g ((nI_ltI (a := c) (b := 14) (by omega) (by omega)).mpr (by omega))
    obtain ⟨y1, y2⟩ := hy h13
    rw [if_pos y1]
    by_cases g0 : 0 < y
    · rw [if_pos g0]
      exact r_306 h hIv hI hJ hs0 hI0 hJ0 ht hD hK
    · rw [if_neg g0]
      have y3 : m_v w nM < m_v v nM := y2.resolve_left g0
      obtain ⟨S', e1, h'⟩ := g_most h hI (w := 0) (by omega)
      refine wdr_t h.rc.1.1 ?_
      refine wbt_r e1 ?_
      have b1 := m_v64 hIv nM
      rw [if_neg (show ¬ nI (m_v v nM) ≤ nI (m_v w nM) by rw [nI_leI (by omega) (by omega)]; omega)]
      exact r_306 h' hIv hI hJ hs0 hI0 hJ0 ht hD hK
theorem r_231 (h : RelC S G x nw w ((v :: hs).take 6) nx sl tn tx) (hl : hs.length ≤ 6) (hIv : IV v) (hI : IV w) (hJ : JV (1 + (t + 1)) w) (hs0 : sl 0 = some w0) (hI0 : IV w0) (hJ0 : JV (1 + (t + 1)) w0) (ht : t < 100) (hD : DEED x v w sl xx yy p q y) (hy0 : ¬ y < 0) (hy : ¬ a_up xx (nI 16) ≤ (13 : Int32) → y = a_why v p q ∧ (0 < y ∨ m_v w nM < m_v v nM)) (hK : ∀ T, LX x (t + 1) T → K (some x) 1 (nI (t + 1)) T) : wj_L_law_231 xs L K (some x) 1 (nI t) xx yy (LK v) (nI hs.length) (nI p) (nI q) (a_why v p q) (nI (m_v v nM)) y S := by
  unfold wj_L_law_231
  rw [if_neg (show ¬ (1 : Int32) = 0 by decide), if_neg hy0]
  refine wdr_t h.rc.1.1 ?_
  refine wbt_r (g_cnt11 h) ?_
  have el : nI ((v :: hs).take 6).length = nI (min 6 (hs.length + 1)) := by
    rw [List.length_take, List.length_cons]
  rw [el]
  have h : RelC S G x nw w (v :: hs.take 5) nx sl tn tx := h
  by_cases g : 6 ≤ hs.length
  · rw [if_pos (show (6 : Int32) ≤ nI hs.length from (nI_leI (a := 6) (b := hs.length) (by omega) (by omega)).mpr g)]
    exact r_264 h hIv hI hJ hs0 hI0 hJ0 ht hD hy hK (by rw [show min 6 (hs.length + 1) = 6 by omega] <;> rfl)
  · rw [if_neg (show ¬ (6 : Int32) ≤ nI hs.length from fun z => g ((nI_leI (a := 6) (b := hs.length) (by omega) (by omega)).mp z))]
    exact r_264 h hIv hI hJ hs0 hI0 hJ0 ht hD hy hK (by rw [show min 6 (hs.length + 1) = hs.length + 1 by omega]; exact (nI_add _ 1).symm)
theorem r_end (hL : LX x t S) {i4 : Int32} : wj_L_law_489 xs L K (some x) 1 S := by
  obtain ⟨G, nw, v, hs, nx, sl, tn, tx, w0, h, hI, hJ, _⟩ := hL
  unfold wj_L_law_489
  rw [if_neg (show ¬ (1 : Int32) = 0 by decide)]
  obtain ⟨S', e1, h'⟩ := q_holds h hI hJ.2.2.2
  refine wbt_r e1 ?_
  rw [if_neg (show ¬ nI 1 = 0 by decide)]
/-- a round -/
theorem r_round (hX : LX x t S) (hL : L ≤ 260) (ht : t < 40) (hK : ∀ T, LX x (t + 1) T → K (some x) 1 (nI (t + 1)) T) : w_law_round xs L (some x) 1 (nI t) S K := by
  obtain ⟨G, nw, v, hs, nx, sl, tn, tx, w0, h, hI, hJ, hs0, hI0, hJ0⟩ := hX
  obtain ⟨en, h8⟩ := hI.in_
  have h2 := hJ.2.2.1
  generalize a_n v = n at en h8 h2
  obtain ⟨c0, e0⟩ := p_cell xs L hL (k := 2 * t) (by omega)
  obtain ⟨c1, e1⟩ := p_cell xs L hL (k := 2 * t + 1) (by omega)
  unfold w_law_round
  rw [if_neg (show ¬ (40 : Int32) ≤ nI t from fun z => absurd ((nI_leI (a := 40) (b := t) (by omega) (by omega)).mp z) (by omega)), if_neg (show ¬ (1 : Int32) = 0 by decide)]
  rw [show (2 : Int32) * nI t = nI (2 * t) from pk_mul 2 t, show nI (2 * t) + (1 : Int32) = nI (2 * t + 1) from nI_add (2 * t) 1]
  refine wbd_t (e0 S) ?_
  refine wbd_t (e1 S) ?_
  refine wbt_r (q_looks h hI) ?_
  refine wdr_t h.rc.1.1 ?_
  refine wbt_r (g_cnt11 h) ?_
  refine wbd_t (p_up c1 (n := 8) S (by omega) (by omega)) ?_
  refine wdr_t h.rc.1.1 ?_
  refine wbt_r (g_cnt0 h) ?_
  refine wbd_t (show m_L_up (c1 >>> ((3 : Int32) &&& 31)) (v 12 0) S = some (a_up (c1 >>> ((3 : Int32) &&& 31)) (nI n), S) by rw [en]; exact p_up _ S (by omega) (by omega)) ?_
  obtain ⟨p, hp, ep⟩ := up_n c1 (n := 8) (by omega) (by omega)
  obtain ⟨q, hq, eq⟩ := up_n (c1 >>> ((3 : Int32) &&& 31)) (n := n) (by omega) (by omega)
  rw [ep, eq]
  refine wdr_t h.rc.1.1 ?_
  refine wbt_r (g_why h hI en h8 hp hq) ?_
  refine wdr_t h.rc.1.1 ?_
  obtain ⟨S1, e2, h1⟩ := g_most h hI (w := 0) (by omega)
  refine wbt_r e2 ?_
  refine wbt_r (q_looks h1 hI) ?_
  rw [if_pos (lg_refl _)]
  obtain ⟨y, w, y0, hIw, hJw, hy, hD⟩ := q_deed (x := x) (sl := sl) hI hJ (by omega) hs0 hI0 hJ0 en h8 (by omega) hp hq c0 c1
  unfold wj_L_law_199
  refine wbd_t (p_up c0 (n := 16) S1 (by omega) (by omega)) ?_
  refine hD S1 G nw hs nx tn tx h1 _ (fun S' G' h' => ?_)
  exact r_231 h' h1.hn.2.2.2 hI hIw (jv_m hJw (by omega)) hs0 hI0 (jv_m hJ0 (by omega)) (by omega) hD y0 hy hK
theorem r_last (hX : LX x 40 S) : w_law_round xs L (some x) 1 (nI 40) S K := by
  unfold w_law_round
  rw [if_pos (show (40 : Int32) ≤ nI 40 by decide)]
  exact r_end (i4 := 0) hX
end RD
