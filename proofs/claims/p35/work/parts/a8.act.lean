/-! THE LAW'S DEED: what it does to the state, for each case of its switch -/
theorem wq_q {Q : (Nat ⊕ Int32) → PH → Prop} {z : Nat ⊕ Int32} {S : PH} (h : Q z S) : wq (fun v S => Q (.inr v) S) (fun j S => Q (.inl j) S) z S := by
  cases z
  · exact h
  · exact h
/-- W changes the state v of the object at x to one that is as good, and answers no less than 0: the same for every pool -/
def DOES (x : Nat) (v : AS) (sl : Nat → Option AS) (b : Nat) (W : PH → ((Nat ⊕ Int32) → PH → Prop) → Prop) : Prop := ∃ y w, ¬ y < 0 ∧ IV w ∧ JV (b + 1) w ∧ ∀ S G nw hs nx tn tx, RelC S G x nw v hs nx sl tn tx → ∀ Q, (∀ S' G', RelC S' G' x nw w ((v :: hs).take 6) ((nx + 1) % 6) sl tn tx → Q (.inr y) S') → W S Q
section DO
variable {x : Nat} {v : AS} {sl : Nat → Option AS} {b : Nat} {W : PH → ((Nat ⊕ Int32) → PH → Prop) → Prop}
theorem does_of {f : (Nat ⊕ Int32) × Option AS} (hO : OKF b f) (hk : ∀ S G nw hs nx tn tx, RelC S G x nw v hs nx sl tn tx → ∀ Q, (∀ S' G', RelO S' G' x nw v hs nx sl tn tx f.2 → fc S G S' G' → Q f.1 S') → W S Q) : DOES x v sl b W := by
  obtain ⟨y, w, rfl, hy, hI, hJ⟩ := hO
  exact ⟨y, w, hy, hI, hJ, fun S G nw hs nx tn tx h Q hQ => hk S G nw hs nx tn tx h Q (fun S' G' h' _ => hQ S' G' h')⟩
theorem row_m (hI : IV v) {p q : Nat} (hp : p < 8) (hq : q < 8) (h : ¬ v (20 + q) p < 0) : v (20 + q) p ≠ nM := fun z => h (by rw [z]; decide)

theorem act_0 (hI : IV v) (hJ : JV b v) (hb : b < 900) {n : Nat} (hn : v 12 0 = nI n) (h8 : n ≤ 8) (h1 : 0 < n) (i1 i2 : Int32) (hc : a_up i1 (nI 16) = nI 0) : DOES x v sl b (fun S Q => w_L_act (some x) i1 i2 S Q) := by
  have en := an_e hn h8
  obtain ⟨p, hp8, hp⟩ := up_n i2 (n := 8) (by omega) (by omega)
  obtain ⟨q, hqn, hq⟩ := up_n (i2 >>> ((3 : Int32) &&& 31)) (n := n) h1 (by omega)
  have hqa : q < a_n v := by rw [en]; exact hqn
  by_cases hf : 8 ≤ n
  · refine does_of (f := f_week v) (week_ok hI hJ hb) (fun S G nw hs nx tn tx h Q hQ => ?_)
    unfold w_L_act
    refine wbd_t (p_up i2 (n := 8) S (by omega) (by omega)) ?_
    refine wdr_t h.rc.1.1 ?_
    refine wbt_r (g_cnt0 h) ?_
    refine wbd_t (show m_L_up (i2 >>> ((3 : Int32) &&& 31)) (v 12 0) S = some (a_up (i2 >>> ((3 : Int32) &&& 31)) (nI n), S) by rw [hn]; exact p_up _ S h1 (by omega)) ?_
    refine wbd_t (p_up i1 (n := 16) S (by omega) (by omega)) ?_
    rw [hc, hp, hq]
    rw [if_pos (show nI 0 = (0 : Int32) from rfl)]
    refine wdr_t h.rc.1.1 ?_
    refine wbt_r (g_cnt0 h) ?_
    rw [if_pos (show (8 : Int32) ≤ v 12 0 by rw [hn]; exact (nI_leI (a := 8) (b := n) (by omega) (by omega)).mpr hf)]
    refine wdr_t h.rc.1.1 ?_
    exact k_week h hI (fun S' G' a1 a2 => wq_q (hQ S' G' a1 a2))
  · obtain ⟨k4, h4, e4⟩ := up_n i2 (n := 4) (by omega) (by omega)
    obtain ⟨k5, h5, e5⟩ := up_n (i2 >>> ((2 : Int32) &&& 31)) (n := 255) (by omega) (by omega)
    refine does_of (f := f_paper v (nI k4) (nI (1 + k5))) (paper_ok hI hJ (by rw [en]; omega) (by omega) (by omega) (by omega)) (fun S G nw hs nx tn tx h Q hQ => ?_)
    unfold w_L_act
    refine wbd_t (p_up i2 (n := 8) S (by omega) (by omega)) ?_
    refine wdr_t h.rc.1.1 ?_
    refine wbt_r (g_cnt0 h) ?_
    refine wbd_t (show m_L_up (i2 >>> ((3 : Int32) &&& 31)) (v 12 0) S = some (a_up (i2 >>> ((3 : Int32) &&& 31)) (nI n), S) by rw [hn]; exact p_up _ S h1 (by omega)) ?_
    refine wbd_t (p_up i1 (n := 16) S (by omega) (by omega)) ?_
    rw [hc, hp, hq]
    rw [if_pos (show nI 0 = (0 : Int32) from rfl)]
    refine wdr_t h.rc.1.1 ?_
    refine wbt_r (g_cnt0 h) ?_
    rw [if_neg (show ¬ (8 : Int32) ≤ v 12 0 by rw [hn]; exact fun z => hf ((nI_leI (a := 8) (b := n) (by omega) (by omega)).mp z))]
    refine wbd_t (p_up i2 (n := 4) S (by omega) (by omega)) ?_
    refine wbd_t (p_up _ (n := 255) S (by omega) (by omega)) ?_
    refine wdr_t h.rc.1.1 ?_
    rw [e4, e5, show (1 : Int32) + nI k5 = nI (1 + k5) from nI_add 1 k5]
    exact k_paper h hI (nI k4) (nI (1 + k5)) (fun S' G' a1 a2 => wq_q (hQ S' G' a1 a2))
theorem act_1 (hI : IV v) (hJ : JV b v) (hb : b < 900) {n : Nat} (hn : v 12 0 = nI n) (h8 : n ≤ 8) (h1 : 0 < n) (i1 i2 : Int32) (hc : a_up i1 (nI 16) = nI 1) : DOES x v sl b (fun S Q => w_L_act (some x) i1 i2 S Q) := by
  have en := an_e hn h8
  obtain ⟨p, hp8, hp⟩ := up_n i2 (n := 8) (by omega) (by omega)
  obtain ⟨q, hqn, hq⟩ := up_n (i2 >>> ((3 : Int32) &&& 31)) (n := n) h1 (by omega)
  have hqa : q < a_n v := by rw [en]; exact hqn
  obtain ⟨k4, h4, e4⟩ := up_n (i2 >>> ((4 : Int32) &&& 31)) (n := 16) (by omega) (by omega)
  refine does_of (f := f_topics v (nI p) (nI k4)) (topics_ok hI hJ hp8 (by omega)) (fun S G nw hs nx tn tx h Q hQ => ?_)
  unfold w_L_act
  refine wbd_t (p_up i2 (n := 8) S (by omega) (by omega)) ?_
  refine wdr_t h.rc.1.1 ?_
  refine wbt_r (g_cnt0 h) ?_
  refine wbd_t (show m_L_up (i2 >>> ((3 : Int32) &&& 31)) (v 12 0) S = some (a_up (i2 >>> ((3 : Int32) &&& 31)) (nI n), S) by rw [hn]; exact p_up _ S h1 (by omega)) ?_
  refine wbd_t (p_up i1 (n := 16) S (by omega) (by omega)) ?_
  rw [hc, hp, hq]
  rw [if_neg (by decide)]; rw [if_pos (show nI 1 = (1 : Int32) from rfl)]
  refine wbd_t (p_up _ (n := 16) S (by omega) (by omega)) ?_
  refine wdr_t h.rc.1.1 ?_
  rw [e4]
  exact k_topics h hI (nI p) (nI k4) (fun S' G' a1 a2 => wq_q (hQ S' G' a1 a2))
theorem act_2 (hI : IV v) (hJ : JV b v) (hb : b < 900) {n : Nat} (hn : v 12 0 = nI n) (h8 : n ≤ 8) (h1 : 0 < n) (i1 i2 : Int32) (hc : a_up i1 (nI 16) = nI 2) : DOES x v sl b (fun S Q => w_L_act (some x) i1 i2 S Q) := by
  have en := an_e hn h8
  obtain ⟨p, hp8, hp⟩ := up_n i2 (n := 8) (by omega) (by omega)
  obtain ⟨q, hqn, hq⟩ := up_n (i2 >>> ((3 : Int32) &&& 31)) (n := n) h1 (by omega)
  have hqa : q < a_n v := by rw [en]; exact hqn
  obtain ⟨k4, h4, e4⟩ := up_n (i2 >>> ((5 : Int32) &&& 31)) (n := 7) (by omega) (by omega)
  refine does_of (f := f_meet v (nI p) (nI ((p + 1 + k4) % 8))) (meet_ok hI hJ hp8 (by omega) (by omega)) (fun S G nw hs nx tn tx h Q hQ => ?_)
  unfold w_L_act
  refine wbd_t (p_up i2 (n := 8) S (by omega) (by omega)) ?_
  refine wdr_t h.rc.1.1 ?_
  refine wbt_r (g_cnt0 h) ?_
  refine wbd_t (show m_L_up (i2 >>> ((3 : Int32) &&& 31)) (v 12 0) S = some (a_up (i2 >>> ((3 : Int32) &&& 31)) (nI n), S) by rw [hn]; exact p_up _ S h1 (by omega)) ?_
  refine wbd_t (p_up i1 (n := 16) S (by omega) (by omega)) ?_
  rw [hc, hp, hq]
  rw [if_neg (by decide)]; rw [if_neg (by decide)]; rw [if_pos (show nI 2 = (2 : Int32) from rfl)]
  refine wbd_t (p_up _ (n := 7) S (by omega) (by omega)) ?_
  refine wdr_t h.rc.1.1 ?_
  rw [e4, show nI p + (1 : Int32) = nI (p + 1) from nI_add p 1, nI_add, show nI (p + 1 + k4) - nI (p + 1 + k4) / (8 : Int32) * (8 : Int32) = nI ((p + 1 + k4) % 8) from pk_rem (a := p + 1 + k4) (d := 8) (by omega) (by omega) (by omega)]
  exact k_meet h hI (nI p) (nI ((p + 1 + k4) % 8)) (fun S' G' a1 a2 => wq_q (hQ S' G' a1 a2))
theorem act_3 (hI : IV v) (hJ : JV b v) (hb : b < 900) {n : Nat} (hn : v 12 0 = nI n) (h8 : n ≤ 8) (h1 : 0 < n) (i1 i2 : Int32) (hc : a_up i1 (nI 16) = nI 3) : DOES x v sl b (fun S Q => w_L_act (some x) i1 i2 S Q) := by
  have en := an_e hn h8
  obtain ⟨p, hp8, hp⟩ := up_n i2 (n := 8) (by omega) (by omega)
  obtain ⟨q, hqn, hq⟩ := up_n (i2 >>> ((3 : Int32) &&& 31)) (n := n) h1 (by omega)
  have hqa : q < a_n v := by rw [en]; exact hqn
  obtain ⟨s, h4, e4⟩ := up_n i2 (n := 4) (by omega) (by omega)
  by_cases s0 : s = 0
  · subst s0
    obtain ⟨k, hk, ek⟩ := up_n (i2 >>> ((2 : Int32) &&& 31)) (n := 4) (by omega) (by omega)
    refine does_of (f := f_set v (nI 0) (nI (1 + k))) (set_ok hI hJ (by omega)) (fun S G nw hs nx tn tx h Q hQ => ?_)
    unfold w_L_act
    refine wbd_t (p_up i2 (n := 8) S (by omega) (by omega)) ?_
    refine wdr_t h.rc.1.1 ?_
    refine wbt_r (g_cnt0 h) ?_
    refine wbd_t (show m_L_up (i2 >>> ((3 : Int32) &&& 31)) (v 12 0) S = some (a_up (i2 >>> ((3 : Int32) &&& 31)) (nI n), S) by rw [hn]; exact p_up _ S h1 (by omega)) ?_
    refine wbd_t (p_up i1 (n := 16) S (by omega) (by omega)) ?_
    rw [hc, hp, hq]
    rw [if_neg (by decide)]; rw [if_neg (by decide)]; rw [if_neg (by decide)]; rw [if_pos (show nI 3 = (3 : Int32) from rfl)]
    refine wbd_t (p_up i2 (n := 4) S (by omega) (by omega)) ?_
    rw [e4, if_pos (show nI 0 = 0 from rfl)]
    refine wbd_t (p_up _ (n := 4) S (by omega) (by omega)) ?_
    rw [ek, show (1 : Int32) + nI k = nI (1 + k) from nI_add 1 k]
    unfold wj_L_act_214
    refine wdr_t h.rc.1.1 ?_
    exact k_set h hI (nI 0) (nI (1 + k)) (fun S' G' a1 a2 => wq_q (hQ S' G' a1 a2))
  · by_cases s2 : s = 2
    · subst s2
      obtain ⟨k, hk, ek⟩ := up_n (i2 >>> ((2 : Int32) &&& 31)) (n := 10) (by omega) (by omega)
      refine does_of (f := f_set v (nI 2) (nI k)) (set_ok hI hJ (by omega)) (fun S G nw hs nx tn tx h Q hQ => ?_)
      unfold w_L_act
      refine wbd_t (p_up i2 (n := 8) S (by omega) (by omega)) ?_
      refine wdr_t h.rc.1.1 ?_
      refine wbt_r (g_cnt0 h) ?_
      refine wbd_t (show m_L_up (i2 >>> ((3 : Int32) &&& 31)) (v 12 0) S = some (a_up (i2 >>> ((3 : Int32) &&& 31)) (nI n), S) by rw [hn]; exact p_up _ S h1 (by omega)) ?_
      refine wbd_t (p_up i1 (n := 16) S (by omega) (by omega)) ?_
      rw [hc, hp, hq]
      rw [if_neg (by decide)]; rw [if_neg (by decide)]; rw [if_neg (by decide)]; rw [if_pos (show nI 3 = (3 : Int32) from rfl)]
      refine wbd_t (p_up i2 (n := 4) S (by omega) (by omega)) ?_
      rw [e4, if_neg (show ¬ nI 2 = 0 by decide), if_pos (show nI 2 = (2 : Int32) from rfl)]
      unfold wj_L_act_211
      refine wbd_t (p_up _ (n := 10) S (by omega) (by omega)) ?_
      rw [ek]
      unfold wj_L_act_214
      refine wdr_t h.rc.1.1 ?_
      exact k_set h hI (nI 2) (nI k) (fun S' G' a1 a2 => wq_q (hQ S' G' a1 a2))
    · obtain ⟨k, hk, ek⟩ := up_n (i2 >>> ((2 : Int32) &&& 31)) (n := 3) (by omega) (by omega)
      refine does_of (f := f_set v (nI s) (nI k)) (set_ok hI hJ (by omega)) (fun S G nw hs nx tn tx h Q hQ => ?_)
      unfold w_L_act
      refine wbd_t (p_up i2 (n := 8) S (by omega) (by omega)) ?_
      refine wdr_t h.rc.1.1 ?_
      refine wbt_r (g_cnt0 h) ?_
      refine wbd_t (show m_L_up (i2 >>> ((3 : Int32) &&& 31)) (v 12 0) S = some (a_up (i2 >>> ((3 : Int32) &&& 31)) (nI n), S) by rw [hn]; exact p_up _ S h1 (by omega)) ?_
      refine wbd_t (p_up i1 (n := 16) S (by omega) (by omega)) ?_
      rw [hc, hp, hq]
      rw [if_neg (by decide)]; rw [if_neg (by decide)]; rw [if_neg (by decide)]; rw [if_pos (show nI 3 = (3 : Int32) from rfl)]
      refine wbd_t (p_up i2 (n := 4) S (by omega) (by omega)) ?_
      rw [e4, if_neg (show ¬ nI s = 0 from fun z => s0 ((nI_eq (a := s) (b := 0) (by omega) (by omega)).mp z)), if_neg (show ¬ nI s = (2 : Int32) from fun z => s2 ((nI_eq (a := s) (b := 2) (by omega) (by omega)).mp z))]
      unfold wj_L_act_211
      refine wbd_t (p_up _ (n := 3) S (by omega) (by omega)) ?_
      rw [ek]
      unfold wj_L_act_214
      refine wdr_t h.rc.1.1 ?_
      exact k_set h hI (nI s) (nI k) (fun S' G' a1 a2 => wq_q (hQ S' G' a1 a2))
theorem act_4 (hI : IV v) (hJ : JV b v) (hb : b < 900) {n : Nat} (hn : v 12 0 = nI n) (h8 : n ≤ 8) (h1 : 0 < n) (i1 i2 : Int32) (hc : a_up i1 (nI 16) = nI 4) : DOES x v sl b (fun S Q => w_L_act (some x) i1 i2 S Q) := by
  have en := an_e hn h8
  obtain ⟨p, hp8, hp⟩ := up_n i2 (n := 8) (by omega) (by omega)
  obtain ⟨q, hqn, hq⟩ := up_n (i2 >>> ((3 : Int32) &&& 31)) (n := n) h1 (by omega)
  have hqa : q < a_n v := by rw [en]; exact hqn
  refine does_of (f := f_week v) (week_ok hI hJ hb) (fun S G nw hs nx tn tx h Q hQ => ?_)
  unfold w_L_act
  refine wbd_t (p_up i2 (n := 8) S (by omega) (by omega)) ?_
  refine wdr_t h.rc.1.1 ?_
  refine wbt_r (g_cnt0 h) ?_
  refine wbd_t (show m_L_up (i2 >>> ((3 : Int32) &&& 31)) (v 12 0) S = some (a_up (i2 >>> ((3 : Int32) &&& 31)) (nI n), S) by rw [hn]; exact p_up _ S h1 (by omega)) ?_
  refine wbd_t (p_up i1 (n := 16) S (by omega) (by omega)) ?_
  rw [hc, hp, hq]
  rw [if_neg (by decide)]; rw [if_neg (by decide)]; rw [if_neg (by decide)]; rw [if_neg (by decide)]; rw [if_pos (show nI 4 = (4 : Int32) from rfl)]
  refine wdr_t h.rc.1.1 ?_
  exact k_week h hI (fun S' G' a1 a2 => wq_q (hQ S' G' a1 a2))
theorem act_5 (hI : IV v) (hJ : JV b v) (hb : b < 900) {n : Nat} (hn : v 12 0 = nI n) (h8 : n ≤ 8) (h1 : 0 < n) (i1 i2 : Int32) (hc : a_up i1 (nI 16) = nI 5) : DOES x v sl b (fun S Q => w_L_act (some x) i1 i2 S Q) := by
  have en := an_e hn h8
  obtain ⟨p, hp8, hp⟩ := up_n i2 (n := 8) (by omega) (by omega)
  obtain ⟨q, hqn, hq⟩ := up_n (i2 >>> ((3 : Int32) &&& 31)) (n := n) h1 (by omega)
  have hqa : q < a_n v := by rw [en]; exact hqn
  refine does_of (f := f_week v) (week_ok hI hJ hb) (fun S G nw hs nx tn tx h Q hQ => ?_)
  unfold w_L_act
  refine wbd_t (p_up i2 (n := 8) S (by omega) (by omega)) ?_
  refine wdr_t h.rc.1.1 ?_
  refine wbt_r (g_cnt0 h) ?_
  refine wbd_t (show m_L_up (i2 >>> ((3 : Int32) &&& 31)) (v 12 0) S = some (a_up (i2 >>> ((3 : Int32) &&& 31)) (nI n), S) by rw [hn]; exact p_up _ S h1 (by omega)) ?_
  refine wbd_t (p_up i1 (n := 16) S (by omega) (by omega)) ?_
  rw [hc, hp, hq]
  rw [if_neg (by decide)]; rw [if_neg (by decide)]; rw [if_neg (by decide)]; rw [if_neg (by decide)]; rw [if_neg (by decide)]; rw [if_pos (show nI 5 = (5 : Int32) from rfl)]
  refine wdr_t h.rc.1.1 ?_
  exact k_week h hI (fun S' G' a1 a2 => wq_q (hQ S' G' a1 a2))
theorem act_6 (hI : IV v) (hJ : JV b v) (hb : b < 900) {n : Nat} (hn : v 12 0 = nI n) (h8 : n ≤ 8) (h1 : 0 < n) (i1 i2 : Int32) (hc : a_up i1 (nI 16) = nI 6) : DOES x v sl b (fun S Q => w_L_act (some x) i1 i2 S Q) := by
  have en := an_e hn h8
  obtain ⟨p, hp8, hp⟩ := up_n i2 (n := 8) (by omega) (by omega)
  obtain ⟨q, hqn, hq⟩ := up_n (i2 >>> ((3 : Int32) &&& 31)) (n := n) h1 (by omega)
  have hqa : q < a_n v := by rw [en]; exact hqn
  refine does_of (f := f_discuss v (nI q)) (discuss_ok hI hJ hqa) (fun S G nw hs nx tn tx h Q hQ => ?_)
  unfold w_L_act
  refine wbd_t (p_up i2 (n := 8) S (by omega) (by omega)) ?_
  refine wdr_t h.rc.1.1 ?_
  refine wbt_r (g_cnt0 h) ?_
  refine wbd_t (show m_L_up (i2 >>> ((3 : Int32) &&& 31)) (v 12 0) S = some (a_up (i2 >>> ((3 : Int32) &&& 31)) (nI n), S) by rw [hn]; exact p_up _ S h1 (by omega)) ?_
  refine wbd_t (p_up i1 (n := 16) S (by omega) (by omega)) ?_
  rw [hc, hp, hq]
  rw [if_neg (by decide)]; rw [if_neg (by decide)]; rw [if_neg (by decide)]; rw [if_neg (by decide)]; rw [if_neg (by decide)]; rw [if_neg (by decide)]; rw [if_pos (show nI 6 = (6 : Int32) from rfl)]
  refine wdr_t h.rc.1.1 ?_
  exact k_discuss h hI (nI q) (fun S' G' a1 a2 => wq_q (hQ S' G' a1 a2))
theorem act_7 (hI : IV v) (hJ : JV b v) (hb : b < 900) {n : Nat} (hn : v 12 0 = nI n) (h8 : n ≤ 8) (h1 : 0 < n) (i1 i2 : Int32) (hc : a_up i1 (nI 16) = nI 7) : DOES x v sl b (fun S Q => w_L_act (some x) i1 i2 S Q) := by
  have en := an_e hn h8
  obtain ⟨p, hp8, hp⟩ := up_n i2 (n := 8) (by omega) (by omega)
  obtain ⟨q, hqn, hq⟩ := up_n (i2 >>> ((3 : Int32) &&& 31)) (n := n) h1 (by omega)
  have hqa : q < a_n v := by rw [en]; exact hqn
  refine does_of (f := f_rebut v (nI q)) (rebut_ok hI hJ hqa) (fun S G nw hs nx tn tx h Q hQ => ?_)
  unfold w_L_act
  refine wbd_t (p_up i2 (n := 8) S (by omega) (by omega)) ?_
  refine wdr_t h.rc.1.1 ?_
  refine wbt_r (g_cnt0 h) ?_
  refine wbd_t (show m_L_up (i2 >>> ((3 : Int32) &&& 31)) (v 12 0) S = some (a_up (i2 >>> ((3 : Int32) &&& 31)) (nI n), S) by rw [hn]; exact p_up _ S h1 (by omega)) ?_
  refine wbd_t (p_up i1 (n := 16) S (by omega) (by omega)) ?_
  rw [hc, hp, hq]
  rw [if_neg (by decide)]; rw [if_neg (by decide)]; rw [if_neg (by decide)]; rw [if_neg (by decide)]; rw [if_neg (by decide)]; rw [if_neg (by decide)]; rw [if_neg (by decide)]; rw [if_pos (show nI 7 = (7 : Int32) from rfl)]
  refine wdr_t h.rc.1.1 ?_
  exact k_rebut h hI (nI q) (fun S' G' a1 a2 => wq_q (hQ S' G' a1 a2))
theorem act_8 (hI : IV v) (hJ : JV b v) (hb : b < 900) {n : Nat} (hn : v 12 0 = nI n) (h8 : n ≤ 8) (h1 : 0 < n) (i1 i2 : Int32) (hc : a_up i1 (nI 16) = nI 8) : DOES x v sl b (fun S Q => w_L_act (some x) i1 i2 S Q) := by
  have en := an_e hn h8
  obtain ⟨p, hp8, hp⟩ := up_n i2 (n := 8) (by omega) (by omega)
  obtain ⟨q, hqn, hq⟩ := up_n (i2 >>> ((3 : Int32) &&& 31)) (n := n) h1 (by omega)
  have hqa : q < a_n v := by rw [en]; exact hqn
  by_cases hd : a_cd v q = true
  · have e9 : a_pap v q 9 = nI 1 := if_pos hd
    refine does_of (f := f_decide v (nI q)) (decide_ok hI hJ hqa hd) (fun S G nw hs nx tn tx h Q hQ => ?_)
    unfold w_L_act
    refine wbd_t (p_up i2 (n := 8) S (by omega) (by omega)) ?_
    refine wdr_t h.rc.1.1 ?_
    refine wbt_r (g_cnt0 h) ?_
    refine wbd_t (show m_L_up (i2 >>> ((3 : Int32) &&& 31)) (v 12 0) S = some (a_up (i2 >>> ((3 : Int32) &&& 31)) (nI n), S) by rw [hn]; exact p_up _ S h1 (by omega)) ?_
    refine wbd_t (p_up i1 (n := 16) S (by omega) (by omega)) ?_
    rw [hc, hp, hq]
    rw [if_neg (by decide)]; rw [if_neg (by decide)]; rw [if_neg (by decide)]; rw [if_neg (by decide)]; rw [if_neg (by decide)]; rw [if_neg (by decide)]; rw [if_neg (by decide)]; rw [if_neg (by decide)]; rw [if_pos (show nI 8 = (8 : Int32) from rfl)]
    refine wdr_t h.rc.1.1 ?_
    refine wbt_r (g_pap h hI hn h8 hqn (w := 9) (by omega)) ?_
    rw [if_pos (show a_pap v q 9 = (1 : Int32) from e9)]
    refine wdr_t h.rc.1.1 ?_
    exact k_decide h hI (nI q) (fun S' G' a1 a2 => wq_q (hQ S' G' a1 a2))
  · have e9 : ¬ a_pap v q 9 = (1 : Int32) := by rw [show a_pap v q 9 = nI 0 from if_neg hd]; decide
    refine does_of (f := f_take v (nI p) (nI q)) (take_ok hI hJ hp8 hqa) (fun S G nw hs nx tn tx h Q hQ => ?_)
    unfold w_L_act
    refine wbd_t (p_up i2 (n := 8) S (by omega) (by omega)) ?_
    refine wdr_t h.rc.1.1 ?_
    refine wbt_r (g_cnt0 h) ?_
    refine wbd_t (show m_L_up (i2 >>> ((3 : Int32) &&& 31)) (v 12 0) S = some (a_up (i2 >>> ((3 : Int32) &&& 31)) (nI n), S) by rw [hn]; exact p_up _ S h1 (by omega)) ?_
    refine wbd_t (p_up i1 (n := 16) S (by omega) (by omega)) ?_
    rw [hc, hp, hq]
    rw [if_neg (by decide)]; rw [if_neg (by decide)]; rw [if_neg (by decide)]; rw [if_neg (by decide)]; rw [if_neg (by decide)]; rw [if_neg (by decide)]; rw [if_neg (by decide)]; rw [if_neg (by decide)]; rw [if_pos (show nI 8 = (8 : Int32) from rfl)]
    refine wdr_t h.rc.1.1 ?_
    refine wbt_r (g_pap h hI hn h8 hqn (w := 9) (by omega)) ?_
    rw [if_neg e9]
    refine wdr_t h.rc.1.1 ?_
    exact k_take h hI (nI p) (nI q) (fun S' G' a1 a2 => wq_q (hQ S' G' a1 a2))
theorem act_9 (hI : IV v) (hJ : JV b v) (hb : b < 900) {n : Nat} (hn : v 12 0 = nI n) (h8 : n ≤ 8) (h1 : 0 < n) (i1 i2 : Int32) (hc : a_up i1 (nI 16) = nI 9) : DOES x v sl b (fun S Q => w_L_act (some x) i1 i2 S Q) := by
  have en := an_e hn h8
  obtain ⟨p, hp8, hp⟩ := up_n i2 (n := 8) (by omega) (by omega)
  obtain ⟨q, hqn, hq⟩ := up_n (i2 >>> ((3 : Int32) &&& 31)) (n := n) h1 (by omega)
  have hqa : q < a_n v := by rw [en]; exact hqn
  by_cases hd : v (20 + q) p = nI 10
  · refine does_of (f := f_drop v (nI p) (nI q)) (drop_ok hI hJ hp8 hqa hd) (fun S G nw hs nx tn tx h Q hQ => ?_)
    unfold w_L_act
    refine wbd_t (p_up i2 (n := 8) S (by omega) (by omega)) ?_
    refine wdr_t h.rc.1.1 ?_
    refine wbt_r (g_cnt0 h) ?_
    refine wbd_t (show m_L_up (i2 >>> ((3 : Int32) &&& 31)) (v 12 0) S = some (a_up (i2 >>> ((3 : Int32) &&& 31)) (nI n), S) by rw [hn]; exact p_up _ S h1 (by omega)) ?_
    refine wbd_t (p_up i1 (n := 16) S (by omega) (by omega)) ?_
    rw [hc, hp, hq]
    rw [if_neg (by decide)]; rw [if_neg (by decide)]; rw [if_neg (by decide)]; rw [if_neg (by decide)]; rw [if_neg (by decide)]; rw [if_neg (by decide)]; rw [if_neg (by decide)]; rw [if_neg (by decide)]; rw [if_neg (by decide)]; rw [if_pos (show nI 9 = (9 : Int32) from rfl)]
    refine wdr_t h.rc.1.1 ?_
    refine wbt_r (g_sco h hI hn h8 hp8 hqn) ?_
    rw [if_pos (show v (20 + q) p = (10 : Int32) from hd)]
    refine wdr_t h.rc.1.1 ?_
    exact k_drop h hI (nI p) (nI q) (fun S' G' a1 a2 => wq_q (hQ S' G' a1 a2))
  · refine does_of (f := f_take v (nI p) (nI q)) (take_ok hI hJ hp8 hqa) (fun S G nw hs nx tn tx h Q hQ => ?_)
    unfold w_L_act
    refine wbd_t (p_up i2 (n := 8) S (by omega) (by omega)) ?_
    refine wdr_t h.rc.1.1 ?_
    refine wbt_r (g_cnt0 h) ?_
    refine wbd_t (show m_L_up (i2 >>> ((3 : Int32) &&& 31)) (v 12 0) S = some (a_up (i2 >>> ((3 : Int32) &&& 31)) (nI n), S) by rw [hn]; exact p_up _ S h1 (by omega)) ?_
    refine wbd_t (p_up i1 (n := 16) S (by omega) (by omega)) ?_
    rw [hc, hp, hq]
    rw [if_neg (by decide)]; rw [if_neg (by decide)]; rw [if_neg (by decide)]; rw [if_neg (by decide)]; rw [if_neg (by decide)]; rw [if_neg (by decide)]; rw [if_neg (by decide)]; rw [if_neg (by decide)]; rw [if_neg (by decide)]; rw [if_pos (show nI 9 = (9 : Int32) from rfl)]
    refine wdr_t h.rc.1.1 ?_
    refine wbt_r (g_sco h hI hn h8 hp8 hqn) ?_
    rw [if_neg (show ¬ v (20 + q) p = (10 : Int32) from hd)]
    refine wdr_t h.rc.1.1 ?_
    exact k_take h hI (nI p) (nI q) (fun S' G' a1 a2 => wq_q (hQ S' G' a1 a2))
theorem act_10 (hI : IV v) (hJ : JV b v) (hb : b < 900) {n : Nat} (hn : v 12 0 = nI n) (h8 : n ≤ 8) (h1 : 0 < n) (i1 i2 : Int32) (hc : a_up i1 (nI 16) = nI 10) : DOES x v sl b (fun S Q => w_L_act (some x) i1 i2 S Q) := by
  have en := an_e hn h8
  obtain ⟨p, hp8, hp⟩ := up_n i2 (n := 8) (by omega) (by omega)
  obtain ⟨q, hqn, hq⟩ := up_n (i2 >>> ((3 : Int32) &&& 31)) (n := n) h1 (by omega)
  have hqa : q < a_n v := by rw [en]; exact hqn
  by_cases hd : v (20 + q) p < 0
  · refine does_of (f := f_take v (nI p) (nI q)) (take_ok hI hJ hp8 hqa) (fun S G nw hs nx tn tx h Q hQ => ?_)
    unfold w_L_act
    refine wbd_t (p_up i2 (n := 8) S (by omega) (by omega)) ?_
    refine wdr_t h.rc.1.1 ?_
    refine wbt_r (g_cnt0 h) ?_
    refine wbd_t (show m_L_up (i2 >>> ((3 : Int32) &&& 31)) (v 12 0) S = some (a_up (i2 >>> ((3 : Int32) &&& 31)) (nI n), S) by rw [hn]; exact p_up _ S h1 (by omega)) ?_
    refine wbd_t (p_up i1 (n := 16) S (by omega) (by omega)) ?_
    rw [hc, hp, hq]
    rw [if_neg (by decide)]; rw [if_neg (by decide)]; rw [if_neg (by decide)]; rw [if_neg (by decide)]; rw [if_neg (by decide)]; rw [if_neg (by decide)]; rw [if_neg (by decide)]; rw [if_neg (by decide)]; rw [if_neg (by decide)]; rw [if_neg (by decide)]; rw [if_pos (show nI 10 = (10 : Int32) from rfl)]
    refine wdr_t h.rc.1.1 ?_
    refine wbt_r (g_sco h hI hn h8 hp8 hqn) ?_
    rw [if_pos hd]
    unfold wj_L_act_336
    refine wdr_t h.rc.1.1 ?_
    exact k_take h hI (nI p) (nI q) (fun S' G' a1 a2 => wq_q (hQ S' G' a1 a2))
  · by_cases h9 : v 9 q = nI 0
    · obtain ⟨k, hk, ek⟩ := up_n (i2 >>> ((7 : Int32) &&& 31)) (n := 10) (by omega) (by omega)
      refine does_of (f := f_write v (nI p) (nI q) (nI k)) (write_ok hI hJ hp8 hqa (row_m hI hp8 (by omega) hd) h9 (by omega)) (fun S G nw hs nx tn tx h Q hQ => ?_)
      unfold w_L_act
      refine wbd_t (p_up i2 (n := 8) S (by omega) (by omega)) ?_
      refine wdr_t h.rc.1.1 ?_
      refine wbt_r (g_cnt0 h) ?_
      refine wbd_t (show m_L_up (i2 >>> ((3 : Int32) &&& 31)) (v 12 0) S = some (a_up (i2 >>> ((3 : Int32) &&& 31)) (nI n), S) by rw [hn]; exact p_up _ S h1 (by omega)) ?_
      refine wbd_t (p_up i1 (n := 16) S (by omega) (by omega)) ?_
      rw [hc, hp, hq]
      rw [if_neg (by decide)]; rw [if_neg (by decide)]; rw [if_neg (by decide)]; rw [if_neg (by decide)]; rw [if_neg (by decide)]; rw [if_neg (by decide)]; rw [if_neg (by decide)]; rw [if_neg (by decide)]; rw [if_neg (by decide)]; rw [if_neg (by decide)]; rw [if_pos (show nI 10 = (10 : Int32) from rfl)]
      refine wdr_t h.rc.1.1 ?_
      refine wbt_r (g_sco h hI hn h8 hp8 hqn) ?_
      rw [if_neg hd]
      refine wdr_t h.rc.1.1 ?_
      refine wbt_r (g_pap h hI hn h8 hqn (w := 8) (by omega)) ?_
      rw [if_pos (show a_pap v q 8 = 0 from h9)]
      refine wbd_t (p_up _ (n := 10) S (by omega) (by omega)) ?_
      refine wdr_t h.rc.1.1 ?_
      rw [ek]
      exact k_write h hI (nI p) (nI q) (nI k) (fun S' G' a1 a2 => wq_q (hQ S' G' a1 a2))
    · refine does_of (f := f_take v (nI p) (nI q)) (take_ok hI hJ hp8 hqa) (fun S G nw hs nx tn tx h Q hQ => ?_)
      unfold w_L_act
      refine wbd_t (p_up i2 (n := 8) S (by omega) (by omega)) ?_
      refine wdr_t h.rc.1.1 ?_
      refine wbt_r (g_cnt0 h) ?_
      refine wbd_t (show m_L_up (i2 >>> ((3 : Int32) &&& 31)) (v 12 0) S = some (a_up (i2 >>> ((3 : Int32) &&& 31)) (nI n), S) by rw [hn]; exact p_up _ S h1 (by omega)) ?_
      refine wbd_t (p_up i1 (n := 16) S (by omega) (by omega)) ?_
      rw [hc, hp, hq]
      rw [if_neg (by decide)]; rw [if_neg (by decide)]; rw [if_neg (by decide)]; rw [if_neg (by decide)]; rw [if_neg (by decide)]; rw [if_neg (by decide)]; rw [if_neg (by decide)]; rw [if_neg (by decide)]; rw [if_neg (by decide)]; rw [if_neg (by decide)]; rw [if_pos (show nI 10 = (10 : Int32) from rfl)]
      refine wdr_t h.rc.1.1 ?_
      refine wbt_r (g_sco h hI hn h8 hp8 hqn) ?_
      rw [if_neg hd]
      refine wdr_t h.rc.1.1 ?_
      refine wbt_r (g_pap h hI hn h8 hqn (w := 8) (by omega)) ?_
      rw [if_neg (show ¬ a_pap v q 8 = 0 from h9)]
      unfold wj_L_act_336
      refine wdr_t h.rc.1.1 ?_
      exact k_take h hI (nI p) (nI q) (fun S' G' a1 a2 => wq_q (hQ S' G' a1 a2))
theorem act_11 (hI : IV v) (hJ : JV b v) (hb : b < 900) {n : Nat} (hn : v 12 0 = nI n) (h8 : n ≤ 8) (h1 : 0 < n) (i1 i2 : Int32) (hc : a_up i1 (nI 16) = nI 11) : DOES x v sl b (fun S Q => w_L_act (some x) i1 i2 S Q) := by
  have en := an_e hn h8
  obtain ⟨p, hp8, hp⟩ := up_n i2 (n := 8) (by omega) (by omega)
  obtain ⟨q, hqn, hq⟩ := up_n (i2 >>> ((3 : Int32) &&& 31)) (n := n) h1 (by omega)
  have hqa : q < a_n v := by rw [en]; exact hqn
  by_cases hd : v (20 + q) p < 0
  · refine does_of (f := f_take v (nI p) (nI q)) (take_ok hI hJ hp8 hqa) (fun S G nw hs nx tn tx h Q hQ => ?_)
    unfold w_L_act
    refine wbd_t (p_up i2 (n := 8) S (by omega) (by omega)) ?_
    refine wdr_t h.rc.1.1 ?_
    refine wbt_r (g_cnt0 h) ?_
    refine wbd_t (show m_L_up (i2 >>> ((3 : Int32) &&& 31)) (v 12 0) S = some (a_up (i2 >>> ((3 : Int32) &&& 31)) (nI n), S) by rw [hn]; exact p_up _ S h1 (by omega)) ?_
    refine wbd_t (p_up i1 (n := 16) S (by omega) (by omega)) ?_
    rw [hc, hp, hq]
    rw [if_neg (by decide)]; rw [if_neg (by decide)]; rw [if_neg (by decide)]; rw [if_neg (by decide)]; rw [if_neg (by decide)]; rw [if_neg (by decide)]; rw [if_neg (by decide)]; rw [if_neg (by decide)]; rw [if_neg (by decide)]; rw [if_neg (by decide)]; rw [if_neg (by decide)]; rw [if_pos (show nI 11 = (11 : Int32) from rfl)]
    refine wdr_t h.rc.1.1 ?_
    refine wbt_r (g_sco h hI hn h8 hp8 hqn) ?_
    rw [if_pos hd]
    unfold wj_L_act_336
    refine wdr_t h.rc.1.1 ?_
    exact k_take h hI (nI p) (nI q) (fun S' G' a1 a2 => wq_q (hQ S' G' a1 a2))
  · by_cases h9 : v 9 q = nI 0
    · obtain ⟨k, hk, ek⟩ := up_n (i2 >>> ((7 : Int32) &&& 31)) (n := 10) (by omega) (by omega)
      refine does_of (f := f_write v (nI p) (nI q) (nI k)) (write_ok hI hJ hp8 hqa (row_m hI hp8 (by omega) hd) h9 (by omega)) (fun S G nw hs nx tn tx h Q hQ => ?_)
      unfold w_L_act
      refine wbd_t (p_up i2 (n := 8) S (by omega) (by omega)) ?_
      refine wdr_t h.rc.1.1 ?_
      refine wbt_r (g_cnt0 h) ?_
      refine wbd_t (show m_L_up (i2 >>> ((3 : Int32) &&& 31)) (v 12 0) S = some (a_up (i2 >>> ((3 : Int32) &&& 31)) (nI n), S) by rw [hn]; exact p_up _ S h1 (by omega)) ?_
      refine wbd_t (p_up i1 (n := 16) S (by omega) (by omega)) ?_
      rw [hc, hp, hq]
      rw [if_neg (by decide)]; rw [if_neg (by decide)]; rw [if_neg (by decide)]; rw [if_neg (by decide)]; rw [if_neg (by decide)]; rw [if_neg (by decide)]; rw [if_neg (by decide)]; rw [if_neg (by decide)]; rw [if_neg (by decide)]; rw [if_neg (by decide)]; rw [if_neg (by decide)]; rw [if_pos (show nI 11 = (11 : Int32) from rfl)]
      refine wdr_t h.rc.1.1 ?_
      refine wbt_r (g_sco h hI hn h8 hp8 hqn) ?_
      rw [if_neg hd]
      refine wdr_t h.rc.1.1 ?_
      refine wbt_r (g_pap h hI hn h8 hqn (w := 8) (by omega)) ?_
      rw [if_pos (show a_pap v q 8 = 0 from h9)]
      refine wbd_t (p_up _ (n := 10) S (by omega) (by omega)) ?_
      refine wdr_t h.rc.1.1 ?_
      rw [ek]
      exact k_write h hI (nI p) (nI q) (nI k) (fun S' G' a1 a2 => wq_q (hQ S' G' a1 a2))
    · refine does_of (f := f_take v (nI p) (nI q)) (take_ok hI hJ hp8 hqa) (fun S G nw hs nx tn tx h Q hQ => ?_)
      unfold w_L_act
      refine wbd_t (p_up i2 (n := 8) S (by omega) (by omega)) ?_
      refine wdr_t h.rc.1.1 ?_
      refine wbt_r (g_cnt0 h) ?_
      refine wbd_t (show m_L_up (i2 >>> ((3 : Int32) &&& 31)) (v 12 0) S = some (a_up (i2 >>> ((3 : Int32) &&& 31)) (nI n), S) by rw [hn]; exact p_up _ S h1 (by omega)) ?_
      refine wbd_t (p_up i1 (n := 16) S (by omega) (by omega)) ?_
      rw [hc, hp, hq]
      rw [if_neg (by decide)]; rw [if_neg (by decide)]; rw [if_neg (by decide)]; rw [if_neg (by decide)]; rw [if_neg (by decide)]; rw [if_neg (by decide)]; rw [if_neg (by decide)]; rw [if_neg (by decide)]; rw [if_neg (by decide)]; rw [if_neg (by decide)]; rw [if_neg (by decide)]; rw [if_pos (show nI 11 = (11 : Int32) from rfl)]
      refine wdr_t h.rc.1.1 ?_
      refine wbt_r (g_sco h hI hn h8 hp8 hqn) ?_
      rw [if_neg hd]
      refine wdr_t h.rc.1.1 ?_
      refine wbt_r (g_pap h hI hn h8 hqn (w := 8) (by omega)) ?_
      rw [if_neg (show ¬ a_pap v q 8 = 0 from h9)]
      unfold wj_L_act_336
      refine wdr_t h.rc.1.1 ?_
      exact k_take h hI (nI p) (nI q) (fun S' G' a1 a2 => wq_q (hQ S' G' a1 a2))
theorem act_12 (hI : IV v) (hJ : JV b v) (hb : b < 900) {n : Nat} (hn : v 12 0 = nI n) (h8 : n ≤ 8) (h1 : 0 < n) (i1 i2 : Int32) (hc : a_up i1 (nI 16) = nI 12) : DOES x v sl b (fun S Q => w_L_act (some x) i1 i2 S Q) := by
  have en := an_e hn h8
  obtain ⟨p, hp8, hp⟩ := up_n i2 (n := 8) (by omega) (by omega)
  obtain ⟨q, hqn, hq⟩ := up_n (i2 >>> ((3 : Int32) &&& 31)) (n := n) h1 (by omega)
  have hqa : q < a_n v := by rw [en]; exact hqn
  by_cases hd : v (20 + q) p < 0
  · refine does_of (f := f_take v (nI p) (nI q)) (take_ok hI hJ hp8 hqa) (fun S G nw hs nx tn tx h Q hQ => ?_)
    unfold w_L_act
    refine wbd_t (p_up i2 (n := 8) S (by omega) (by omega)) ?_
    refine wdr_t h.rc.1.1 ?_
    refine wbt_r (g_cnt0 h) ?_
    refine wbd_t (show m_L_up (i2 >>> ((3 : Int32) &&& 31)) (v 12 0) S = some (a_up (i2 >>> ((3 : Int32) &&& 31)) (nI n), S) by rw [hn]; exact p_up _ S h1 (by omega)) ?_
    refine wbd_t (p_up i1 (n := 16) S (by omega) (by omega)) ?_
    rw [hc, hp, hq]
    rw [if_neg (by decide)]; rw [if_neg (by decide)]; rw [if_neg (by decide)]; rw [if_neg (by decide)]; rw [if_neg (by decide)]; rw [if_neg (by decide)]; rw [if_neg (by decide)]; rw [if_neg (by decide)]; rw [if_neg (by decide)]; rw [if_neg (by decide)]; rw [if_neg (by decide)]; rw [if_neg (by decide)]; rw [if_pos (show nI 12 = (12 : Int32) from rfl)]
    refine wdr_t h.rc.1.1 ?_
    refine wbt_r (g_sco h hI hn h8 hp8 hqn) ?_
    rw [if_pos hd]
    unfold wj_L_act_336
    refine wdr_t h.rc.1.1 ?_
    exact k_take h hI (nI p) (nI q) (fun S' G' a1 a2 => wq_q (hQ S' G' a1 a2))
  · by_cases h9 : v 9 q = nI 0
    · obtain ⟨k, hk, ek⟩ := up_n (i2 >>> ((7 : Int32) &&& 31)) (n := 10) (by omega) (by omega)
      refine does_of (f := f_write v (nI p) (nI q) (nI k)) (write_ok hI hJ hp8 hqa (row_m hI hp8 (by omega) hd) h9 (by omega)) (fun S G nw hs nx tn tx h Q hQ => ?_)
      unfold w_L_act
      refine wbd_t (p_up i2 (n := 8) S (by omega) (by omega)) ?_
      refine wdr_t h.rc.1.1 ?_
      refine wbt_r (g_cnt0 h) ?_
      refine wbd_t (show m_L_up (i2 >>> ((3 : Int32) &&& 31)) (v 12 0) S = some (a_up (i2 >>> ((3 : Int32) &&& 31)) (nI n), S) by rw [hn]; exact p_up _ S h1 (by omega)) ?_
      refine wbd_t (p_up i1 (n := 16) S (by omega) (by omega)) ?_
      rw [hc, hp, hq]
      rw [if_neg (by decide)]; rw [if_neg (by decide)]; rw [if_neg (by decide)]; rw [if_neg (by decide)]; rw [if_neg (by decide)]; rw [if_neg (by decide)]; rw [if_neg (by decide)]; rw [if_neg (by decide)]; rw [if_neg (by decide)]; rw [if_neg (by decide)]; rw [if_neg (by decide)]; rw [if_neg (by decide)]; rw [if_pos (show nI 12 = (12 : Int32) from rfl)]
      refine wdr_t h.rc.1.1 ?_
      refine wbt_r (g_sco h hI hn h8 hp8 hqn) ?_
      rw [if_neg hd]
      refine wdr_t h.rc.1.1 ?_
      refine wbt_r (g_pap h hI hn h8 hqn (w := 8) (by omega)) ?_
      rw [if_pos (show a_pap v q 8 = 0 from h9)]
      refine wbd_t (p_up _ (n := 10) S (by omega) (by omega)) ?_
      refine wdr_t h.rc.1.1 ?_
      rw [ek]
      exact k_write h hI (nI p) (nI q) (nI k) (fun S' G' a1 a2 => wq_q (hQ S' G' a1 a2))
    · refine does_of (f := f_take v (nI p) (nI q)) (take_ok hI hJ hp8 hqa) (fun S G nw hs nx tn tx h Q hQ => ?_)
      unfold w_L_act
      refine wbd_t (p_up i2 (n := 8) S (by omega) (by omega)) ?_
      refine wdr_t h.rc.1.1 ?_
      refine wbt_r (g_cnt0 h) ?_
      refine wbd_t (show m_L_up (i2 >>> ((3 : Int32) &&& 31)) (v 12 0) S = some (a_up (i2 >>> ((3 : Int32) &&& 31)) (nI n), S) by rw [hn]; exact p_up _ S h1 (by omega)) ?_
      refine wbd_t (p_up i1 (n := 16) S (by omega) (by omega)) ?_
      rw [hc, hp, hq]
      rw [if_neg (by decide)]; rw [if_neg (by decide)]; rw [if_neg (by decide)]; rw [if_neg (by decide)]; rw [if_neg (by decide)]; rw [if_neg (by decide)]; rw [if_neg (by decide)]; rw [if_neg (by decide)]; rw [if_neg (by decide)]; rw [if_neg (by decide)]; rw [if_neg (by decide)]; rw [if_neg (by decide)]; rw [if_pos (show nI 12 = (12 : Int32) from rfl)]
      refine wdr_t h.rc.1.1 ?_
      refine wbt_r (g_sco h hI hn h8 hp8 hqn) ?_
      rw [if_neg hd]
      refine wdr_t h.rc.1.1 ?_
      refine wbt_r (g_pap h hI hn h8 hqn (w := 8) (by omega)) ?_
      rw [if_neg (show ¬ a_pap v q 8 = 0 from h9)]
      unfold wj_L_act_336
      refine wdr_t h.rc.1.1 ?_
      exact k_take h hI (nI p) (nI q) (fun S' G' a1 a2 => wq_q (hQ S' G' a1 a2))
theorem act_13 (hI : IV v) (hJ : JV b v) (hb : b < 900) {n : Nat} (hn : v 12 0 = nI n) (h8 : n ≤ 8) (h1 : 0 < n) (i1 i2 : Int32) {w0 : AS} (hs0 : sl 0 = some w0) (hI0 : IV w0) (hJ0 : JV b w0) (hc : a_up i1 (nI 16) = nI 13) : DOES x v sl b (fun S Q => w_L_act (some x) i1 i2 S Q) := by
  have en := an_e hn h8
  obtain ⟨p, hp8, hp⟩ := up_n i2 (n := 8) (by omega) (by omega)
  obtain ⟨q, hqn, hq⟩ := up_n (i2 >>> ((3 : Int32) &&& 31)) (n := n) h1 (by omega)
  have hqa : q < a_n v := by rw [en]; exact hqn
  by_cases hd : (i2 &&& (7 : Int32)) = 0
  · refine does_of (f := f_go v sl (nI 0)) (go_ok hs0 hI0 hJ0) (fun S G nw hs nx tn tx h Q hQ => ?_)
    unfold w_L_act
    refine wbd_t (p_up i2 (n := 8) S (by omega) (by omega)) ?_
    refine wdr_t h.rc.1.1 ?_
    refine wbt_r (g_cnt0 h) ?_
    refine wbd_t (show m_L_up (i2 >>> ((3 : Int32) &&& 31)) (v 12 0) S = some (a_up (i2 >>> ((3 : Int32) &&& 31)) (nI n), S) by rw [hn]; exact p_up _ S h1 (by omega)) ?_
    refine wbd_t (p_up i1 (n := 16) S (by omega) (by omega)) ?_
    rw [hc, hp, hq]
    rw [if_neg (by decide)]; rw [if_neg (by decide)]; rw [if_neg (by decide)]; rw [if_neg (by decide)]; rw [if_neg (by decide)]; rw [if_neg (by decide)]; rw [if_neg (by decide)]; rw [if_neg (by decide)]; rw [if_neg (by decide)]; rw [if_neg (by decide)]; rw [if_neg (by decide)]; rw [if_neg (by decide)]; rw [if_neg (by decide)]; rw [if_pos (show nI 13 = (13 : Int32) from rfl)]
    rw [if_pos hd]
    refine wdr_t h.rc.1.1 ?_
    exact k_go h (nI 0) (fun S' G' a1 a2 => wq_q (hQ S' G' a1 a2))
  · refine does_of (f := f_take v (nI p) (nI q)) (take_ok hI hJ hp8 hqa) (fun S G nw hs nx tn tx h Q hQ => ?_)
    unfold w_L_act
    refine wbd_t (p_up i2 (n := 8) S (by omega) (by omega)) ?_
    refine wdr_t h.rc.1.1 ?_
    refine wbt_r (g_cnt0 h) ?_
    refine wbd_t (show m_L_up (i2 >>> ((3 : Int32) &&& 31)) (v 12 0) S = some (a_up (i2 >>> ((3 : Int32) &&& 31)) (nI n), S) by rw [hn]; exact p_up _ S h1 (by omega)) ?_
    refine wbd_t (p_up i1 (n := 16) S (by omega) (by omega)) ?_
    rw [hc, hp, hq]
    rw [if_neg (by decide)]; rw [if_neg (by decide)]; rw [if_neg (by decide)]; rw [if_neg (by decide)]; rw [if_neg (by decide)]; rw [if_neg (by decide)]; rw [if_neg (by decide)]; rw [if_neg (by decide)]; rw [if_neg (by decide)]; rw [if_neg (by decide)]; rw [if_neg (by decide)]; rw [if_neg (by decide)]; rw [if_neg (by decide)]; rw [if_pos (show nI 13 = (13 : Int32) from rfl)]
    rw [if_neg hd]
    refine wdr_t h.rc.1.1 ?_
    exact k_take h hI (nI p) (nI q) (fun S' G' a1 a2 => wq_q (hQ S' G' a1 a2))
end DO
