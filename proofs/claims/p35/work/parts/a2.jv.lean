/-! BESIDE THE INVARIANT: topics, weeks, numbers of reviewers, decisions -/
def DEC (r : Nat → Int32) (d : Int32) : Prop := a_wri r = a_rev r ∧ cnt (sc r) 8 ≠ 0 ∧ d = (if !decide (a_sum r < nI 6 * a_bc (a_wri r)) then nI 2 else nI 1)
def JR (v : AS) : Prop := ∀ q, q < 8 → cnt (rw_ (v (20 + q))) 8 ≤ 4 ∧ (v 9 q ≠ nI 0 → DEC (v (20 + q)) (v 9 q))
def JV (b : Nat) (v : AS) : Prop := (∀ p, p < 8 → nat v 0 p 15) ∧ nat v 13 0 b ∧ 2 ≤ a_n v ∧ JR v
theorem nat_cg {v w : AS} {f k b : Nat} (e : w f k = v f k) (h : nat v f k b) : nat w f k b := by
  show w f k = nI (w f k).toNatClampNeg ∧ (w f k).toNatClampNeg ≤ b
  rw [e]; exact h
theorem in_nI {p l u : Nat} (hu : u < 1000) (h1 : l ≤ p) (h2 : p ≤ u) : a_in (nI p) (nI l) (nI u) = true := by
  unfold a_in
  rw [decide_eq_false (show ¬ nI p < nI l by rw [nI_ltI (by omega) (by omega)]; omega), decide_eq_false (show ¬ nI u < nI p by rw [nI_ltI (by omega) (by omega)]; omega)] <;> rfl
section JV
variable {v w : AS} {b p q : Nat}
theorem jv_m {c : Nat} (h : JV b v) (hb : b ≤ c) : JV c v := ⟨h.1, ⟨h.2.1.1, Nat.le_trans h.2.1.2 hb⟩, h.2.2.1, h.2.2.2⟩
theorem jv_cg (h : JV b v) (hf : ∀ f, f = 0 ∨ f = 13 ∨ f = 12 ∨ f = 9 ∨ 20 ≤ f → w f = v f) : JV b w := by
  refine ⟨fun p hp => nat_cg (by rw [hf 0 (by omega)]) (h.1 p hp), nat_cg (by rw [hf 13 (by omega)]) h.2.1, ?_, fun q hq => ?_⟩
  · show 2 ≤ (w 12 0).toNatClampNeg
    rw [hf 12 (by omega)]; exact h.2.2.1
  · rw [hf (20 + q) (by omega), hf 9 (by omega)]; exact h.2.2.2 q hq
theorem jv_row (h : JV b v) (hf : ∀ f, f = 0 ∨ f = 13 ∨ f = 12 ∨ f = 9 ∨ (20 ≤ f ∧ f ≠ 20 + q) → w f = v f) (hz : v 9 q = nI 0) (hc : cnt (rw_ (w (20 + q))) 8 ≤ 4) : JV b w := by
  refine ⟨fun p hp => nat_cg (by rw [hf 0 (by omega)]) (h.1 p hp), nat_cg (by rw [hf 13 (by omega)]) h.2.1, ?_, fun i hi => ?_⟩
  · show 2 ≤ (w 12 0).toNatClampNeg
    rw [hf 12 (by omega)]; exact h.2.2.1
  · by_cases e : i = q
    · rw [e, hf 9 (by omega)]
      exact ⟨hc, fun z => absurd hz z⟩
    · rw [hf (20 + i) (by omega), hf 9 (by omega)]; exact h.2.2.2 i hi
/-- a change that answers no less than 0 and keeps all -/
def OKF (b : Nat) (f : (Nat ⊕ Int32) × Option AS) : Prop := ∃ y w, f = (.inr y, some w) ∧ ¬ y < 0 ∧ IV w ∧ JV (b + 1) w
theorem okf {f : (Nat ⊕ Int32) × Option AS} {y : Int32} {w : AS} (e : f = (.inr y, some w)) (hy : ∃ k, k < 100000 ∧ y = nI k) (hI : IV w) (hJ : JV b w) : OKF b f := by
  obtain ⟨k, hk, rfl⟩ := hy
  exact ⟨_, w, e, nI_pos (by omega), hI, jv_m hJ (Nat.le_succ b)⟩
theorem isP_t (hI : IV v) (hq : q < a_n v) : a_isP v (nI q) = true := by
  rw [isP_q hI (Nat.lt_of_lt_of_le hq hI.in_.2)]; exact decide_eq_true hq
theorem bc_n (r : Nat → Int32) : ∃ k, k < 100000 ∧ a_bc (a_wri r) = nI k := ⟨_, by have := cnt_le (sc r) 8; omega, wri_bc r⟩
theorem take_ok (hI : IV v) (hJ : JV b v) (hp : p < 8) (hq : q < a_n v) : OKF b (f_take v (nI p) (nI q)) := by
  have hq8 : q < 8 := Nat.lt_of_lt_of_le hq hI.in_.2
  have e : f_take v (nI p) (nI q) = (.inr (a_take v p q).1, some (a_take v p q).2) := by
    unfold f_take
    rw [if_pos (in_nI (by omega) (by omega) (by omega)), if_pos (isP_t hI hq), n_cl (by omega), n_cl (by omega)]
  refine okf e ?_ (iv_take hI hq hp) ?_
  · unfold a_take
    split
    · exact ⟨0, by omega, rfl⟩
    · obtain ⟨k, hk, e⟩ := why_n v p q
      exact ⟨k, by omega, e⟩
  · unfold a_take
    split
    · rename_i hw
      obtain ⟨k1, k2, k3, _, _, _⟩ := why_00 hw
      refine jv_row (q := q) hJ (fun f hf => by show u_2 (u_2 v (20 + q) p (nI 10)) 3 p _ f = _; rw [u_ne (by omega), u_ne (by omega)]) k1 ?_
      have h1 := (fr_iff (q := q) hI).mp k3
      have h0 := hI.s0.2.1
      unfold e_fr at h1
      show cnt (rw_ (u_2 (u_2 v (20 + q) p (nI 10)) 3 p _ (20 + q))) 8 ≤ 4
      rw [u_ne (by omega), u_self]
      have h2 := cnt_up (P := rw_ (v (20 + q))) (Q := rw_ (up1 (v (20 + q)) p (nI 10))) (k := p) hp (fun i _ hi => by unfold rw_ up1; rw [if_neg hi])
      have h4 := bn_le (rw_ (up1 (v (20 + q)) p (nI 10)) p)
      omega
    · exact jv_cg hJ (fun f hf => u_ne (by omega))
theorem write_ok (hI : IV v) (hJ : JV b v) (hp : p < 8) (hq : q < a_n v) (h1 : v (20 + q) p ≠ nM) (h9 : v 9 q = nI 0) {s : Nat} (hs : s ≤ 9) : OKF b (f_write v (nI p) (nI q) (nI s)) := by
  have hq8 : q < 8 := Nat.lt_of_lt_of_le hq hI.in_.2
  have e : f_write v (nI p) (nI q) (nI s) = (.inr (a_bc (a_wri (a_wrv v p q (nI s) (20 + q)))), some (a_wrv v p q (nI s))) := by
    unfold f_write
    rw [if_pos (in_nI (by omega) (by omega) (by omega)), if_pos (isP_t hI hq), if_pos (by rw [isS_nI (by omega)]; exact decide_eq_true hs), n_cl (by omega), n_cl (by omega), if_pos (by unfold a_cw; rw [decide_eq_false h1, decide_eq_true h9] <;> rfl)]
  refine okf e (bc_n _) (iv_write hI hq hp hs) ?_
  refine jv_row (q := q) hJ (fun f hf => by show u_2 v (20 + q) p (nI s) f = _; rw [u_ne (by omega)]) h9 ?_
  show cnt (rw_ (u_2 v (20 + q) p (nI s) (20 + q))) 8 ≤ 4
  rw [u_self]
  have h2 := cnt_up (P := rw_ (v (20 + q))) (Q := rw_ (up1 (v (20 + q)) p (nI s))) (k := p) hp (fun i _ hi => by unfold rw_ up1; rw [if_neg hi])
  have h3 : rw_ (v (20 + q)) p = true := by unfold rw_; rw [decide_eq_false h1] <;> rfl
  have h4 := bn_le (rw_ (up1 (v (20 + q)) p (nI s)) p)
  have h5 := (hJ.2.2.2 q hq8).1
  have h6 : bn true = 1 := rfl
  rw [h3] at h2
  omega
theorem drop_ok (hI : IV v) (hJ : JV b v) (hp : p < 8) (hq : q < a_n v) (h1 : v (20 + q) p = nI 10) : OKF b (f_drop v (nI p) (nI q)) := by
  have hq8 : q < 8 := Nat.lt_of_lt_of_le hq hI.in_.2
  have e : f_drop v (nI p) (nI q) = (.inr (a_tok (a_drop v p q) p), some (a_drop v p q)) := by
    unfold f_drop
    rw [if_pos (in_nI (by omega) (by omega) (by omega)), if_pos (isP_t hI hq), n_cl (by omega), n_cl (by omega), if_pos (by unfold a_cx; exact decide_eq_true h1)]
  have hIw := iv_drop hI hq hp h1
  have h9 : v 9 q = nI 0 := by
    refine Classical.byContradiction (fun z => ?_)
    obtain ⟨d1, _, _⟩ := (hJ.2.2.2 q hq8).2 z
    have d2 : hb (a_wri (v (20 + q))) (nI p) = hb (a_rev (v (20 + q))) (nI p) := by rw [d1]
    rw [wri_hb _ hp, rv_hb _ hp, h1] at d2
    exact absurd d2 (by decide)
  refine okf e ⟨_, ?_, hIw.tok hp⟩ hIw ?_
  · have := (hIw.go hp).2
    omega
  refine jv_row (q := q) hJ (fun f hf => by show u_2 (u_2 (u_2 v (20 + q) p nM) 3 p _) 4 p _ f = _; rw [u_ne (by omega), u_ne (by omega), u_ne (by omega)]) h9 ?_
  show cnt (rw_ (u_2 (u_2 (u_2 v (20 + q) p nM) 3 p _) 4 p _ (20 + q))) 8 ≤ 4
  rw [u_ne (by omega), u_ne (by omega), u_self]
  have h2 := cnt_up (P := rw_ (v (20 + q))) (Q := rw_ (up1 (v (20 + q)) p nM)) (k := p) hp (fun i _ hi => by unfold rw_ up1; rw [if_neg hi])
  have h4 : rw_ (up1 (v (20 + q)) p nM) p = false := by unfold rw_ up1; rw [if_pos rfl] <;> decide
  have h5 := (hJ.2.2.2 q hq8).1
  have h6 : bn false = 0 := rfl
  rw [h4] at h2
  omega
theorem rw_ok {r g : Nat → Int32} (h1 : ∀ p, p < 8 → isS (r p) = true → isS (g p) = true) (h2 : ∀ p, isS (r p) = false ∨ 8 ≤ p → g p = r p) : cnt (rw_ g) 8 = cnt (rw_ r) 8 := by
  refine cnt_cg (fun i hi => ?_)
  unfold rw_
  cases hs : isS (r i) with
  | true =>
    have a1 : r i ≠ nM := fun z => by rw [z, isS_nM] at hs; cases hs
    have a2 : g i ≠ nM := fun z => by have := h1 i hi hs; rw [z, isS_nM] at this; cases this
    rw [decide_eq_false a1, decide_eq_false a2]
  | false => rw [h2 i (Or.inl hs)]
theorem bnn_n (g : Nat → Int32) : ∃ k, k ≤ 8 ∧ a_bnn g = nI k := by
  unfold a_bnn
  split
  · exact ⟨0, by omega, rfl⟩
  · have key : ∀ n, ∃ k, k ≤ n ∧ fo (fun i n => if isS (g i) then (if g i = a_sum g / a_bc (a_wri g) then n else n + nI 1) else n) n (nI 0) = nI k := by
      intro n
      induction n with
      | zero => exact ⟨0, by omega, rfl⟩
      | succ n ih =>
        obtain ⟨k, hk, e⟩ := ih
        show ∃ k, k ≤ n + 1 ∧ (if isS (g n) then (if g n = a_sum g / a_bc (a_wri g) then fo _ n (nI 0) else fo _ n (nI 0) + nI 1) else fo _ n (nI 0)) = nI k
        rw [e]
        split
        · split
          · exact ⟨k, by omega, rfl⟩
          · exact ⟨k + 1, by omega, nI_add k 1⟩
        · exact ⟨k, by omega, rfl⟩
    exact key 8
theorem wd_9 (h : a_wd v q = nI 0) : v 9 q = nI 0 := by
  unfold a_wd at h
  split at h
  · rename_i h1; exact h1
  · exact absurd h (by decide)
theorem wd_n (v : AS) (q : Nat) : ∃ k, k < 100000 ∧ a_wd v q = nI k := by
  unfold a_wd
  split
  · split
    · split
      · exact ⟨3, by omega, rfl⟩
      · exact ⟨0, by omega, rfl⟩
    · exact ⟨2, by omega, rfl⟩
  · exact ⟨1, by omega, rfl⟩
theorem discuss_ok (hI : IV v) (hJ : JV b v) (hq : q < a_n v) : OKF b (f_discuss v (nI q)) := by
  have hq8 : q < 8 := Nat.lt_of_lt_of_le hq hI.in_.2
  have e : f_discuss v (nI q) = (.inr (a_disc v q).1, some (a_disc v q).2) := by
    unfold f_discuss
    rw [if_pos (isP_t hI hq), n_cl (by omega)]
  have hdv : ∀ f, f ≠ 3 → f ≠ 7 → a_dv v q f = v f := fun f h3 h7 => by
    show u_2 (a_pay (a_wri (v (20 + q))) v 8) 7 q _ f = v f
    rw [u_ne h7, pay_ne _ _ _ _ h3]
  refine okf e ?_ (iv_disc hI hq) ?_
  · unfold a_disc
    split
    · obtain ⟨k, hk, e⟩ := bnn_n (a_dv v q (20 + q))
      exact ⟨10 + k, by omega, by show nI 10 + a_bnn _ = _; rw [e, nI_add]⟩
    · exact wd_n v q
  · unfold a_disc
    split
    · rename_i hw
      obtain ⟨b1, b2⟩ := bnr_ok (a_dv v q (20 + q))
      refine jv_row (q := q) hJ (fun f hf => by show u_r (a_dv v q) (20 + q) _ f = _; rw [ur_ne (by omega), hdv f (by omega) (by omega)]) (wd_9 hw) ?_
      show cnt (rw_ (u_r (a_dv v q) (20 + q) _ (20 + q))) 8 ≤ 4
      rw [ur_s, rw_ok b1 b2, hdv (20 + q) (by omega) (by omega)]
      exact (hJ.2.2.2 q hq8).1
    · exact jv_cg hJ (fun f hf => u_ne (by omega))
theorem cr_in (w : Int32) (v : AS) : ∀ n, (∃ k, k ≤ n ∧ (a_cr w v n).1 = nI k) ∧ ∀ f, f ≠ 14 → f ≠ 2 → (a_cr w v n).2 f = v f
  | 0 => ⟨⟨0, by omega, rfl⟩, fun f _ _ => rfl⟩
  | n + 1 => by
    obtain ⟨⟨k, hk, e1⟩, e2⟩ := cr_in w v n
    have e : a_cr w v (n + 1) = (if hb w (nI n) then (if (a_cr w v n).2 14 0 ≤ nI 0 then a_cr w v n else ((a_cr w v n).1 + nI 1, a_give (a_cr w v n).2 n (nI 1))) else a_cr w v n) := rfl
    rw [e]
    split
    · split
      · exact ⟨⟨k, by omega, e1⟩, e2⟩
      · refine ⟨⟨k + 1, by omega, by show (a_cr w v n).1 + nI 1 = _; rw [e1, nI_add]⟩, fun f h14 h2 => ?_⟩
        show u_2 (u_2 (a_cr w v n).2 14 0 _) 2 n _ f = _
        rw [u_ne h2, u_ne h14, e2 f h14 h2]
    · exact ⟨⟨k, by omega, e1⟩, e2⟩
theorem wr_9 (h : a_wr v q = nI 0) : v 9 q = nI 0 := by
  unfold a_wr at h
  split at h
  · rename_i h1; exact h1
  · exact absurd h (by decide)
theorem wr_n (v : AS) (q : Nat) : ∃ k, k < 100000 ∧ a_wr v q = nI k := by
  unfold a_wr
  split
  · split
    · exact ⟨2, by omega, rfl⟩
    · split
      · exact ⟨0, by omega, rfl⟩
      · exact ⟨3, by omega, rfl⟩
  · exact ⟨1, by omega, rfl⟩
theorem rebut_ok (hI : IV v) (hJ : JV b v) (hq : q < a_n v) : OKF b (f_rebut v (nI q)) := by
  have hq8 : q < 8 := Nat.lt_of_lt_of_le hq hI.in_.2
  have e : f_rebut v (nI q) = (.inr (a_reb v q).1, some (a_reb v q).2) := by
    unfold f_rebut
    rw [if_pos (isP_t hI hq), n_cl (by omega)]
  obtain ⟨⟨k, hk, c1⟩, c2⟩ := cr_in (a_wri (a_rv v q (20 + q))) (a_rv v q) 8
  refine okf e ?_ (iv_reb hI hq) ?_
  · unfold a_reb
    split
    · exact ⟨10 + k, by omega, by show nI 10 + (a_cr _ _ 8).1 = _; rw [c1, nI_add]⟩
    · exact wr_n v q
  · unfold a_reb
    split
    · rename_i hw
      have hrv : ∀ f, f ≠ 8 → f ≠ 20 + q → a_rv v q f = v f := fun f h8 h20 => by
        show u_2 (u_r v (20 + q) _) 8 q _ f = v f
        rw [u_ne h8, ur_ne h20]
      obtain ⟨b1, b2⟩ := rl_ok (v (20 + q)) hI.s3.2
      refine jv_row (q := q) hJ (fun f hf => by show (a_cr _ _ 8).2 f = _; rw [c2 f (by omega) (by omega), hrv f (by omega) (by omega)]) (wr_9 hw) ?_
      show cnt (rw_ ((a_cr _ _ 8).2 (20 + q))) 8 ≤ 4
      rw [c2 (20 + q) (by omega) (by omega)]
      show cnt (rw_ (u_2 (u_r v (20 + q) (a_rl (v (20 + q)) (v 11 3))) 8 q _ (20 + q))) 8 ≤ 4
      have e11 := hI.s3.1
      rw [u_ne (by omega), ur_s, e11, rw_ok b1 b2]
      exact (hJ.2.2.2 q hq8).1
    · exact jv_cg hJ (fun f hf => u_ne (by omega))
theorem decide_ok (hI : IV v) (hJ : JV b v) (hq : q < a_n v) (hc : a_cd v q = true) : OKF b (f_decide v (nI q)) := by
  have hq8 : q < 8 := Nat.lt_of_lt_of_le hq hI.in_.2
  have e : f_decide v (nI q) = (.inr (if a_dec v q then nI 1 else nI 0), some (u_2 v 9 q (if a_dec v q then nI 2 else nI 1))) := by
    unfold f_decide
    rw [if_pos (isP_t hI hq), n_cl (by omega), if_pos hc]
  refine okf e ?_ (fv_decide hI (nI q) _ (by rw [e])) ?_
  · split
    · exact ⟨1, by omega, rfl⟩
    · exact ⟨0, by omega, rfl⟩
  · unfold a_cd at hc
    rw [Bool.and_eq_true, Bool.and_eq_true, Bool.not_eq_true', decide_eq_true_eq, decide_eq_false_iff_not, decide_eq_true_eq] at hc
    obtain ⟨_, c2, c3⟩ := hc
    have hc0 : cnt (sc (v (20 + q))) 8 ≠ 0 := fun z => c2 (by
      have e0 := hI.s0
      generalize nv v 11 0 = n0 at e0
      rw [wri_bc, z, e0.1, nI_ltI (by omega) (by omega)]; omega)
    refine ⟨fun r hr => nat_cg (by rw [u_ne (by omega)]) (hJ.1 r hr), nat_cg (by rw [u_ne (by omega)]) hJ.2.1, ?_, fun i hi => ?_⟩
    · show 2 ≤ (u_2 v 9 q _ 12 0).toNatClampNeg
      rw [u_ne (by omega)]; exact hJ.2.2.1
    · have h20 : u_2 v 9 q (if a_dec v q then nI 2 else nI 1) (20 + i) = v (20 + i) := u_ne (by omega)
      rw [h20]
      by_cases hiq : i = q
      · subst hiq
        rw [u_s]
        exact ⟨(hJ.2.2.2 i hi).1, fun _ => ⟨c3, hc0, rfl⟩⟩
      · rw [u_k hiq]
        exact hJ.2.2.2 i hi
theorem topics_ok (hI : IV v) (hJ : JV b v) (hp : p < 8) {k : Nat} (hk : k ≤ 15) : OKF b (f_topics v (nI p) (nI k)) := by
  have e : f_topics v (nI p) (nI k) = (.inr (v 0 p), some (u_2 v 0 p (nI k))) := by
    unfold f_topics
    rw [if_pos (in_nI (by omega) (by omega) (by omega)), if_pos (in_nI (by omega) (by omega) (by omega)), n_cl (by omega)]
  refine okf e ⟨_, by have := (hJ.1 p hp).2; omega, (hJ.1 p hp).1⟩ (iv_free hI (by omega) hp) ?_
  refine ⟨fun r hr => ?_, nat_cg (by rw [u_ne (by omega)]) hJ.2.1, ?_, fun i hi => ?_⟩
  · by_cases hrp : r = p
    · rw [hrp]
      exact nat_nI (j := k) u_s hk (by omega)
    · exact nat_cg (u_k hrp) (hJ.1 r hr)
  · show 2 ≤ (u_2 v 0 p _ 12 0).toNatClampNeg
    rw [u_ne (by omega)]; exact hJ.2.2.1
  · have h20 : u_2 v 0 p (nI k) (20 + i) = v (20 + i) := u_ne (by omega)
    have h9 : u_2 v 0 p (nI k) 9 = v 9 := u_ne (by omega)
    rw [h20, h9]; exact hJ.2.2.2 i hi
theorem meet_ok (hI : IV v) (hJ : JV b v) (hp : p < 8) (hq : q < 8) (hne : p ≠ q) : OKF b (f_meet v (nI p) (nI q)) := by
  have e : f_meet v (nI p) (nI q) = (.inr (if hb (a_meet v p q 1 p) (nI q) then nI 1 else nI 0), some (a_meet v p q)) := by
    unfold f_meet
    rw [if_pos (in_nI (by omega) (by omega) (by omega)), if_pos (in_nI (by omega) (by omega) (by omega)), if_neg (by rw [nI_eq (by omega) (by omega)]; exact hne), n_cl (by omega), n_cl (by omega)]
  refine okf e ?_ (iv_meet hI hp hq hne) ?_
  · split
    · exact ⟨1, by omega, rfl⟩
    · exact ⟨0, by omega, rfl⟩
  · exact jv_cg hJ (fun f hf => by show u_2 (u_2 v 1 p _) 1 q _ f = _; rw [u_ne (by omega), u_ne (by omega)])
theorem set_ok (hI : IV v) (hJ : JV b v) {s j : Nat} (hj : (s = 0 ∧ 1 ≤ j ∧ j ≤ 4) ∨ (s = 1 ∧ j ≤ 2) ∨ (s = 2 ∧ j ≤ 9) ∨ (s = 3 ∧ j ≤ 3)) : OKF b (f_set v (nI s) (nI j)) := by
  have hs : s < 4 := by omega
  have e : f_set v (nI s) (nI j) = (.inr (v 11 s), some (u_2 v 11 s (nI j))) := by
    unfold f_set
    rw [if_pos (in_nI (by omega) (by omega) (by omega)), n_cl (by omega), if_pos]
    rcases hj with ⟨rfl, h1, h2⟩ | ⟨rfl, h2⟩ | ⟨rfl, h2⟩ | ⟨rfl, h2⟩
    · exact in_nI (l := 1) (u := 4) (by omega) h1 h2
    · exact in_nI (l := 0) (u := 2) (by omega) (by omega) h2
    · exact in_nI (l := 0) (u := 9) (by omega) (by omega) h2
    · exact in_nI (l := 0) (u := 3) (by omega) (by omega) h2
  refine okf e ?_ (iv_11 hI hs hj) (jv_cg hJ (fun f hf => u_ne (by omega)))
  have k0 := hI.s0
  have k1 := hI.s1
  have k2 := hI.s2
  have k3 := hI.s3
  rcases (show s = 0 ∨ s = 1 ∨ s = 2 ∨ s = 3 by omega) with rfl | rfl | rfl | rfl
  · exact ⟨_, by omega, k0.1⟩
  · exact ⟨_, by omega, k1.1⟩
  · exact ⟨_, by omega, k2.1⟩
  · exact ⟨_, by omega, k3.1⟩
theorem wk_in (hI : IV v) : ∀ n, (∃ k, k ≤ 9 * n ∧ (a_wk v n).1 = nI k) ∧ ∀ f, f ≠ 14 → f ≠ 2 → (a_wk v n).2 f = v f
  | 0 => ⟨⟨0, by omega, rfl⟩, fun f _ _ => rfl⟩
  | n + 1 => by
    obtain ⟨⟨k, hk, e1⟩, e2⟩ := wk_in hI n
    have e : a_wk v (n + 1) = (if (a_wk v n).2 14 0 < v 11 2 then a_wk v n else ((a_wk v n).1 + v 11 2, a_give (a_wk v n).2 n (v 11 2))) := rfl
    have k2 := hI.s2
    rw [e]
    split
    · exact ⟨⟨k, by omega, e1⟩, e2⟩
    · refine ⟨⟨k + nv v 11 2, by omega, ?_⟩, fun f h14 h2 => ?_⟩
      · show (a_wk v n).1 + v 11 2 = _
        rw [e1, ← nI_add, ← k2.1]
      · show u_2 (u_2 (a_wk v n).2 14 0 _) 2 n _ f = _
        rw [u_ne h2, u_ne h14, e2 f h14 h2]
theorem week_ok (hI : IV v) (hJ : JV b v) (hb : b < 900) : OKF b (f_week v) := by
  have h13 := hJ.2.1
  obtain ⟨⟨k, hk, e1⟩, e2⟩ := wk_in hI 8
  have e : f_week v = (.inr (a_week v).1, some (a_week v).2) := by
    unfold f_week
    rw [if_neg]
    rw [h13.1, nI_leI (by omega) (by have := h13.2; omega)]
    have := h13.2
    omega
  refine ⟨_, _, e, ?_, iv_week hI, ?_⟩
  · show ¬ (a_wk v 8).1 < 0
    rw [e1]; exact nI_pos (by omega)
  · have hw : ∀ f, f ≠ 14 → f ≠ 2 → f ≠ 13 → (a_week v).2 f = v f := fun f h14 h2 h13 => by
      show u_2 (a_wk v 8).2 13 0 _ f = _
      rw [u_ne h13, e2 f h14 h2]
    refine ⟨fun r hr => nat_cg (by rw [hw 0 (by omega) (by omega) (by omega)]) (hJ.1 r hr), ?_, ?_, fun i hi => ?_⟩
    · refine nat_nI (j := nv v 13 0 + 1) ?_ (by have := h13.2; omega) (by omega)
      show u_2 (a_wk v 8).2 13 0 ((a_wk v 8).2 13 0 + nI 1) 13 0 = _
      rw [u_s, e2 13 (by omega) (by omega), ← nI_add, ← h13.1]
    · show 2 ≤ ((a_week v).2 12 0).toNatClampNeg
      rw [hw 12 (by omega) (by omega) (by omega)]; exact hJ.2.2.1
    · rw [hw (20 + i) (by omega) (by omega) (by omega), hw 9 (by omega) (by omega) (by omega)]; exact hJ.2.2.2 i hi
theorem paper_ok (hI : IV v) (hJ : JV b v) (hn : a_n v < 8) {i j : Nat} (hi : i ≤ 3) (h1 : 1 ≤ j) (h2 : j ≤ 255) : OKF b (f_paper v (nI i) (nI j)) := by
  have e : f_paper v (nI i) (nI j) = (.inr (nI (a_n v)), some (a_pa v (nI i) (nI j))) := by
    unfold f_paper
    rw [if_pos (in_nI (by omega) (by omega) (by omega)), if_pos (in_nI (by omega) (by omega) (by omega)), if_pos hn]
  refine okf e ⟨a_n v, by omega, rfl⟩ (iv_pa hI _ _ hn) ?_
  have hw : ∀ f, f ≠ 5 → f ≠ 6 → f ≠ 12 → a_pa v (nI i) (nI j) f = v f := fun f h5 h6 h12 => by
    show u_2 (u_2 (u_2 v 5 _ _) 6 _ _) 12 0 _ f = _
    rw [u_ne h12, u_ne h6, u_ne h5]
  refine ⟨fun r hr => nat_cg (by rw [hw 0 (by omega) (by omega) (by omega)]) (hJ.1 r hr), nat_cg (by rw [hw 13 (by omega) (by omega) (by omega)]) hJ.2.1, ?_, fun i hi => ?_⟩
  · show 2 ≤ (u_2 (u_2 (u_2 v 5 _ _) 6 _ _) 12 0 (nI (a_n v + 1)) 12 0).toNatClampNeg
    rw [u_s, n_cl (by omega)]
    have := hJ.2.2.1
    omega
  · rw [hw (20 + i) (by omega) (by omega) (by omega), hw 9 (by omega) (by omega) (by omega)]; exact hJ.2.2.2 i hi
theorem go_ok {sl : Nat → Option AS} {w0 : AS} (hs : sl 0 = some w0) (hI : IV w0) (hJ : JV b w0) : OKF b (f_go v sl (nI 0)) := by
  have e : f_go v sl (nI 0) = (.inr (w0 12 0), some w0) := by
    unfold f_go
    rw [if_pos (in_nI (by omega) (by omega) (by omega)), n_cl (by omega), hs]
  exact okf e ⟨_, by have := hI.in_.2; omega, hI.in_.1⟩ hI hJ
end JV
