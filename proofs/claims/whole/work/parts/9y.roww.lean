/-! THE LAW'S ROWS: the orders -/
def opv (v : AS) : Option AS → AS
  | none => v
  | some w => w
def oph (v : AS) (hs : List AS) : Option AS → List AS
  | none => hs
  | some _ => (v :: hs).take 6
section RW2
variable {S : PH} {G : Nat → Nat} {x nw m oj oe : Nat} {u v : AS} {hs : List AS} {nx : Nat} {sl : Nat → Option AS} {tn tn' : Nat} {tx : Nat → Int32} {i5 : Int32} {K : Int32 → PH → Prop}
theorem relO_e {o : Option AS} (h : RelO S G x nw v hs nx sl tn tx o) : ∃ nx', RelC S G x nw (opv v o) (oph v hs o) nx' sl tn tx := by
  cases o with
  | none => exact ⟨nx, h⟩
  | some w => exact ⟨_, h⟩
theorem muo_e {o : Option AS} (h : MUO u v hs sl tn tx o) : MU u (opv v o) (oph v hs o) sl tn tx := by
  cases o with
  | none => exact h
  | some w => exact h
theorem ivs_o (h : IVs v hs sl) {o : Option AS} (ho : ∀ w, o = some w → IV w) : IVs (opv v o) (oph v hs o) sl := by
  cases o with
  | none => exact h
  | some w =>
    refine ⟨ho w rfl, fun z hz => ?_, h.2.2⟩
    have := List.mem_of_mem_take hz
    rcases List.mem_cons.mp this with e | e
    · rw [e]; exact h.1
    · exact h.2.1 z e
theorem law_W (hL : LW S G x nw m oj oe v hs nx sl tn tx) {f : (Nat ⊕ Int32) × Option AS} {tb : Nat → Int32} (wX : ((Nat ⊕ Int32) → PH → Prop) → Prop) (ref : PH → Option (Int32 × PH)) (P : Int32 → PH → Prop) (hnd : Nat → PH → Prop)
    (hk : ∀ Q : (Nat ⊕ Int32) → PH → Prop, (∀ S' G', RelO S' G' x nw v hs nx sl tn' tx f.2 → fc S G S' G' → Q f.1 S') → wX Q)
    (hq : ∀ (T : PH) (G : Nat → Nat) (u : AS), Gi G → RM T G m → MU u v hs sl tn tx → ∃ u', RES (ref (mput T G u)) T G tb u' f.1 ∧ MUO u' v hs sl tn' tx f.2)
    (hiv : ∀ w, f.2 = some w → IV w)
    (hE : ∀ e, f.1 = .inl e → tb e ≠ nI 0)
    (hP : ∀ y T, tl i5 K (some m) (some oj) ref y T → P y T)
    (hH : ∀ e, f.1 = .inl e → ∀ T, P (tb e) T → hnd e T)
    (hK : ∀ T, LWE x nw m oj oe T → K (i5 + 4) T) :
    wX (wq (fun v4 S5 => wdr S5 10 (some oj) fun a12 => wck (ix (0 : Int32) (p_N S5 a12)) <| wle (s_J S5 a12 0 (Int32.toInt64 v4)) fun S16 => P (0 : Int32) S16) hnd) := by
  obtain ⟨hC, hV, hM, hO⟩ := hL
  refine hk _ (fun S' G' k1 k2 => ?_)
  obtain ⟨nx', r1⟩ := relO_e k1
  have m1 := relM_fc hM k2 r1.gi
  have o1 := out_fc hO k2
  have v1 := ivs_o hV hiv
  cases hf : f.1 with
  | inl e =>
    rw [wq_le]
    refine hH e hf S' (hP _ _ (tl_ok (tb := tb) (r := f.1) r1 v1 m1 o1 (fun u hu => ?_) ⟨fun e' he => ?_, fun y hy => ?_⟩ hK))
    · obtain ⟨u', q1, q2⟩ := hq S' G' u r1.gi m1.1 hu
      exact ⟨u', q1, muo_e q2⟩
    · rw [hf] at he
      cases he
      exact ⟨rfl, hE e hf⟩
    · rw [hf] at hy
      cases hy
  | inr y =>
    rw [wq_re, out_wj o1, o1.1.2]
    refine ⟨by decide, ?_⟩
    show P (0 : Int32) (s_J S' oj 0 (Int32.toInt64 y))
    refine hP _ _ (tl_ok (T := s_J S' oj 0 (Int32.toInt64 y)) (G := G') (tb := tb) (r := f.1) (nx' := nx') r1 v1 (relM_J m1) o1 (fun u hu => ?_) ⟨fun e' he => ?_, fun y' hy => ?_⟩ hK)
    · obtain ⟨u', q1, q2⟩ := hq (s_J S' oj 0 (Int32.toInt64 y)) G' u r1.gi m1.1 hu
      exact ⟨u', q1, muo_e q2⟩
    · rw [hf] at he
      cases he
    · rw [hf] at hy
      cases hy
      refine ⟨rfl, ?_⟩
      show u_2 (p_J S') oj 0 _ oj 0 = _
      unfold u_2
      exact if_pos ⟨rfl, rfl⟩
end RW2
section FV
variable {v : AS} {sl : Nat → Option AS} {tn : Nat} {tx : Nat → Int32}
theorem pn8 (hI : IV v) {i : Int32} (h : a_isP v i = true) : i.toNatClampNeg < a_n v := by
  obtain ⟨q, hq, rfl⟩ := isP_n hI h
  have := hI.in_.2
  rw [n_cl (by omega)]
  exact hq
theorem in8 {i : Int32} {k : Nat} (hk : k < 1000) (h : a_in i (nI 0) (nI k) = true) : i.toNatClampNeg ≤ k := by
  obtain ⟨p, hp, rfl⟩ := in_n (by omega) h
  rw [n_cl (by omega)]
  exact hp
theorem fv_paper (hI : IV v) (i j : Int32) : ∀ w, (f_paper v i j).2 = some w → IV w := by
  intro w hw
  unfold f_paper at hw
  split at hw
  · split at hw
    · split at hw
      · rename_i h3
        cases hw
        exact iv_pa hI _ _ h3
      · cases hw
    · cases hw
  · cases hw
theorem fv_topics (hI : IV v) (i j : Int32) : ∀ w, (f_topics v i j).2 = some w → IV w := by
  intro w hw
  unfold f_topics at hw
  split at hw
  · rename_i h1
    split at hw
    · cases hw
      exact iv_free hI (by omega) (Nat.lt_succ_of_le (in8 (by omega) h1))
    · cases hw
  · cases hw
theorem fv_meet (hI : IV v) (i j : Int32) : ∀ w, (f_meet v i j).2 = some w → IV w := by
  intro w hw
  unfold f_meet at hw
  split at hw
  · rename_i h1
    split at hw
    · rename_i h2
      split at hw
      · cases hw
      · rename_i h3
        cases hw
        obtain ⟨p, hp, rfl⟩ := in_n (by omega) h1
        obtain ⟨q, hq, rfl⟩ := in_n (by omega) h2
        rw [n_cl (by omega), n_cl (by omega)]
        exact iv_meet hI (by omega) (by omega) (fun z => h3 (by rw [z]))
    · cases hw
  · cases hw
theorem fv_set (hI : IV v) (i j : Int32) : ∀ w, (f_set v i j).2 = some w → IV w := by
  intro w hw
  unfold f_set at hw
  split at hw
  · rename_i h1
    split at hw
    · rename_i h2
      cases hw
      obtain ⟨p, hp, rfl⟩ := in_n (by omega) h1
      rw [n_cl (by omega)] at h2 ⊢
      have lo : ∀ p, p < 4 → ¬ sLo p < nI 0 := by decide
      have hi : ∀ p, p < 4 → sHi p ≤ nI 9 := by decide
      have h9 : a_in j (nI 0) (nI 9) = true := by
        unfold a_in at h2 ⊢
        rw [Bool.and_eq_true, Bool.not_eq_true', Bool.not_eq_true', decide_eq_false_iff_not, decide_eq_false_iff_not] at h2 ⊢
        have l1 := lo p (by omega)
        have l2 := hi p (by omega)
        exact ⟨fun z => h2.1 (Int32.lt_of_lt_of_le z (Int32.not_lt.mp l1)), fun z => h2.2 (Int32.lt_of_le_of_lt l2 z)⟩
      obtain ⟨k, hk, rfl⟩ := in_n (by omega) h9
      refine iv_11 hI (by omega) ?_
      have c0 : ∀ k, k < 10 → a_in (nI k) (sLo 0) (sHi 0) = true → 1 ≤ k ∧ k ≤ 4 := by decide
      have c1 : ∀ k, k < 10 → a_in (nI k) (sLo 1) (sHi 1) = true → k ≤ 2 := by decide
      have c3 : ∀ k, k < 10 → a_in (nI k) (sLo 3) (sHi 3) = true → k ≤ 3 := by decide
      rcases (show p = 0 ∨ p = 1 ∨ p = 2 ∨ p = 3 by omega) with rfl | rfl | rfl | rfl
      · have := c0 k (by omega) h2
        omega
      · have := c1 k (by omega) h2
        omega
      · omega
      · have := c3 k (by omega) h2
        omega
    · cases hw
  · cases hw
theorem fv_bring (hI : IV v) (i : Int32) : ∀ w, (f_bring v i).2 = some w → IV w := by
  intro w hw
  unfold f_bring at hw
  split at hw
  · rename_i h1
    split at hw
    · rename_i h2
      cases hw
      obtain ⟨j, hj, rfl⟩ : ∃ j, j ≤ 999 ∧ i = nI j := by
        refine in_n (by omega) ?_
        unfold a_in at h1 ⊢
        rw [Bool.and_eq_true, Bool.not_eq_true', Bool.not_eq_true', decide_eq_false_iff_not, decide_eq_false_iff_not] at h1 ⊢
        exact ⟨fun z => h1.1 (Int32.lt_trans z (by decide)), h1.2⟩
      obtain ⟨b1, b2⟩ := hI.br
      refine iv_bring hI ?_
      rw [b1, nI_add, nI_leI (by omega) (by omega)] at h2
      exact h2
    · cases hw
  · cases hw
theorem fv_week (hI : IV v) : ∀ w, (f_week v).2 = some w → IV w := by
  intro w hw
  unfold f_week at hw
  split at hw
  · cases hw
  · cases hw
    exact iv_week hI
theorem fv_take (hI : IV v) (i j : Int32) : ∀ w, (f_take v i j).2 = some w → IV w := by
  intro w hw
  unfold f_take at hw
  split at hw
  · rename_i h1
    split at hw
    · rename_i h2
      cases hw
      exact iv_take hI (pn8 hI h2) (Nat.lt_succ_of_le (in8 (by omega) h1))
    · cases hw
  · cases hw
theorem fv_write (hI : IV v) (i j s : Int32) : ∀ w, (f_write v i j s).2 = some w → IV w := by
  intro w hw
  unfold f_write at hw
  split at hw
  · rename_i h1
    split at hw
    · rename_i h2
      split at hw
      · rename_i h3
        split at hw
        · cases hw
          obtain ⟨k, hk, rfl⟩ := isS_n9 h3
          exact iv_write hI (pn8 hI h2) (Nat.lt_succ_of_le (in8 (by omega) h1)) hk
        · cases hw
      · cases hw
    · cases hw
  · cases hw
theorem fv_drop (hI : IV v) (i j : Int32) : ∀ w, (f_drop v i j).2 = some w → IV w := by
  intro w hw
  unfold f_drop at hw
  split at hw
  · rename_i h1
    split at hw
    · rename_i h2
      split at hw
      · rename_i h3
        cases hw
        exact iv_drop hI (pn8 hI h2) (Nat.lt_succ_of_le (in8 (by omega) h1)) (of_decide_eq_true h3)
      · cases hw
    · cases hw
  · cases hw
theorem fv_discuss (hI : IV v) (j : Int32) : ∀ w, (f_discuss v j).2 = some w → IV w := by
  intro w hw
  unfold f_discuss at hw
  split at hw
  · rename_i h2
    cases hw
    exact iv_disc hI (pn8 hI h2)
  · cases hw
theorem fv_rebut (hI : IV v) (j : Int32) : ∀ w, (f_rebut v j).2 = some w → IV w := by
  intro w hw
  unfold f_rebut at hw
  split at hw
  · rename_i h2
    cases hw
    exact iv_reb hI (pn8 hI h2)
  · cases hw
theorem fv_decide (hI : IV v) (j : Int32) : ∀ w, (f_decide v j).2 = some w → IV w := by
  intro w hw
  unfold f_decide at hw
  split at hw
  · rename_i h2
    split at hw
    · cases hw
      have h8 := hI.in_.2
      have hq := pn8 hI h2
      by_cases g : a_dec v j.toNatClampNeg = true
      · rw [if_pos g]; exact iv_9 hI hq (by omega) (by omega)
      · rw [if_neg g]; exact iv_9 hI hq (by omega) (by omega)
    · cases hw
  · cases hw
theorem fv_run (hI : IV v) : ∀ w, (f_run v tn tx).2 = some w → IV w := by
  intro w hw
  unfold f_run at hw
  split at hw
  · rename_i h1
    have k := (iv_ords (C := cd tn tx) (if_neg (by omega)) h1 60 0 0 v hI (Or.inr ⟨rfl, dst_w h1⟩)).1
    generalize ords (cd tn tx) tn 60 0 0 v = R at hw k
    cases hw
    exact k
  · cases hw
theorem fv_go (hS : ∀ i w, i < 2 → sl i = some w → IV w) (i : Int32) : ∀ w, (f_go v sl i).2 = some w → IV w := by
  intro w hw
  unfold f_go at hw
  split at hw
  · rename_i h1
    split at hw
    · cases hw
    · rename_i z hz
      cases hw
      exact hS _ _ (Nat.lt_succ_of_le (in8 (by omega) h1)) hz
  · cases hw
end FV
