/-! THE LAW'S ROWS: the orders, one by one -/
section RZ
variable {S : PH} {G : Nat → Nat} {x nw m oj oe : Nat} {v : AS} {hs : List AS} {nx : Nat} {sl : Nat → Option AS} {tn : Nat} {tx : Nat → Int32} {i5 : Int32} {K : Int32 → PH → Prop} {L : Nat} {xs : Nat → Int32}
theorem r_188 (hL : LW S G x nw m oj oe v hs nx sl tn tx) (hx1 : ix (i5 + (1 : Int32)) L = true) (hx2 : ix (i5 + (2 : Int32)) L = true) (hx3 : ix (i5 + (3 : Int32)) L = true) (hK : ∀ T, LWE x nw m oj oe T → K (i5 + 4) T) : wc_law_188 xs L (some x) (some m) (some oj) (some oe) i5 S K := by
  have hI := hL.2.1.1
  unfold wc_law_188 w_L_paper
  refine ⟨hx1, hx2, ?_⟩
  rw [hL.1.rc.Wx]
  exact law_W hL (f := f_paper v (xs (Int32.toNatClampNeg (i5 + (1 : Int32)))) (xs (Int32.toNatClampNeg (i5 + (2 : Int32))))) (tb := (fun e => if e = 0 then nI 1 else nI 2)) (fun Q => w_X4_paper (some x) (xs (Int32.toNatClampNeg (i5 + (1 : Int32)))) (xs (Int32.toNatClampNeg (i5 + (2 : Int32)))) S Q) (fun S => m_X5_paper (some m) (xs (Int32.toNatClampNeg (i5 + (1 : Int32)))) (xs (Int32.toNatClampNeg (i5 + (2 : Int32)))) S) (fun v3 S4 => wck (ix (i5 + (1 : Int32)) L) <| wck (ix (i5 + (2 : Int32)) L) <| tl i5 K (some m) (some oj) (fun S => m_X5_paper (some m) (xs (Int32.toNatClampNeg (i5 + (1 : Int32)))) (xs (Int32.toNatClampNeg (i5 + (2 : Int32)))) S) v3 S4) _ (fun Q hQ => k_paper hL.1 hI _ _ hQ) (fun T G u hg h hu => q_paper hg h hI hu _ _) (fv_paper hI _ _) (fun e _ => by (repeat' split) <;> decide) (fun y T h => ⟨hx1, hx2, h⟩) (fun e he T h => by unfold f_paper at he; (repeat' split at he) <;> first | (cases he; exact h) | cases he) hK
theorem r_256 (hL : LW S G x nw m oj oe v hs nx sl tn tx) (hx1 : ix (i5 + (1 : Int32)) L = true) (hx2 : ix (i5 + (2 : Int32)) L = true) (hx3 : ix (i5 + (3 : Int32)) L = true) (hK : ∀ T, LWE x nw m oj oe T → K (i5 + 4) T) : wc_law_256 xs L (some x) (some m) (some oj) (some oe) i5 S K := by
  have hI := hL.2.1.1
  unfold wc_law_256 w_L_topics
  refine ⟨hx1, hx2, ?_⟩
  rw [hL.1.rc.Wx]
  exact law_W hL (f := f_topics v (xs (Int32.toNatClampNeg (i5 + (1 : Int32)))) (xs (Int32.toNatClampNeg (i5 + (2 : Int32))))) (tb := (fun e => if e = 2 then nI 1 else nI 2)) (fun Q => w_X4_topics (some x) (xs (Int32.toNatClampNeg (i5 + (1 : Int32)))) (xs (Int32.toNatClampNeg (i5 + (2 : Int32)))) S Q) (fun S => m_X5_topics (some m) (xs (Int32.toNatClampNeg (i5 + (1 : Int32)))) (xs (Int32.toNatClampNeg (i5 + (2 : Int32)))) S) (fun v3 S4 => wck (ix (i5 + (1 : Int32)) L) <| wck (ix (i5 + (2 : Int32)) L) <| tl i5 K (some m) (some oj) (fun S => m_X5_topics (some m) (xs (Int32.toNatClampNeg (i5 + (1 : Int32)))) (xs (Int32.toNatClampNeg (i5 + (2 : Int32)))) S) v3 S4) _ (fun Q hQ => k_topics hL.1 hI _ _ hQ) (fun T G u hg h hu => q_topics hg h hI hu _ _) (fv_topics hI _ _) (fun e _ => by (repeat' split) <;> decide) (fun y T h => ⟨hx1, hx2, h⟩) (fun e he T h => by unfold f_topics at he; (repeat' split at he) <;> first | (cases he; exact h) | cases he) hK
theorem r_324 (hL : LW S G x nw m oj oe v hs nx sl tn tx) (hx1 : ix (i5 + (1 : Int32)) L = true) (hx2 : ix (i5 + (2 : Int32)) L = true) (hx3 : ix (i5 + (3 : Int32)) L = true) (hK : ∀ T, LWE x nw m oj oe T → K (i5 + 4) T) : wc_law_324 xs L (some x) (some m) (some oj) (some oe) i5 S K := by
  have hI := hL.2.1.1
  unfold wc_law_324 w_L_meet
  refine ⟨hx1, hx2, ?_⟩
  rw [hL.1.rc.Wx]
  exact law_W hL (f := f_meet v (xs (Int32.toNatClampNeg (i5 + (1 : Int32)))) (xs (Int32.toNatClampNeg (i5 + (2 : Int32))))) (tb := (fun e => if e = 2 then nI 1 else nI 2)) (fun Q => w_X4_meet (some x) (xs (Int32.toNatClampNeg (i5 + (1 : Int32)))) (xs (Int32.toNatClampNeg (i5 + (2 : Int32)))) S Q) (fun S => m_X5_meet (some m) (xs (Int32.toNatClampNeg (i5 + (1 : Int32)))) (xs (Int32.toNatClampNeg (i5 + (2 : Int32)))) S) (fun v3 S4 => wck (ix (i5 + (1 : Int32)) L) <| wck (ix (i5 + (2 : Int32)) L) <| tl i5 K (some m) (some oj) (fun S => m_X5_meet (some m) (xs (Int32.toNatClampNeg (i5 + (1 : Int32)))) (xs (Int32.toNatClampNeg (i5 + (2 : Int32)))) S) v3 S4) _ (fun Q hQ => k_meet hL.1 hI _ _ hQ) (fun T G u hg h hu => q_meet hg h hI hu _ _) (fv_meet hI _ _) (fun e _ => by (repeat' split) <;> decide) (fun y T h => ⟨hx1, hx2, h⟩) (fun e he T h => by unfold f_meet at he; (repeat' split at he) <;> first | (cases he; exact h) | cases he) hK
theorem r_392 (hL : LW S G x nw m oj oe v hs nx sl tn tx) (hx1 : ix (i5 + (1 : Int32)) L = true) (hx2 : ix (i5 + (2 : Int32)) L = true) (hx3 : ix (i5 + (3 : Int32)) L = true) (hK : ∀ T, LWE x nw m oj oe T → K (i5 + 4) T) : wc_law_392 xs L (some x) (some m) (some oj) (some oe) i5 S K := by
  have hI := hL.2.1.1
  unfold wc_law_392 w_L_set
  refine ⟨hx1, hx2, ?_⟩
  rw [hL.1.rc.Wx]
  exact law_W hL (f := f_set v (xs (Int32.toNatClampNeg (i5 + (1 : Int32)))) (xs (Int32.toNatClampNeg (i5 + (2 : Int32))))) (tb := (fun e => if e = 2 then nI 1 else nI 2)) (fun Q => w_X4_set (some x) (xs (Int32.toNatClampNeg (i5 + (1 : Int32)))) (xs (Int32.toNatClampNeg (i5 + (2 : Int32)))) S Q) (fun S => m_X5_set (some m) (xs (Int32.toNatClampNeg (i5 + (1 : Int32)))) (xs (Int32.toNatClampNeg (i5 + (2 : Int32)))) S) (fun v3 S4 => wck (ix (i5 + (1 : Int32)) L) <| wck (ix (i5 + (2 : Int32)) L) <| tl i5 K (some m) (some oj) (fun S => m_X5_set (some m) (xs (Int32.toNatClampNeg (i5 + (1 : Int32)))) (xs (Int32.toNatClampNeg (i5 + (2 : Int32)))) S) v3 S4) _ (fun Q hQ => k_set hL.1 hI _ _ hQ) (fun T G u hg h hu => q_set hg h hI hu _ _) (fv_set hI _ _) (fun e _ => by (repeat' split) <;> decide) (fun y T h => ⟨hx1, hx2, h⟩) (fun e he T h => by unfold f_set at he; (repeat' split at he) <;> first | (cases he; exact h) | cases he) hK
theorem r_460 (hL : LW S G x nw m oj oe v hs nx sl tn tx) (hx1 : ix (i5 + (1 : Int32)) L = true) (hx2 : ix (i5 + (2 : Int32)) L = true) (hx3 : ix (i5 + (3 : Int32)) L = true) (hK : ∀ T, LWE x nw m oj oe T → K (i5 + 4) T) : wc_law_460 xs L (some x) (some m) (some oj) (some oe) i5 S K := by
  have hI := hL.2.1.1
  unfold wc_law_460 w_L_bring
  refine ⟨hx1, ?_⟩
  rw [hL.1.rc.Wx]
  exact law_W hL (f := f_bring v (xs (Int32.toNatClampNeg (i5 + (1 : Int32))))) (tb := (fun e => if e = 0 then nI 1 else nI 2)) (fun Q => w_X4_bring (some x) (xs (Int32.toNatClampNeg (i5 + (1 : Int32)))) S Q) (fun S => m_X5_bring (some m) (xs (Int32.toNatClampNeg (i5 + (1 : Int32)))) S) (fun v3 S4 => wck (ix (i5 + (1 : Int32)) L) <| tl i5 K (some m) (some oj) (fun S => m_X5_bring (some m) (xs (Int32.toNatClampNeg (i5 + (1 : Int32)))) S) v3 S4) _ (fun Q hQ => k_bring hL.1 hI _ hQ) (fun T G u hg h hu => q_bring hg h hI hu _) (fv_bring hI _) (fun e _ => by (repeat' split) <;> decide) (fun y T h => ⟨hx1, h⟩) (fun e he T h => by unfold f_bring at he; (repeat' split at he) <;> first | (cases he; exact h) | cases he) hK
theorem r_516 (hL : LW S G x nw m oj oe v hs nx sl tn tx) (hx1 : ix (i5 + (1 : Int32)) L = true) (hx2 : ix (i5 + (2 : Int32)) L = true) (hx3 : ix (i5 + (3 : Int32)) L = true) (hK : ∀ T, LWE x nw m oj oe T → K (i5 + 4) T) : wc_law_516 xs L (some x) (some m) (some oj) (some oe) i5 S K := by
  have hI := hL.2.1.1
  unfold wc_law_516 w_L_week
  rw [hL.1.rc.Wx]
  exact law_W hL (f := f_week v) (tb := (fun _ => nI 1)) (fun Q => w_X4_week (some x)  S Q) (fun S => m_X5_week (some m)  S) (fun v3 S4 => tl i5 K (some m) (some oj) (fun S => m_X5_week (some m)  S) v3 S4) _ (fun Q hQ => k_week hL.1 hI hQ) (fun T G u hg h hu => q_week hg h hI hu) (fv_week hI) (fun e _ => by decide) (fun y T h => h) (fun e he T h => by unfold f_week at he; (repeat' split at he) <;> first | (cases he; exact h) | cases he) hK
theorem r_560 (hL : LW S G x nw m oj oe v hs nx sl tn tx) (hx1 : ix (i5 + (1 : Int32)) L = true) (hx2 : ix (i5 + (2 : Int32)) L = true) (hx3 : ix (i5 + (3 : Int32)) L = true) (hK : ∀ T, LWE x nw m oj oe T → K (i5 + 4) T) : wc_law_560 xs L (some x) (some m) (some oj) (some oe) i5 S K := by
  have hI := hL.2.1.1
  unfold wc_law_560 w_L_take
  refine ⟨hx1, hx2, ?_⟩
  rw [hL.1.rc.Wx]
  exact law_W hL (f := f_take v (xs (Int32.toNatClampNeg (i5 + (1 : Int32)))) (xs (Int32.toNatClampNeg (i5 + (2 : Int32))))) (tb := (fun _ => nI 1)) (fun Q => w_X4_take (some x) (xs (Int32.toNatClampNeg (i5 + (1 : Int32)))) (xs (Int32.toNatClampNeg (i5 + (2 : Int32)))) S Q) (fun S => m_X5_take (some m) (xs (Int32.toNatClampNeg (i5 + (1 : Int32)))) (xs (Int32.toNatClampNeg (i5 + (2 : Int32)))) S) (fun v3 S4 => wck (ix (i5 + (1 : Int32)) L) <| wck (ix (i5 + (2 : Int32)) L) <| tl i5 K (some m) (some oj) (fun S => m_X5_take (some m) (xs (Int32.toNatClampNeg (i5 + (1 : Int32)))) (xs (Int32.toNatClampNeg (i5 + (2 : Int32)))) S) v3 S4) _ (fun Q hQ => k_take hL.1 hI _ _ hQ) (fun T G u hg h hu => q_take hg h hI hu _ _) (fv_take hI _ _) (fun e _ => by decide) (fun y T h => ⟨hx1, hx2, h⟩) (fun e he T h => by unfold f_take at he; (repeat' split at he) <;> first | (cases he; exact h) | cases he) hK
theorem r_628 (hL : LW S G x nw m oj oe v hs nx sl tn tx) (hx1 : ix (i5 + (1 : Int32)) L = true) (hx2 : ix (i5 + (2 : Int32)) L = true) (hx3 : ix (i5 + (3 : Int32)) L = true) (hK : ∀ T, LWE x nw m oj oe T → K (i5 + 4) T) : wc_law_628 xs L (some x) (some m) (some oj) (some oe) i5 S K := by
  have hI := hL.2.1.1
  unfold wc_law_628 w_L_write
  refine ⟨hx1, hx2, hx3, ?_⟩
  rw [hL.1.rc.Wx]
  exact law_W hL (f := f_write v (xs (Int32.toNatClampNeg (i5 + (1 : Int32)))) (xs (Int32.toNatClampNeg (i5 + (2 : Int32)))) (xs (Int32.toNatClampNeg (i5 + (3 : Int32))))) (tb := (fun e => if e = 2 then nI 1 else if e = 0 then nI 2 else nI 3)) (fun Q => w_X4_write (some x) (xs (Int32.toNatClampNeg (i5 + (1 : Int32)))) (xs (Int32.toNatClampNeg (i5 + (2 : Int32)))) (xs (Int32.toNatClampNeg (i5 + (3 : Int32)))) S Q) (fun S => m_X5_write (some m) (xs (Int32.toNatClampNeg (i5 + (1 : Int32)))) (xs (Int32.toNatClampNeg (i5 + (2 : Int32)))) (xs (Int32.toNatClampNeg (i5 + (3 : Int32)))) S) (fun v3 S4 => wck (ix (i5 + (1 : Int32)) L) <| wck (ix (i5 + (2 : Int32)) L) <| wck (ix (i5 + (3 : Int32)) L) <| tl i5 K (some m) (some oj) (fun S => m_X5_write (some m) (xs (Int32.toNatClampNeg (i5 + (1 : Int32)))) (xs (Int32.toNatClampNeg (i5 + (2 : Int32)))) (xs (Int32.toNatClampNeg (i5 + (3 : Int32)))) S) v3 S4) _ (fun Q hQ => k_write hL.1 hI _ _ _ hQ) (fun T G u hg h hu => q_write hg h hI hu _ _ _) (fv_write hI _ _ _) (fun e _ => by (repeat' split) <;> decide) (fun y T h => ⟨hx1, hx2, hx3, h⟩) (fun e he T h => by unfold f_write at he; (repeat' split at he) <;> first | (cases he; exact h) | cases he) hK
theorem r_708 (hL : LW S G x nw m oj oe v hs nx sl tn tx) (hx1 : ix (i5 + (1 : Int32)) L = true) (hx2 : ix (i5 + (2 : Int32)) L = true) (hx3 : ix (i5 + (3 : Int32)) L = true) (hK : ∀ T, LWE x nw m oj oe T → K (i5 + 4) T) : wc_law_708 xs L (some x) (some m) (some oj) (some oe) i5 S K := by
  have hI := hL.2.1.1
  unfold wc_law_708 w_L_drop
  refine ⟨hx1, hx2, ?_⟩
  rw [hL.1.rc.Wx]
  exact law_W hL (f := f_drop v (xs (Int32.toNatClampNeg (i5 + (1 : Int32)))) (xs (Int32.toNatClampNeg (i5 + (2 : Int32))))) (tb := (fun e => if e = 2 then nI 1 else nI 2)) (fun Q => w_X4_drop (some x) (xs (Int32.toNatClampNeg (i5 + (1 : Int32)))) (xs (Int32.toNatClampNeg (i5 + (2 : Int32)))) S Q) (fun S => m_X5_drop (some m) (xs (Int32.toNatClampNeg (i5 + (1 : Int32)))) (xs (Int32.toNatClampNeg (i5 + (2 : Int32)))) S) (fun v3 S4 => wck (ix (i5 + (1 : Int32)) L) <| wck (ix (i5 + (2 : Int32)) L) <| tl i5 K (some m) (some oj) (fun S => m_X5_drop (some m) (xs (Int32.toNatClampNeg (i5 + (1 : Int32)))) (xs (Int32.toNatClampNeg (i5 + (2 : Int32)))) S) v3 S4) _ (fun Q hQ => k_drop hL.1 hI _ _ hQ) (fun T G u hg h hu => q_drop hg h hI hu _ _) (fv_drop hI _ _) (fun e _ => by (repeat' split) <;> decide) (fun y T h => ⟨hx1, hx2, h⟩) (fun e he T h => by unfold f_drop at he; (repeat' split at he) <;> first | (cases he; exact h) | cases he) hK
theorem r_776 (hL : LW S G x nw m oj oe v hs nx sl tn tx) (hx1 : ix (i5 + (1 : Int32)) L = true) (hx2 : ix (i5 + (2 : Int32)) L = true) (hx3 : ix (i5 + (3 : Int32)) L = true) (hK : ∀ T, LWE x nw m oj oe T → K (i5 + 4) T) : wc_law_776 xs L (some x) (some m) (some oj) (some oe) i5 S K := by
  have hI := hL.2.1.1
  unfold wc_law_776 w_L_discuss
  refine ⟨hx1, ?_⟩
  rw [hL.1.rc.Wx]
  exact law_W hL (f := f_discuss v (xs (Int32.toNatClampNeg (i5 + (1 : Int32))))) (tb := (fun _ => nI 1)) (fun Q => w_X4_discuss (some x) (xs (Int32.toNatClampNeg (i5 + (1 : Int32)))) S Q) (fun S => m_X5_discuss (some m) (xs (Int32.toNatClampNeg (i5 + (1 : Int32)))) S) (fun v3 S4 => wck (ix (i5 + (1 : Int32)) L) <| tl i5 K (some m) (some oj) (fun S => m_X5_discuss (some m) (xs (Int32.toNatClampNeg (i5 + (1 : Int32)))) S) v3 S4) _ (fun Q hQ => k_discuss hL.1 hI _ hQ) (fun T G u hg h hu => q_discuss hg h hI hu _) (fv_discuss hI _) (fun e _ => by decide) (fun y T h => ⟨hx1, h⟩) (fun e he T h => by unfold f_discuss at he; (repeat' split at he) <;> first | (cases he; exact h) | cases he) hK
theorem r_832 (hL : LW S G x nw m oj oe v hs nx sl tn tx) (hx1 : ix (i5 + (1 : Int32)) L = true) (hx2 : ix (i5 + (2 : Int32)) L = true) (hx3 : ix (i5 + (3 : Int32)) L = true) (hK : ∀ T, LWE x nw m oj oe T → K (i5 + 4) T) : wc_law_832 xs L (some x) (some m) (some oj) (some oe) i5 S K := by
  have hI := hL.2.1.1
  unfold wc_law_832 w_L_rebut
  refine ⟨hx1, ?_⟩
  rw [hL.1.rc.Wx]
  exact law_W hL (f := f_rebut v (xs (Int32.toNatClampNeg (i5 + (1 : Int32))))) (tb := (fun _ => nI 1)) (fun Q => w_X4_rebut (some x) (xs (Int32.toNatClampNeg (i5 + (1 : Int32)))) S Q) (fun S => m_X5_rebut (some m) (xs (Int32.toNatClampNeg (i5 + (1 : Int32)))) S) (fun v3 S4 => wck (ix (i5 + (1 : Int32)) L) <| tl i5 K (some m) (some oj) (fun S => m_X5_rebut (some m) (xs (Int32.toNatClampNeg (i5 + (1 : Int32)))) S) v3 S4) _ (fun Q hQ => k_rebut hL.1 hI _ hQ) (fun T G u hg h hu => q_rebut hg h hI hu _) (fv_rebut hI _) (fun e _ => by decide) (fun y T h => ⟨hx1, h⟩) (fun e he T h => by unfold f_rebut at he; (repeat' split at he) <;> first | (cases he; exact h) | cases he) hK
theorem r_888 (hL : LW S G x nw m oj oe v hs nx sl tn tx) (hx1 : ix (i5 + (1 : Int32)) L = true) (hx2 : ix (i5 + (2 : Int32)) L = true) (hx3 : ix (i5 + (3 : Int32)) L = true) (hK : ∀ T, LWE x nw m oj oe T → K (i5 + 4) T) : wc_law_888 xs L (some x) (some m) (some oj) (some oe) i5 S K := by
  have hI := hL.2.1.1
  unfold wc_law_888 w_L_decide
  refine ⟨hx1, ?_⟩
  rw [hL.1.rc.Wx]
  exact law_W hL (f := f_decide v (xs (Int32.toNatClampNeg (i5 + (1 : Int32))))) (tb := (fun e => if e = 2 then nI 1 else nI 2)) (fun Q => w_X4_decide (some x) (xs (Int32.toNatClampNeg (i5 + (1 : Int32)))) S Q) (fun S => m_X5_decide (some m) (xs (Int32.toNatClampNeg (i5 + (1 : Int32)))) S) (fun v3 S4 => wck (ix (i5 + (1 : Int32)) L) <| tl i5 K (some m) (some oj) (fun S => m_X5_decide (some m) (xs (Int32.toNatClampNeg (i5 + (1 : Int32)))) S) v3 S4) _ (fun Q hQ => k_decide hL.1 hI _ hQ) (fun T G u hg h hu => q_decide hg h hI hu _) (fv_decide hI _) (fun e _ => by (repeat' split) <;> decide) (fun y T h => ⟨hx1, h⟩) (fun e he T h => by unfold f_decide at he; (repeat' split at he) <;> first | (cases he; exact h) | cases he) hK
theorem r_1026 (hL : LW S G x nw m oj oe v hs nx sl tn tx) (hx1 : ix (i5 + (1 : Int32)) L = true) (hx2 : ix (i5 + (2 : Int32)) L = true) (hx3 : ix (i5 + (3 : Int32)) L = true) (hK : ∀ T, LWE x nw m oj oe T → K (i5 + 4) T) : wc_law_1026 xs L (some x) (some m) (some oj) (some oe) i5 S K := by
  have hI := hL.2.1.1
  unfold wc_law_1026 w_L_run
  rw [hL.1.rc.Wx]
  exact law_W hL (f := f_run v tn tx) (tb := (fun _ => nI 1)) (fun Q => w_X4_run (some x)  S Q) (fun S => m_X5_run (some m)  S) (fun v3 S4 => tl i5 K (some m) (some oj) (fun S => m_X5_run (some m)  S) v3 S4) _ (fun Q hQ => k_run hL.1 hI hQ) (fun T G u hg h hu => q_run hg h hI hu) (fv_run hI) (fun e _ => by decide) (fun y T h => h) (fun e he T h => by unfold f_run at he; (repeat' split at he) <;> first | (cases he; exact h) | cases he) hK
theorem r_1126 (hL : LW S G x nw m oj oe v hs nx sl tn tx) (hx1 : ix (i5 + (1 : Int32)) L = true) (hx2 : ix (i5 + (2 : Int32)) L = true) (hx3 : ix (i5 + (3 : Int32)) L = true) (hK : ∀ T, LWE x nw m oj oe T → K (i5 + 4) T) : wc_law_1126 xs L (some x) (some m) (some oj) (some oe) i5 S K := by
  have hI := hL.2.1.1
  unfold wc_law_1126 w_L_goBack
  refine ⟨hx1, ?_⟩
  rw [hL.1.rc.Wx]
  exact law_W hL (f := f_go v sl (xs (Int32.toNatClampNeg (i5 + (1 : Int32))))) (tb := (fun e => if e = 0 then nI 1 else nI 2)) (fun Q => w_X4_goBack (some x) (xs (Int32.toNatClampNeg (i5 + (1 : Int32)))) S Q) (fun S => m_X5_goBack (some m) (xs (Int32.toNatClampNeg (i5 + (1 : Int32)))) S) (fun v3 S4 => wck (ix (i5 + (1 : Int32)) L) <| tl i5 K (some m) (some oj) (fun S => m_X5_goBack (some m) (xs (Int32.toNatClampNeg (i5 + (1 : Int32)))) S) v3 S4) _ (fun Q hQ => k_go hL.1 _ hQ) (fun T G u hg h hu => q_go hg h hI hu _) (fv_go hL.2.1.2.2 _) (fun e _ => by (repeat' split) <;> decide) (fun y T h => ⟨hx1, h⟩) (fun e he T h => by unfold f_go at he; (repeat' split at he) <;> first | (cases he; exact h) | cases he) hK
end RZ
