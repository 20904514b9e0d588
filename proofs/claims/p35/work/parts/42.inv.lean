/-! MASKS of eight; what always holds of a State's contents -/
def mk8 (P : Nat → Bool) : Nat → Int32 := fun n => fo (fun i m => if P i then m ||| mb i else m) n (nI 0)
def mq8 (b0 b1 b2 b3 b4 b5 b6 b7 : Bool) : Int32 :=
  let s (b : Bool) (k : Int32) (m : Int32) : Int32 := if b then m ||| k else m
  s b7 (mb 7) (s b6 (mb 6) (s b5 (mb 5) (s b4 (mb 4) (s b3 (mb 3) (s b2 (mb 2) (s b1 (mb 1) (s b0 (mb 0) (nI 0))))))))
theorem mk_q (P : Nat → Bool) : mk8 P 8 = mq8 (P 0) (P 1) (P 2) (P 3) (P 4) (P 5) (P 6) (P 7) := rfl
theorem mq_hb : ∀ b0 b1 b2 b3 b4 b5 b6 b7 : Bool, hb (mq8 b0 b1 b2 b3 b4 b5 b6 b7) (nI 0) = b0 ∧ hb (mq8 b0 b1 b2 b3 b4 b5 b6 b7) (nI 1) = b1 ∧ hb (mq8 b0 b1 b2 b3 b4 b5 b6 b7) (nI 2) = b2 ∧ hb (mq8 b0 b1 b2 b3 b4 b5 b6 b7) (nI 3) = b3 ∧ hb (mq8 b0 b1 b2 b3 b4 b5 b6 b7) (nI 4) = b4 ∧ hb (mq8 b0 b1 b2 b3 b4 b5 b6 b7) (nI 5) = b5 ∧ hb (mq8 b0 b1 b2 b3 b4 b5 b6 b7) (nI 6) = b6 ∧ hb (mq8 b0 b1 b2 b3 b4 b5 b6 b7) (nI 7) = b7 := by decide +kernel
def bn (b : Bool) : Nat := if b then 1 else 0
theorem mq_bc : ∀ b0 b1 b2 b3 b4 b5 b6 b7 : Bool, a_bc (mq8 b0 b1 b2 b3 b4 b5 b6 b7) = nI (bn b0 + bn b1 + bn b2 + bn b3 + bn b4 + bn b5 + bn b6 + bn b7) ∧ a_ones (mq8 b0 b1 b2 b3 b4 b5 b6 b7) = nI (bn b0 + bn b1 + bn b2 + bn b3 + bn b4 + bn b5 + bn b6 + bn b7) := by decide +kernel
theorem mq_z : ∀ b0 b1 b2 b3 b4 b5 b6 b7 : Bool, decide (mq8 b0 b1 b2 b3 b4 b5 b6 b7 = nI 0) = !(b0 || b1 || b2 || b3 || b4 || b5 || b6 || b7) := by decide +kernel
theorem mk_hb (P : Nat → Bool) {p : Nat} (hp : p < 8) : hb (mk8 P 8) (nI p) = P p := by
  rw [mk_q]
  have h := mq_hb (P 0) (P 1) (P 2) (P 3) (P 4) (P 5) (P 6) (P 7)
  rcases (show p = 0 ∨ p = 1 ∨ p = 2 ∨ p = 3 ∨ p = 4 ∨ p = 5 ∨ p = 6 ∨ p = 7 by omega) with rfl | rfl | rfl | rfl | rfl | rfl | rfl | rfl
  · exact h.1
  · exact h.2.1
  · exact h.2.2.1
  · exact h.2.2.2.1
  · exact h.2.2.2.2.1
  · exact h.2.2.2.2.2.1
  · exact h.2.2.2.2.2.2.1
  · exact h.2.2.2.2.2.2.2
/-- how many -/
def cnt (P : Nat → Bool) : Nat → Nat
  | 0 => 0
  | n + 1 => cnt P n + bn (P n)
theorem mk_bc (P : Nat → Bool) : a_bc (mk8 P 8) = nI (cnt P 8) := by
  rw [mk_q, (mq_bc _ _ _ _ _ _ _ _).1]
  congr 1
  simp only [cnt]
  omega
theorem mk_ones (P : Nat → Bool) : a_ones (mk8 P 8) = nI (cnt P 8) := by
  rw [mk_q, (mq_bc _ _ _ _ _ _ _ _).2]
  congr 1
  simp only [cnt]
  omega
theorem cnt_le (P : Nat → Bool) : ∀ n, cnt P n ≤ n
  | 0 => Nat.le_refl 0
  | n + 1 => by
    have := cnt_le P n
    have h2 : bn (P n) ≤ 1 := by unfold bn; split <;> omega
    simp only [cnt]
    omega
theorem cnt_z {P : Nat → Bool} : ∀ {n}, cnt P n = 0 → ∀ i, i < n → P i = false
  | 0, _, i, hi => by omega
  | n + 1, h, i, hi => by
    simp only [cnt] at h
    rcases Nat.lt_or_ge i n with g | g
    · exact cnt_z (by omega) i g
    · have e : i = n := by omega
      subst e
      cases hP : P i with
      | false => rfl
      | true => rw [hP] at h; simp [bn] at h
theorem cnt_0 {P : Nat → Bool} : ∀ {n}, (∀ i, i < n → P i = false) → cnt P n = 0
  | 0, _ => rfl
  | n + 1, h => by
    simp only [cnt]
    rw [cnt_0 (fun i hi => h i (by omega)), h n (by omega)]
    rfl
def sc (r : Nat → Int32) : Nat → Bool := fun i => isS (r i)
def rw_ (r : Nat → Int32) : Nat → Bool := fun i => !decide (r i = nM)
theorem wri_mk (r : Nat → Int32) : a_wri r = mk8 (sc r) 8 := rfl
theorem rev_mk (r : Nat → Int32) : a_rev r = mk8 (rw_ r) 8 := by
  unfold a_rev mk8
  refine fo_congr (fun i b hi => ?_)
  unfold rw_
  by_cases h : r i = nM
  · rw [if_pos h, decide_eq_true h]; rfl
  · rw [if_neg h, decide_eq_false h]; rfl
theorem wri_bc (r : Nat → Int32) : a_bc (a_wri r) = nI (cnt (sc r) 8) := mk_bc _
theorem rev_bc (r : Nat → Int32) : a_bc (a_rev r) = nI (cnt (rw_ r) 8) := by rw [rev_mk]; exact mk_bc _
theorem wri_on (r : Nat → Int32) : a_ones (a_wri r) = a_bc (a_wri r) := by rw [wri_mk, mk_ones, mk_bc]
theorem rev_on (r : Nat → Int32) : a_ones (a_rev r) = a_bc (a_rev r) := by rw [rev_mk, mk_ones, mk_bc]
theorem wri_hb (r : Nat → Int32) {p : Nat} (hp : p < 8) : hb (a_wri r) (nI p) = isS (r p) := mk_hb _ hp
theorem wri_0 (r : Nat → Int32) : a_wri r = nI 0 ↔ cnt (sc r) 8 = 0 := by
  have h := mq_z (sc r 0) (sc r 1) (sc r 2) (sc r 3) (sc r 4) (sc r 5) (sc r 6) (sc r 7)
  rw [wri_mk, mk_q]
  constructor
  · intro e
    rw [decide_eq_true e] at h
    have g := (Bool.not_eq_true' _).mp h.symm
    simp only [Bool.or_eq_false_iff] at g
    obtain ⟨⟨⟨⟨⟨⟨⟨h0, h1⟩, h2⟩, h3⟩, h4⟩, h5⟩, h6⟩, h7⟩ := g
    simp only [cnt, h0, h1, h2, h3, h4, h5, h6, h7, bn]
    rfl
  · intro e
    have g := cnt_z e
    rw [g 0 (by omega), g 1 (by omega), g 2 (by omega), g 3 (by omega), g 4 (by omega), g 5 (by omega), g 6 (by omega), g 7 (by omega)] at h ⊢
    exact of_decide_eq_true h
theorem isS_nI {k : Nat} (hk : k ≤ 10) : isS (nI k) = decide (k ≤ 9) := by
  unfold isS
  rw [decide_eq_false (show ¬ nI k < nI 0 from nI_pos (by omega))]
  by_cases h : k ≤ 9
  · rw [decide_eq_false (show ¬ nI 9 < nI k from nI_nlt (by omega) (by omega)), decide_eq_true h]; rfl
  · rw [decide_eq_true (show nI 9 < nI k from nI_lt (by omega) (by omega)), decide_eq_false h]; rfl
theorem isS_nM : isS nM = false := by decide
/-! what always holds -/
abbrev nv (v : AS) (f k : Nat) : Nat := (v f k).toNatClampNeg
def nat (v : AS) (f k b : Nat) : Prop := v f k = nI (nv v f k) ∧ nv v f k ≤ b
def sm (g : Nat → Nat) : Nat → Nat
  | 0 => 0
  | n + 1 => sm g n + g n
/-- what a person has taken and not written -/
def ow (v : AS) (p : Nat) : Nat := cnt (fun q => decide (v (20 + q) p = nI 10)) 8
def IN (v : AS) : Prop := nat v 12 0 8
def IS (v : AS) : Prop := (nat v 11 0 4 ∧ 1 ≤ nv v 11 0) ∧ nat v 11 1 2 ∧ nat v 11 2 9 ∧ nat v 11 3 3
def IM (v : AS) : Prop := nat v 15 0 9999 ∧ nat v 14 0 10099 ∧ (∀ p, p < 8 → nat v 2 p 10099 ∧ nat v 3 p 10099 ∧ nv v 3 p ≤ nv v 2 p) ∧ nv v 14 0 + sm (nv v 2) 8 = 100 + nv v 15 0
def IO (v : AS) : Prop := ∀ p, p < 8 → ow v p ≤ nv v 3 p
def IR (v : AS) : Prop := ∀ q, q < 8 → ∀ p, p < 8 → v (20 + q) p = nM ∨ nat v (20 + q) p 10
def IA (v : AS) : Prop := ∀ q, a_n v ≤ q → q < 8 → (∀ p, p < 8 → v (20 + q) p = nM) ∧ v 7 q = nI 0 ∧ v 8 q = nI 0 ∧ v 9 q = nI 0
def ID (v : AS) : Prop := ∀ q, q < 8 → nat v 9 q 2 ∧ nat v 8 q 1
def IW (v : AS) : Prop := (∀ p, p < 8 → nat v 1 p 255) ∧ ∀ p q, p < 8 → q < 8 → hb (v 1 p) (nI q) = hb (v 1 q) (nI p) ∧ hb (v 1 p) (nI p) = false
def AW (v : AS) : Prop := (∀ f k, f < 10 ∨ 20 ≤ f → 8 ≤ k → v f k = 0) ∧ ∀ k, 4 ≤ k → v 11 k = 0
def IV (v : AS) : Prop := IN v ∧ IS v ∧ IM v ∧ IO v ∧ IR v ∧ IA v ∧ ID v ∧ IW v ∧ AW v
section IV
variable {v : AS}
theorem IV.in_ (h : IV v) : v 12 0 = nI (a_n v) ∧ a_n v ≤ 8 := h.1
theorem IV.s0 (h : IV v) : v 11 0 = nI (nv v 11 0) ∧ nv v 11 0 ≤ 4 ∧ 1 ≤ nv v 11 0 := ⟨h.2.1.1.1.1, h.2.1.1.1.2, h.2.1.1.2⟩
theorem IV.s1 (h : IV v) : v 11 1 = nI (nv v 11 1) ∧ nv v 11 1 ≤ 2 := h.2.1.2.1
theorem IV.s2 (h : IV v) : v 11 2 = nI (nv v 11 2) ∧ nv v 11 2 ≤ 9 := h.2.1.2.2.1
theorem IV.s3 (h : IV v) : v 11 3 = nI (nv v 11 3) ∧ nv v 11 3 ≤ 3 := h.2.1.2.2.2
theorem IV.br (h : IV v) : v 15 0 = nI (nv v 15 0) ∧ nv v 15 0 ≤ 9999 := h.2.2.1.1
theorem IV.po (h : IV v) : v 14 0 = nI (nv v 14 0) ∧ nv v 14 0 ≤ 10099 := h.2.2.1.2.1
theorem IV.go (h : IV v) {p : Nat} (hp : p < 8) : v 2 p = nI (nv v 2 p) ∧ nv v 2 p ≤ 10099 := (h.2.2.1.2.2.1 p hp).1
theorem IV.sp (h : IV v) {p : Nat} (hp : p < 8) : v 3 p = nI (nv v 3 p) ∧ nv v 3 p ≤ nv v 2 p := ⟨(h.2.2.1.2.2.1 p hp).2.1.1, (h.2.2.1.2.2.1 p hp).2.2⟩
theorem IV.sum (h : IV v) : nv v 14 0 + sm (nv v 2) 8 = 100 + nv v 15 0 := h.2.2.1.2.2.2
theorem IV.tok (h : IV v) {p : Nat} (hp : p < 8) : a_tok v p = nI (nv v 2 p - nv v 3 p) := by
  have h1 := h.go hp
  have h2 := h.sp hp
  show v 2 p - v 3 p = _
  rw [h1.1, h2.1, pk_sub h2.2]
theorem IV.sc (h : IV v) {q p : Nat} (hq : q < 8) (hp : p < 8) : v (20 + q) p = nM ∨ (v (20 + q) p = nI (nv v (20 + q) p) ∧ nv v (20 + q) p ≤ 10) := h.2.2.2.2.1 q hq p hp
theorem IV.ab (h : IV v) {q : Nat} (h1 : a_n v ≤ q) (hq : q < 8) : (∀ p, p < 8 → v (20 + q) p = nM) ∧ v 7 q = nI 0 ∧ v 8 q = nI 0 ∧ v 9 q = nI 0 := h.2.2.2.2.2.1 q h1 hq
theorem IV.de (h : IV v) {q : Nat} (hq : q < 8) : v 9 q = nI (nv v 9 q) ∧ nv v 9 q ≤ 2 := (h.2.2.2.2.2.2.1 q hq).1
theorem IV.rb (h : IV v) {q : Nat} (hq : q < 8) : v 8 q = nI (nv v 8 q) ∧ nv v 8 q ≤ 1 := (h.2.2.2.2.2.2.1 q hq).2
theorem IV.aw (h : IV v) : AW v := h.2.2.2.2.2.2.2.2
theorem IV.ww (h : IV v) : IW v := h.2.2.2.2.2.2.2.1
end IV
