/-! THE REFERENCE: where things lie in its row of numbers -/
/-- the place of field f of number p in a chunk of 161 (f = 30: tokens) -/
def lo (f p : Nat) : Nat := if f < 5 then 17 + 8 * f + p else if f < 10 then 57 + 13 * p + (f - 5) else if f = 11 then 4 + p else if f = 12 then 8 else if f = 13 then 1 else if f = 14 then 0 else if f = 15 then 2 else if f = 16 then 3 else if f = 30 then 9 + p else 62 + 13 * (f - 20) + p
def vd (n f p : Nat) : Prop := (f < 5 ∧ p < 8) ∨ (5 ≤ f ∧ f < 10 ∧ p < n) ∨ (f = 11 ∧ p < 4) ∨ (12 ≤ f ∧ f < 17 ∧ p = 0) ∨ (20 ≤ f ∧ f < 20 + n ∧ p < 8) ∨ (f = 30 ∧ p < 8)
def vl (v : AS) (f p : Nat) : Int32 := if f = 30 then v 2 p - v 3 p else v f p
/-- chunk c holds v, which has n papers -/
def cr (s : Nat → Int32) (c n : Nat) (v : AS) : Prop := ∀ f p, vd n f p → s (161 * c + lo f p) = vl v f p
theorem lo_lt {n f p : Nat} (hn : n ≤ 8) (h : vd n f p) : lo f p < 161 := by
  unfold lo
  unfold vd at h
  split <;> (try split) <;> (try split) <;> (try split) <;> (try split) <;> (try split) <;> (try split) <;> (try split) <;> (try split) <;> omega
theorem lo_inj {n f p f' p' : Nat} (hn : n ≤ 8) (h : vd n f p) (h' : vd n f' p') (e : lo f p = lo f' p') : f = f' ∧ p = p' := by
  have k1 : ∀ g r, vd n g r → (g < 5 ∧ r < 8 ∧ lo g r = 17 + 8 * g + r) ∨ (5 ≤ g ∧ g < 10 ∧ r < n ∧ lo g r = 57 + 13 * r + (g - 5)) ∨ (g = 11 ∧ r < 4 ∧ lo g r = 4 + r) ∨ (g = 12 ∧ r = 0 ∧ lo g r = 8) ∨ (g = 13 ∧ r = 0 ∧ lo g r = 1) ∨ (g = 14 ∧ r = 0 ∧ lo g r = 0) ∨ (g = 15 ∧ r = 0 ∧ lo g r = 2) ∨ (g = 16 ∧ r = 0 ∧ lo g r = 3) ∨ (20 ≤ g ∧ g < 20 + n ∧ r < 8 ∧ lo g r = 62 + 13 * (g - 20) + r) ∨ (g = 30 ∧ r < 8 ∧ lo g r = 9 + r) := by
    intro g r hg
    unfold vd at hg
    unfold lo
    rcases hg with hg | hg | hg | hg | hg | hg
    · left; rw [if_pos (by omega)]; omega
    · right; left; rw [if_neg (by omega), if_pos (by omega)]; omega
    · right; right; left; rw [if_neg (by omega), if_neg (by omega), if_pos (by omega)]; omega
    · rcases (show g = 12 ∨ g = 13 ∨ g = 14 ∨ g = 15 ∨ g = 16 by omega) with rfl | rfl | rfl | rfl | rfl <;> simp <;> omega
    · right; right; right; right; right; right; right; right; left
      rw [if_neg (by omega), if_neg (by omega), if_neg (by omega), if_neg (by omega), if_neg (by omega), if_neg (by omega), if_neg (by omega), if_neg (by omega), if_neg (by omega)]
      omega
    · right; right; right; right; right; right; right; right; right
      rw [if_neg (by omega), if_neg (by omega), if_neg (by omega), if_neg (by omega), if_neg (by omega), if_neg (by omega), if_neg (by omega), if_neg (by omega), if_pos (by omega)]
      omega
  have h1 := k1 f p h
  have h2 := k1 f' p' h'
  rcases h1 with h1 | h1 | h1 | h1 | h1 | h1 | h1 | h1 | h1 | h1 <;> rcases h2 with h2 | h2 | h2 | h2 | h2 | h2 | h2 | h2 | h2 | h2 <;> omega
/-- one entry, no tokens' one -/
theorem cr_set {s : Nat → Int32} {c n f p : Nat} {v : AS} {w : Int32} (hn : n ≤ 8) (h : cr s c n v) (hv : vd n f p) (h2 : f ≠ 2) (h3 : f ≠ 3) (h30 : f ≠ 30) : cr (up1 s (161 * c + lo f p) w) c n (u_2 v f p w) := by
  intro f' p' h'
  unfold up1
  by_cases e : 161 * c + lo f' p' = 161 * c + lo f p
  · obtain ⟨rfl, rfl⟩ := lo_inj hn h' hv (by omega)
    rw [if_pos rfl]
    unfold vl u_2
    rw [if_neg h30, if_pos ⟨rfl, rfl⟩]
  · rw [if_neg e, h f' p' h']
    unfold vl
    by_cases g : f' = 30
    · rw [if_pos g, if_pos g, u_ne (Ne.symm h2), u_ne (Ne.symm h3)]
    · rw [if_neg g, if_neg g]
      unfold u_2
      rw [if_neg]
      rintro ⟨rfl, rfl⟩
      exact e rfl
theorem cr_other {s : Nat → Int32} {c n i : Nat} {v : AS} {w : Int32} (hn : n ≤ 8) (h : cr s c n v) (hi : i < 161 * c ∨ 161 * (c + 1) ≤ i) : cr (up1 s i w) c n v := by
  intro f p hv
  have := lo_lt hn hv
  unfold up1
  rw [if_neg (by omega)]
  exact h f p hv
theorem cr_tok {s : Nat → Int32} {c n f p : Nat} {v : AS} {w t : Int32} (hn : n ≤ 8) (h : cr s c n v) (hp : p < 8) (hf : f = 2 ∨ f = 3) (ht : t = vl (u_2 v f p w) 30 p) : cr (up1 (up1 s (161 * c + (9 + p)) t) (161 * c + lo f p) w) c n (u_2 v f p w) := by
  have hv : vd n f p := by unfold vd; omega
  have h3 : vd n 30 p := by unfold vd; omega
  intro f' p' h'
  unfold up1
  by_cases e : 161 * c + lo f' p' = 161 * c + lo f p
  · obtain ⟨rfl, rfl⟩ := lo_inj hn h' hv (by omega)
    rw [if_pos rfl]
    unfold vl u_2
    rw [if_neg (by omega), if_pos ⟨rfl, rfl⟩]
  · rw [if_neg e]
    by_cases e2 : 161 * c + lo f' p' = 161 * c + (9 + p)
    · obtain ⟨rfl, rfl⟩ := lo_inj hn h' h3 (show lo f' p' = lo 30 p by have : lo 30 p = 9 + p := rfl; omega)
      rw [if_pos e2, ht]
    · rw [if_neg e2, h f' p' h']
      unfold vl
      by_cases g : f' = 30
      · subst g
        have hne : p' ≠ p := fun z => e2 (by rw [z]; rfl)
        rw [if_pos rfl, if_pos rfl, u_k hne, u_k hne]
      · rw [if_neg g, if_neg g]
        unfold u_2
        rw [if_neg]
        rintro ⟨rfl, rfl⟩
        exact e rfl
section CR
variable {s : Nat → Int32} {n : Nat} {v : AS}
theorem cr.t (h : cr s 0 n v) {p : Nat} (hp : p < 8) : s (9 + p) = a_tok v p := by
  have e := h 30 p (by unfold vd; omega)
  rwa [show 161 * 0 + lo 30 p = 9 + p by show 161 * 0 + (9 + p) = _; omega] at e
theorem cr.p (h : cr s 0 n v) (f : Nat) {p : Nat} (hf : f < 5) (hp : p < 8) : s (17 + 8 * f + p) = v f p := by
  have e := h f p (by unfold vd; omega)
  unfold lo vl at e
  rw [if_pos hf, if_neg (by omega)] at e
  rwa [show 161 * 0 + (17 + 8 * f + p) = 17 + 8 * f + p by omega] at e
theorem cr.q (h : cr s 0 n v) (f : Nat) {q : Nat} (h5 : 5 ≤ f) (hf : f < 10) (hq : q < n) : s (57 + 13 * q + (f - 5)) = v f q := by
  have e := h f q (by unfold vd; omega)
  unfold lo vl at e
  rw [if_neg (by omega), if_pos hf, if_neg (by omega)] at e
  rwa [show 161 * 0 + (57 + 13 * q + (f - 5)) = 57 + 13 * q + (f - 5) by omega] at e
theorem cr.sc (h : cr s 0 n v) (hn : n ≤ 8) {q p : Nat} (hq : q < n) (hp : p < 8) : s (57 + 13 * q + (5 + p)) = v (20 + q) p := by
  have e := h (20 + q) p (by unfold vd; omega)
  unfold lo vl at e
  rw [if_neg (by omega), if_neg (by omega), if_neg (by omega), if_neg (by omega), if_neg (by omega), if_neg (by omega), if_neg (by omega), if_neg (by omega), if_neg (by omega), if_neg (by omega)] at e
  rwa [show 161 * 0 + (62 + 13 * (20 + q - 20) + p) = 57 + 13 * q + (5 + p) by omega] at e
theorem cr.c (h : cr s 0 n v) {k : Nat} (hk : k < 4) : s (4 + k) = v 11 k := by
  have e := h 11 k (by unfold vd; omega)
  rwa [show 161 * 0 + lo 11 k = 4 + k by show 161 * 0 + (4 + k) = _; omega] at e
theorem cr.i (h : cr s 0 n v) : s 8 = v 12 0 ∧ s 1 = v 13 0 ∧ s 0 = v 14 0 ∧ s 2 = v 15 0 ∧ s 3 = v 16 0 := ⟨h 12 0 (by unfold vd; omega), h 13 0 (by unfold vd; omega), h 14 0 (by unfold vd; omega), h 15 0 (by unfold vd; omega), h 16 0 (by unfold vd; omega)⟩
theorem cr.p0 (h : cr s 0 n v) {p : Nat} (hp : p < 8) : s (17 + p) = v 0 p := h.p 0 (by omega) hp
theorem cr.p1 (h : cr s 0 n v) {p : Nat} (hp : p < 8) : s (25 + p) = v 1 p := h.p 1 (by omega) hp
theorem cr.p2 (h : cr s 0 n v) {p : Nat} (hp : p < 8) : s (33 + p) = v 2 p := h.p 2 (by omega) hp
theorem cr.p3 (h : cr s 0 n v) {p : Nat} (hp : p < 8) : s (41 + p) = v 3 p := h.p 3 (by omega) hp
theorem cr.p4 (h : cr s 0 n v) {p : Nat} (hp : p < 8) : s (49 + p) = v 4 p := h.p 4 (by omega) hp
theorem cr.q0 (h : cr s 0 n v) {q : Nat} (hq : q < n) : s (57 + 13 * q) = v 5 q := h.q 5 (by omega) (by omega) hq
theorem cr.q1 (h : cr s 0 n v) {q : Nat} (hq : q < n) : s (57 + 13 * q + 1) = v 6 q := h.q 6 (by omega) (by omega) hq
theorem cr.q2 (h : cr s 0 n v) {q : Nat} (hq : q < n) : s (57 + 13 * q + 2) = v 7 q := h.q 7 (by omega) (by omega) hq
theorem cr.q3 (h : cr s 0 n v) {q : Nat} (hq : q < n) : s (57 + 13 * q + 3) = v 8 q := h.q 8 (by omega) (by omega) hq
theorem cr.q4 (h : cr s 0 n v) {q : Nat} (hq : q < n) : s (57 + 13 * q + 4) = v 9 q := h.q 9 (by omega) (by omega) hq
theorem cr.c0 (h : cr s 0 n v) : s 4 = v 11 0 := h.c (k := 0) (by omega)
theorem cr.c1 (h : cr s 0 n v) : s 5 = v 11 1 := h.c (k := 1) (by omega)
theorem cr.c2 (h : cr s 0 n v) : s 6 = v 11 2 := h.c (k := 2) (by omega)
theorem cr.c3 (h : cr s 0 n v) : s 7 = v 11 3 := h.c (k := 3) (by omega)
end CR
/-! the reference's objects -/
def RM (S : PH) (G : Nat → Nat) (m : Nat) : Prop := ob S G m 5 2012 ∧ ar S G (p_R S m 1) 6 1449 2001 ∧ ar S G (p_R S m 3) 7 2 2003 ∧ ar S G (p_R S m 4) 6 60 2004 ∧ ar S G (p_R S m 11) 6 8 2011
section RM
variable {S : PH} {G : Nat → Nat} {m : Nat} {β : Type} {f : Nat → Option β}
theorem RM.mm (h : RM S G m) : dr S 5 (some m) f = f m := dr_t h.1.1
theorem RM.s (h : RM S G m) : dr S 6 (p_R S m 1) f = f (rf S m 1) := h.2.1.1.d
theorem RM.ns (h : RM S G m) : p_N S (rf S m 1) = 1449 := h.2.1.1.2.2
theorem RM.k (h : RM S G m) : dr S 7 (p_R S m 3) f = f (rf S m 3) := h.2.2.1.1.d
theorem RM.nk (h : RM S G m) : p_N S (rf S m 3) = 2 := h.2.2.1.1.2.2
theorem RM.t (h : RM S G m) : dr S 6 (p_R S m 4) f = f (rf S m 4) := h.2.2.2.1.1.d
theorem RM.nt (h : RM S G m) : p_N S (rf S m 4) = 60 := h.2.2.2.1.1.2.2
theorem RM.y (h : RM S G m) : dr S 6 (p_R S m 11) f = f (rf S m 11) := h.2.2.2.2.1.d
theorem RM.ny (h : RM S G m) : p_N S (rf S m 11) = 8 := h.2.2.2.2.1.2.2
end RM
