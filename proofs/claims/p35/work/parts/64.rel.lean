/-! THE WHOLE OBJECT: now, the saved states, the snapshots, the text -/
/-- what lies in S lies in S' with the same kind, length and tag; and its references, but for the two arrays of States -/
def kk (S : PH) (G : Nat → Nat) (S' : PH) (G' : Nat → Nat) : Prop := ∀ d, d ∈ p_L S → G d ≠ 0 → (d ∈ p_L S' ∧ p_K S' d = p_K S d ∧ p_N S' d = p_N S d ∧ G' d = G d) ∧ (G d ≠ 3 → G d ≠ 4 → p_R S' d = p_R S d)
theorem ob_kk {S S' : PH} {G G' : Nat → Nat} (hk : kk S G S' G') {a c g : Nat} (h : ob S G a c g) (h0 : 0 < g) : ob S' G' a c g := by
  have k := (hk a h.1.1 (by have := h.2; omega)).1
  exact ⟨⟨k.1, k.2.1.trans h.1.2⟩, k.2.2.2.trans h.2⟩
theorem ar_kk {S S' : PH} {G G' : Nat → Nat} (hk : kk S G S' G') {r : Option Nat} {c n g : Nat} (h : ar S G r c n g) (h0 : 0 < g) : ar S' G' r c n g := by
  have k := (hk _ h.1.2.1.1 (by have := h.2; omega)).1
  exact ⟨⟨h.1.1, ⟨k.1, k.2.1.trans h.1.2.1.2⟩, k.2.2.1.trans h.1.2.2⟩, k.2.2.2.trans h.2⟩
theorem R_kk {S S' : PH} {G G' : Nat → Nat} (hk : kk S G S' G') {a c g : Nat} (h : ob S G a c g) (h0 : 4 < g ∨ g = 1 ∨ g = 2) : p_R S' a = p_R S a := by
  have := h.2
  exact (hk a h.1.1 (by omega)).2 (by omega) (by omega)
theorem rf_e {S S' : PH} {a j : Nat} (e : p_R S' a = p_R S a) : rf S' a j = rf S a j := congrArg (fun f : Nat → Option Nat => (f j).getD 0) e
theorem stB_kk {S S' : PH} {G G' : Nat → Nat} (hk : kk S G S' G') {b a : Nat} (h : stB S G b a) : stB S' G' b a ∧ p_R S' a = p_R S a ∧ p_R S' (rf S a 10) = p_R S (rf S a 10) := by
  have e1 := R_kk hk h.1 (by omega)
  have o10 : ob S G (rf S a 10) 9 (1010 + 100 * b) := ⟨h.2.1.1.2.1, h.2.1.2⟩
  have e2 := R_kk hk o10 (by omega)
  have e3 : rf S' a 10 = rf S a 10 := rf_e e1
  refine ⟨⟨ob_kk hk h.1 (by omega), ?_, fun f hf => ?_, ?_, fun q hq => ?_⟩, e1, e2⟩
  · rw [e1]; exact ar_kk hk h.2.1 (by omega)
  · rw [e1]; exact ar_kk hk (h.2.2.1 f hf) (by omega)
  · rw [e1]; exact ar_kk hk h.2.2.2.1 (by omega)
  · rw [e3, e2]; exact ar_kk hk (h.2.2.2.2 q hq) (by omega)
/-- a State's contents are kept where its whole numbers are -/
theorem rep_kk {S S' : PH} {G G' : Nat → Nat} (hk : kk S G S' G') {b a : Nat} {w : AS} (h : stB S G b a) (hr : rep S a w) (hI : ∀ d, d ∈ p_L S → 1000 + 100 * b ≤ G d → G d < 1100 + 100 * b → p_I S' d = p_I S d) : rep S' a w := by
  obtain ⟨_, e1, e2⟩ := stB_kk hk h
  have r1 : ∀ j, rf S' a j = rf S a j := fun j => rf_e e1
  have r2 : ∀ j, rf S' (rf S a 10) j = rf S (rf S a 10) j := fun j => rf_e e2
  refine ⟨fun f hf => ?_, ?_, fun q hq => ?_, fun f h1 h2 => ?_⟩
  · have t := h.2.2.1 f hf
    have t2 : G (rf S a f) = 1000 + 100 * b + f := t.2
    rw [r1, hI (rf S a f) t.1.2.1.1 (by omega) (by omega)]
    exact hr.1 f hf
  · have t := h.2.2.2.1
    have t2 : G (rf S a 11) = 1011 + 100 * b := t.2
    rw [r1, hI (rf S a 11) t.1.2.1.1 (by omega) (by omega)]
    exact hr.2.1
  · have t := h.2.2.2.2 q hq
    have t2 : G (rf S (rf S a 10) q) = 1020 + 100 * b + q := t.2
    rw [r1, r2, hI (rf S (rf S a 10) q) t.1.2.1.1 (by omega) (by omega)]
    exact hr.2.2.1 q hq
  · have t2 := h.1.2
    rw [hI _ h.1.1.1 (by omega) (by omega)]
    exact hr.2.2.2 f h1 h2
theorem RC_kk {S S' : PH} {G G' : Nat → Nat} (hk : kk S G S' G') {x nw : Nat} (h : RC S G x nw) : RC S' G' x nw ∧ p_R S' x = p_R S x ∧ p_R S' (rf S x 1) = p_R S (rf S x 1) ∧ p_R S' (rf S x 3) = p_R S (rf S x 3) := by
  obtain ⟨h1, h2, h3, ⟨h4, h5, h6⟩, h7, ⟨h8, h9, h10⟩, ⟨h11, h12, h13⟩, h14⟩ := h
  have e1 := R_kk hk h1 (by omega)
  have e2 := R_kk hk h5 (by omega)
  have e3 := R_kk hk h9 (by omega)
  have e4 := R_kk hk h12 (by omega)
  have r : ∀ j, rf S' x j = rf S x j := fun j => rf_e e1
  refine ⟨⟨ob_kk hk h1 (by omega), by rw [e1]; exact h2, (stB_kk hk h3).1, ⟨by rw [r, e1]; exact h4, by rw [r]; exact ob_kk hk h5 (by omega), by rw [r, e2]; exact ar_kk hk h6 (by omega)⟩, by rw [e1]; exact ar_kk hk h7 (by omega), ⟨by rw [r, e1]; exact h8, by rw [r]; exact ob_kk hk h9 (by omega), by rw [r, e3]; exact ar_kk hk h10 (by omega)⟩, ⟨by rw [r, e1]; exact h11, by rw [r]; exact ob_kk hk h12 (by omega), fun j hj => by rw [r, e4]; exact ar_kk hk (h13 j hj) (by omega)⟩, by rw [e1]; exact ar_kk hk h14 (by omega)⟩, e1, e2, e3⟩
/-- a place for a State: empty, or one with number b -/
def sv (S : PH) (G : Nat → Nat) (b : Nat) (r : Option Nat) : Prop := (∀ q, r = some q → stB S G b q ∧ ∃ w, rep S q w ∧ AW w) ∧ (r = none → ∀ d, ¬ (1000 + 100 * b ≤ G d ∧ G d < 1100 + 100 * b))
def hR (S : PH) (x : Nat) : Nat := rf S (rf S x 1) 0
/-- all that the class holds: now v, the saved states hs (the latest first), the next place nx, the snapshots sl, the text's length tn and signs tx -/
def RelC (S : PH) (G : Nat → Nat) (x nw : Nat) (v : AS) (hs : List AS) (nx : Nat) (sl : Nat → Option AS) (tn : Nat) (tx : Nat → Int32) : Prop := RC S G x nw ∧ GW S G ∧ (rep S nw v ∧ AW v) ∧ (∀ i, i < 6 → sv S G (1 + i) (p_R S (hR S x) i)) ∧ (∀ i, i < 2 → sv S G (7 + i) (p_R S (rf S x 2) i)) ∧ (p_I S (rf S x 1) 1 = nI nx ∧ nx < 6 ∧ p_I S (rf S x 1) 2 = nI hs.length ∧ hs.length ≤ 6) ∧ (∀ i w, hs[i]? = some w → ∃ q, p_R S (hR S x) ((nx + 5 - i) % 6) = some q ∧ rep S q w ∧ AW w) ∧ (∀ i, i < 2 → (sl i = none → p_R S (rf S x 2) i = none) ∧ ∀ w, sl i = some w → ∃ q, p_R S (rf S x 2) i = some q ∧ rep S q w ∧ AW w) ∧ (p_I S (rf S x 3) 1 = nI tn ∧ tn ≤ 60 ∧ p_I S (rf S (rf S x 3) 0) = tx) ∧ (∀ k, 8 ≤ k → p_I S (rf S x 5) k = 0)
/-- what a method of the class leaves alone -/
def fc (S : PH) (G : Nat → Nat) (S' : PH) (G' : Nat → Nat) : Prop := ∀ d, d ∈ p_L S → 2000 ≤ G d → sme S S' d ∧ G' d = G d
theorem fc_r {S : PH} {G : Nat → Nat} : fc S G S G := fun _ hd _ => ⟨⟨hd, rfl, rfl, rfl, rfl, rfl, rfl⟩, rfl⟩
theorem fc_t {S S' S'' : PH} {G G' G'' : Nat → Nat} (h : fc S G S' G') (k : fc S' G' S'' G'') : fc S G S'' G'' := by
  intro d hd hg
  obtain ⟨h1, h2⟩ := h d hd hg
  obtain ⟨k1, k2⟩ := k d h1.1 (by omega)
  exact ⟨sme_tr h1 k1, k2.trans h2⟩
theorem fc_put {S : PH} {G : Nat → Nat} {b : Nat} {v : AS} (hb : b < 9) : fc S G (put S G b v) G := by
  intro d hd hg
  refine ⟨⟨hd, rfl, rfl, ?_, rfl, rfl, rfl⟩, rfl⟩
  funext k
  show pv (p_I S) G b v d k = p_I S d k
  unfold pv
  rw [if_neg (by omega), if_neg (by omega)]
theorem fc_I {S : PH} {G : Nat → Nat} {a k : Nat} {w : Int32} (ha : G a < 2000) : fc S G (s_I S a k w) G := fun d hd hg => ⟨sme_I hd (fun z => by rw [z] at hg; omega), rfl⟩
