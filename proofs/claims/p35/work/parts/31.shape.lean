/-! WHERE THINGS LIE: objects with a tag each (G: a ghost, apart for what is apart) -/
def rf (S : PH) (a j : Nat) : Nat := (p_R S a j).getD 0
theorem f_rf {S : PH} {a j : Nat} : (p_R S a j).getD 0 = rf S a j := rfl
def ob (S : PH) (G : Nat → Nat) (a c g : Nat) : Prop := (a ∈ p_L S ∧ p_K S a = c) ∧ G a = g
/-- r refers to an array of kind c and length n -/
def a8 (S : PH) (r : Option Nat) (c n : Nat) : Prop := r = some (r.getD 0) ∧ (r.getD 0 ∈ p_L S ∧ p_K S (r.getD 0) = c) ∧ p_N S (r.getD 0) = n
def ar (S : PH) (G : Nat → Nat) (r : Option Nat) (c n g : Nat) : Prop := a8 S r c n ∧ G (r.getD 0) = g
theorem a8.d {S : PH} {r : Option Nat} {c n : Nat} (h : a8 S r c n) {β : Type} {f : Nat → Option β} : dr S c r f = f (r.getD 0) := by
  rw [h.1]
  exact dr_t h.2.1
/-- the parts of a State with number b -/
def stB (S : PH) (G : Nat → Nat) (b a : Nat) : Prop := ob S G a 2 (1012 + 100 * b) ∧ ar S G (p_R S a 10) 9 8 (1010 + 100 * b) ∧ (∀ f, f < 10 → ar S G (p_R S a f) 6 8 (1000 + 100 * b + f)) ∧ ar S G (p_R S a 11) 6 4 (1011 + 100 * b) ∧ (∀ q, q < 8 → ar S G (p_R S (rf S a 10) q) 6 8 (1020 + 100 * b + q))
section SB
variable {S : PH} {G : Nat → Nat} {b a : Nat} {β : Type} {f : Nat → Option β}
theorem stB.o (h : stB S G b a) : dr S 2 (some a) f = f a := dr_t h.1.1
theorem stB.d (h : stB S G b a) (j : Nat) (hj : j < 10) : dr S 6 (p_R S a j) f = f (rf S a j) := (h.2.2.1 j hj).1.d
theorem stB.n (h : stB S G b a) (j : Nat) (hj : j < 10) : p_N S (rf S a j) = 8 := (h.2.2.1 j hj).1.2.2
theorem stB.d11 (h : stB S G b a) : dr S 6 (p_R S a 11) f = f (rf S a 11) := h.2.2.2.1.1.d
theorem stB.n11 (h : stB S G b a) : p_N S (rf S a 11) = 4 := h.2.2.2.1.1.2.2
theorem stB.ds (h : stB S G b a) : dr S 9 (p_R S a 10) f = f (rf S a 10) := h.2.1.1.d
theorem stB.ns (h : stB S G b a) : p_N S (rf S a 10) = 8 := h.2.1.1.2.2
theorem stB.w (h : stB S G b a) {q : Nat} (hq : q < 8) : a8 S (p_R S (rf S a 10) q) 6 8 := (h.2.2.2.2 q hq).1
theorem stB.dw (h : stB S G b a) {q : Nat} (hq : q < 8) : dr S 6 (p_R S (rf S a 10) q) f = f (rf S (rf S a 10) q) := (h.w hq).d
theorem stB.nw (h : stB S G b a) {q : Nat} (hq : q < 8) : p_N S (rf S (rf S a 10) q) = 8 := (h.w hq).2.2
end SB
/-- what a State holds: by field (0 to 9 arrays of eight, 11 the settings, 12 to 16 numbers, 20 to 27 the rows of scores) and place -/
abbrev AS : Type := Nat → Nat → Int32
def rep (S : PH) (a : Nat) (v : AS) : Prop := (∀ f, f < 10 → p_I S (rf S a f) = v f) ∧ p_I S (rf S a 11) = v 11 ∧ (∀ q, q < 8 → p_I S (rf S (rf S a 10) q) = v (20 + q)) ∧ (∀ f, 12 ≤ f → f < 17 → p_I S a f = v f 0)
theorem rep.f {S : PH} {a : Nat} {v : AS} (h : rep S a v) (f : Nat) (hf : f < 10) : p_I S (rf S a f) = v f := h.1 f hf
theorem rep.f11 {S : PH} {a : Nat} {v : AS} (h : rep S a v) : p_I S (rf S a 11) = v 11 := h.2.1
theorem rep.w {S : PH} {a : Nat} {v : AS} (h : rep S a v) {q : Nat} (hq : q < 8) : p_I S (rf S (rf S a 10) q) = v (20 + q) := h.2.2.1 q hq
theorem rep.i {S : PH} {a : Nat} {v : AS} (h : rep S a v) (f : Nat) (h1 : 12 ≤ f) (h2 : f < 17) : p_I S a f = v f 0 := h.2.2.2 f h1 h2
/-- the class's object and what hangs on it, but the saved states and the snapshots -/
def RC (S : PH) (G : Nat → Nat) (x nw : Nat) : Prop := ob S G x 4 1 ∧ p_R S x 0 = some nw ∧ stB S G 0 nw ∧ (p_R S x 1 = some (rf S x 1) ∧ ob S G (rf S x 1) 0 2 ∧ ar S G (p_R S (rf S x 1) 0) 8 6 3) ∧ ar S G (p_R S x 2) 8 2 4 ∧ (p_R S x 3 = some (rf S x 3) ∧ ob S G (rf S x 3) 3 5 ∧ ar S G (p_R S (rf S x 3) 0) 6 60 6) ∧ (p_R S x 4 = some (rf S x 4) ∧ ob S G (rf S x 4) 1 7 ∧ (∀ j, j < 8 → ar S G (p_R S (rf S x 4) j) 6 8 (8 + j))) ∧ ar S G (p_R S x 5) 6 8 16
section RC
variable {S : PH} {G : Nat → Nat} {x nw : Nat} {β : Type} {f : Nat → Option β}
theorem RC.x4 (h : RC S G x nw) : dr S 4 (some x) f = f x := dr_t h.1.1
theorem RC.r0 (h : RC S G x nw) : p_R S x 0 = some nw := h.2.1
theorem RC.now (h : RC S G x nw) : dr S 2 (some nw) f = f nw := dr_t h.2.2.1.1.1
theorem RC.st (h : RC S G x nw) : stB S G 0 nw := h.2.2.1
theorem RC.hi (h : RC S G x nw) : dr S 0 (p_R S x 1) f = f (rf S x 1) := by rw [h.2.2.2.1.1]; exact dr_t h.2.2.2.1.2.1.1
theorem RC.ring (h : RC S G x nw) : dr S 8 (p_R S (rf S x 1) 0) f = f (rf S (rf S x 1) 0) := h.2.2.2.1.2.2.1.d
theorem RC.nring (h : RC S G x nw) : p_N S (rf S (rf S x 1) 0) = 6 := h.2.2.2.1.2.2.1.2.2
theorem RC.sl (h : RC S G x nw) : dr S 8 (p_R S x 2) f = f (rf S x 2) := h.2.2.2.2.1.1.d
theorem RC.nsl (h : RC S G x nw) : p_N S (rf S x 2) = 2 := h.2.2.2.2.1.1.2.2
theorem RC.r3 (h : RC S G x nw) : p_R S x 3 = some (rf S x 3) := h.2.2.2.2.2.1.1
theorem RC.tx (h : RC S G x nw) : dr S 3 (some (rf S x 3)) f = f (rf S x 3) := dr_t h.2.2.2.2.2.1.2.1.1
theorem RC.cd (h : RC S G x nw) : dr S 6 (p_R S (rf S x 3) 0) f = f (rf S (rf S x 3) 0) := h.2.2.2.2.2.1.2.2.1.d
theorem RC.ncd (h : RC S G x nw) : p_N S (rf S (rf S x 3) 0) = 60 := h.2.2.2.2.2.1.2.2.1.2.2
theorem RC.r4 (h : RC S G x nw) : p_R S x 4 = some (rf S x 4) := h.2.2.2.2.2.2.1.1
theorem RC.mt (h : RC S G x nw) : dr S 1 (some (rf S x 4)) f = f (rf S x 4) := dr_t h.2.2.2.2.2.2.1.2.1.1
theorem RC.ma (h : RC S G x nw) (j : Nat) (hj : j < 8) : dr S 6 (p_R S (rf S x 4) j) f = f (rf S (rf S x 4) j) := (h.2.2.2.2.2.2.1.2.2 j hj).1.d
theorem RC.nma (h : RC S G x nw) (j : Nat) (hj : j < 8) : p_N S (rf S (rf S x 4) j) = 8 := (h.2.2.2.2.2.2.1.2.2 j hj).1.2.2
theorem RC.talk (h : RC S G x nw) : a8 S (p_R S x 5) 6 8 := h.2.2.2.2.2.2.2.1
end RC
/-- now's contents are v -/
def RV (S : PH) (G : Nat → Nat) (x nw : Nat) (v : AS) : Prop := RC S G x nw ∧ rep S nw v
