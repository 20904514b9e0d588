/-! the same rows for methods that may make objects -/
theorem wdr_e {S : PH} {c a : Nat} {f : Nat → Prop} (h : a ∈ p_L S ∧ p_K S a = c) : wdr S c (some a) f = f a := propext ⟨fun ⟨_, e, _, k⟩ => by cases e; exact k, fun k => ⟨a, rfl, h, k⟩⟩
theorem wdr_put {S : PH} {G : Nat → Nat} {b : Nat} {v : AS} {c : Nat} {r : Option Nat} {f : Nat → Prop} : wdr (put S G b v) c r f = wdr S c r f := rfl
theorem wle_t {α : Type} {v : α} {f : α → Prop} : wle v f = f v := rfl
theorem wck_e {b : Bool} {o : Prop} (h : b = true) : wck b o = o := propext ⟨fun k => k.2, fun k => ⟨h, k⟩⟩
theorem wck_d {p : Prop} [Decidable p] {o : Prop} (h : p) : wck (decide p) o = o := wck_e (decide_eq_true h)
theorem wck_tr {i : Decidable True} {o : Prop} : wck (@decide True i) o = o := wck_e (decide_eq_true trivial)
theorem wck_n {i n : Nat} {o : Prop} (h : i < n) (hn : n < 2147483648) : wck (ix (nI i) n) o = o := wck_e (ix_n h hn)
theorem wbd_e {α : Type} {v : α} {S : PH} {f : α → PH → Prop} : wbd (some (v, S)) f = f v S := propext ⟨fun ⟨_, _, e, k⟩ => by cases e; exact k, fun k => ⟨v, S, rfl, k⟩⟩
theorem wbt_re {α : Type} {v : α} {S : PH} {f : α → PH → Prop} {g : Nat → PH → Prop} : wbt (some ((.inr v : Nat ⊕ α), S)) f g = f v S := by
  refine propext ⟨fun k => ?_, fun k => Or.inl ⟨v, S, rfl, k⟩⟩
  rcases k with ⟨_, _, e, k⟩ | ⟨_, _, e, k⟩
  · cases e
    exact k
  · cases e
theorem wbt_le {α : Type} {j : Nat} {S : PH} {f : α → PH → Prop} {g : Nat → PH → Prop} : wbt (some ((.inl j : Nat ⊕ α), S)) f g = g j S := by
  refine propext ⟨fun k => ?_, fun k => Or.inr ⟨j, S, rfl, k⟩⟩
  rcases k with ⟨_, _, e, k⟩ | ⟨_, _, e, k⟩
  · cases e
  · cases e
    exact k
theorem a8.W {S : PH} {r : Option Nat} {c n : Nat} (h : a8 S r c n) {f : Nat → Prop} : wdr S c r f = f (r.getD 0) := by
  rw [h.1]
  exact wdr_e h.2.1
section WS
variable {S : PH} {G : Nat → Nat} {b a : Nat} {f : Nat → Prop}
theorem stB.Wo (h : stB S G b a) : wdr S 2 (some a) f = f a := wdr_e h.1.1
theorem stB.Wd (h : stB S G b a) (j : Nat) (hj : j < 10) : wdr S 6 (p_R S a j) f = f (rf S a j) := (h.2.2.1 j hj).1.W
theorem stB.W11 (h : stB S G b a) : wdr S 6 (p_R S a 11) f = f (rf S a 11) := h.2.2.2.1.1.W
theorem stB.Ws (h : stB S G b a) : wdr S 9 (p_R S a 10) f = f (rf S a 10) := h.2.1.1.W
theorem stB.Ww (h : stB S G b a) {q : Nat} (hq : q < 8) : wdr S 6 (p_R S (rf S a 10) q) f = f (rf S (rf S a 10) q) := (h.w hq).W
end WS
section WC
variable {S : PH} {G : Nat → Nat} {x nw : Nat} {f : Nat → Prop}
theorem RC.Wx (h : RC S G x nw) : wdr S 4 (some x) f = f x := wdr_e h.1.1
theorem RC.Wnow (h : RC S G x nw) : wdr S 2 (some nw) f = f nw := wdr_e h.2.2.1.1.1
theorem RC.r1 (h : RC S G x nw) : p_R S x 1 = some (rf S x 1) := h.2.2.2.1.1
theorem RC.Whi (h : RC S G x nw) : wdr S 0 (some (rf S x 1)) f = f (rf S x 1) := wdr_e h.2.2.2.1.2.1.1
theorem RC.hi2 (h : RC S G x nw) {β : Type} {f : Nat → Option β} : dr S 0 (some (rf S x 1)) f = f (rf S x 1) := dr_t h.2.2.2.1.2.1.1
theorem RC.Wring (h : RC S G x nw) : wdr S 8 (p_R S (rf S x 1) 0) f = f (rf S (rf S x 1) 0) := h.2.2.2.1.2.2.1.W
theorem RC.Wsl (h : RC S G x nw) : wdr S 8 (p_R S x 2) f = f (rf S x 2) := h.2.2.2.2.1.1.W
theorem RC.Wtx (h : RC S G x nw) : wdr S 3 (some (rf S x 3)) f = f (rf S x 3) := wdr_e h.2.2.2.2.2.1.2.1.1
theorem RC.Wcd (h : RC S G x nw) : wdr S 6 (p_R S (rf S x 3) 0) f = f (rf S (rf S x 3) 0) := h.2.2.2.2.2.1.2.2.1.W
end WC
