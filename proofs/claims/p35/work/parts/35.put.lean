/-! WRITING: the pool with other contents of the State of number b -/
/-- no two addresses have one tag -/
def Gi (G : Nat → Nat) : Prop := ∀ a c, G a ≠ 0 → G a = G c → a = c
def pv (I : Nat → Nat → Int32) (G : Nat → Nat) (b : Nat) (v : AS) : Nat → Nat → Int32 := fun a k => if G a = 1012 + 100 * b then (if 12 ≤ k ∧ k < 17 then v k 0 else I a k) else if (1000 + 100 * b ≤ G a ∧ G a < 1028 + 100 * b) ∧ (G a < 1010 + 100 * b ∨ G a = 1011 + 100 * b ∨ 1020 + 100 * b ≤ G a) then v (G a - (1000 + 100 * b)) k else I a k
def put (S : PH) (G : Nat → Nat) (b : Nat) (v : AS) : PH := (p_L S, p_K S, p_N S, pv (p_I S) G b v, p_R S, p_J S, p_E S)
section PT
variable {S : PH} {G : Nat → Nat} {b a : Nat} {v : AS} {β : Type} {f : Nat → Option β}
theorem dr_put {c : Nat} {r : Option Nat} : dr (put S G b v) c r f = dr S c r f := rfl
theorem N_put : p_N (put S G b v) = p_N S := rfl
theorem R_put : p_R (put S G b v) = p_R S := rfl
theorem J_put : p_J (put S G b v) = p_J S := rfl
theorem E_put : p_E (put S G b v) = p_E S := rfl
theorem rf_put : rf (put S G b v) = rf S := rfl
theorem a8_put {r : Option Nat} {c n : Nat} : a8 (put S G b v) r c n = a8 S r c n := rfl
theorem I_put : p_I (put S G b v) = pv (p_I S) G b v := rfl
theorem put_eq {T T' : PH} (h1 : p_L T = p_L T') (h2 : p_K T = p_K T') (h3 : p_N T = p_N T') (h4 : p_I T = p_I T') (h5 : p_R T = p_R T') (h6 : p_J T = p_J T') (h7 : p_E T = p_E T') : T = T' := by
  obtain ⟨t1, t2, t3, t4, t5, t6, t7⟩ := T
  obtain ⟨u1, u2, u3, u4, u5, u6, u7⟩ := T'
  cases h1; cases h2; cases h3; cases h4; cases h5; cases h6; cases h7
  rfl
theorem pv_i (h : stB S G b a) {k : Nat} (h1 : 12 ≤ k) (h2 : k < 17) : pv (p_I S) G b v a k = v k 0 := by
  unfold pv
  rw [if_pos h.1.2, if_pos ⟨h1, h2⟩]
theorem pv_t {c t : Nat} (hc : G c = 1000 + 100 * b + t) (ht : t < 10 ∨ t = 11 ∨ 20 ≤ t) (ht2 : t < 28) {I : Nat → Nat → Int32} : pv I G b v c = v t := by
  funext k
  unfold pv
  rw [if_neg (by omega), if_pos (by omega)]
  congr 1
  omega
theorem g_f (h : stB S G b a) (j : Nat) (hj : j < 10) : p_I (put S G b v) (rf S a j) = v j := pv_t (h.2.2.1 j hj).2 (Or.inl hj) (by omega)
theorem g_f11 (h : stB S G b a) : p_I (put S G b v) (rf S a 11) = v 11 := pv_t (h.2.2.2.1.2.trans (by omega)) (Or.inr (Or.inl rfl)) (by omega)
theorem g_w (h : stB S G b a) {q : Nat} (hq : q < 8) : p_I (put S G b v) (rf S (rf S a 10) q) = v (20 + q) := pv_t ((h.2.2.2.2 q hq).2.trans (by omega)) (Or.inr (Or.inr (by omega))) (by omega)
theorem g_i (h : stB S G b a) (k : Nat) (h1 : 12 ≤ k) (h2 : k < 17) : p_I (put S G b v) a k = v k 0 := pv_i h h1 h2
theorem rep_put (h : stB S G b a) : rep (put S G b v) a v := ⟨fun f hf => g_f h f hf, g_f11 h, fun q hq => g_w h hq, fun f h1 h2 => g_i h f h1 h2⟩
theorem pv_u (hg : Gi G) {c t k : Nat} {w : Int32} (hc : G c = 1000 + 100 * b + t) (ht : t < 10 ∨ t = 11 ∨ 20 ≤ t) (ht2 : t < 28) {I : Nat → Nat → Int32} : u_2 (pv I G b v) c k w = pv I G b (u_2 v t k w) := by
  funext d j
  by_cases e : d = c
  · subst e
    rw [pv_t hc ht ht2]
    show (if d = d ∧ j = k then w else pv I G b v d j) = (if t = t ∧ j = k then w else v t j)
    rw [pv_t hc ht ht2]
    simp only [true_and]
  · show (if d = c ∧ j = k then w else pv I G b v d j) = _
    rw [if_neg (fun z => e z.1)]
    have hne : G d ≠ G c := fun z => e (hg d c (by omega) z)
    unfold pv
    split
    · split
      · show v j 0 = (if j = t ∧ 0 = k then w else v j 0)
        rw [if_neg (by omega)]
      · rfl
    · split
      · show _ = (if _ = t ∧ j = k then w else _)
        rw [if_neg (by omega)]
      · rfl
theorem s_f (hg : Gi G) (h : stB S G b a) (j : Nat) (hj : j < 10) {k : Nat} {w : Int32} : s_I (put S G b v) (rf S a j) k w = put S G b (u_2 v j k w) := put_eq rfl rfl rfl (pv_u hg (h.2.2.1 j hj).2 (Or.inl hj) (by omega)) rfl rfl rfl
theorem s_f11 (hg : Gi G) (h : stB S G b a) {k : Nat} {w : Int32} : s_I (put S G b v) (rf S a 11) k w = put S G b (u_2 v 11 k w) := put_eq rfl rfl rfl (pv_u hg (h.2.2.2.1.2.trans (by omega)) (Or.inr (Or.inl rfl)) (by omega)) rfl rfl rfl
theorem s_w (hg : Gi G) (h : stB S G b a) {q : Nat} (hq : q < 8) {k : Nat} {w : Int32} : s_I (put S G b v) (rf S (rf S a 10) q) k w = put S G b (u_2 v (20 + q) k w) := put_eq rfl rfl rfl (pv_u hg ((h.2.2.2.2 q hq).2.trans (by omega)) (Or.inr (Or.inr (by omega))) (by omega)) rfl rfl rfl
theorem s_i (hg : Gi G) (h : stB S G b a) (f : Nat) (h1 : 12 ≤ f) (h2 : f < 17) {w : Int32} : s_I (put S G b v) a f w = put S G b (u_2 v f 0 w) := by
  refine put_eq rfl rfl rfl ?_ rfl rfl rfl
  show u_2 (pv (p_I S) G b v) a f w = pv (p_I S) G b (u_2 v f 0 w)
  funext d j
  by_cases e : d = a
  · subst e
    show (if d = d ∧ j = f then w else pv (p_I S) G b v d j) = _
    unfold pv
    rw [if_pos h.1.2, if_pos h.1.2]
    by_cases e2 : j = f
    · subst e2
      rw [if_pos ⟨rfl, rfl⟩, if_pos ⟨h1, h2⟩]
      show w = (if j = j ∧ 0 = 0 then w else _)
      rw [if_pos ⟨rfl, rfl⟩]
    · rw [if_neg (fun z => e2 z.2)]
      split
      · show _ = (if j = f ∧ 0 = 0 then w else _)
        rw [if_neg (fun z => e2 z.1)]
      · rfl
  · show (if d = a ∧ j = f then w else pv (p_I S) G b v d j) = _
    rw [if_neg (fun z => e z.1)]
    have hne : G d ≠ G a := fun z => e (hg d a (by have := h.1.2; omega) z)
    have ha := h.1.2
    have hne2 : ¬ G d = 1012 + 100 * b := by omega
    unfold pv
    simp only [if_neg hne2]
    split
    · show _ = (if _ = f ∧ j = 0 then w else _)
      rw [if_neg (by omega)]
    · rfl
theorem put_put {w : AS} : put (put S G b v) G b w = put S G b w := by
  refine put_eq rfl rfl rfl ?_ rfl rfl rfl
  funext d j
  show pv (pv (p_I S) G b v) G b w d j = pv (p_I S) G b w d j
  unfold pv
  split
  · split
    · rfl
    · rfl
  · split
    · rfl
    · rfl
theorem put_self (hg : Gi G) (h : stB S G b a) (hr : rep S a v) : put S G b v = S := by
  refine put_eq rfl rfl rfl ?_ rfl rfl rfl
  funext d j
  show pv (p_I S) G b v d j = p_I S d j
  by_cases e1 : G d = 1012 + 100 * b
  · have e : d = a := hg d a (by omega) (e1.trans h.1.2.symm)
    subst e
    unfold pv
    rw [if_pos e1]
    split
    · rename_i hc
      rw [hr.i j hc.1 hc.2]
    · rfl
  · by_cases e2 : (1000 + 100 * b ≤ G d ∧ G d < 1028 + 100 * b) ∧ (G d < 1010 + 100 * b ∨ G d = 1011 + 100 * b ∨ 1020 + 100 * b ≤ G d)
    · unfold pv
      rw [if_neg e1, if_pos e2]
      obtain ⟨⟨g1, g2⟩, g3⟩ := e2
      rcases g3 with g3 | g3 | g3
      · have e : d = rf S a (G d - (1000 + 100 * b)) := hg _ _ (by omega) ((h.2.2.1 (G d - (1000 + 100 * b)) (by omega)).2.trans (by omega)).symm
        have h9 := hr.f (G d - (1000 + 100 * b)) (by omega)
        rw [← e] at h9
        rw [h9]
      · have e : d = rf S a 11 := hg _ _ (by omega) (h.2.2.2.1.2.trans (by omega)).symm
        have h9 := hr.f11
        rw [← e] at h9
        rw [h9, g3]
        congr 1
        omega
      · have e : d = rf S (rf S a 10) (G d - (1020 + 100 * b)) := hg _ _ (by omega) ((h.2.2.2.2 (G d - (1020 + 100 * b)) (by omega)).2.trans (by omega)).symm
        have h9 := hr.w (q := G d - (1020 + 100 * b)) (by omega)
        rw [← e] at h9
        rw [h9]
        congr 1
        omega
    · unfold pv
      rw [if_neg e1, if_neg e2]
end PT
theorem hP {S : PH} {G : Nat → Nat} {x nw : Nat} {v : AS} (h : RC S G x nw) : RC (put S G 0 v) G x nw := h
theorem u_ne {f : AS} {a k b : Nat} {w : Int32} (h : b ≠ a) : u_2 f a k w b = f b := u_2_ne h
theorem u_s {f : AS} {a k : Nat} {w : Int32} : u_2 f a k w a k = w := by unfold u_2; exact if_pos ⟨rfl, rfl⟩
theorem u_k {f : AS} {a k b j : Nat} {w : Int32} (h : j ≠ k) : u_2 f a k w b j = f b j := by unfold u_2; exact if_neg (fun z => h z.2)
