/-! MATCHING: the pool with other contents of the eight rows of the Matching; an exchange -/
def mz (I : Nat → Nat → Int32) (G : Nat → Nat) (w : AS) : Nat → Nat → Int32 := fun a k => if 8 ≤ G a ∧ G a < 16 then w (G a - 8) k else I a k
def mw (S : PH) (G : Nat → Nat) (w : AS) : PH := (p_L S, p_K S, p_N S, mz (p_I S) G w, p_R S, p_J S, p_E S)
section MW
variable {S : PH} {G : Nat → Nat} {x nw : Nat} {w : AS} {β : Type} {f : Nat → Option β}
theorem dr_mw {c : Nat} {r : Option Nat} : dr (mw S G w) c r f = dr S c r f := rfl
theorem N_mw : p_N (mw S G w) = p_N S := rfl
theorem R_mw : p_R (mw S G w) = p_R S := rfl
theorem hW (h : RC S G x nw) : RC (mw S G w) G x nw := h
theorem mz_o {a : Nat} (ha : G a < 8 ∨ 16 ≤ G a) : p_I (mw S G w) a = p_I S a := by
  funext k
  show mz (p_I S) G w a k = p_I S a k
  unfold mz
  rw [if_neg (by omega)]
theorem gmw (h : RC S G x nw) (j : Nat) (hj : j < 8) : p_I (mw S G w) (rf S (rf S x 4) j) = w j := by
  have g : G (rf S (rf S x 4) j) = 8 + j := (h.2.2.2.2.2.2.1.2.2 j hj).2
  funext k
  show mz (p_I S) G w _ k = w j k
  unfold mz
  rw [if_pos (by omega)]
  congr 1
  omega
theorem smw (hg : Gi G) (h : RC S G x nw) (j : Nat) (hj : j < 8) {k : Nat} {y : Int32} : s_I (mw S G w) (rf S (rf S x 4) j) k y = mw S G (u_2 w j k y) := by
  have g : G (rf S (rf S x 4) j) = 8 + j := (h.2.2.2.2.2.2.1.2.2 j hj).2
  refine put_eq rfl rfl rfl ?_ rfl rfl rfl
  show u_2 (mz (p_I S) G w) (rf S (rf S x 4) j) k y = mz (p_I S) G (u_2 w j k y)
  funext d i
  show (if d = rf S (rf S x 4) j ∧ i = k then y else mz (p_I S) G w d i) = _
  by_cases e : d = rf S (rf S x 4) j
  · subst e
    have e1 : mz (p_I S) G w (rf S (rf S x 4) j) i = w j i := by
      unfold mz
      rw [if_pos (by omega)]
      congr 1
      omega
    have e2 : mz (p_I S) G (u_2 w j k y) (rf S (rf S x 4) j) i = u_2 w j k y j i := by
      unfold mz
      rw [if_pos (by omega)]
      congr 1
      omega
    rw [e1, e2, u_self]
    unfold up1
    simp only [true_and]
  · rw [if_neg (fun z => e z.1)]
    unfold mz
    split
    · rename_i h8
      show w (G d - 8) i = (if G d - 8 = j ∧ i = k then y else w (G d - 8) i)
      rw [if_neg]
      rintro ⟨z, _⟩
      exact e (hg d _ (by omega) (by omega))
    · rfl
theorem mw_self (hg : Gi G) (h : RC S G x nw) : ∃ w, S = mw S G w := by
  refine ⟨fun j => p_I S (rf S (rf S x 4) j), put_eq rfl rfl rfl ?_ rfl rfl rfl⟩
  funext d i
  show p_I S d i = mz (p_I S) G (fun j => p_I S (rf S (rf S x 4) j)) d i
  unfold mz
  split
  · rename_i h8
    have g : G (rf S (rf S x 4) (G d - 8)) = 8 + (G d - 8) := (h.2.2.2.2.2.2.1.2.2 (G d - 8) (by omega)).2
    have e := hg d _ (by omega) (show G d = G (rf S (rf S x 4) (G d - 8)) by omega)
    show p_I S d i = p_I S (rf S (rf S x 4) (G d - 8)) i
    rw [← e]
  · rfl
end MW
def up2 (H : Nat → Nat → Bool) (a c : Nat) (b : Bool) : Nat → Nat → Bool := fun r q => if r = a ∧ q = c then b else H r q
def HB (w : AS) (H : Nat → Nat → Bool) : Prop := ∀ a q, a < 8 → q < 8 → hb (w 4 a) (nI q) = H a q
theorem HB_set {w : AS} {H : Nat → Nat → Bool} (h : HB w H) {r c : Nat} (hc : c < 8) : HB (u_2 w 4 r (w 4 r ||| mb c)) (up2 H r c true) := by
  intro a q ha hq
  unfold up2
  by_cases e : a = r
  · subst e
    rw [u_s, hb_or _ _ hq, h a q ha hq, hb_mb c hc q hq]
    by_cases e2 : q = c
    · rw [if_pos ⟨rfl, e2⟩, decide_eq_true e2.symm, Bool.or_true]
    · rw [if_neg (fun z => e2 z.2), decide_eq_false (Ne.symm e2), Bool.or_false]
  · rw [u_k e, if_neg (fun z => e z.1)]
    exact h a q ha hq
theorem HB_clear {w : AS} {H : Nat → Nat → Bool} (h : HB w H) {r c : Nat} (hc : c < 8) : HB (u_2 w 4 r (w 4 r &&& (mb c ^^^ nM))) (up2 H r c false) := by
  intro a q ha hq
  unfold up2
  by_cases e : a = r
  · subst e
    rw [u_s, hb_and _ _ hq, hb_not _ hq, h a q ha hq, hb_mb c hc q hq]
    by_cases e2 : q = c
    · rw [if_pos ⟨rfl, e2⟩, decide_eq_true e2.symm, Bool.not_true, Bool.and_false]
    · rw [if_neg (fun z => e2 z.2), decide_eq_false (Ne.symm e2), Bool.not_false, Bool.and_true]
  · rw [u_k e, if_neg (fun z => e z.1)]
    exact h a q ha hq
/-- H' comes of H on the way from person p to paper c -/
def XI (E H H' : Nat → Nat → Bool) (p c : Nat) : Prop := (∀ a q, a < 8 → q < 8 → H' a q = true → E a q = true) ∧ (∀ a, a < 8 → sm (fun q => bn (H' a q)) 8 = sm (fun q => bn (H a q)) 8 + (if a = p then 1 else 0)) ∧ (∀ q, q < 8 → sm (fun a => bn (H' a q)) 8 = sm (fun a => bn (H a q)) 8 + (if q = c then 1 else 0)) ∧ (∀ L X T, BK E H L X T → X p = false → T c = false ∧ ∀ a q, a < 8 → q < 8 → X a = true ∨ T q = true → H' a q = H a q)
theorem row_up {H : Nat → Nat → Bool} {r c : Nat} {b : Bool} (hc : c < 8) (a : Nat) : sm (fun q => bn (up2 H r c b a q)) 8 + (if a = r then bn (H r c) else 0) = sm (fun q => bn (H a q)) 8 + (if a = r then bn b else 0) := by
  by_cases e : a = r
  · subst e
    rw [if_pos rfl, if_pos rfl]
    have k := sm_up (g := fun q => bn (H a q)) (g' := fun q => bn (up2 H a c b a q)) hc (fun i _ hne => by show bn (if a = a ∧ i = c then b else H a i) = _; rw [if_neg (fun z => hne z.2)])
    have e1 : up2 H a c b a c = b := if_pos ⟨rfl, rfl⟩
    rw [e1] at k
    exact k
  · rw [if_neg e, if_neg e]
    congr 1
    refine sm_cg (fun q _ => ?_)
    show bn (if a = r ∧ q = c then b else H a q) = _
    rw [if_neg (fun z => e z.1)]
theorem col_up {H : Nat → Nat → Bool} {r c : Nat} {b : Bool} (hr : r < 8) (q : Nat) : sm (fun a => bn (up2 H r c b a q)) 8 + (if q = c then bn (H r c) else 0) = sm (fun a => bn (H a q)) 8 + (if q = c then bn b else 0) := by
  by_cases e : q = c
  · subst e
    rw [if_pos rfl, if_pos rfl]
    have k := sm_up (g := fun a => bn (H a q)) (g' := fun a => bn (up2 H r q b a q)) hr (fun i _ hne => by show bn (if i = r ∧ q = q then b else H i q) = _; rw [if_neg (fun z => hne z.1)])
    have e1 : up2 H r q b r q = b := if_pos ⟨rfl, rfl⟩
    rw [e1] at k
    exact k
  · rw [if_neg e, if_neg e]
    congr 1
    refine sm_cg (fun a _ => ?_)
    show bn (if a = r ∧ q = c then b else H a q) = _
    rw [if_neg (fun z => e z.2)]
theorem XI_0 {E H : Nat → Nat → Bool} {p c : Nat} (hp : p < 8) (hc : c < 8) (hs : ∀ a q, a < 8 → q < 8 → H a q = true → E a q = true) (hE : E p c = true) (hH : H p c = false) : XI E H (up2 H p c true) p c := by
  refine ⟨fun a q ha hq h => ?_, fun a ha => ?_, fun q hq => ?_, fun L X T hb hX => ?_⟩
  · unfold up2 at h
    split at h
    · rename_i e
      rw [e.1, e.2]
      exact hE
    · exact hs a q ha hq h
  · have k := row_up (H := H) (r := p) (b := true) hc a
    rw [hH] at k
    have e0 : bn false = 0 := rfl
    have e1 : bn true = 1 := rfl
    rw [e0, e1] at k
    by_cases g : a = p
    · rw [if_pos g, if_pos g] at k; rw [if_pos g]; omega
    · rw [if_neg g, if_neg g] at k; rw [if_neg g]; omega
  · have k := col_up (H := H) (c := c) (b := true) hp q
    rw [hH] at k
    have e0 : bn false = 0 := rfl
    have e1 : bn true = 1 := rfl
    rw [e0, e1] at k
    by_cases g : q = c
    · rw [if_pos g, if_pos g] at k; rw [if_pos g]; omega
    · rw [if_neg g, if_neg g] at k; rw [if_neg g]; omega
  · have hT : T c = false := by
      cases g : T c with
      | false => rfl
      | true =>
        have := hb.1 p c hp hc g hE hH
        rw [hX] at this
        cases this
    refine ⟨hT, fun a q ha hq h => ?_⟩
    unfold up2
    rw [if_neg]
    rintro ⟨rfl, rfl⟩
    rcases h with h | h
    · rw [hX] at h; cases h
    · rw [hT] at h; cases h
theorem XI_s {E H H' : Nat → Nat → Bool} {p c r d : Nat} (h : XI E H H' p c) (hr : r < 8) (hc : c < 8) (hd : d < 8) (h1 : H r c = true) (h2 : H r d = false) (hE : E r d = true) (k1 : H' r c = true) (k2 : H' r d = false) : XI E H (up2 (up2 H' r c false) r d true) p d := by
  obtain ⟨x1, x2, x3, x4⟩ := h
  have hne : d ≠ c := fun z => by rw [z, k1] at k2; cases k2
  have k3 : up2 H' r c false r d = false := by
    unfold up2
    rw [if_neg (fun z => hne z.2)]
    exact k2
  have e0 : bn false = 0 := rfl
  have e1 : bn true = 1 := rfl
  refine ⟨fun a q ha hq g => ?_, fun a ha => ?_, fun q hq => ?_, fun L X T hb hX => ?_⟩
  · unfold up2 at g
    split at g
    · rename_i e
      rw [e.1, e.2]
      exact hE
    · split at g
      · cases g
      · exact x1 a q ha hq g
  · have a1 := row_up (H := H') (r := r) (b := false) hc a
    have a2 := row_up (H := up2 H' r c false) (r := r) (b := true) hd a
    rw [k1, e0, e1] at a1
    rw [k3, e0, e1] at a2
    have a3 := x2 a ha
    by_cases g : a = r
    · rw [if_pos g, if_pos g] at a1 a2; omega
    · rw [if_neg g, if_neg g] at a1 a2; omega
  · have a1 := col_up (H := H') (c := c) (b := false) hr q
    have a2 := col_up (H := up2 H' r c false) (c := d) (b := true) hr q
    rw [k1, e0, e1] at a1
    rw [k3, e0, e1] at a2
    have a3 := x3 q hq
    by_cases g : q = c
    · rw [if_pos g, if_pos g] at a1
      rw [if_pos g] at a3
      rw [if_neg (by omega), if_neg (by omega)] at a2
      rw [if_neg (by omega)]
      omega
    · rw [if_neg g, if_neg g] at a1
      rw [if_neg g] at a3
      by_cases g2 : q = d
      · rw [if_pos g2, if_pos g2] at a2
        rw [if_pos g2]
        omega
      · rw [if_neg g2, if_neg g2] at a2
        rw [if_neg g2]
        omega
  · obtain ⟨t1, t2⟩ := x4 L X T hb hX
    have hXr : X r = false := by
      cases g : X r with
      | false => rfl
      | true =>
        have := hb.2.2 r c hr hc g h1
        rw [t1] at this
        cases this
    have hT : T d = false := by
      cases g : T d with
      | false => rfl
      | true =>
        have := hb.1 r d hr hd g hE h2
        rw [hXr] at this
        cases this
    refine ⟨hT, fun a q ha hq g => ?_⟩
    have n1 : ¬ (a = r ∧ q = d) := by
      rintro ⟨rfl, rfl⟩
      rcases g with g | g
      · rw [hXr] at g; cases g
      · rw [hT] at g; cases g
    have n2 : ¬ (a = r ∧ q = c) := by
      rintro ⟨rfl, rfl⟩
      rcases g with g | g
      · rw [hXr] at g; cases g
      · rw [t1] at g; cases g
    unfold up2
    rw [if_neg n1, if_neg n2]
    exact t2 a q ha hq g
theorem BK_x {E H H' : Nat → Nat → Bool} {p c : Nat} {cap : Nat → Nat} {X T : Nat → Bool} (h : XI E H H' p c) (hb : BK E H (fun a => sm (fun q => bn (H a q)) 8 = cap a) X T) (hX : X p = false) : BK E H' (fun a => sm (fun q => bn (H' a q)) 8 = cap a) X T := by
  obtain ⟨t1, t2⟩ := h.2.2.2 _ X T hb hX
  refine ⟨fun a q ha hq g1 g2 g3 => ?_, fun a ha g => ?_, fun a q ha hq g1 g2 => ?_⟩
  · rw [t2 a q ha hq (Or.inr g1)] at g3
    exact hb.1 a q ha hq g1 g2 g3
  · show sm (fun q => bn (H' a q)) 8 = cap a
    rw [h.2.1 a ha, if_neg (fun z => by rw [z, hX] at g; cases g)]
    exact hb.2.1 a ha g
  · rw [t2 a q ha hq (Or.inl g1)] at g2
    exact hb.2.2 a q ha hq g1 g2
theorem BK_or {E H : Nat → Nat → Bool} {L : Nat → Prop} {X T X' T' : Nat → Bool} (h : BK E H L X T) (k : BK E H L X' T') : BK E H L (fun a => X a || X' a) (fun q => T q || T' q) := by
  refine ⟨fun a q ha hq g1 g2 g3 => ?_, fun a ha g => ?_, fun a q ha hq g1 g2 => ?_⟩
  · rcases (Bool.or_eq_true _ _).mp g1 with g | g
    · exact (Bool.or_eq_true _ _).mpr (Or.inl (h.1 a q ha hq g g2 g3))
    · exact (Bool.or_eq_true _ _).mpr (Or.inr (k.1 a q ha hq g g2 g3))
  · rcases (Bool.or_eq_true _ _).mp g with g | g
    · exact h.2.1 a ha g
    · exact k.2.1 a ha g
  · rcases (Bool.or_eq_true _ _).mp g1 with g | g
    · exact (Bool.or_eq_true _ _).mpr (Or.inl (h.2.2 a q ha hq g g2))
    · exact (Bool.or_eq_true _ _).mpr (Or.inr (k.2.2 a q ha hq g g2))
