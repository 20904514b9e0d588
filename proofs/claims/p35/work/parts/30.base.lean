/-! THE PURE SIDE: numbers, steps, loops -/
def fo {β : Type} (f : Nat → β → β) : Nat → β → β
  | 0, a => a
  | n + 1, a => f n (fo f n a)
theorem z_0 : (0 : Int32) = nI 0 := rfl
theorem z_1 : (1 : Int32) = nI 1 := rfl
theorem z_2 : (2 : Int32) = nI 2 := rfl
theorem z_3 : (3 : Int32) = nI 3 := rfl
theorem z_4 : (4 : Int32) = nI 4 := rfl
theorem z_5 : (5 : Int32) = nI 5 := rfl
theorem z_6 : (6 : Int32) = nI 6 := rfl
theorem z_7 : (7 : Int32) = nI 7 := rfl
theorem z_8 : (8 : Int32) = nI 8 := rfl
theorem z_9 : (9 : Int32) = nI 9 := rfl
theorem z_10 : (10 : Int32) = nI 10 := rfl
theorem z_11 : (11 : Int32) = nI 11 := rfl
theorem z_12 : (12 : Int32) = nI 12 := rfl
theorem z_13 : (13 : Int32) = nI 13 := rfl
theorem z_15 : (15 : Int32) = nI 15 := rfl
theorem z_17 : (17 : Int32) = nI 17 := rfl
theorem z_20 : (20 : Int32) = nI 20 := rfl
theorem z_25 : (25 : Int32) = nI 25 := rfl
theorem z_33 : (33 : Int32) = nI 33 := rfl
theorem z_41 : (41 : Int32) = nI 41 := rfl
theorem z_49 : (49 : Int32) = nI 49 := rfl
theorem z_57 : (57 : Int32) = nI 57 := rfl
theorem z_60 : (60 : Int32) = nI 60 := rfl
theorem z_72 : (72 : Int32) = nI 72 := rfl
theorem z_100 : (100 : Int32) = nI 100 := rfl
theorem z_161 : (161 : Int32) = nI 161 := rfl
theorem z_255 : (255 : Int32) = nI 255 := rfl
theorem z_256 : (256 : Int32) = nI 256 := rfl
theorem z_999 : (999 : Int32) = nI 999 := rfl
theorem z_9999 : (9999 : Int32) = nI 9999 := rfl
theorem n_le {a b : Nat} (ha : a < 2147483648) (hb : b < 2147483648) : (nI a ≤ nI b) = (a ≤ b) := propext (nI_leI ha hb)
theorem n_lt {a b : Nat} (ha : a < 2147483648) (hb : b < 2147483648) : (nI a < nI b) = (a < b) := propext (nI_ltI ha hb)
theorem n_eq {a b : Nat} (ha : a < 2147483648) (hb : b < 2147483648) : (nI a = nI b) = (a = b) := propext (nI_eq ha hb)
theorem n_cl {a : Nat} (ha : a < 2147483648) : (nI a).toNatClampNeg = a := nI_clamp ha
theorem b_t {a b : Nat} (h : a ≤ b) : (a ≤ b) = True := eq_true h
theorem b_f {a b : Nat} (h : b < a) : (a ≤ b) = False := eq_false (by omega)
theorem b_lt {a b : Nat} (h : a < b) : (a < b) = True := eq_true h
theorem b_lf {a b : Nat} (h : b ≤ a) : (a < b) = False := eq_false (by omega)
theorem b_ef {a b : Nat} (h : a ≠ b) : (a = b) = False := eq_false h
theorem ix_n {i n : Nat} (h : i < n) (hn : n < 2147483648) : ix (nI i) n = true := by
  unfold ix
  rw [decide_eq_true_eq, nI_clamp (by omega)]
  rintro (q | q)
  · exact nI_pos (by omega) q
  · omega
theorem ck_n {β : Type} {i n : Nat} {o : Option β} (h : i < n) (hn : n < 2147483648) : ck (ix (nI i) n) o = o := by unfold ck; rw [if_pos (ix_n h hn)]
theorem ck_d {β : Type} {p : Prop} [Decidable p] {o : Option β} (h : p) : ck (decide p) o = o := by unfold ck; rw [if_pos (decide_eq_true h)]
theorem ck_tr {β : Type} {i : Decidable True} {o : Option β} : ck (@decide True i) o = o := ck_d trivial
theorem ck_t {β : Type} {b : Bool} {o : Option β} (h : b = true) : ck b o = o := by unfold ck; rw [if_pos h]
theorem dr_t {β : Type} {S : PH} {c a : Nat} {f : Nat → Option β} (h : a ∈ p_L S ∧ p_K S a = c) : dr S c (some a) f = f a := by unfold dr; exact if_pos h
theorem bd_t {α β : Type} {v : α} {S : PH} {f : α → PH → Option β} : bd (some (v, S)) f = f v S := rfl
theorem bt_r {α β : Type} {v : α} {S : PH} {f : α → PH → Option β} {g : Nat → PH → Option β} : bt (some ((.inr v : Nat ⊕ α), S)) f g = f v S := rfl
theorem bt_l {α β : Type} {j : Nat} {S : PH} {f : α → PH → Option β} {g : Nat → PH → Option β} : bt (some ((.inl j : Nat ⊕ α), S)) f g = g j S := rfl
theorem ir_t {τ β : Type} {v : β} : (ir (some v) : Option (τ ⊕ β)) = some (.inr v) := rfl
theorem le_t {α β : Type} {v : α} {f : α → Option β} : le_ v f = f v := rfl
theorem lpF {τ ρ : Type} {step : τ → Option (τ ⊕ ρ)} {t : τ} (N : Nat) (F : Nat → τ) (r : ρ) (h0 : t = F 0) (h : ∀ i, i < N → step (F i) = some (.inl (F (i + 1)))) (hN : step (F N) = some (.inr r)) : lp step t = some r := by
  rw [h0]
  exact (lp_go F N h).trans (lp_inr hN)
/-- a loop that may end early: G i is what comes of it from round i on -/
theorem lpG {τ ρ : Type} {step : τ → Option (τ ⊕ ρ)} {t : τ} (N : Nat) (F : Nat → τ) (G : Nat → ρ) (h0 : t = F 0) (h : ∀ i, i < N → step (F i) = some (.inr (G i)) ∨ (step (F i) = some (.inl (F (i + 1))) ∧ G i = G (i + 1))) (hN : step (F N) = some (.inr (G N))) : lp step t = some (G 0) := by
  rw [h0]
  have key : ∀ k, k ≤ N → lp step (F (N - k)) = some (G (N - k)) := by
    intro k
    induction k with
    | zero => intro _; exact lp_inr hN
    | succ k ih =>
      intro hk
      have e : N - (k + 1) + 1 = N - k := by omega
      rcases h (N - (k + 1)) (by omega) with h1 | ⟨h1, h2⟩
      · exact lp_inr h1
      · rw [lp_inl h1, h2, e]
        exact ih (by omega)
  have := key N (Nat.le_refl N)
  rwa [Nat.sub_self] at this
theorem fo_congr {β : Type} {f g : Nat → β → β} : ∀ {n : Nat} {a : β}, (∀ i b, i < n → f i b = g i b) → fo f n a = fo g n a
  | 0, _, _ => rfl
  | n + 1, a, h => by
    show f n (fo f n a) = g n (fo g n a)
    rw [fo_congr (fun i b hi => h i b (by omega)), h n _ (by omega)]
/-! bits of masks -/
def mb (b : Nat) : Int32 := nI 1 <<< (nI b &&& nI 31)
theorem f_mb {b : Nat} : nI 1 <<< (nI b &&& nI 31) = mb b := rfl
def hb (m b : Int32) : Bool := decide ((m >>> (b &&& nI 31)) &&& nI 1 = nI 1)
theorem z_31 : (31 : Int32) = nI 31 := rfl
/-- the count of the ones among the low eight -/
def a_ones (m : Int32) : Int32 := fo (fun k n => n + ((m >>> (nI k &&& nI 31)) &&& nI 1)) 8 (nI 0)
def a_bc (x : Int32) : Int32 :=
  let a := x - ((Int32.toUInt32 x >>> (Int32.toUInt32 1 &&& Int32.toUInt32 31)).toInt32 &&& 1431655765)
  let b := (a &&& 858993459) + ((Int32.toUInt32 a >>> (Int32.toUInt32 2 &&& Int32.toUInt32 31)).toInt32 &&& 858993459)
  let c := (b + (Int32.toUInt32 b >>> (Int32.toUInt32 4 &&& Int32.toUInt32 31)).toInt32) &&& 252645135
  let d := c + (Int32.toUInt32 c >>> (Int32.toUInt32 8 &&& Int32.toUInt32 31)).toInt32
  let e := d + (Int32.toUInt32 d >>> (Int32.toUInt32 16 &&& Int32.toUInt32 31)).toInt32
  e &&& 63
theorem bc_ones : ∀ j, j < 256 → a_bc (nI j) = a_ones (nI j) := by decide +kernel
theorem p_bitCount (x : Int32) (S : PH) : m_J6_bitCount_0f7a4 x S = some (a_bc x, S) := rfl
theorem p_has (m b : Int32) (S : PH) : m_X4_has m b S = some (if ((m >>> (b &&& 31)) &&& 1) = 1 then 1 else 0, S) := by
  unfold m_X4_has
  split
  · simp [*]
  · simp [*]
