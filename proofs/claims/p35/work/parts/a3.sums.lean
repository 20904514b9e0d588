/-! SUMS: what the accounts of persons and of papers tell alike -/
theorem fo_sum (f : Nat → Int32) (g : Nat → Nat) : ∀ n, (∀ i, i < n → f i = nI (g i)) → fo (fun i m => m + f i) n (nI 0) = nI (sm g n)
  | 0, _ => rfl
  | n + 1, h => by
    show fo (fun i m => m + f i) n (nI 0) + f n = _
    rw [fo_sum f g n (fun i hi => h i (by omega)), h n (by omega), nI_add] <;> rfl
theorem fo_cnt (P : Nat → Bool) : ∀ n, fo (fun i m => if P i then m + nI 1 else m) n (nI 0) = nI (cnt P n)
  | 0 => rfl
  | n + 1 => by
    show (if P n then fo _ n (nI 0) + nI 1 else fo _ n (nI 0)) = _
    rw [fo_cnt P n]
    cases h : P n with
    | false => show (if false = true then _ else _) = nI (cnt P n + bn (P n)); rw [h, if_neg (by decide)] <;> rfl
    | true => show (if true = true then _ else _) = nI (cnt P n + bn (P n)); rw [h, if_pos rfl, nI_add] <;> rfl
theorem sm_ext {f : Nat → Nat} {n : Nat} : ∀ m, n ≤ m → (∀ i, n ≤ i → i < m → f i = 0) → sm f m = sm f n
  | 0, h, _ => by rw [show n = 0 by omega]
  | m + 1, h, k => by
    by_cases e : n = m + 1
    · rw [e]
    · have ih := sm_ext m (by omega) (fun i h1 h2 => k i h1 (by omega))
      show sm f m + f m = _
      rw [ih, k m (by omega) (by omega)] <;> rfl
theorem sym_even (E : Nat → Nat → Bool) : ∀ n, (∀ p q, p < n → q < n → E p q = E q p) → (∀ p, p < n → E p p = false) → ∃ k, sm (fun p => cnt (E p) n) n = 2 * k
  | 0, _, _ => ⟨0, rfl⟩
  | n + 1, hs, hi => by
    obtain ⟨k, hk⟩ := sym_even E n (fun p q hp hq => hs p q (by omega) (by omega)) (fun p hp => hi p (by omega))
    refine ⟨k + cnt (E n) n, ?_⟩
    have e1 : sm (fun p => cnt (E p) (n + 1)) n = sm (fun p => cnt (E p) n + bn (E p n)) n := rfl
    have e2 : sm (fun p => bn (E p n)) n = cnt (E n) n := by
      rw [cnt_sm]
      exact sm_cg (fun p hp => by rw [hs p n (by omega) (by omega)])
    have e3 : cnt (E n) (n + 1) = cnt (E n) n + bn (E n n) := rfl
    have e4 : bn false = 0 := rfl
    show sm (fun p => cnt (E p) (n + 1)) n + cnt (E n) (n + 1) = _
    rw [e1, sm_add, e2, e3, hi n (by omega), hk, e4]
    omega
section SU
variable {v : AS}
theorem spent_e (hI : IV v) : a_spent v = nI (sm (nv v 3) 8) := fo_sum (v 3) (nv v 3) 8 (fun i hi => (hI.sp hi).1)
theorem tokens_e (hI : IV v) : a_tokens v = nI (sm (fun p => nv v 2 p - nv v 3 p) 8) := fo_sum (a_tok v) _ 8 (fun i hi => hI.tok hi)
theorem all_e (hI : IV v) : (v 14 0 + a_spent v) + a_tokens v = nI 100 + v 15 0 := by
  have e1 : sm (fun p => nv v 2 p - nv v 3 p) 8 + sm (nv v 3) 8 = sm (nv v 2) 8 := by
    rw [← sm_add]
    exact sm_cg (fun p hp => by have := (hI.sp hp).2; omega)
  have e2 := hI.sum
  rw [spent_e hI, tokens_e hI, hI.po.1, hI.br.1, nI_add, nI_add, nI_add]
  congr 1
  omega
theorem rd_1 (r : Nat → Int32) : ∀ n i, 1 ≤ i → i + n ≤ 1000 → (a_rd r n i).1 ≠ nI 0
  | 0, i, _, _ => by show nM ≠ nI 0; decide
  | n + 1, i, h1, h2 => by
    show (if nI 1 < a_spr (a_itr r i) then a_rd r n (i + 1) else (nI i, i)).1 ≠ nI 0
    split
    · exact rd_1 r n (i + 1) (by omega) (by omega)
    · show nI i ≠ nI 0
      rw [Ne, nI_eq (by omega) (by omega)]
      omega
theorem rd_0 (r : Nat → Int32) (n : Nat) (hn : n ≤ 100) : (a_rd r (n + 1) 0).1 = nI 0 ↔ ¬ nI 1 < a_spr r := by
  show (if nI 1 < a_spr (a_itr r 0) then a_rd r n (0 + 1) else (nI 0, 0)).1 = nI 0 ↔ _
  show (if nI 1 < a_spr r then a_rd r n (0 + 1) else (nI 0, 0)).1 = nI 0 ↔ _
  by_cases h : nI 1 < a_spr r
  · rw [if_pos h]
    exact ⟨fun z => absurd z (rd_1 r n (0 + 1) (by omega) (by omega)), fun z => absurd h z⟩
  · rw [if_neg h]
    exact ⟨fun _ => h, fun _ => rfl⟩
/-- who worked with whom: pairs, and persons' bits -/
theorem w_n (hI : IV v) {p : Nat} (hp : p < 8) : ∃ j, j < 256 ∧ v 1 p = nI j := ⟨_, by have := (hI.ww.1 p hp).2; omega, (hI.ww.1 p hp).1⟩
theorem w_bc (hI : IV v) {p : Nat} (hp : p < 8) : a_bc (v 1 p) = nI (cnt (fun q => hb (v 1 p) (nI q)) 8) ∧ a_ones (v 1 p) = nI (cnt (fun q => hb (v 1 p) (nI q)) 8) := by
  obtain ⟨j, hj, e⟩ := w_n hI hp
  rw [e]
  have h1 := bits_bc j hj
  exact ⟨h1, (bc_ones j hj).symm.trans h1⟩
theorem pairs_e (hI : IV v) : ∃ k, k < 1000 ∧ a_pairs v = nI k ∧ fo (fun i m => m + a_ones (v 1 i)) 8 (nI 0) = nI (2 * k) := by
  obtain ⟨k, hk⟩ := sym_even (fun p q => hb (v 1 p) (nI q)) 8 (fun p q hp hq => (hI.ww.2 p q hp hq).1) (fun p hp => (hI.ww.2 p p hp hp).2)
  have hle : sm (fun p => cnt (fun q => hb (v 1 p) (nI q)) 8) 8 ≤ 8 * 8 := sm_le 8 (fun i _ => cnt_le _ 8)
  refine ⟨k, by omega, ?_, ?_⟩
  · show fo (fun i m => m + a_bc (v 1 i)) 8 (nI 0) / nI 2 = nI k
    rw [fo_sum (fun i => a_bc (v 1 i)) _ 8 (fun i hi => (w_bc hI hi).1), hk, pk_div (by omega) (by omega) (by omega)]
    congr 1
    omega
  · rw [fo_sum (fun i => a_ones (v 1 i)) _ 8 (fun i hi => (w_bc hI hi).2), hk]
theorem bit_e : ∀ j, j < 256 → ∀ b, b < 8 → (nI j >>> (nI b &&& nI 31)) &&& nI 1 = (if hb (nI j) (nI b) then nI 1 else nI 0) := by decide +kernel
theorem w_sym (hI : IV v) {p q : Nat} (hp : p < 8) (hq : q < 8) : (v 1 p >>> (nI q &&& nI 31)) &&& nI 1 = (v 1 q >>> (nI p &&& nI 31)) &&& nI 1 := by
  obtain ⟨j, hj, e⟩ := w_n hI hp
  obtain ⟨k, hk, g⟩ := w_n hI hq
  have h := (hI.ww.2 p q hp hq).1
  rw [e, g] at h ⊢
  rw [bit_e j hj q hq, bit_e k hk p hp, h]
/-- papers' numbers -/
def s_rev (v : AS) (n : Nat) : Nat := sm (fun q => cnt (rw_ (v (20 + q))) 8) n
def s_wri (v : AS) : Nat := sm (fun q => cnt (sc (v (20 + q))) 8) 8
def s_dec (v : AS) (n : Nat) : Nat := cnt (fun q => !decide (v 9 q = nI 0)) n
theorem rev_le (v : AS) (n : Nat) (hn : n ≤ 8) : s_rev v n ≤ 64 := by
  have : s_rev v n ≤ n * 8 := sm_le n (fun i _ => cnt_le _ 8)
  omega
theorem revs_e (hI : IV v) : a_revs v = nI (s_rev v (a_n v)) := by
  have e : a_revs v = nI (s_rev v 8) := fo_sum (fun q => a_bc (a_rev (v (20 + q)))) _ 8 (fun i _ => rev_bc _)
  rw [e]
  congr 1
  refine sm_ext 8 hI.in_.2 (fun i h1 h2 => cnt_0 (fun p hp => ?_))
  unfold rw_
  rw [(hI.ab h1 h2).1 p hp] <;> decide
theorem wrts_e (v : AS) : a_wrts v = nI (s_wri v) := fo_sum (fun q => a_bc (a_wri (v (20 + q)))) _ 8 (fun i _ => wri_bc _)
theorem wrt_e (v : AS) : fo (fun i m => m + a_wrt v i) 8 (nI 0) = nI (s_wri v) := by
  rw [fo_sum (a_wrt v) (fun p => cnt (fun q => isS (v (20 + q) p)) 8) 8 (fun i _ => fo_cnt (fun q => isS (v (20 + q) i)) 8)]
  congr 1
  have e1 : sm (fun p => cnt (fun q => isS (v (20 + q) p)) 8) 8 = sm (fun p => sm (fun q => bn (isS (v (20 + q) p))) 8) 8 := sm_cg (fun p _ => cnt_sm _ 8)
  have e2 : s_wri v = sm (fun q => sm (fun p => bn (isS (v (20 + q) p))) 8) 8 := sm_cg (fun q _ => cnt_sm _ 8)
  rw [e1, e2]
  exact sm_swap (fun p q => bn (isS (v (20 + q) p))) 8 8
theorem wri_rev (hI : IV v) : s_wri v ≤ s_rev v (a_n v) := by
  have e : s_rev v 8 = s_rev v (a_n v) := sm_ext 8 hI.in_.2 (fun i h1 h2 => cnt_0 (fun p hp => by
    unfold rw_
    rw [(hI.ab h1 h2).1 p hp]
    decide))
  rw [← e]
  refine sm_mono 8 (fun q hq => cnt_mono (fun p hp h => ?_))
  unfold sc at h
  unfold rw_
  rw [decide_eq_false (fun z => by rw [z, isS_nM] at h; cases h)] <;> rfl
theorem decd_e (hI : IV v) : a_decd v = nI (s_dec v (a_n v)) := by
  have e : a_decd v = fo (fun q m => if (!decide (v 9 q = nI 0)) = true then m + nI 1 else m) 8 (nI 0) := by
    unfold a_decd
    refine fo_congr (fun i b hi => ?_)
    by_cases h : v 9 i = nI 0
    · rw [if_pos h, decide_eq_true h] <;> rfl
    · rw [if_neg h, decide_eq_false h] <;> rfl
  rw [e, fo_cnt]
  congr 1
  unfold s_dec
  rw [cnt_sm, cnt_sm]
  refine sm_ext 8 hI.in_.2 (fun i h1 h2 => ?_)
  rw [(hI.ab h1 h2).2.2.2] <;> decide
end SU
theorem sum_rev (v : AS) (n : Nat) : nI (s_rev v n) + nI (cnt (rw_ (v (20 + n))) 8) = nI (s_rev v (n + 1)) := nI_add _ _
theorem mean_eq : ∀ a, a < 73 → ∀ b, b < 8 → Op.cmpValue (FP.dcmp (FP.ddiv (FP.i2d (nI a)) (FP.i2d (nI (b + 1)))) (FP.ddiv (FP.i2d (nI a)) (FP.i2d (nI (b + 1))))) .l = 0 := by decide +kernel
theorem mean_m1 : ∀ a, a < 73 → ∀ b, b < 8 → ¬ Op.cmpValue (FP.dcmp (FP.ddiv (FP.i2d (nI a)) (FP.i2d (nI (b + 1)))) 13830554455654793216) .l = 0 := by decide +kernel
theorem m1_m1 : Op.cmpValue (FP.dcmp 13830554455654793216 13830554455654793216) .l = 0 := by decide +kernel
theorem share_eq {v : AS} (hI : IV v) : Op.cmpValue (FP.fcmp (a_share v) (a_share v)) .l = 0 := by
  obtain ⟨b, b1, b2, b3, _⟩ := share_den hI
  have hn : FP.Core.fIsNaN (a_share v) = false := by
    refine FP.Core.fdiv_out ?_ (FP.Core.i2f_fin _) ?_
    · have := (FP.Core.i2f_fin (a_spent v))
      exact (FP.Core.notNaN_iff32 _).mpr (by
        obtain ⟨s, c, q, e⟩ := this
        rw [e]
        exact fun z => by cases z)
    · rw [b3, FP.Core.zero_bits232]
      exact FP.Core.i2f_ne_zero (nI_nz (by omega) (by omega))
  have h2 : FP.fcmp (a_share v) (a_share v) = some .eq := FP.Core.fcmp_self ((FP.Core.notNaN_iff32 _).mp hn)
  rw [h2] <;> rfl
