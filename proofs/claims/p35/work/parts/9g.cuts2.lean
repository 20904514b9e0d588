/-! MATCHING: by cuts; the least cut as one number -/
theorem rc_cg {cap cap' dem : Nat → Nat} {E : Nat → Nat → Bool} {X X' : Nat → Bool} (h : ∀ p, p < 8 → cap' p = cap p) (k : ∀ p, p < 8 → X' p = X p) : rc_ cap' dem E X' = rc_ cap dem E X := by
  unfold rc_
  congr 1
  · exact sm_cg (fun p hp => by rw [h p hp, k p hp])
  · exact sm_cg (fun q hq => by rw [cnt_cg (P := fun p => !X' p && E p q) (Q := fun p => !X p && E p q) (fun p hp => by rw [k p hp])])
theorem cc_cg {cap dem : Nat → Nat} {E : Nat → Nat → Bool} {K K' : Nat → Bool} (k : ∀ q, q < 8 → K' q = K q) : cc_ cap dem E K' = cc_ cap dem E K := by
  unfold cc_
  congr 1
  · exact sm_cg (fun q hq => by rw [k q hq])
  · exact sm_cg (fun p hp => by rw [cnt_cg (P := fun q => K' q && E p q) (Q := fun q => K q && E p q) (fun q hq => by rw [k q hq])])
def bi (j : Nat) : Nat → Bool := fun p => hb (nI j) (nI p)
theorem bi_all (X : Nat → Bool) : ∃ j, j < 256 ∧ ∀ p, p < 8 → bi j p = X p := by
  obtain ⟨j, h1, h2⟩ := mk_n X
  refine ⟨j, h1, fun p hp => ?_⟩
  unfold bi
  rw [← h2]
  exact mk_hb X hp
def a_mn (F : Nat → Nat) : Nat → Nat := fun n => fo (fun j m => if F j < m then F j else m) n 1000
theorem mn_in (F : Nat → Nat) : ∀ n, (∀ j, j < n → a_mn F n ≤ F j) ∧ (a_mn F n = 1000 ∨ ∃ j, j < n ∧ a_mn F n = F j)
  | 0 => ⟨fun j h => by omega, Or.inl rfl⟩
  | n + 1 => by
    obtain ⟨h1, h2⟩ := mn_in F n
    have e : a_mn F (n + 1) = (if F n < a_mn F n then F n else a_mn F n) := rfl
    rw [e]
    by_cases g : F n < a_mn F n
    · rw [if_pos g]
      refine ⟨fun j hj => ?_, Or.inr ⟨n, by omega, rfl⟩⟩
      by_cases e2 : j = n
      · rw [e2]; exact Nat.le_refl _
      · have := h1 j (by omega); omega
    · rw [if_neg g]
      refine ⟨fun j hj => ?_, ?_⟩
      · by_cases e2 : j = n
        · rw [e2]; omega
        · exact h1 j (by omega)
      · rcases h2 with h2 | ⟨j, h2, h3⟩
        · exact Or.inl h2
        · exact Or.inr ⟨j, by omega, h3⟩
/-- the least cut over all sets of persons -/
def a_min (cap dem : Nat → Nat) (E : Nat → Nat → Bool) : Nat := a_mn (fun j => rc_ cap dem E (bi j)) 256
theorem mnn_in {cap dem : Nat → Nat} {E : Nat → Nat → Bool} (hd : ∀ q, q < 8 → dem q ≤ 8) : (∀ X, a_min cap dem E ≤ rc_ cap dem E X) ∧ (∃ X, rc_ cap dem E X = a_min cap dem E) ∧ a_min cap dem E ≤ 64 := by
  obtain ⟨h1, h2⟩ := mn_in (fun j => rc_ cap dem E (bi j)) 256
  have le : ∀ X, a_min cap dem E ≤ rc_ cap dem E X := by
    intro X
    obtain ⟨j, j1, j2⟩ := bi_all X
    have := h1 j j1
    rw [rc_cg (X' := bi j) (X := X) (cap := cap) (cap' := cap) (fun _ _ => rfl) j2] at this
    exact this
  have l64 : a_min cap dem E ≤ 64 := by
    refine Nat.le_trans (le (fun _ => false)) ?_
    have e : rc_ cap dem E (fun _ => false) = sm (fun q => min (dem q) (cnt (fun p => !false && E p q) 8)) 8 := by
      show sm (fun p => if false = true then cap p else 0) 8 + _ = _
      rw [show (fun p => if false = true then cap p else 0) = fun _ => 0 from rfl, sm_zero, Nat.zero_add]
    rw [e]
    exact sm_le (b := 8) 8 (fun q hq => Nat.le_trans (Nat.min_le_left _ _) (hd q hq))
  refine ⟨le, ?_, l64⟩
  rcases h2 with h2 | ⟨j, h2, h3⟩
  · exact absurd (show a_min cap dem E = 1000 from h2) (by omega)
  · exact ⟨bi j, h3.symm⟩
theorem min_uq {cap dem : Nat → Nat} {E : Nat → Nat → Bool} (hd : ∀ q, q < 8 → dem q ≤ 8) {A : Nat} (h1 : ∀ X, A ≤ rc_ cap dem E X) (h2 : ∃ X, rc_ cap dem E X = A) : A = a_min cap dem E := by
  obtain ⟨k1, ⟨X, k2⟩, _⟩ := mnn_in (cap := cap) (E := E) hd
  obtain ⟨Y, h2⟩ := h2
  have a := h1 X
  have b := k1 Y
  omega
theorem min_cg {cap cap' dem : Nat → Nat} {E : Nat → Nat → Bool} (h : ∀ p, p < 8 → cap' p = cap p) : a_min cap' dem E = a_min cap dem E := by
  have e : (fun j => rc_ cap' dem E (bi j)) = fun j => rc_ cap dem E (bi j) := funext (fun j => rc_cg h (fun _ _ => rfl))
  unfold a_min
  rw [e]
section CT2
variable {S : PH} {G : Nat → Nat} {x nw : Nat} {cap dem : Nat → Nat} {E : Nat → Nat → Bool} {w : AS}
theorem p_cost (h : RC S G x nw) (hE : ∀ r, r < 8 → ∃ j, j < 256 ∧ w 1 r = nI j ∧ ∀ q, q < 8 → hb (nI j) (nI q) = E r q) (hcap : ∀ r, r < 8 → w 0 r = nI (cap r) ∧ cap r < 20000) (hdem : ∀ q, q < 8 → w 2 q = nI (dem q) ∧ dem q ≤ 8) (K : Nat) (hK : K < 256) : m_X1_costOfCut (some (rf S x 4)) (nI K) (mw S G w) = some (nI (cc_ cap dem E (bi K)), mw S G w) := by
  have mt : ∀ {w : AS} {β : Type} {f : Nat → Option β}, dr (mw S G w) 1 (some (rf S x 4)) f = f (rf S x 4) := fun {w β f} => h.mt
  have ma : ∀ {w : AS} (j : Nat) (hj : j < 8) {β : Type} {f : Nat → Option β}, dr (mw S G w) 6 (p_R S (rf S x 4) j) f = f (rf S (rf S x 4) j) := fun {w} j hj {β f} => h.ma j hj
  have n8 : ∀ i, i < 8 → ¬ (8 : Int32) ≤ nI i := fun i hi => by
    show ¬ nI 8 ≤ nI i
    rw [nI_leI (by omega) (by omega)]
    omega
  have l2 : ∀ T, lp (st_X1_costOfCut_35 (some (rf S x 4)) (nI K)) (nI T, nI 0, mw S G w) = some (nI (T + sm (fun p => min (cap p) (cnt (fun q => bi K q && E p q) 8)) 8), mw S G w) := by
    intro T
    refine lpF 8 (fun i => (nI (T + sm (fun p => min (cap p) (cnt (fun q => bi K q && E p q) 8)) i), nI i, mw S G w)) _ rfl (fun i hi => ?_) ?_
    · have e1 : nI i + 1 = nI (i + 1) := nI_add i 1
      obtain ⟨j, j1, j2, j3⟩ := hE i hi
      obtain ⟨c1, c2⟩ := hcap i hi
      have hbc : a_bc (nI j &&& nI K) = nI (cnt (fun q => bi K q && E i q) 8) := by
        rw [nI_and, bits_bc _ (and_lt hK)]
        congr 1
        refine cnt_cg (fun q hq => ?_)
        rw [← nI_and, hb_and _ _ hq, j3 q hq, Bool.and_comm]
        rfl
      have cl := cnt_le (fun q => bi K q && E i q) 8
      unfold st_X1_costOfCut_35
      dsimp only
      rw [if_neg (n8 i hi), mt, R_mw, ma 0 (by omega), N_mw, h.nma 0 (by omega), ck_n hi (by omega), ma 1 (by omega), h.nma 1 (by omega), ck_n hi (by omega), n_cl (by omega), gmw h 1 (by omega), gmw h 0 (by omega), j2, p_bitCount, bd_t, hbc, c1, mmin_n (by omega) (by omega), nI_add, le_t, e1, Nat.add_assoc]
      rfl
    · unfold st_X1_costOfCut_35
      dsimp only
      rw [if_pos (show (8 : Int32) ≤ nI 8 from Int32.le_refl _)]
      rfl
  unfold m_X1_costOfCut
  refine lpF 8 (fun i => (nI (sm (fun q => if bi K q then 0 else dem q) i), nI i, mw S G w)) _ rfl (fun i hi => ?_) ?_
  · have e1 : nI i + 1 = nI (i + 1) := nI_add i 1
    obtain ⟨d1, d2⟩ := hdem i hi
    have e : sm (fun q => if bi K q then 0 else dem q) (i + 1) = sm (fun q => if bi K q then 0 else dem q) i + (if bi K i then 0 else dem i) := rfl
    have st : st_X1_costOfCut_4 (some (rf S x 4)) (nI K) (nI (sm (fun q => if bi K q then 0 else dem q) i), nI i, mw S G w) = (if (if bi K i = true then nI 1 else nI 0) = 0 then some (.inl (nI (sm (fun q => if bi K q then 0 else dem q) i + dem i), nI (i + 1), mw S G w)) else some (.inl (nI (sm (fun q => if bi K q then 0 else dem q) i), nI (i + 1), mw S G w))) := by
      unfold st_X1_costOfCut_4
      dsimp only
      rw [if_neg (n8 i hi), p_hasN, bd_t, mt, R_mw, ma 2 (by omega), N_mw, h.nma 2 (by omega), ck_n hi (by omega), n_cl (by omega), gmw h 2 (by omega), d1, nI_add, le_t, e1]
      rfl
    rw [st, e]
    cases hb' : bi K i with
    | true =>
      rw [if_neg (show ¬ (if true = true then nI 1 else nI 0) = 0 by decide), if_pos rfl]
      rfl
    | false =>
      rw [if_pos (show (if false = true then nI 1 else nI 0) = 0 from rfl), if_neg (by decide)]
  · unfold st_X1_costOfCut_4
    dsimp only
    rw [if_pos (show (8 : Int32) ≤ nI 8 from Int32.le_refl _), show ((0 : Int32)) = nI 0 from rfl, l2]
    rfl
theorem sub_0 {K O : Nat} (hK : K < 256) (h : ∀ q, q < 8 → bi K q = true → bi O q = true) : nI K &&& (nI O ^^^ nM) = 0 := by
  apply Int32.toBitVec_inj.mp
  apply BitVec.eq_of_getLsbD_eq
  intro i hi
  have z : (0 : Int32).toBitVec.getLsbD i = false := by
    show (0#32).getLsbD i = false
    simp
  rw [z]
  by_cases g : i < 8
  · have k := hb_and (nI K) (nI O ^^^ nM) g
    rw [hb_bit _ g, hb_not _ g] at k
    rw [k]
    have hi' := h i g
    unfold bi at hi'
    cases a : hb (nI K) (nI i) with
    | false => rfl
    | true => rw [hi' a]; rfl
  · rw [Int32.toBitVec_and, BitVec.getLsbD_and]
    have e : (nI K).toBitVec.getLsbD i = false := by
      show (BitVec.ofNat 32 K).getLsbD i = false
      rw [BitVec.getLsbD_ofNat]
      have : K.testBit i = false := Nat.testBit_lt_two_pow (Nat.lt_of_lt_of_le hK (show 2 ^ 8 ≤ 2 ^ i from Nat.pow_le_pow_right (by omega) (by omega)))
      rw [this, Bool.and_false]
    rw [e, Bool.false_and]
theorem cc_open (K : Nat → Bool) : cc_ cap dem E (fun q => K q && decide (0 < dem q)) ≤ cc_ cap dem E K := by
  unfold cc_
  refine Nat.add_le_add (sm_mono 8 (fun q _ => ?_)) (sm_mono 8 (fun p _ => ?_))
  · dsimp only
    by_cases k : K q = true
    · by_cases g : 0 < dem q
      · rw [if_pos (by rw [k, decide_eq_true g]; rfl)]
        exact Nat.zero_le _
      · have z : dem q = 0 := by omega
        rw [if_pos k]
        split <;> omega
    · rw [if_neg k]
      split <;> omega
  · refine Nat.le_min.mpr ⟨Nat.min_le_left _ _, Nat.le_trans (Nat.min_le_right _ _) ?_⟩
    rw [cnt_sm, cnt_sm]
    refine sm_mono 8 (fun q _ => bn_mono (fun z => ?_))
    rw [Bool.and_eq_true, Bool.and_eq_true] at z
    rw [Bool.and_eq_true]
    exact ⟨z.1.1, z.2⟩
theorem cc_64 (hd : ∀ q, q < 8 → dem q ≤ 8) : cc_ cap dem E (bi 0) ≤ 128 := by
  unfold cc_
  have a : sm (fun q => if bi 0 q then 0 else dem q) 8 ≤ 8 * 8 := sm_le (b := 8) 8 (fun q hq => by have := hd q hq; split <;> omega)
  have b : sm (fun p => min (cap p) (cnt (fun q => bi 0 q && E p q) 8)) 8 ≤ 8 * 8 := sm_le (b := 8) 8 (fun p hp => Nat.le_trans (Nat.min_le_right _ _) (cnt_le _ 8))
  omega
theorem p_cuts (h : RC S G x nw) (hE : ∀ r, r < 8 → ∃ j, j < 256 ∧ w 1 r = nI j ∧ ∀ q, q < 8 → hb (nI j) (nI q) = E r q) (hcap : ∀ r, r < 8 → w 0 r = nI (cap r) ∧ cap r < 20000) (hdem : ∀ q, q < 8 → w 2 q = nI (dem q) ∧ dem q ≤ 8) : m_X1_byCuts (some (rf S x 4)) (mw S G w) = some (nI (a_min cap dem E), mw S G w) := by
  have mt : ∀ {w : AS} {β : Type} {f : Nat → Option β}, dr (mw S G w) 1 (some (rf S x 4)) f = f (rf S x 4) := fun {w β f} => h.mt
  have ma : ∀ {w : AS} (j : Nat) (hj : j < 8) {β : Type} {f : Nat → Option β}, dr (mw S G w) 6 (p_R S (rf S x 4) j) f = f (rf S (rf S x 4) j) := fun {w} j hj {β f} => h.ma j hj
  have hd8 : ∀ q, q < 8 → dem q ≤ 8 := fun q hq => (hdem q hq).2
  /- the open papers -/
  have op : m_X1_openPapers (some (rf S x 4)) (mw S G w) = some (mk8 (fun q => decide (0 < dem q)) 8, mw S G w) := by
    unfold m_X1_openPapers
    refine lpF 8 (fun i => (mk8 (fun q => decide (0 < dem q)) i, nI i, mw S G w)) _ rfl (fun i hi => ?_) ?_
    · have e1 : nI i + 1 = nI (i + 1) := nI_add i 1
      obtain ⟨d1, d2⟩ := hdem i hi
      have e : mk8 (fun q => decide (0 < dem q)) (i + 1) = (if decide (0 < dem i) = true then mk8 (fun q => decide (0 < dem q)) i ||| mb i else mk8 (fun q => decide (0 < dem q)) i) := rfl
      have b1 : (1 : Int32) <<< (nI i &&& 31) = mb i := rfl
      have n8 : ¬ (8 : Int32) ≤ nI i := by
        show ¬ nI 8 ≤ nI i
        rw [nI_leI (by omega) (by omega)]
        omega
      unfold st_X1_openPapers_4
      dsimp only
      rw [if_neg n8, mt, R_mw, ma 2 (by omega), N_mw, h.nma 2 (by omega), ck_n hi (by omega), n_cl (by omega), gmw h 2 (by omega), d1, b1, e1, e, le_t]
      by_cases g : 0 < dem i
      · rw [if_neg (show ¬ nI (dem i) ≤ 0 by show ¬ nI (dem i) ≤ nI 0; rw [nI_leI (by omega) (by omega)]; omega), if_pos (decide_eq_true g)]
      · rw [if_pos (show nI (dem i) ≤ 0 by show nI (dem i) ≤ nI 0; rw [nI_leI (by omega) (by omega)]; omega), if_neg (fun z => g (of_decide_eq_true z))]
    · unfold st_X1_openPapers_4
      dsimp only
      rw [if_pos (show (8 : Int32) ≤ nI 8 from Int32.le_refl _)]
      rfl
  obtain ⟨O, O1, O2⟩ := mk_n (fun q => decide (0 < dem q))
  have hO : ∀ q, q < 8 → bi O q = decide (0 < dem q) := fun q hq => by
    unfold bi
    rw [← O2]
    exact mk_hb _ hq
  rw [O2] at op
  have c0 := p_cost h hE hcap hdem 0 (by omega)
  obtain ⟨t', ⟨L, rfl, l1, l2, l3⟩, h4⟩ := lp_rel (step := st_X1_byCuts_13 (some (rf S x 4))) (t := (nI O, nI (cc_ cap dem E (bi 0)), nI 1, mw S G w)) 255 (fun i t => ∃ L, t = (nI O, nI L, nI (i + 1), mw S G w) ∧ L ≤ 128 ∧ (∀ K, K < i + 1 → (∀ q, q < 8 → bi K q = true → bi O q = true) → L ≤ cc_ cap dem E (bi K)) ∧ ∃ K, K < i + 1 ∧ cc_ cap dem E (bi K) = L) ⟨_, rfl, cc_64 hd8, fun K hK _ => by rw [show K = 0 by omega]; exact Nat.le_refl _, 0, by omega, rfl⟩ (fun i hi t ht => by
    obtain ⟨L, rfl, l1, l2, K0, l3, l4⟩ := ht
    have e1 : nI (i + 1) + 1 = nI (i + 1 + 1) := nI_add (i + 1) 1
    have n6 : ¬ (256 : Int32) ≤ nI (i + 1) := by
      show ¬ nI 256 ≤ nI (i + 1)
      rw [nI_leI (by omega) (by omega)]
      omega
    have co := p_cost h hE hcap hdem (i + 1) (by omega)
    by_cases g : nI (i + 1) &&& (nI O ^^^ nM) = 0
    · have bnd : cc_ cap dem E (bi (i + 1)) < 2147483648 := by
        unfold cc_
        have a : sm (fun q => if bi (i + 1) q then 0 else dem q) 8 ≤ 8 * 8 := sm_le (b := 8) 8 (fun q hq => by have := hd8 q hq; split <;> omega)
        have b : sm (fun p => min (cap p) (cnt (fun q => bi (i + 1) q && E p q) 8)) 8 ≤ 8 * 8 := sm_le (b := 8) 8 (fun p hp => Nat.le_trans (Nat.min_le_right _ _) (cnt_le _ 8))
        omega
      refine ⟨_, ?_, min L (cc_ cap dem E (bi (i + 1))), rfl, by omega, fun K hK hs => ?_, ?_⟩
      · unfold st_X1_byCuts_13
        dsimp only
        rw [if_neg n6, ← m_1, if_pos g, mt, co, bd_t, mmin_n (by omega) bnd, le_t, e1]
      · by_cases e : K = i + 1
        · rw [e]; exact Nat.min_le_right _ _
        · have := l2 K (by omega) hs
          omega
      · by_cases e : L ≤ cc_ cap dem E (bi (i + 1))
        · exact ⟨K0, by omega, by omega⟩
        · exact ⟨i + 1, by omega, by omega⟩
    · refine ⟨_, ?_, L, rfl, l1, fun K hK hs => ?_, K0, by omega, l4⟩
      · unfold st_X1_byCuts_13
        dsimp only
        rw [if_neg n6, ← m_1, if_neg g, e1]
      · by_cases e : K = i + 1
        · exact absurd (sub_0 (O := O) (by omega) (by rw [← e]; exact hs)) g
        · exact l2 K (by omega) hs)
  obtain ⟨K0, l3, l4⟩ := l3
  have hB : ∀ K, L ≤ cc_ cap dem E K := by
    intro K
    obtain ⟨j, j1, j2⟩ := bi_all (fun q => K q && decide (0 < dem q))
    have a := l2 j (by omega) (fun q hq z => by
      rw [j2 q hq, Bool.and_eq_true] at z
      rw [hO q hq]
      exact z.2)
    rw [cc_cg j2] at a
    exact Nat.le_trans a (cc_open K)
  obtain ⟨a1, a2, _⟩ := mnn_in (cap := cap) (E := E) hd8
  have eL := cut_eq cap dem E a1 a2 hB ⟨bi K0, l4⟩
  unfold m_X1_byCuts
  rw [mt, op, bd_t, mt, show ((0 : Int32)) = nI 0 from rfl, c0, bd_t, show ((1 : Int32)) = nI 1 from rfl, h4]
  refine lp_inr ?_
  unfold st_X1_byCuts_13
  dsimp only
  rw [if_pos (show (256 : Int32) ≤ nI (255 + 1) from Int32.le_refl _), eL]
  rfl
end CT2
