/-! THE DIGEST: the class -/
def mx (h : Int64) (y : Int32) : Int64 := (31 : Int64) * h + Int32.toInt64 y
def e_pm (v : AS) (q : Nat) (h : Int64) : Int64 := (31 : Int64) * (mx (mx (fo (fun p h => mx h (v (20 + q) p)) 8 (fo (fun w h => mx h (a_pap v q w)) 10 h)) (a_best v q)) (a_rd (v (20 + q)) 21 0).1) + a_mb (v (20 + q))
noncomputable def a_sb (v : AS) : Int32 := @dite _ (∃ y : Int32, (∀ S, m_X4_floatBits (a_share v) S = some (y, S)) ∧ nn64 (FP.f2d (a_share v)) = true ∧ ∀ S, m_X5_bits (FP.f2d (a_share v)) 8388608 127 S = some (Int32.toInt64 y, S)) (Classical.propDecidable _) (fun h => Classical.choose h) (fun _ => 0)
theorem sb_in {v : AS} (hI : IV v) : (∀ S, m_X4_floatBits (a_share v) S = some (a_sb v, S)) ∧ nn64 (FP.f2d (a_share v)) = true ∧ ∀ S, m_X5_bits (FP.f2d (a_share v)) 8388608 127 S = some (Int32.toInt64 (a_sb v), S) := by
  have h := share_bits hI
  unfold a_sb
  rw [dif_pos h]
  exact Classical.choose_spec h
def slb (sl : Nat → Option AS) (i : Nat) : Int32 := if (sl i).isSome then nI 1 else nI 0
def e_d3 (v : AS) (hl : Int32) : Int64 := fo (fun p h => fo (fun w h => mx h (a_per v p w)) 9 h) 8 (fo (fun k h => mx h (v 11 k)) 4 (fo (fun k h => mx h (a_num v hl k)) 12 3449))
def e_d4 (v : AS) (hl : Int32) : Int64 := fo (e_pm v) (a_n v) (e_d3 v hl)
noncomputable def e_d5 (v : AS) (hl : Int32) : Int64 := mx (mx (mx (mx (e_d4 v hl) (nI (m_v v nM))) (nI (m_v v nM))) (f_need v)) (a_sb v)
noncomputable def e_dg (v : AS) (hl : Int32) (sl : Nat → Option AS) (tn : Nat) (tx : Nat → Int32) : Int64 := fo (fun k h => mx h (tx k)) tn (mx (mx (mx (e_d5 v hl) (slb sl 0)) (slb sl 1)) (nI tn))
section DG
variable {S : PH} {G : Nat → Nat} {x nw : Nat} {v : AS} {hs : List AS} {nx : Nat} {sl : Nat → Option AS} {tn : Nat} {tx : Nat → Int32}
theorem r_rounds (h : RelC S G x nw v hs nx sl tn tx) (hI : IV v) {q : Nat} (hq : q < 8) : ∃ S', m_X4_roundsFor (some x) (nI q) S = some ((a_rd (v (20 + q)) 21 0).1, S') ∧ RelC S' G x nw v hs nx sl tn tx ∧ fc S G S' G := by
  obtain ⟨g1, g3, g30, g5, gR, gS, gx, _, _⟩ := relC_tags h
  have j8 : ∀ k, 8 ≤ k → v (20 + q) k = 0 := fun k hk => hI.aw.1 _ k (by omega) hk
  have pr := p_rounds h.rc h.rv (q := q) (by omega) j8 h.tk
  have i8 := itr_8 j8
  generalize a_rd (v (20 + q)) 21 0 = R at pr ⊢
  have oth : ∀ d, d ≠ rf S x 5 → p_I (s_W S (rf S x 5) (a_itr (v (20 + q)) R.2)) d = p_I S d := fun d hd => ur_o hd
  refine ⟨_, pr, relC_W (S' := s_W S (rf S x 5) (a_itr (v (20 + q)) R.2)) h rfl rfl rfl rfl (fun d hd hg => oth d (fun z => by rw [z] at hg; omega)) (oth _ (fun z => by rw [z] at g1; omega)) ?_ ?_, ?_⟩
  · rw [oth _ (fun z => by rw [z] at g3; omega), oth _ (fun z => by rw [z] at g30; omega)]
    exact h.tt
  · intro k hk
    show u_r _ (rf S x 5) (a_itr (v (20 + q)) R.2) (rf S x 5) k = 0
    rw [ur_s]
    exact i8 R.2 k hk
  · intro d hd hg
    exact ⟨⟨hd, rfl, rfl, oth d (fun z => by rw [z] at hg; omega), rfl, rfl, rfl⟩, rfl⟩
theorem c_pap (h : RelC S G x nw v hs nx sl tn tx) (hI : IV v) {q : Nat} (hq : q < a_n v) (h0 : Int64) : ∃ S', m_X4_hashWithPaper (some x) h0 (nI q) S = some (e_pm v q h0, S') ∧ RelC S' G x nw v hs nx sl tn tx ∧ fc S G S' G := by
  have h8 := hI.in_.2
  have q8 : q < 8 := by omega
  obtain ⟨S', k1, k2, k3⟩ := r_rounds h hI q8
  refine ⟨S', ?_, k2, k3⟩
  unfold e_pm
  generalize (a_rd (v (20 + q)) 21 0).1 = R at k1 ⊢
  have l2 : ∀ A, lp (st_X4_hashWithPaper_39 (some x) h0 (nI q)) (A, nI 0, S) = some ((31 : Int64) * (mx (mx (fo (fun p h => mx h (v (20 + q) p)) 8 A) (a_best v q)) R) + a_mb (v (20 + q)), S') := by
    intro A
    refine lpF 8 (fun i => (fo (fun p h => mx h (v (20 + q) p)) i A, nI i, S)) _ rfl (fun i hi => ?_) ?_
    · have e1 : nI i + 1 = nI (i + 1) := nI_add i 1
      unfold st_X4_hashWithPaper_39
      dsimp only
      rw [if_neg (show ¬ (8 : Int32) ≤ nI i by show ¬ nI 8 ≤ nI i; rw [nI_leI (by omega) (by omega)]; omega), h.rc.x4, h.rc.r0, h.rc.now, h.rc.st.ds, h.rc.st.ns, ck_n q8 (by omega), n_cl (by omega), h.rc.st.dw q8, h.rc.st.nw q8, ck_n hi (by omega), n_cl (by omega), h.rv.w q8, le_t, e1]
      rfl
    · unfold st_X4_hashWithPaper_39
      dsimp only
      rw [if_pos (show (8 : Int32) ≤ nI 8 from Int32.le_refl _), h.rc.x4, p_best h.rc h.rv q8 hI.s1.1 hI.s1.2, bd_t, le_t, h.rc.x4, k1, bd_t, le_t, k2.rc.x4, k2.rc.r0, k2.rc.now, k2.rc.st.ds, k2.rc.st.ns, ck_n q8 (by omega), n_cl (by omega), p_mean k2.rc k2.rv q8, bd_t, p_mb, bd_t]
      rfl
  unfold m_X4_hashWithPaper
  refine lpF 10 (fun i => (fo (fun w h => mx h (a_pap v q w)) i h0, nI i, S)) _ rfl (fun i hi => ?_) ?_
  · have e1 : nI i + 1 = nI (i + 1) := nI_add i 1
    unfold st_X4_hashWithPaper_6
    dsimp only
    rw [if_neg (show ¬ (10 : Int32) ≤ nI i by show ¬ nI 10 ≤ nI i; rw [nI_leI (by omega) (by omega)]; omega), h.rc.x4, p_paper h.rc h.rv q8 hi, bd_t, le_t, e1]
    rfl
  · unfold st_X4_hashWithPaper_6
    dsimp only
    rw [if_pos (show (10 : Int32) ≤ nI 10 from Int32.le_refl _), show ((0 : Int32)) = nI 0 from rfl, l2]
    rfl
theorem c_text (h : RelC S G x nw v hs nx sl tn tx) (h0 : Int64) : m_X3_hashWithText (some (rf S x 3)) h0 S = some (fo (fun k h => mx h (tx k)) tn (mx h0 (nI tn)), S) := by
  obtain ⟨t1, t2, t3⟩ := h.tt
  unfold m_X3_hashWithText
  rw [h.rc.tx, le_t, t1]
  refine lpF tn (fun i => (fo (fun k h => mx h (tx k)) i (mx h0 (nI tn)), nI i, S)) _ rfl (fun i hi => ?_) ?_
  · have e1 : nI i + 1 = nI (i + 1) := nI_add i 1
    unfold st_X3_hashWithText_15
    dsimp only
    rw [h.rc.tx, t1, if_neg (show ¬ nI tn ≤ nI i by rw [nI_leI (by omega) (by omega)]; omega), p_code h.rc h.tt (by omega), bd_t, le_t, e1, show cd tn tx i = tx i from if_pos hi]
    rfl
  · unfold st_X3_hashWithText_15
    dsimp only
    rw [h.rc.tx, t1, if_pos (Int32.le_refl _)]
    rfl
theorem c_slots (h : RelC S G x nw v hs nx sl tn tx) (h0 : Int64) : lp (st_X4_digest_202 (some x)) (h0, nI 0, S) = some (fo (fun k h => mx h (tx k)) tn (mx (mx (mx h0 (slb sl 0)) (slb sl 1)) (nI tn)), S) := by
  have one : ∀ i, i < 2 → ∀ A, st_X4_digest_202 (some x) (A, nI i, S) = some (.inl (mx A (slb sl i), nI (i + 1), S)) := by
    intro i hi A
    have e1 : nI i + 1 = nI (i + 1) := nI_add i 1
    obtain ⟨s1, s2⟩ := h.so i hi
    unfold st_X4_digest_202
    dsimp only
    rw [if_neg (show ¬ (2 : Int32) ≤ nI i by show ¬ nI 2 ≤ nI i; rw [nI_leI (by omega) (by omega)]; omega), h.rc.x4, h.rc.sl, h.rc.nsl, ck_n hi (by omega), n_cl (by omega)]
    unfold j_X4_digest_226 slb
    cases g : sl i with
    | none =>
      rw [s1 g, if_neg (fun z => z rfl), le_t, e1]
      rfl
    | some w =>
      obtain ⟨q, k1, _⟩ := s2 w g
      rw [k1, if_pos (Option.some_ne_none q), le_t, e1]
      rfl
  rw [lp_inl (one 0 (by omega) h0), lp_inl (one 1 (by omega) _)]
  refine lp_inr ?_
  unfold st_X4_digest_202
  dsimp only
  rw [if_pos (show (2 : Int32) ≤ nI (1 + 1) from Int32.le_refl _), h.rc.x4, h.rc.r3, h.rc.tx, c_text h, bd_t]
  rfl
theorem c_138 (h : RelC S G x nw v hs nx sl tn tx) (hI : IV v) (h0 : Int64) : ∃ S', j_X4_digest_138 (some x) h0 S = some (fo (fun k h => mx h (tx k)) tn (mx (mx (mx (mx (mx (mx (mx h0 (nI (m_v v nM))) (nI (m_v v nM))) (f_need v)) (a_sb v)) (slb sl 0)) (slb sl 1)) (nI tn)), S') ∧ RelC S' G x nw v hs nx sl tn tx ∧ fc S G S' G := by
  obtain ⟨w, ew⟩ := mw_self h.gi h.rc
  obtain ⟨w', k1, k2, k3⟩ := p_readM (w := w) h.gi h.rc h.rv hI
  rw [← ew] at k1
  have ht : TO v w' := ⟨k2, k3⟩
  have x4 : ∀ {w : AS} {β : Type} {f : Nat → Option β}, dr (mw S G w) 4 (some x) f = f x := fun {w β f} => h.rc.x4
  have mt : ∀ {w : AS} {β : Type} {f : Nat → Option β}, dr (mw S G w) 1 (some (rf S x 4)) f = f (rf S x 4) := fun {w β f} => h.rc.mt
  obtain ⟨w2, y1, y2⟩ := to_ways h.gi h.rc hI ht nM
  obtain ⟨w3, z1, z2⟩ := to_need h.gi h.rc hI y2
  obtain ⟨r1, r2⟩ := relC_mw (w := w3) h
  refine ⟨mw S G w3, ?_, r1, r2⟩
  unfold j_X4_digest_138
  rw [h.rc.x4, k1, bd_t, x4, R_mw, h.rc.r4, mt, ← m_1, y1, bd_t, le_t, x4, R_mw, h.rc.r4, mt, to_cuts h.rc hI y2, bd_t, le_t, x4, z1, bd_t, le_t, x4, p_share r1.rc r1.rv hI, bd_t, (sb_in hI).1, bd_t, le_t, show ((0 : Int32)) = nI 0 from rfl, c_slots r1]
  rfl
theorem c_108 (h : RelC S G x nw v hs nx sl tn tx) (hI : IV v) (A : Int64) : ∃ S', lp (st_X4_digest_108 (some x)) (A, nI 0, S) = some (fo (fun k h => mx h (tx k)) tn (mx (mx (mx (mx (mx (mx (mx (fo (e_pm v) (a_n v) A) (nI (m_v v nM))) (nI (m_v v nM))) (f_need v)) (a_sb v)) (slb sl 0)) (slb sl 1)) (nI tn)), S') ∧ RelC S' G x nw v hs nx sl tn tx ∧ fc S G S' G := by
    have h8 := hI.in_.2
    obtain ⟨t', ⟨S1, rfl, k1, k2⟩, h4⟩ := lp_rel (step := st_X4_digest_108 (some x)) (t := (A, nI 0, S)) (a_n v) (fun i t => ∃ S', t = (fo (e_pm v) i A, nI i, S') ∧ RelC S' G x nw v hs nx sl tn tx ∧ fc S G S' G) ⟨S, rfl, h, fc_r⟩ (fun i hi t ht => by
      obtain ⟨S1, rfl, k1, k2⟩ := ht
      obtain ⟨S2, g1, g2, g3⟩ := c_pap k1 hI hi (fo (e_pm v) i A)
      have e1 : nI i + 1 = nI (i + 1) := nI_add i 1
      refine ⟨_, ?_, S2, rfl, g2, fc_t k2 g3⟩
      unfold st_X4_digest_108
      dsimp only
      rw [if_neg (show ¬ (8 : Int32) ≤ nI i by show ¬ nI 8 ≤ nI i; rw [nI_leI (by omega) (by omega)]; omega), k1.rc.x4, k1.rc.r0, k1.rc.now, k1.rv.i 12 (by decide) (by decide), hI.in_.1, if_neg (show ¬ nI (a_n v) ≤ nI i by rw [nI_leI (by omega) (by omega)]; omega), g1, bd_t, e1]
      rfl)
    obtain ⟨S2, g1, g2, g3⟩ := c_138 k1 hI (fo (e_pm v) (a_n v) A)
    refine ⟨S2, ?_, g2, fc_t k2 g3⟩
    rw [h4]
    refine lp_inr ?_
    unfold st_X4_digest_108
    dsimp only
    by_cases c : a_n v = 8
    · rw [if_pos (show (8 : Int32) ≤ nI (a_n v) by rw [c]; exact Int32.le_refl _), g1]
      rfl
    · rw [if_neg (show ¬ (8 : Int32) ≤ nI (a_n v) by show ¬ nI 8 ≤ nI (a_n v); rw [nI_leI (by omega) (by omega)]; omega), k1.rc.x4, k1.rc.r0, k1.rc.now, k1.rv.i 12 (by decide) (by decide), hI.in_.1, if_pos (Int32.le_refl _), g1]
      rfl
theorem c_63 (h : RelC S G x nw v hs nx sl tn tx) (hI : IV v) (A : Int64) {R : Int64 × PH} (k : lp (st_X4_digest_108 (some x)) (fo (fun p h => fo (fun w h => mx h (a_per v p w)) 9 h) 8 A, nI 0, S) = some R) : lp (st_X4_digest_63 (some x)) (A, nI 0, S) = some R := by
  refine lpF 8 (fun i => (fo (fun p h => fo (fun w h => mx h (a_per v p w)) 9 h) i A, nI i, S)) _ rfl (fun p hp => ?_) ?_
  · have ep : nI p + 1 = nI (p + 1) := nI_add p 1
    have l72 : ∀ A, lp (st_X4_digest_72 (some x)) (A, nI p, nI 0, S) = some (.inl (fo (fun w h => mx h (a_per v p w)) 9 A, nI (p + 1), S)) := by
      intro A
      refine lpF 9 (fun i => (fo (fun w h => mx h (a_per v p w)) i A, nI p, nI i, S)) _ rfl (fun i hi => ?_) ?_
      · have e1 : nI i + 1 = nI (i + 1) := nI_add i 1
        unfold st_X4_digest_72
        dsimp only
        rw [if_neg (show ¬ (9 : Int32) ≤ nI i by show ¬ nI 9 ≤ nI i; rw [nI_leI (by omega) (by omega)]; omega), h.rc.x4, p_person h.rc h.rv hp hI.s1.1 hI.s1.2 hI.in_.1 hI.in_.2 hi, bd_t, le_t, e1]
        rfl
      · unfold st_X4_digest_72
        dsimp only
        rw [if_pos (show (9 : Int32) ≤ nI 9 from Int32.le_refl _), ep]
        rfl
    unfold st_X4_digest_63
    dsimp only
    rw [if_neg (show ¬ (8 : Int32) ≤ nI p by show ¬ nI 8 ≤ nI p; rw [nI_leI (by omega) (by omega)]; omega), show ((0 : Int32)) = nI 0 from rfl, l72]
    rfl
  · unfold st_X4_digest_63
    dsimp only
    rw [if_pos (show (8 : Int32) ≤ nI 8 from Int32.le_refl _), show ((0 : Int32)) = nI 0 from rfl, k]
    rfl
theorem c_33 (h : RelC S G x nw v hs nx sl tn tx) (A : Int64) {R : Int64 × PH} (k : lp (st_X4_digest_63 (some x)) (fo (fun k h => mx h (v 11 k)) 4 A, nI 0, S) = some R) : lp (st_X4_digest_33 (some x)) (A, nI 0, S) = some R := by
  refine lpF 4 (fun i => (fo (fun k h => mx h (v 11 k)) i A, nI i, S)) _ rfl (fun i hi => ?_) ?_
  · have e1 : nI i + 1 = nI (i + 1) := nI_add i 1
    unfold st_X4_digest_33
    dsimp only
    rw [if_neg (show ¬ (4 : Int32) ≤ nI i by show ¬ nI 4 ≤ nI i; rw [nI_leI (by omega) (by omega)]; omega), h.rc.x4, h.rc.r0, h.rc.now, h.rc.st.d11, h.rc.st.n11, ck_n hi (by omega), n_cl (by omega), h.rv.f11, le_t, e1]
    rfl
  · unfold st_X4_digest_33
    dsimp only
    rw [if_pos (show (4 : Int32) ≤ nI 4 from Int32.le_refl _), show ((0 : Int32)) = nI 0 from rfl, k]
    rfl
theorem c_d6 (h : RelC S G x nw v hs nx sl tn tx) (A : Int64) {R : Int64 × PH} (k : lp (st_X4_digest_33 (some x)) (fo (fun k h => mx h (a_num v (nI hs.length) k)) 12 A, nI 0, S) = some R) : lp (st_X4_digest_6 (some x)) (A, nI 0, S) = some R := by
  obtain ⟨n1, n2, n3, n4⟩ := h.hn
  refine lpF 12 (fun i => (fo (fun k h => mx h (a_num v (nI hs.length) k)) i A, nI i, S)) _ rfl (fun i hi => ?_) ?_
  · have e1 : nI i + 1 = nI (i + 1) := nI_add i 1
    unfold st_X4_digest_6
    dsimp only
    rw [if_neg (show ¬ (12 : Int32) ≤ nI i by show ¬ nI 12 ≤ nI i; rw [nI_leI (by omega) (by omega)]; omega), h.rc.x4, p_number h.rc h.rv n3 hi, bd_t, le_t, e1]
    rfl
  · unfold st_X4_digest_6
    dsimp only
    rw [if_pos (show (12 : Int32) ≤ nI 12 from Int32.le_refl _), show ((0 : Int32)) = nI 0 from rfl, k]
    rfl
theorem k_dig (h : RelC S G x nw v hs nx sl tn tx) (hI : IV v) : ∃ S', m_X4_digest (some x) S = some (e_dg v (nI hs.length) sl tn tx, S') ∧ RelC S' G x nw v hs nx sl tn tx ∧ fc S G S' G := by
  unfold e_dg e_d5 e_d4 e_d3
  obtain ⟨S', y1, y2, y3⟩ := c_108 h hI (fo (fun p h => fo (fun w h => mx h (a_per v p w)) 9 h) 8 (fo (fun k h => mx h (v 11 k)) 4 (fo (fun k h => mx h (a_num v (nI hs.length) k)) 12 3449)))
  refine ⟨S', ?_, y2, y3⟩
  unfold m_X4_digest
  rw [show ((0 : Int32)) = nI 0 from rfl]
  exact c_d6 h _ (c_33 h _ (c_63 h hI _ y1))
end DG
