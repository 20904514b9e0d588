/-! MATCHING: what it is told -/
def e_fr (v : AS) (q : Nat) : Nat := nv v 11 0 - cnt (rw_ (v (20 + q))) 8
def e_op (v : AS) (q : Nat) : Bool := decide (q < a_n v) && (decide (v 9 q = nI 0) && decide (0 < e_fr v q))
def e_dem (v : AS) (q : Nat) : Nat := if e_op v q then e_fr v q else 0
def e_cap (v : AS) (p : Nat) : Nat := (nv v 2 p - nv v 3 p) / 2
def e_fit (v : AS) (q p : Nat) : Bool := !hb (a_rev (v (20 + q)) ||| a_conf v q) (nI p) && hb (v 0 p) (v 5 q)
def e_E (v : AS) (p q : Nat) : Bool := e_op v q && e_fit v q p
theorem e_dem8 {v : AS} (hI : IV v) (q : Nat) : e_dem v q ≤ 8 := by
  have := hI.s0.2.1
  unfold e_dem e_fr
  split <;> omega
theorem e_cap2 {v : AS} (hI : IV v) {p : Nat} (hp : p < 8) : e_cap v p < 20000 := by
  have := (hI.go hp).2
  unfold e_cap
  omega
theorem fr_le {a b : Nat} (ha : a < 100) (hb : b < 100) : (nI a - nI b ≤ nI 0 ↔ ¬ 0 < a - b) ∧ (0 < a - b → nI a - nI b = nI (a - b)) := by
  refine ⟨?_, fun h => pk_sub (by omega)⟩
  rw [i_le, pk_sub_toInt (by omega) (by omega)]
  show _ ≤ (0 : Int) ↔ _
  omega
theorem isP_q {v : AS} (hI : IV v) {q : Nat} (hq : q < 8) : a_isP v (nI q) = decide (q < a_n v) := by
  obtain ⟨en, h8⟩ := hI.in_
  unfold a_isP
  rw [en, decide_eq_false (show ¬ nI q < nI 0 from nI_pos (by omega)), decide_eq_false (show ¬ nI 8 ≤ nI q by rw [nI_leI (by omega) (by omega)]; omega)]
  by_cases g : q < a_n v
  · rw [decide_eq_true g, decide_eq_false (show ¬ nI (a_n v) ≤ nI q by rw [nI_leI (by omega) (by omega)]; omega)]; rfl
  · rw [decide_eq_false g, decide_eq_true (show nI (a_n v) ≤ nI q by rw [nI_leI (by omega) (by omega)]; omega)]; rfl
section RM2
variable {S : PH} {G : Nat → Nat} {x nw : Nat} {v w : AS}
theorem rep_mw (h : RC S G x nw) (hr : rep S nw v) : rep (mw S G w) nw v := rep_kk (S := S) (S' := mw S G w) (G := G) (G' := G) (fun d hd _ => ⟨⟨hd, rfl, rfl, rfl⟩, fun _ _ => rfl⟩) h.st hr (fun d _ k1 _ => mz_o (by omega))
theorem p_fit (hg : Gi G) (h : RC S G x nw) (hr : rep S nw v) {q : Nat} (hq : q < 8) (bar : Int32) : ∃ w', m_X4_readFitting (some x) (nI q) bar (mw S G w) = some ((), mw S G w') ∧ (∀ j, j ≠ 1 → w' j = w j) ∧ ∀ r, r < 8 → w' 1 r = if !hb bar (nI r) && hb (v 0 r) (v 5 q) then w 1 r ||| mb q else w 1 r := by
  have x4 : ∀ {w : AS} {β : Type} {f : Nat → Option β}, dr (mw S G w) 4 (some x) f = f x := fun {w β f} => h.x4
  have nw2 : ∀ {w : AS} {β : Type} {f : Nat → Option β}, dr (mw S G w) 2 (some nw) f = f nw := fun {w β f} => h.now
  have sd : ∀ {w : AS} (j : Nat) (hj : j < 10) {β : Type} {f : Nat → Option β}, dr (mw S G w) 6 (p_R S nw j) f = f (rf S nw j) := fun {w} j hj {β f} => h.st.d j hj
  have mt : ∀ {w : AS} {β : Type} {f : Nat → Option β}, dr (mw S G w) 1 (some (rf S x 4)) f = f (rf S x 4) := fun {w β f} => h.mt
  have ma : ∀ {w : AS} (j : Nat) (hj : j < 8) {β : Type} {f : Nat → Option β}, dr (mw S G w) 6 (p_R S (rf S x 4) j) f = f (rf S (rf S x 4) j) := fun {w} j hj {β f} => h.ma j hj
  have rI : ∀ {w : AS} (j : Nat) (hj : j < 10), p_I (mw S G w) (rf S nw j) = v j := fun {w} j hj => (rep_mw (w := w) h hr).f j hj
  obtain ⟨t', ⟨w1, rfl, k2, k3⟩, h4⟩ := lp_rel (step := st_X4_readFitting_2 (some x) (nI q) bar) (t := (nI 0, mw S G w)) 8 (fun i t => ∃ w', t = (nI i, mw S G w') ∧ (∀ j, j ≠ 1 → w' j = w j) ∧ ∀ r, r < 8 → w' 1 r = if decide (r < i) && (!hb bar (nI r) && hb (v 0 r) (v 5 q)) then w 1 r ||| mb q else w 1 r) ⟨w, rfl, fun _ _ => rfl, fun r hr => by rw [decide_eq_false (show ¬ r < 0 by omega), Bool.false_and, if_neg Bool.false_ne_true]⟩ (fun i hi t ht => by
    obtain ⟨w', rfl, k2, k3⟩ := ht
    have e1 : nI i + 1 = nI (i + 1) := nI_add i 1
    have b1 : (1 : Int32) <<< (nI q &&& 31) = mb q := rfl
    have n8 : ¬ (8 : Int32) ≤ nI i := by
      show ¬ nI 8 ≤ nI i
      rw [nI_leI (by omega) (by omega)]
      omega
    have k3i := k3 i hi
    rw [decide_eq_false (show ¬ i < i by omega), Bool.false_and, if_neg Bool.false_ne_true] at k3i
    have same : (!hb bar (nI i) && hb (v 0 i) (v 5 q)) = false → ∀ r, r < 8 → w' 1 r = if decide (r < i + 1) && (!hb bar (nI r) && hb (v 0 r) (v 5 q)) then w 1 r ||| mb q else w 1 r := by
      intro z r hr
      by_cases e : r = i
      · subst e
        rw [z, Bool.and_false, if_neg Bool.false_ne_true]
        exact k3i
      · rw [k3 r hr]
        by_cases g : r < i
        · rw [decide_eq_true g, decide_eq_true (show r < i + 1 by omega)]
        · rw [decide_eq_false g, decide_eq_false (show ¬ r < i + 1 by omega)]
    unfold st_X4_readFitting_2
    dsimp only
    rw [if_neg n8, p_hasN, bd_t]
    cases g : hb bar (nI i) with
    | true =>
      rw [if_neg (show ¬ (if true = true then nI 1 else nI 0) = 0 by decide), e1]
      exact ⟨_, rfl, w', rfl, k2, same (by rw [g]; rfl)⟩
    | false =>
      rw [if_pos (show (if false = true then nI 1 else nI 0) = 0 from rfl), x4, R_mw, h.r0, nw2, sd 0 (by omega), N_mw, h.st.n 0 (by omega), ck_n hi (by omega), sd 5 (by omega), h.st.n 5 (by omega), ck_n hq (by omega), n_cl (by omega), n_cl (by omega), rI 0 (by omega), rI 5 (by omega), p_hasN, bd_t]
      cases g2 : hb (v 0 i) (v 5 q) with
      | false =>
        rw [if_pos (show (if false = true then nI 1 else nI 0) = 0 from rfl), e1]
        exact ⟨_, rfl, w', rfl, k2, same (by rw [g2, Bool.and_false])⟩
      | true =>
        rw [if_neg (show ¬ (if true = true then nI 1 else nI 0) = 0 by decide), x4, R_mw, h.r4, mt, ma 1 (by omega), N_mw, h.nma 1 (by omega), ck_n hi (by omega), ck_n hi (by omega), gmw h 1 (by omega), b1, k3i, smw hg h 1 (by omega), le_t, e1]
        refine ⟨_, rfl, _, rfl, fun j hj => (u_ne hj).trans (k2 j hj), fun r hr => ?_⟩
        by_cases e : r = i
        · subst e
          rw [u_s, decide_eq_true (show r < r + 1 by omega), g, g2]
          rfl
        · rw [u_k e, k3 r hr]
          by_cases g3 : r < i
          · rw [decide_eq_true g3, decide_eq_true (show r < i + 1 by omega)]
          · rw [decide_eq_false g3, decide_eq_false (show ¬ r < i + 1 by omega)])
  refine ⟨w1, ?_, k2, fun r hr => by rw [k3 r hr, decide_eq_true hr, Bool.true_and]⟩
  unfold m_X4_readFitting
  rw [show ((0 : Int32)) = nI 0 from rfl, h4]
  refine lp_inr ?_
  unfold st_X4_readFitting_2
  dsimp only
  rw [if_pos (show (8 : Int32) ≤ nI 8 from Int32.le_refl _)]
  rfl
theorem p_readM (hg : Gi G) (h : RC S G x nw) (hr : rep S nw v) (hI : IV v) : ∃ w', m_X4_readMatching (some x) (mw S G w) = some ((), mw S G w') ∧ (∀ r, r < 8 → w' 0 r = nI (e_cap v r) ∧ w' 1 r = mk8 (e_E v r) 8) ∧ ∀ q, q < 8 → w' 2 q = nI (e_dem v q) := by
  have x4 : ∀ {w : AS} {β : Type} {f : Nat → Option β}, dr (mw S G w) 4 (some x) f = f x := fun {w β f} => h.x4
  have nw2 : ∀ {w : AS} {β : Type} {f : Nat → Option β}, dr (mw S G w) 2 (some nw) f = f nw := fun {w β f} => h.now
  have sd : ∀ {w : AS} (j : Nat) (hj : j < 10) {β : Type} {f : Nat → Option β}, dr (mw S G w) 6 (p_R S nw j) f = f (rf S nw j) := fun {w} j hj {β f} => h.st.d j hj
  have sd11 : ∀ {w : AS} {β : Type} {f : Nat → Option β}, dr (mw S G w) 6 (p_R S nw 11) f = f (rf S nw 11) := fun {w β f} => h.st.d11
  have sds : ∀ {w : AS} {β : Type} {f : Nat → Option β}, dr (mw S G w) 9 (p_R S nw 10) f = f (rf S nw 10) := fun {w β f} => h.st.ds
  have mt : ∀ {w : AS} {β : Type} {f : Nat → Option β}, dr (mw S G w) 1 (some (rf S x 4)) f = f (rf S x 4) := fun {w β f} => h.mt
  have ma : ∀ {w : AS} (j : Nat) (hj : j < 8) {β : Type} {f : Nat → Option β}, dr (mw S G w) 6 (p_R S (rf S x 4) j) f = f (rf S (rf S x 4) j) := fun {w} j hj {β f} => h.ma j hj
  have rI : ∀ {w : AS} (j : Nat) (hj : j < 10), p_I (mw S G w) (rf S nw j) = v j := fun {w} j hj => (rep_mw (w := w) h hr).f j hj
  have rI11 : ∀ {w : AS}, p_I (mw S G w) (rf S nw 11) = v 11 := fun {w} => (rep_mw (w := w) h hr).f11
  have n8 : ∀ i, i < 8 → ¬ (8 : Int32) ≤ nI i := fun i hi => by
    show ¬ nI 8 ≤ nI i
    rw [nI_leI (by omega) (by omega)]
    omega
  obtain ⟨d1, d2, _⟩ := hI.s0
  /- the persons -/
  obtain ⟨t', ⟨w1, rfl, k2⟩, h4⟩ := lp_rel (step := st_X4_readMatching_2 (some x)) (t := (nI 0, mw S G w)) 8 (fun i t => ∃ w', t = (nI i, mw S G w') ∧ ∀ r, r < i → w' 0 r = nI (e_cap v r) ∧ w' 1 r = nI 0) ⟨w, rfl, fun r hr => by omega⟩ (fun i hi t ht => by
    obtain ⟨w', rfl, k2⟩ := ht
    have e1 : nI i + 1 = nI (i + 1) := nI_add i 1
    have tk := p_tokensOf (S := mw S G w') (hW h) (rep_mw h hr) hi
    have e2 : nI (nv v 2 i - nv v 3 i) / (2 : Int32) = nI (e_cap v i) := pk_div (d := 2) (by have := (hI.go hi).2; omega) (by omega) (by omega)
    rw [hI.tok hi] at tk
    refine ⟨(nI (i + 1), mw S G (u_2 (u_2 w' 0 i (nI (e_cap v i))) 1 i (nI 0))), ?_, _, rfl, fun r hr => ?_⟩
    · unfold st_X4_readMatching_2
      dsimp only
      rw [if_neg (n8 i hi), x4, R_mw, h.r4, mt, tk, bd_t, ma 0 (by omega), N_mw, h.nma 0 (by omega), ck_n hi (by omega), n_cl (by omega), e2, smw hg h 0 (by omega), le_t, x4, R_mw, h.r4, mt, ma 1 (by omega), N_mw, h.nma 1 (by omega), ck_n hi (by omega), smw hg h 1 (by omega), le_t, e1]
      rfl
    · by_cases e : r = i
      · subst e
        rw [u_s, u_ne (show (0 : Nat) ≠ 1 by omega), u_s]
        exact ⟨rfl, rfl⟩
      · rw [u_k e, u_k e, u_k e, u_k e]
        exact k2 r (by omega))
  /- the papers -/
  obtain ⟨t2, ⟨w2, rfl, m1, m2⟩, h5⟩ := lp_rel (step := st_X4_readMatching_42 (some x)) (t := (nI 0, mw S G w1)) 8 (fun i t => ∃ w', t = (nI i, mw S G w') ∧ (∀ r, r < 8 → w' 0 r = nI (e_cap v r) ∧ w' 1 r = mk8 (e_E v r) i) ∧ ∀ q, q < i → w' 2 q = nI (e_dem v q)) ⟨w1, rfl, fun r hr => k2 r hr, fun q hq => by omega⟩ (fun q hq t ht => by
    obtain ⟨w', rfl, m1, m2⟩ := ht
    have e1 : nI q + 1 = nI (q + 1) := nI_add q 1
    have cl := cnt_le (rw_ (v (20 + q))) 8
    have rv : ∀ w' : AS, m_X4_reviewersIn (p_R S (rf S nw 10) q) (mw S G w') = some (a_rev (v (20 + q)), mw S G w') := fun w' => by
      have k := p_reviewersIn (S := mw S G w') (r := p_R S (rf S nw 10) q) (h.st.w hq)
      rw [show (p_R S (rf S nw 10) q).getD 0 = rf S (rf S nw 10) q from rfl] at k
      rw [show p_I (mw S G w') (rf S (rf S nw 10) q) = v (20 + q) from (rep_mw (w := w') h hr).w hq] at k
      exact k
    have ip := p_isPaper (S := mw S G w') (hW h) (rep_mw h hr) (nI q)
    rw [isP_q hI hq] at ip
    obtain ⟨f1, f2⟩ := fr_le (a := nv v 11 0) (b := cnt (rw_ (v (20 + q))) 8) (by omega) (by omega)
    have cf := p_conf (S := mw S G (u_2 w' 2 q (nI (e_dem v q)))) (hW h) (rep_mw h hr) hq hI.s1.1 hI.s1.2
    /- the paper has nothing free -/
    have no : e_op v q = false → ∀ y, ∃ t', j_X4_readMatching_105 (some x) (nI q) (p_R S (rf S nw 10) q) y (0 : Int32) (mw S G w') = some (.inl t') ∧ ∃ w'', t' = (nI (q + 1), mw S G w'') ∧ (∀ r, r < 8 → w'' 0 r = nI (e_cap v r) ∧ w'' 1 r = mk8 (e_E v r) (q + 1)) ∧ ∀ a, a < q + 1 → w'' 2 a = nI (e_dem v a) := by
      intro z y
      have ed : e_dem v q = 0 := by unfold e_dem; rw [if_neg (by rw [z]; decide)]
      refine ⟨(nI (q + 1), mw S G (u_2 w' 2 q (nI 0))), ?_, _, rfl, fun r hr => ?_, fun a ha => ?_⟩
      · unfold j_X4_readMatching_105 j_X4_readMatching_125
        rw [x4, R_mw, h.r4, mt, if_pos rfl, ma 2 (by omega), N_mw, h.nma 2 (by omega), ck_n hq (by omega), n_cl (by omega), smw hg h 2 (by omega), le_t, if_pos rfl, e1]
        rfl
      · have e : mk8 (e_E v r) (q + 1) = (if e_E v r q = true then mk8 (e_E v r) q ||| mb q else mk8 (e_E v r) q) := rfl
        have e2 : e_E v r q = false := by unfold e_E; rw [z]; rfl
        rw [u_ne (by omega), u_ne (by omega), e, e2, if_neg Bool.false_ne_true]
        exact m1 r hr
      · by_cases g : a = q
        · rw [g, u_s, ed]
        · rw [u_k g]; exact m2 a (by omega)
    have yes : e_op v q = true → ∃ t', j_X4_readMatching_105 (some x) (nI q) (p_R S (rf S nw 10) q) (nI (e_fr v q)) (1 : Int32) (mw S G w') = some (.inl t') ∧ ∃ w'', t' = (nI (q + 1), mw S G w'') ∧ (∀ r, r < 8 → w'' 0 r = nI (e_cap v r) ∧ w'' 1 r = mk8 (e_E v r) (q + 1)) ∧ ∀ a, a < q + 1 → w'' 2 a = nI (e_dem v a) := by
      intro z
      have ed : e_dem v q = e_fr v q := by unfold e_dem; rw [if_pos z]
      obtain ⟨w3, g1, g2, g3⟩ := p_fit (w := u_2 w' 2 q (nI (e_dem v q))) hg h hr hq (a_rev (v (20 + q)) ||| a_conf v q)
      refine ⟨(nI (q + 1), mw S G w3), ?_, _, rfl, fun r hr => ?_, fun a ha => ?_⟩
      · unfold j_X4_readMatching_105 j_X4_readMatching_125
        rw [x4, R_mw, h.r4, mt, if_neg (show ¬ (1 : Int32) = 0 by decide), ma 2 (by omega), N_mw, h.nma 2 (by omega), ck_n hq (by omega), n_cl (by omega), smw hg h 2 (by omega), le_t, if_neg (show ¬ (1 : Int32) = 0 by decide), ← ed, rv, bd_t, x4, cf, bd_t, x4, g1, bd_t, e1]
      · have e : mk8 (e_E v r) (q + 1) = (if e_E v r q = true then mk8 (e_E v r) q ||| mb q else mk8 (e_E v r) q) := rfl
        have e2 : e_E v r q = (!hb (a_rev (v (20 + q)) ||| a_conf v q) (nI r) && hb (v 0 r) (v 5 q)) := by unfold e_E e_fit; rw [z]; rfl
        rw [g2 0 (by omega), u_ne (by omega), g3 r hr, u_ne (by omega), e, e2, (m1 r hr).2]
        exact ⟨(m1 r hr).1, rfl⟩
      · rw [g2 2 (by omega)]
        by_cases g : a = q
        · rw [g, u_s]
        · rw [u_k g]; exact m2 a (by omega)
    unfold st_X4_readMatching_42
    dsimp only
    rw [if_neg (n8 q hq), x4, R_mw, h.r0, nw2, sds, N_mw, h.st.ns, ck_n hq (by omega), n_cl (by omega), le_t, sd11, h.st.n11, show ((0 : Int32)) = nI 0 from rfl, ck_n (by omega) (by omega), rv, bd_t, p_bitCount, bd_t, rev_bc, rI11, d1, le_t, x4, ip, bd_t]
    by_cases a1 : q < a_n v
    · rw [decide_eq_true a1, if_neg (show ¬ (if true = true then nI 1 else nI 0) = nI 0 by decide), x4, R_mw, h.r0, nw2, sd 9 (by omega), N_mw, h.st.n 9 (by omega), ck_n hq (by omega), rI 9 (by omega)]
      by_cases a2 : v 9 q = nI 0
      · rw [if_pos a2]
        by_cases a3 : 0 < e_fr v q
        · rw [if_neg (fun z => (f1.mp z) a3), f2 a3]
          exact yes (by unfold e_op; rw [decide_eq_true a1, decide_eq_true a2, decide_eq_true a3]; rfl)
        · rw [if_pos (f1.mpr a3)]
          exact no (by unfold e_op; rw [decide_eq_false a3, Bool.and_false, Bool.and_false]) _
      · rw [if_neg a2]
        exact no (by unfold e_op; rw [decide_eq_false a2, Bool.false_and, Bool.and_false]) _
    · rw [decide_eq_false a1, if_pos (show (if false = true then nI 1 else nI 0) = nI 0 from rfl)]
      exact no (by unfold e_op; rw [decide_eq_false a1, Bool.false_and]) _)
  refine ⟨w2, ?_, m1, m2⟩
  unfold m_X4_readMatching
  rw [show ((0 : Int32)) = nI 0 from rfl, h4]
  refine lp_inr ?_
  unfold st_X4_readMatching_2
  dsimp only
  rw [if_pos (show (8 : Int32) ≤ nI 8 from Int32.le_refl _), show ((0 : Int32)) = nI 0 from rfl, h5]
  have e : lp (st_X4_readMatching_42 (some x)) (nI 8, mw S G w2) = some ((), mw S G w2) := by
    refine lp_inr ?_
    unfold st_X4_readMatching_42
    dsimp only
    rw [if_pos (show (8 : Int32) ≤ nI 8 from Int32.le_refl _)]
    rfl
  rw [e]
  rfl
end RM2
