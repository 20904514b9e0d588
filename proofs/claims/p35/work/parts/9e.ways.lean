/-! MATCHING: by ways -/
section WY
variable {S : PH} {G : Nat → Nat} {x nw : Nat} {E H : Nat → Nat → Bool} {s : Nat} {w0 : AS}
theorem p_outer (hg : Gi G) (h : RC S G x nw) (hB : HB w0 H) (hsub : ∀ a q, a < 8 → q < 8 → H a q = true → E a q = true) (hE : ∀ r q, r < 8 → q < 8 → hb (w0 1 r) (nI q) = E r q) (hL : ∀ r, r < 8 → ∃ l, l < 20000 ∧ w0 3 r = nI l) : ∀ k a, a + k = 8 → ∀ w m1 m2 sp sq qu ι en, INV E H w0 w s m1 m2 sp sq qu ι en a → (∃ w', lp (st_X1_findWay_19 (some (rf S x 4)) (nI s)) (m1, m2, nI en, nI a, mw S G w) = some (nI 1, mw S G w') ∧ FND E H w0 w' s) ∨ ∃ w' X T, lp (st_X1_findWay_19 (some (rf S x 4)) (nI s)) (m1, m2, nI en, nI a, mw S G w) = some (nI 0, mw S G w') ∧ (∀ i, i < 5 → w' i = w0 i) ∧ BK E H (fun r => w0 3 r = nI 0) X T ∧ T s = true := by
  intro k
  have mt : ∀ {w : AS} {β : Type} {f : Nat → Option β}, dr (mw S G w) 1 (some (rf S x 4)) f = f (rf S x 4) := fun {w β f} => h.mt
  have ma : ∀ {w : AS} (j : Nat) (hj : j < 8) {β : Type} {f : Nat → Option β}, dr (mw S G w) 6 (p_R S (rf S x 4) j) f = f (rf S (rf S x 4) j) := fun {w} j hj {β f} => h.ma j hj
  have stop : ∀ a w m1 m2 sp sq qu ι en, a ≤ 8 → INV E H w0 w s m1 m2 sp sq qu ι en a → en ≤ a → ∃ w' X T, lp (st_X1_findWay_19 (some (rf S x 4)) (nI s)) (m1, m2, nI en, nI a, mw S G w) = some (nI 0, mw S G w') ∧ (∀ i, i < 5 → w' i = w0 i) ∧ BK E H (fun r => w0 3 r = nI 0) X T ∧ T s = true := by
    intro a w m1 m2 sp sq qu ι en ha hI he
    obtain ⟨⟨⟨f0, f1, f2⟩, f3, f4, f5, f6⟩, i2, i3, i4, i5, i6⟩ := hI
    refine ⟨w, sp, sq, lp_inr ?_, i6, ⟨fun r q hr hq g1 g2 g3 => ?_, fun r hr g => ?_, fun r q hr hq g1 g2 => i4 r q hr hq g1 g2⟩, ?_⟩
    · unfold st_X1_findWay_19
      dsimp only
      rw [if_pos (show nI en ≤ nI a by rw [nI_leI (by omega) (by omega)]; exact he)]
      rfl
    · obtain ⟨i, k1, k2⟩ := f4 q hq g1
      rw [← k2] at g2 g3
      exact i5 i r (by omega) k1 hr g2 g3
    · show w0 3 r = nI 0
      rw [← i6 3 (by omega)]
      exact (f5 r hr g).2.2.2.2
    · rw [← f2]
      exact (f3 0 (by omega)).2.1
  induction k with
  | zero =>
    intro a ha w m1 m2 sp sq qu ι en hI
    have e8 := hI.1.e8
    exact Or.inr (stop a w m1 m2 sp sq qu ι en (by omega) hI (by omega))
  | succ k ih =>
    intro a ha w m1 m2 sp sq qu ι en hI
    have e8 := hI.1.e8
    by_cases he : en ≤ a
    · exact Or.inr (stop a w m1 m2 sp sq qu ι en (by omega) hI he)
    · have qa8 := (hI.1.2.1 a (by omega)).1
      have hin := p_inner hg h hB hsub hE hL (s := s) (a := a) qa8 8 0 (by omega) w m1 m2 sp sq qu ι en hI (by omega) rfl (fun r hr => by omega)
      have st : st_X1_findWay_19 (some (rf S x 4)) (nI s) (m1, m2, nI en, nI a, mw S G w) = lp (st_X1_findWay_45 (some (rf S x 4)) (nI s)) (m1, m2, nI en, nI a, nI (qu a), nI 0, mw S G w) := by
        unfold st_X1_findWay_19
        dsimp only
        rw [if_neg (show ¬ nI en ≤ nI a by rw [nI_leI (by omega) (by omega)]; exact he), if_neg (show ¬ (8 : Int32) ≤ nI a by show ¬ nI 8 ≤ nI a; rw [nI_leI (by omega) (by omega)]; omega), mt, R_mw, ma 7 (by omega), N_mw, h.nma 7 (by omega), ck_n (by omega) (by omega), n_cl (by omega), gmw h 7 (by omega), (hI.1.2.1 a (by omega)).2.2, le_t]
        rfl
      rcases hin with ⟨m1', m2', w1, sp1, sq1, qu1, ι1, en1, z1, z2⟩ | ⟨w', z1, z2⟩
      · have k0 := ih (a + 1) (by omega) w1 m1' m2' sp1 sq1 qu1 ι1 en1 z2
        rw [lp_inl (st.trans z1)]
        exact k0
      · exact Or.inl ⟨w', lp_inr (st.trans z1), z2⟩
theorem p_find (hg : Gi G) (h : RC S G x nw) (hB : HB w0 H) (hsub : ∀ a q, a < 8 → q < 8 → H a q = true → E a q = true) (hE : ∀ r q, r < 8 → q < 8 → hb (w0 1 r) (nI q) = E r q) (hL : ∀ r, r < 8 → ∃ l, l < 20000 ∧ w0 3 r = nI l) (hs : s < 8) : (∃ w', m_X1_findWay (some (rf S x 4)) (nI s) (mw S G w0) = some (nI 1, mw S G w') ∧ FND E H w0 w' s) ∨ ∃ w' X T, m_X1_findWay (some (rf S x 4)) (nI s) (mw S G w0) = some (nI 0, mw S G w') ∧ (∀ i, i < 5 → w' i = w0 i) ∧ BK E H (fun r => w0 3 r = nI 0) X T ∧ T s = true := by
  have mt : ∀ {w : AS} {β : Type} {f : Nat → Option β}, dr (mw S G w) 1 (some (rf S x 4)) f = f (rf S x 4) := fun {w β f} => h.mt
  have ma : ∀ {w : AS} (j : Nat) (hj : j < 8) {β : Type} {f : Nat → Option β}, dr (mw S G w) 6 (p_R S (rf S x 4) j) f = f (rf S (rf S x 4) j) := fun {w} j hj {β f} => h.ma j hj
  have hc : cnt (sa (fun _ => false) s) 8 = 1 := by
    have k := cnt_up (P := fun _ => false) (Q := sa (fun _ => false) s) hs (fun i _ hne => sa_n hne)
    rw [sa_e] at k
    have e0 : bn false = 0 := rfl
    have e1 : bn true = 1 := rfl
    have e2 : cnt (fun _ => false) 8 = 0 := rfl
    rw [e0, e1, e2] at k
    omega
  have hI : INV E H w0 (u_2 w0 7 0 (nI s)) s (nI 0) (mb s) (fun _ => false) (sa (fun _ => false) s) (fun _ => s) (fun _ => 0) 1 0 := by
    refine ⟨⟨⟨hc.symm, by omega, rfl⟩, fun i hi => ?_, fun q hq g => ?_, fun r _ g => absurd g Bool.false_ne_true, fun i i0 hi => (by omega)⟩, fun r hr => hb_0 r hr, fun q hq => ?_, fun r q _ _ g _ => absurd g Bool.false_ne_true, fun i r hi => (by omega), fun i hi => u_ne (by omega)⟩
    · obtain rfl : i = 0 := by omega
      exact ⟨hs, sa_e, u_s⟩
    · by_cases e : q = s
      · exact ⟨0, by omega, e.symm⟩
      · rw [sa_n e] at g; cases g
    · rw [hb_mb s hs q hq]
      by_cases e : q = s
      · rw [e, sa_e]; exact decide_eq_true rfl
      · rw [sa_n e]; exact decide_eq_false (Ne.symm e)
  have k := p_outer hg h hB hsub hE hL 8 0 (by omega) _ _ _ _ _ _ _ _ hI
  have e : m_X1_findWay (some (rf S x 4)) (nI s) (mw S G w0) = lp (st_X1_findWay_19 (some (rf S x 4)) (nI s)) (nI 0, mb s, nI 1, nI 0, mw S G (u_2 w0 7 0 (nI s))) := by
    unfold m_X1_findWay
    rw [le_t, mt, R_mw, ma 7 (by omega), N_mw, h.nma 7 (by omega), show ((0 : Int32)) = nI 0 from rfl, ck_n (by omega) (by omega), smw hg h 7 (by omega), le_t]
    rfl
  rw [e]
  exact k
/-- the search goes on: what stands in the middle of it -/
def MS (E : Nat → Nat → Bool) (cap dem : Nat → Nat) (wi w : AS) (H : Nat → Nat → Bool) (s k : Nat) : Prop := HB w H ∧ (∀ a q, a < 8 → q < 8 → H a q = true → E a q = true) ∧ (∀ r, r < 8 → sm (fun q => bn (H r q)) 8 ≤ cap r ∧ w 3 r = nI (cap r - sm (fun q => bn (H r q)) 8)) ∧ (∀ i, i < 3 → w i = wi i) ∧ (∀ q, q < s → q < 8 → sm (fun a => bn (H a q)) 8 ≤ dem q ∧ (sm (fun a => bn (H a q)) 8 = dem q ∨ ∃ X T, BK E H (fun r => sm (fun q => bn (H r q)) 8 = cap r) X T ∧ T q = true)) ∧ (s < 8 → sm (fun a => bn (H a s)) 8 = k ∧ k ≤ dem s) ∧ ∀ q, s < q → q < 8 → sm (fun a => bn (H a q)) 8 = 0
theorem BK_L {E H : Nat → Nat → Bool} {L L' : Nat → Prop} {X T : Nat → Bool} (h : BK E H L X T) (k : ∀ r, r < 8 → L r → L' r) : BK E H L' X T := ⟨h.1, fun r hr g => k r hr (h.2.1 r hr g), h.2.2⟩
theorem p_paper55 (hg : Gi G) (h : RC S G x nw) {cap dem : Nat → Nat} {wi : AS} (hE : ∀ r q, r < 8 → q < 8 → hb (wi 1 r) (nI q) = E r q) (hcap : ∀ r, r < 8 → cap r < 20000) (hdem : ∀ q, q < 8 → wi 2 q = nI (dem q) ∧ dem q ≤ 8) {ab : Int32} {s tot : Nat} (hs : s < 8) (htot : tot < 1000) : ∀ n k, k + n = dem s → ∀ w H, MS E cap dem wi w H s k → sm (fun q => sm (fun a => bn (H a q)) 8) s = tot → ∃ w' H', lp (st_X1_byWays_55 (some (rf S x 4)) ab) (nI tot, nI s, nI k, mw S G w) = some (.inl (nI (sm (fun q => sm (fun a => bn (H' a q)) 8) (s + 1)), nI (s + 1), mw S G w')) ∧ MS E cap dem wi w' H' (s + 1) 0 := by
  intro n
  have mt : ∀ {w : AS} {β : Type} {f : Nat → Option β}, dr (mw S G w) 1 (some (rf S x 4)) f = f (rf S x 4) := fun {w β f} => h.mt
  have ma : ∀ {w : AS} (j : Nat) (hj : j < 8) {β : Type} {f : Nat → Option β}, dr (mw S G w) 6 (p_R S (rf S x 4) j) f = f (rf S (rf S x 4) j) := fun {w} j hj {β f} => h.ma j hj
  obtain ⟨d1, d2⟩ := hdem s hs
  have es : nI s + 1 = nI (s + 1) := nI_add s 1
  /- the paper is done with -/
  have done : ∀ k w H, MS E cap dem wi w H s k → (sm (fun a => bn (H a s)) 8 = dem s ∨ ∃ X T, BK E H (fun r => sm (fun q => bn (H r q)) 8 = cap r) X T ∧ T s = true) → MS E cap dem wi w H (s + 1) 0 := by
    intro k w H ⟨m1, m2, m3, m4, m5, m6, m7⟩ hd
    refine ⟨m1, m2, m3, m4, fun q hq h8 => ?_, fun h8 => ⟨m7 (s + 1) (by omega) h8, by omega⟩, fun q hq h8 => m7 q (by omega) h8⟩
    by_cases e : q = s
    · subst e
      exact ⟨by rw [(m6 h8).1]; exact (m6 h8).2, hd⟩
    · exact m5 q (by omega) h8
  have tt : ∀ k (H : Nat → Nat → Bool), sm (fun q => sm (fun a => bn (H a q)) 8) s = tot → sm (fun a => bn (H a s)) 8 = k → nI tot + nI k = nI (sm (fun q => sm (fun a => bn (H a q)) 8) (s + 1)) := by
    intro k H e1 e2
    rw [nI_add, ← e1, ← e2]
    rfl
  induction n with
  | zero =>
    intro k hk w H hM ht
    have hM' := hM
    obtain ⟨m1, m2, m3, m4, m5, m6, m7⟩ := hM'
    refine ⟨w, H, lp_inr ?_, done k w H hM (Or.inl (by rw [(m6 hs).1]; omega))⟩
    unfold st_X1_byWays_55
    dsimp only
    rw [mt, R_mw, ma 2 (by omega), N_mw, h.nma 2 (by omega), ck_n hs (by omega), n_cl (by omega), gmw h 2 (by omega), m4 2 (by omega), d1, if_pos (show nI (dem s) ≤ nI k by rw [nI_leI (by omega) (by omega)]; omega), le_t, es, tt k H ht (m6 hs).1]
    rfl
  | succ n ih =>
    intro k hk w H hM ht
    have hM' := hM
    obtain ⟨m1, m2, m3, m4, m5, m6, m7⟩ := hM'
    have ek : nI k + 1 = nI (k + 1) := nI_add k 1
    have hE' : ∀ r q, r < 8 → q < 8 → hb (w 1 r) (nI q) = E r q := fun r q hr hq => by rw [m4 1 (by omega)]; exact hE r q hr hq
    have hL : ∀ r, r < 8 → ∃ l, l < 20000 ∧ w 3 r = nI l := fun r hr => ⟨_, by have := hcap r hr; omega, (m3 r hr).2⟩
    have hL0 : ∀ r, r < 8 → (w 3 r = nI 0 ↔ sm (fun q => bn (H r q)) 8 = cap r) := by
      intro r hr
      have c := hcap r hr
      have b := m3 r hr
      rw [b.2, nI_eq (by omega) (by omega)]
      omega
    have st : ∀ o, m_X1_findWay (some (rf S x 4)) (nI s) (mw S G w) = o → st_X1_byWays_55 (some (rf S x 4)) ab (nI tot, nI s, nI k, mw S G w) = (bd o fun v22 S23 => if v22 = 0 then (ir (le_ (nI tot + nI k) fun x26 => some (.inl (x26, (nI s + (1 : Int32)), S23)))) else (some (.inl (nI tot, nI s, (nI k + (1 : Int32)), S23)))) := by
      intro o ho
      unfold st_X1_byWays_55
      dsimp only
      rw [mt, R_mw, ma 2 (by omega), N_mw, h.nma 2 (by omega), ck_n hs (by omega), n_cl (by omega), gmw h 2 (by omega), m4 2 (by omega), d1, if_neg (show ¬ nI (dem s) ≤ nI k by rw [nI_leI (by omega) (by omega)]; omega), ho]
    rcases p_find hg h m1 m2 hE' hL hs with ⟨w', z1, H', p, p8, z2, z3, z4, z5, z6⟩ | ⟨w', X, T, z1, z2, z3, z4⟩
    · have s1 := st _ z1
      rw [bd_t, if_neg (show ¬ nI 1 = 0 by decide), ek] at s1
      rw [lp_inl s1]
      have hp := m3 p p8
      have hlt : sm (fun q => bn (H p q)) 8 < cap p := by
        rcases Nat.lt_or_ge (sm (fun q => bn (H p q)) 8) (cap p) with g | g
        · exact g
        · exact absurd ((hL0 p p8).mpr (by omega)) z2
      have capp := hcap p p8
      refine ih (k + 1) (by omega) w' H' ⟨z3, z4.1, fun r hr => ?_, fun i hi => ?_, fun q hq h8 => ?_, fun _ => ⟨?_, by omega⟩, fun q hq h8 => ?_⟩ ?_
      · have b := m3 r hr
        rw [z4.2.1 r hr, z6]
        unfold up1
        by_cases e : r = p
        · subst e
          rw [if_pos rfl, if_pos rfl]
          refine ⟨by omega, ?_⟩
          have e1 : nI (cap r - sm (fun q => bn (H r q)) 8) - 1 = nI (cap r - sm (fun q => bn (H r q)) 8 - 1) := pk_sub (a := cap r - sm (fun q => bn (H r q)) 8) (b := 1) (by omega)
          rw [b.2, e1]
          congr 1
        · rw [if_neg e, if_neg e]
          exact b
      · rw [z5 i hi]; exact m4 i hi
      · have b := m5 q hq h8
        have cq := z4.2.2.1 q h8
        rw [if_neg (by omega)] at cq
        rw [cq]
        refine ⟨b.1, ?_⟩
        rcases b.2 with b2 | ⟨X, T, b2, b3⟩
        · exact Or.inl b2
        · right
          refine ⟨X, T, BK_x z4 b2 ?_, b3⟩
          cases g : X p with
          | false => rfl
          | true =>
            have : sm (fun q => bn (H p q)) 8 = cap p := b2.2.1 p p8 g
            omega
      · rw [z4.2.2.1 s hs, if_pos rfl, (m6 hs).1]
      · rw [z4.2.2.1 q h8, if_neg (by omega), m7 q hq h8]
      · rw [← ht]
        refine sm_cg (fun q hq => ?_)
        rw [z4.2.2.1 q (by omega), if_neg (by omega)]
        rfl
    · have s1 := st _ z1
      rw [bd_t, if_pos (show nI 0 = 0 from rfl), le_t, es, tt k H ht (m6 hs).1] at s1
      have hB' : HB w' H := fun a q ha hq => by rw [z2 4 (by omega)]; exact m1 a q ha hq
      have hM2 : MS E cap dem wi w' H s k := ⟨hB', m2, fun r hr => by rw [z2 3 (by omega)]; exact m3 r hr, fun i hi => by rw [z2 i (by omega)]; exact m4 i hi, m5, m6, m7⟩
      refine ⟨w', H, lp_inr s1, done k w' H hM2 (Or.inr ⟨X, T, BK_L z3 (fun r hr g => (hL0 r hr).mp g), z4⟩)⟩
end WY
