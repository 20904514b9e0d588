/-! THE REFERENCE'S FACE: the digest -/
section MD
variable {S : PH} {G : Nat → Nat} {m : Nat} {u v : AS} {hs : List AS} {sl : Nat → Option AS} {tn : Nat} {tx : Nat → Int32}
theorem o_64 (h : RM S G m) (hI : IV v) (hu : MU u v hs sl tn tx) (A : Int64) {R : Int64 × PH} (k : lp (st_X5_digest_95 (some m)) (nI 0, mput (hj S m (fo (fun k h => mx h (a_per v (k / 9) (k % 9))) 72 A)) G u) = some R) : lp (st_X5_digest_64 (some m)) (nI 0, mput (hj S m A) G u) = some R := by
  have mm : ∀ {A : Int64} {u : AS} {β : Type} {f : Nat → Option β}, dr (mput (hj S m A) G u) 5 (some m) f = f m := fun {A u β f} => h.mm
  have mx' : ∀ {A y : Int64} {u : AS}, m_X5_mix (some m) y (mput (hj S m A) G u) = some ((), mput (hj S m ((31 : Int64) * A + y)) G u) := fun {A y u} => o_mix h A y
  refine lpF 72 (fun i => (nI i, mput (hj S m (fo (fun k h => mx h (a_per v (k / 9) (k % 9))) i A)) G u)) _ rfl (fun i hi => ?_) ?_
  · have e1 : nI i + 1 = nI (i + 1) := nI_add i 1
    have d1 : nI i / (9 : Int32) = nI (i / 9) := pk_div (d := 9) (by omega) (by omega) (by omega)
    have d2 : nI i - nI (i / 9) * (9 : Int32) = nI (i % 9) := by
      have e9 : nI (i / 9) * (9 : Int32) = nI (i / 9 * 9) := pk_mul (i / 9) 9
      rw [e9, pk_sub (by omega)]
      congr 1
      omega
    unfold st_X5_digest_64
    dsimp only
    rw [if_neg (show ¬ (72 : Int32) ≤ nI i by show ¬ nI 72 ≤ nI i; rw [nI_leI (by omega) (by omega)]; omega), mm, d1, d2, o_person (hM (hjM h)) (cI (hjM h) hu.1) hI.in_.2 hI rfl (by omega) (by omega), bd_t, mm, mx', bd_t, e1]
    rfl
  · unfold st_X5_digest_64
    dsimp only
    rw [if_pos (show (72 : Int32) ≤ nI 72 from Int32.le_refl _), show ((0 : Int32)) = nI 0 from rfl, k]
    rfl
theorem o_38 (h : RM S G m) (hI : IV v) (hu : MU u v hs sl tn tx) (A : Int64) {R : Int64 × PH} (k : lp (st_X5_digest_64 (some m)) (nI 0, mput (hj S m (fo (fun k h => mx h (v 11 k)) 4 A)) G u) = some R) : lp (st_X5_digest_38 (some m)) (nI 0, mput (hj S m A) G u) = some R := by
  have mm : ∀ {A : Int64} {u : AS} {β : Type} {f : Nat → Option β}, dr (mput (hj S m A) G u) 5 (some m) f = f m := fun {A u β f} => h.mm
  have mx' : ∀ {A y : Int64} {u : AS}, m_X5_mix (some m) y (mput (hj S m A) G u) = some ((), mput (hj S m ((31 : Int64) * A + y)) G u) := fun {A y u} => o_mix h A y
  have s6 : ∀ {A : Int64} {u : AS} {β : Type} {f : Nat → Option β}, dr (mput (hj S m A) G u) 6 (p_R (mput (hj S m A) G u) m 1) f = f (rf S m 1) := fun {A u β f} => h.s
  have ns : ∀ {A : Int64} {u : AS}, p_N (mput (hj S m A) G u) (rf S m 1) = 1449 := fun {A u} => h.ns
  have g1 : ∀ {A : Int64} {u : AS}, p_I (mput (hj S m A) G u) (rf S m 1) = u 1 := fun {A u} => mg_1 (hjM h)
  refine lpF 4 (fun i => (nI i, mput (hj S m (fo (fun k h => mx h (v 11 k)) i A)) G u)) _ rfl (fun i hi => ?_) ?_
  · have e1 : nI i + 1 = nI (i + 1) := nI_add i 1
    have e4 : (4 : Int32) + nI i = nI (4 + i) := nI_add 4 i
    unfold st_X5_digest_38
    dsimp only
    rw [if_neg (show ¬ (4 : Int32) ≤ nI i by show ¬ nI 4 ≤ nI i; rw [nI_leI (by omega) (by omega)]; omega), mm, s6, ns, e4, ck_n (by omega) (by omega), n_cl (by omega), g1, hu.1.c hi, mx', bd_t, e1]
    rfl
  · unfold st_X5_digest_38
    dsimp only
    rw [if_pos (show (4 : Int32) ≤ nI 4 from Int32.le_refl _), show ((0 : Int32)) = nI 0 from rfl, k]
    rfl
theorem o_14 (h : RM S G m) (hI : IV v) (hu : MU u v hs sl tn tx) (A : Int64) {R : Int64 × PH} (k : lp (st_X5_digest_38 (some m)) (nI 0, mput (hj S m (fo (fun k h => mx h (a_num v (nI hs.length) k)) 12 A)) G u) = some R) : lp (st_X5_digest_14 (some m)) (nI 0, mput (hj S m A) G u) = some R := by
  have mm : ∀ {A : Int64} {u : AS} {β : Type} {f : Nat → Option β}, dr (mput (hj S m A) G u) 5 (some m) f = f m := fun {A u β f} => h.mm
  have mx' : ∀ {A y : Int64} {u : AS}, m_X5_mix (some m) y (mput (hj S m A) G u) = some ((), mput (hj S m ((31 : Int64) * A + y)) G u) := fun {A y u} => o_mix h A y
  have g2 : ∀ {A : Int64}, p_I (mput (hj S m A) G u) m 2 = nI hs.length := fun {A} => (mg_i (hjM h) 2 (by omega)).trans hu.2.1.1
  refine lpF 12 (fun i => (nI i, mput (hj S m (fo (fun k h => mx h (a_num v (nI hs.length) k)) i A)) G u)) _ rfl (fun i hi => ?_) ?_
  · have e1 : nI i + 1 = nI (i + 1) := nI_add i 1
    unfold st_X5_digest_14
    dsimp only
    rw [if_neg (show ¬ (12 : Int32) ≤ nI i by show ¬ nI 12 ≤ nI i; rw [nI_leI (by omega) (by omega)]; omega), mm, o_counted (hM (hjM h)) (cI (hjM h) hu.1) hI.in_.2 hI rfl g2 hi, bd_t, mm, mx', bd_t, e1]
    rfl
  · unfold st_X5_digest_14
    dsimp only
    rw [if_pos (show (12 : Int32) ≤ nI 12 from Int32.le_refl _), show ((0 : Int32)) = nI 0 from rfl, k]
    rfl
theorem q_dig (hg : Gi G) (h : RM S G m) (hI : IV v) (hu : MU u v hs sl tn tx) : ∃ u' h', m_X5_digest (some m) (mput S G u) = some (e_dg v (nI hs.length) sl tn tx, mput (hj S m h') G u') ∧ u' 0 0 = nI 0 ∧ MU u' v hs sl tn tx := by
  have hu0 := MU_0 hu (nI 0)
  unfold e_dg e_d5 e_d4 e_d3
  obtain ⟨u', h', y1, y2⟩ := o_95 hg h hI hu0 (fo (fun p h => fo (fun w h => mx h (a_per v p w)) 9 h) 8 (fo (fun k h => mx h (v 11 k)) 4 (fo (fun k h => mx h (a_num v (nI hs.length) k)) 12 3449)))
  refine ⟨u', h', ?_, by rw [y2 0 (by omega)]; exact u_s, MU_11 hu0 y2⟩
  rw [← fo_nest (fun p w h => mx h (a_per v p w)) _ 8, show 9 * 8 = 72 from rfl] at y1
  have e9 : ∀ w : AS, s_J (mput S G w) m 12 3449 = mput (hj S m 3449) G w := fun w => rfl
  have mm : ∀ {A : Int64} {u : AS} {β : Type} {f : Nat → Option β}, dr (mput (hj S m A) G u) 5 (some m) f = f m := fun {A u β f} => h.mm
  unfold m_X5_digest
  rw [dr_mp, h.mm, show ((0 : Int32)) = nI 0 from rfl, ms_i hg h 0 (by omega), le_t, dr_mp, h.mm, e9, le_t]
  rw [← fo_nest (fun p w h => mx h (a_per v p w)) _ 8, show 9 * 8 = 72 from rfl]
  exact o_14 h hI hu0 _ (o_38 h hI hu0 _ (o_64 h hI hu0 _ y1))
end MD
