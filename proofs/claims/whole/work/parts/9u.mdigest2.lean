/-! THE DIGEST: the reference, to its end -/
section MD
variable {S : PH} {G : Nat → Nat} {m : Nat} {u v : AS} {hs : List AS} {sl : Nat → Option AS} {tn : Nat} {tx : Nat → Int32}
theorem o_211 (h : RM S G m) (hu : MU u v hs sl tn tx) (A : Int64) : lp (st_X5_digest_211 (some m)) (nI 0, mput (hj S m A) G u) = some (fo (fun k h => mx h (tx k)) tn A, mput (hj S m (fo (fun k h => mx h (tx k)) tn A)) G u) := by
  have mm : ∀ {A : Int64} {u : AS} {β : Type} {f : Nat → Option β}, dr (mput (hj S m A) G u) 5 (some m) f = f m := fun {A u β f} => h.mm
  have mx' : ∀ {A y : Int64} {u : AS}, m_X5_mix (some m) y (mput (hj S m A) G u) = some ((), mput (hj S m ((31 : Int64) * A + y)) G u) := fun {A y u} => o_mix h A y
  obtain ⟨t1, t2, t3⟩ := hu.2.2.2.2
  refine lpF tn (fun i => (nI i, mput (hj S m (fo (fun k h => mx h (tx k)) i A)) G u)) _ rfl (fun i hi => ?_) ?_
  · have e1 : nI i + 1 = nI (i + 1) := nI_add i 1
    have t : ∀ {A : Int64} {u : AS} {β : Type} {f : Nat → Option β}, dr (mput (hj S m A) G u) 6 (p_R (mput (hj S m A) G u) m 4) f = f (rf S m 4) := fun {A u β f} => h.t
    have nt : ∀ {A : Int64} {u : AS}, p_N (mput (hj S m A) G u) (rf S m 4) = 60 := fun {A u} => h.nt
    have g4 : ∀ {A : Int64} {u : AS}, p_I (mput (hj S m A) G u) (rf S m 4) = u 4 := fun {A u} => mg_4 (hjM h)
    unfold st_X5_digest_211
    dsimp only
    rw [mm, mg_i (hjM h) 5 (by omega), t1, if_neg (show ¬ nI tn ≤ nI i by rw [nI_leI (by omega) (by omega)]; omega), t, nt, ck_n (by omega) (by omega), n_cl (by omega), g4, t3, mx', bd_t, e1]
    rfl
  · unfold st_X5_digest_211
    dsimp only
    rw [mm, mg_i (hjM h) 5 (by omega), t1, if_pos (Int32.le_refl _), hj_J]
    rfl
theorem o_197 (h : RM S G m) (hu : MU u v hs sl tn tx) (A : Int64) {b : Int64} {z : Int32} (hb : b = Int32.toInt64 z) : j_X5_digest_197 (some m) (some m) b (mput (hj S m A) G u) = some (fo (fun k h => mx h (tx k)) tn (mx (mx A z) (nI tn)), mput (hj S m (fo (fun k h => mx h (tx k)) tn (mx (mx A z) (nI tn)))) G u) := by
  have mm : ∀ {A : Int64} {u : AS} {β : Type} {f : Nat → Option β}, dr (mput (hj S m A) G u) 5 (some m) f = f m := fun {A u β f} => h.mm
  have mx' : ∀ {A y : Int64} {u : AS}, m_X5_mix (some m) y (mput (hj S m A) G u) = some ((), mput (hj S m ((31 : Int64) * A + y)) G u) := fun {A y u} => o_mix h A y
  unfold j_X5_digest_197
  rw [mm, mx', bd_t, mm, mg_i (hjM h) 5 (by omega), hu.2.2.2.2.1, mx', bd_t, hb, show ((0 : Int32)) = nI 0 from rfl]
  exact o_211 h hu _
theorem o_kept (h : RM S G m) (hu : MU u v hs sl tn tx) {A : Int64} {i : Nat} (hi : i < 2) : p_I (mput (hj S m A) G u) (rf S m 3) i = slb sl i := by
  have g3 : p_I (mput (hj S m A) G u) (rf S m 3) = u 3 := mg_3 (hjM h)
  obtain ⟨s1, s2⟩ := hu.2.2.2.1 i hi
  rw [g3]
  unfold slb
  cases g : sl i with
  | none => exact s1 g
  | some w => exact (s2 w g).1
theorem o_179 (h : RM S G m) (hu : MU u v hs sl tn tx) (A : Int64) {b : Int64} {z : Int32} (hb : b = Int32.toInt64 z) : j_X5_digest_179 (some m) (some m) b (mput (hj S m A) G u) = some (fo (fun k h => mx h (tx k)) tn (mx (mx (mx A z) (slb sl 1)) (nI tn)), mput (hj S m (fo (fun k h => mx h (tx k)) tn (mx (mx (mx A z) (slb sl 1)) (nI tn)))) G u) := by
  have mm : ∀ {A : Int64} {u : AS} {β : Type} {f : Nat → Option β}, dr (mput (hj S m A) G u) 5 (some m) f = f m := fun {A u β f} => h.mm
  have mx' : ∀ {A y : Int64} {u : AS}, m_X5_mix (some m) y (mput (hj S m A) G u) = some ((), mput (hj S m ((31 : Int64) * A + y)) G u) := fun {A y u} => o_mix h A y
  have k7 : ∀ {A : Int64} {u : AS} {β : Type} {f : Nat → Option β}, dr (mput (hj S m A) G u) 7 (p_R (mput (hj S m A) G u) m 3) f = f (rf S m 3) := fun {A u β f} => h.k
  have nk : ∀ {A : Int64} {u : AS}, p_N (mput (hj S m A) G u) (rf S m 3) = 2 := fun {A u} => h.nk
  unfold j_X5_digest_179
  rw [mm, mx', bd_t, mm, k7, nk, show ((1 : Int32)) = nI 1 from rfl, ck_n (by omega) (by omega), o_kept h hu (by omega), hb]
  have hk : slb sl 1 = nI 0 ∨ slb sl 1 = nI 1 := by unfold slb; split; exact Or.inr rfl; exact Or.inl rfl
  rcases hk with e | e
  · rw [e, if_pos (show nI 0 = 0 from rfl)]
    exact o_197 h hu _ (by decide)
  · rw [e, if_neg (show ¬ nI 1 = 0 by decide)]
    exact o_197 h hu _ (by decide)
theorem o_95 (hg : Gi G) (h : RM S G m) (hI : IV v) (hu : MU u v hs sl tn tx) (A : Int64) : ∃ u' h', lp (st_X5_digest_95 (some m)) (nI 0, mput (hj S m A) G u) = some (fo (fun k h => mx h (tx k)) tn (mx (mx (mx (mx (mx (mx (mx (fo (e_pm v) (a_n v) A) (nI (m_v v nM))) (nI (m_v v nM))) (f_need v)) (a_sb v)) (slb sl 0)) (slb sl 1)) (nI tn)), mput (hj S m h') G u') ∧ s11 u u' := by
  have h8 := hI.in_.2
  have mm : ∀ {A : Int64} {u : AS} {β : Type} {f : Nat → Option β}, dr (mput (hj S m A) G u) 5 (some m) f = f m := fun {A u β f} => h.mm
  have mx' : ∀ {A y : Int64} {u : AS}, m_X5_mix (some m) y (mput (hj S m A) G u) = some ((), mput (hj S m ((31 : Int64) * A + y)) G u) := fun {A y u} => o_mix h A y
  have s6 : ∀ {A : Int64} {u : AS} {β : Type} {f : Nat → Option β}, dr (mput (hj S m A) G u) 6 (p_R (mput (hj S m A) G u) m 1) f = f (rf S m 1) := fun {A u β f} => h.s
  have ns : ∀ {A : Int64} {u : AS}, p_N (mput (hj S m A) G u) (rf S m 1) = 1449 := fun {A u} => h.ns
  have g1 : ∀ {A : Int64} {u : AS}, p_I (mput (hj S m A) G u) (rf S m 1) = u 1 := fun {A u} => mg_1 (hjM h)
  have k7 : ∀ {A : Int64} {u : AS} {β : Type} {f : Nat → Option β}, dr (mput (hj S m A) G u) 7 (p_R (mput (hj S m A) G u) m 3) f = f (rf S m 3) := fun {A u β f} => h.k
  have nk : ∀ {A : Int64} {u : AS}, p_N (mput (hj S m A) G u) (rf S m 3) = 2 := fun {A u} => h.nk
  obtain ⟨t', ⟨u1, rfl, k1⟩, h4⟩ := lp_rel (step := st_X5_digest_95 (some m)) (t := (nI 0, mput (hj S m A) G u)) (a_n v) (fun i t => ∃ u', t = (nI i, mput (hj S m (fo (e_pm v) i A)) G u') ∧ s11 u u') ⟨u, rfl, fun _ _ => rfl⟩ (fun i hi t ht => by
    obtain ⟨u1, rfl, k1⟩ := ht
    have hc : cr (u1 1) 0 (a_n v) v := by rw [k1 1 (by omega)]; exact hu.1
    have u8 : u1 1 8 = nI (a_n v) := hc.i.1.trans hI.in_.1
    obtain ⟨u2, y1, y2⟩ := o_mixp hg h hI hc hi (fo (e_pm v) i A)
    have e1 : nI i + 1 = nI (i + 1) := nI_add i 1
    refine ⟨_, ?_, u2, rfl, fun f hf => (y2 f hf).trans (k1 f hf)⟩
    unfold st_X5_digest_95
    dsimp only
    rw [mm, s6, ns, show ((8 : Int32)) = nI 8 from rfl, ck_n (by omega) (by omega), g1, u8, if_neg (show ¬ nI (a_n v) ≤ nI i by rw [nI_leI (by omega) (by omega)]; omega), y1, bd_t, e1]
    rfl)
  have hu1 := MU_11 hu k1
  have u8 : u1 1 8 = nI (a_n v) := hu1.1.i.1.trans hI.in_.1
  generalize fo (e_pm v) (a_n v) A = B at *
  obtain ⟨u2, y1, y2⟩ := o_mostW (S := hj S m B) hg (hjM h) hI hu1.1 (ab := nM) (Or.inl rfl)
  have hu2 := MU_11 hu1 y2
  obtain ⟨u3, z1, z2⟩ := o_mostW (S := hj S m (mx B (nI (m_v v nM)))) hg (hjM h) hI hu2.1 (ab := nM) (Or.inl rfl)
  have hu3 := MU_11 hu2 z2
  obtain ⟨u4, q1, q2⟩ := o_need (S := hj S m (mx (mx B (nI (m_v v nM))) (nI (m_v v nM)))) hg (hjM h) hI hu3.1
  have hu4 := MU_11 hu3 q2
  have z1' : m_X5_mostWithout (some m) nM (mput (hj S m ((31 : Int64) * B + Int32.toInt64 (nI (m_v v nM)))) G u2) = some (nI (m_v v nM), mput (hj S m ((31 : Int64) * B + Int32.toInt64 (nI (m_v v nM)))) G u3) := z1
  have q1' : m_X5_neededOne (some m) (mput (hj S m ((31 : Int64) * ((31 : Int64) * B + Int32.toInt64 (nI (m_v v nM))) + Int32.toInt64 (nI (m_v v nM)))) G u3) = some (f_need v, mput (hj S m ((31 : Int64) * ((31 : Int64) * B + Int32.toInt64 (nI (m_v v nM))) + Int32.toInt64 (nI (m_v v nM)))) G u4) := q1
  obtain ⟨sb1, sb2, sb3⟩ := sb_in hI
  refine ⟨u4, fo (fun k h => mx h (tx k)) tn (mx (mx (mx (mx (mx (mx (mx B (nI (m_v v nM))) (nI (m_v v nM))) (f_need v)) (a_sb v)) (slb sl 0)) (slb sl 1)) (nI tn)), ?_, fun f hf => (q2 f hf).trans ((z2 f hf).trans ((y2 f hf).trans (k1 f hf)))⟩
  · rw [h4]
    refine lp_inr ?_
    unfold st_X5_digest_95
    dsimp only
    rw [mm, s6, ns, show ((8 : Int32)) = nI 8 from rfl, ck_n (by omega) (by omega), g1, u8, if_pos (Int32.le_refl _), ← m_1, y1, bd_t, mm, mx', bd_t, mm, z1', bd_t, mm, mx', bd_t, mm, q1', bd_t, mm, mx', bd_t, mm, o_share (hM (hjM h)) (cI (hjM h) hu4.1) hI, bd_t, ck_t sb2, sb3, bd_t, mm, mx', bd_t, mm, k7, nk, show ((0 : Int32)) = nI 0 from rfl, ck_n (by omega) (by omega), o_kept h hu4 (by omega)]
    have hk : slb sl 0 = nI 0 ∨ slb sl 0 = nI 1 := by unfold slb; split; exact Or.inr rfl; exact Or.inl rfl
    rcases hk with e | e
    · rw [e, if_pos rfl, o_179 h hu4 _ (b := 0) (z := nI 0) (by decide)]
      rfl
    · rw [e, if_neg (show ¬ nI 1 = nI 0 by decide), o_179 h hu4 _ (b := 1) (z := nI 1) (by decide)]
      rfl
end MD
