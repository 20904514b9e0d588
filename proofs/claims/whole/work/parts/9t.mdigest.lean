/-! THE DIGEST: the reference -/
def hj (S : PH) (m : Nat) (h : Int64) : PH := s_J S m 12 h
theorem fo_add {β : Type} (g : Nat → β → β) (a : Nat) (x : β) : ∀ b, fo g (a + b) x = fo (fun i => g (a + i)) b (fo g a x)
  | 0 => rfl
  | b + 1 => by
    show g (a + b) (fo g (a + b) x) = g (a + b) (fo (fun i => g (a + i)) b (fo g a x))
    rw [fo_add g a x b]
theorem fo_nest {β : Type} (f : Nat → Nat → β → β) (a : β) : ∀ n, fo (fun k h => f (k / 9) (k % 9) h) (9 * n) a = fo (fun p h => fo (f p) 9 h) n a
  | 0 => rfl
  | n + 1 => by
    have ih := fo_nest f a n
    show fo (fun k h => f (k / 9) (k % 9) h) (9 * n + 9) a = fo (f n) 9 (fo (fun p h => fo (f p) 9 h) n a)
    rw [fo_add, ih]
    refine fo_congr (fun i b hi => ?_)
    rw [show (9 * n + i) / 9 = n by omega, show (9 * n + i) % 9 = i by omega]
section MD
variable {S : PH} {G : Nat → Nat} {m : Nat} {u v : AS} {hs : List AS} {sl : Nat → Option AS} {tn : Nat} {tx : Nat → Int32}
theorem hj_hj {h h' : Int64} : hj (hj S m h) m h' = hj S m h' := by
  refine put_eq rfl rfl rfl rfl rfl ?_ rfl
  show u_2 (u_2 (p_J S) m 12 h) m 12 h' = u_2 (p_J S) m 12 h'
  funext a k
  unfold u_2
  split <;> rfl
theorem hj_J {h : Int64} : p_J (mput (hj S m h) G u) m 12 = h := by
  show u_2 (p_J S) m 12 h m 12 = h
  unfold u_2
  exact if_pos ⟨rfl, rfl⟩
theorem hj_s {h h' : Int64} : s_J (mput (hj S m h) G u) m 12 h' = mput (hj S m h') G u := by
  have e : s_J (mput (hj S m h) G u) m 12 h' = mput (hj (hj S m h) m h') G u := rfl
  rw [e, hj_hj]
theorem o_mix (h : RM S G m) (A y : Int64) : m_X5_mix (some m) y (mput (hj S m A) G u) = some ((), mput (hj S m ((31 : Int64) * A + y)) G u) := by
  have mm : ∀ {A : Int64} {u : AS} {β : Type} {f : Nat → Option β}, dr (mput (hj S m A) G u) 5 (some m) f = f m := fun {A u β f} => h.mm
  unfold m_X5_mix
  rw [mm, hj_J, hj_s, le_t]
theorem hjM (h : RM S G m) {A : Int64} : RM (hj S m A) G m := h
theorem o_mixp (hg : Gi G) (h : RM S G m) (hI : IV v) (hc : cr (u 1) 0 (a_n v) v) {q : Nat} (hq : q < a_n v) (A : Int64) : ∃ u', m_X5_mixPaper (some m) (nI q) (mput (hj S m A) G u) = some ((), mput (hj S m (e_pm v q A)) G u') ∧ s11 u u' := by
  have h8 := hI.in_.2
  have mm : ∀ {A : Int64} {u : AS} {β : Type} {f : Nat → Option β}, dr (mput (hj S m A) G u) 5 (some m) f = f m := fun {A u β f} => h.mm
  have mx' : ∀ {A y : Int64} {u : AS}, m_X5_mix (some m) y (mput (hj S m A) G u) = some ((), mput (hj S m ((31 : Int64) * A + y)) G u) := fun {A y u} => o_mix h A y
  have cM : ∀ {A : Int64} {u : AS}, cr (u 1) 0 (a_n v) v → cr (p_I (mput (hj S m A) G u) (rf (mput (hj S m A) G u) m 1)) 0 (a_n v) v := fun {A u} hc => cI (hjM h) hc
  unfold e_pm
  obtain ⟨u', k1, k2⟩ := o_rounds (S := hj S m (mx (fo (fun p h => mx h (v (20 + q) p)) 8 (fo (fun w h => mx h (a_pap v q w)) 10 A)) (a_best v q))) hg (hjM h) h8 hc hq
  generalize (a_rd (v (20 + q)) 21 0).1 = R at k1 ⊢
  refine ⟨u', ?_, k2⟩
  have hc' : cr (u' 1) 0 (a_n v) v := by rw [k2 1 (by omega)]; exact hc
  have l2 : ∀ B, B = fo (fun w h => mx h (a_pap v q w)) 10 A → lp (st_X5_mixPaper_27 (some m) (nI q)) (nI 0, mput (hj S m B) G u) = some ((), mput (hj S m ((31 : Int64) * (mx (mx (fo (fun p h => mx h (v (20 + q) p)) 8 B) (a_best v q)) R) + a_mb (v (20 + q)))) G u') := by
    intro B hB
    rw [← hB] at k1
    refine lpF 8 (fun i => (nI i, mput (hj S m (fo (fun p h => mx h (v (20 + q) p)) i B)) G u)) _ rfl (fun i hi => ?_) ?_
    · have e1 : nI i + 1 = nI (i + 1) := nI_add i 1
      unfold st_X5_mixPaper_27
      dsimp only
      rw [if_neg (show ¬ (8 : Int32) ≤ nI i by show ¬ nI 8 ≤ nI i; rw [nI_leI (by omega) (by omega)]; omega), mm, o_score (hM (hjM h)) (cM hc) h8 hi hq, bd_t, mm, mx', bd_t, e1]
      rfl
    · have fin : ∀ (C y : Int64) (w : AS), j_X5_mixPaper_99 (some m) (nI q) (some m) y (mput (hj S m C) G w) = some ((), mput (hj S m ((31 : Int64) * C + y)) G w) := by
        intro C y w
        unfold j_X5_mixPaper_99
        rw [mm, mx', bd_t]
      have mbs := (mb_some (v (20 + q))).2
      unfold st_X5_mixPaper_27
      dsimp only
      rw [if_pos (show (8 : Int32) ≤ nI 8 from Int32.le_refl _), mm, o_best (hM (hjM h)) (cM hc) h8 hI rfl hq, bd_t, mm, mx', bd_t, mm]
      have k1' : m_X5_rounds (some m) (nI q) (mput (hj S m ((31 : Int64) * fo (fun p h => mx h (v (20 + q) p)) 8 B + Int32.toInt64 (a_best v q))) G u) = some (R, mput (hj S m ((31 : Int64) * fo (fun p h => mx h (v (20 + q) p)) 8 B + Int32.toInt64 (a_best v q))) G u') := k1
      rw [k1', bd_t, mm, mx', bd_t, mm, o_mean (hM (hjM h)) (cM hc') h8 hq, bd_t]
      unfold rbits at mbs
      by_cases c : 0 ≤ (Op.cmpValue (FP.dcmp (a_mean (v (20 + q))) FP.dconst0) .g)
      · rw [if_pos c] at mbs
        rw [if_pos c, o_bts mbs, bd_t, fin]
        rfl
      · rw [if_neg c] at mbs
        have e := Option.some.inj mbs
        rw [if_neg c, fin, ← e]
        rfl
  unfold m_X5_mixPaper
  refine lpF 10 (fun i => (nI i, mput (hj S m (fo (fun w h => mx h (a_pap v q w)) i A)) G u)) _ rfl (fun i hi => ?_) ?_
  · have e1 : nI i + 1 = nI (i + 1) := nI_add i 1
    unfold st_X5_mixPaper_2
    dsimp only
    rw [if_neg (show ¬ (10 : Int32) ≤ nI i by show ¬ nI 10 ≤ nI i; rw [nI_leI (by omega) (by omega)]; omega), mm, o_paper (hM (hjM h)) (cM hc) h8 hq hi, bd_t, mm, mx', bd_t, e1]
    rfl
  · unfold st_X5_mixPaper_2
    dsimp only
    rw [if_pos (show (10 : Int32) ≤ nI 10 from Int32.le_refl _), show ((0 : Int32)) = nI 0 from rfl, l2 _ rfl]
    rfl
end MD
