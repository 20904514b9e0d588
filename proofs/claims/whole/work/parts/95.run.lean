/-! A WEEK IS RUN: the class -/
theorem dst_w {C : Nat → Int32} {tn : Nat} (hw : dst C tn = 2) : 0 < tn := by
  rcases Nat.eq_zero_or_pos tn with g | g
  · rw [g] at hw; exact absurd (show (1 : Nat) = 2 from hw) (by decide)
  · exact g
theorem iv_ords {C : Nat → Int32} {tn : Nat} (hC : C tn = 0) (hw : dst C tn = 2) : ∀ f p k (v : AS), IV v → (tn ≤ p ∨ dst C p = 1 ∧ p < tn) → IV (ords C tn f p k v).2 ∧ a_n (ords C tn f p k v).2 = a_n v := by
  intro f
  induction f with
  | zero => intro p k v hI _; exact ⟨hI, rfl⟩
  | succ f ih =>
    intro p k v hI hp
    have e : ords C tn (f + 1) p k v = (if tn ≤ p then (k, v) else if (a_ord C v p).1 then ords C tn f (p + (osz (C p) + 1)) (k + 1) (a_ord C v p).2 else (k, (a_ord C v p).2)) := rfl
    rw [e]
    by_cases g : tn ≤ p
    · rw [if_pos g]; exact ⟨hI, rfl⟩
    · rw [if_neg g]
      obtain ⟨d, hlt⟩ := hp.resolve_left g
      obtain ⟨r1, r2, r3, r4⟩ := week_ok hC hw hlt d
      have k1 := iv_ord hI (rdo_ok r1).1
      by_cases b : (a_ord C v p).1 = true
      · rw [if_pos b]
        have k2 := ih (p + (osz (C p) + 1)) (k + 1) (a_ord C v p).2 k1.1 (by
          rcases r4 with r4 | ⟨r4, r5, r6⟩
          · left; omega
          · right; exact ⟨r5, r6⟩)
        exact ⟨k2.1, k2.2.trans k1.2⟩
      · rw [if_neg b]; exact k1
section CR2
variable {S : PH} {G : Nat → Nat} {x nw : Nat} {v : AS} {hs : List AS} {nx : Nat} {sl : Nat → Option AS} {tn : Nat} {tx : Nat → Int32}
theorem p_ords (hg : Gi G) (h : RC S G x nw) (ht : TT S x tn tx) (hw : dst (cd tn tx) tn = 2) : ∀ f p k (v : AS), k + f = 60 → p ≤ 100 → IV v → (tn ≤ p ∨ dst (cd tn tx) p = 1 ∧ p < tn) → lp (st_X4_doOrders_4 (some x)) (nI p, nI k, put S G 0 v) = some (nI (ords (cd tn tx) tn f p k v).1, put S G 0 (ords (cd tn tx) tn f p k v).2) := by
  have hC : cd tn tx tn = 0 := if_neg (by omega)
  have t60 := ht.2.1
  have x4 : ∀ {w : AS} {β : Type} {f : Nat → Option β}, dr (put S G 0 w) 4 (some x) f = f x := fun {w β f} => h.x4
  have x3 : ∀ {w : AS} {β : Type} {f : Nat → Option β}, dr (put S G 0 w) 3 (some (rf S x 3)) f = f (rf S x 3) := fun {w β f} => h.tx
  have t1 : ∀ w : AS, p_I (put S G 0 w) (rf S x 3) 1 = nI tn := fun w => (TT_put (v := w) h ht).1
  intro f
  induction f with
  | zero =>
    intro p k v hk hp hI hd
    refine lp_inr ?_
    unfold st_X4_doOrders_4
    dsimp only
    rw [show k = 60 by omega, if_pos (show (60 : Int32) ≤ nI 60 from Int32.le_refl _)]
    rfl
  | succ f ih =>
    intro p k v hk hp hI hd
    have hk60 : ¬ (60 : Int32) ≤ nI k := by
      show ¬ nI 60 ≤ nI k
      rw [nI_leI (by omega) (by omega)]
      omega
    have e : ords (cd tn tx) tn (f + 1) p k v = (if tn ≤ p then (k, v) else if (a_ord (cd tn tx) v p).1 then ords (cd tn tx) tn f (p + (osz (cd tn tx p) + 1)) (k + 1) (a_ord (cd tn tx) v p).2 else (k, (a_ord (cd tn tx) v p).2)) := rfl
    rw [e]
    by_cases g : tn ≤ p
    · rw [if_pos g]
      refine lp_inr ?_
      unfold st_X4_doOrders_4
      dsimp only
      rw [if_neg hk60, x4, R_put, h.r3, x3, t1, if_pos (show nI tn ≤ nI p by rw [nI_leI (by omega) (by omega)]; exact g)]
      rfl
    · rw [if_neg g]
      obtain ⟨d, hlt⟩ := hd.resolve_left g
      obtain ⟨r1, r2, r3, r4⟩ := week_ok hC hw hlt d
      have k0 := rdo_ok r1
      have k1 := iv_ord hI k0.1
      have po := p_ord hg h ht hI (p := p) (by omega) k0.1
      have st : st_X4_doOrders_4 (some x) (nI p, nI k, put S G 0 v) = (if (if (a_ord (cd tn tx) v p).1 = true then nI 1 else nI 0) = 0 then ir (some (nI k, put S G 0 (a_ord (cd tn tx) v p).2)) else some (.inl (nI (p + (osz (cd tn tx p) + 1)), nI (k + 1), put S G 0 (a_ord (cd tn tx) v p).2))) := by
        have os : m_X3_orderSize (some (rf S x 3)) (nI p) (put S G 0 (a_ord (cd tn tx) v p).2) = _ := p_osz (hP (v := (a_ord (cd tn tx) v p).2) h) (TT_put h ht) (i := p) (by omega)
        have e1 : nI (osz (cd tn tx p)) + 1 = nI (osz (cd tn tx p) + 1) := nI_add _ 1
        have e2 : nI p + nI (osz (cd tn tx p) + 1) = nI (p + (osz (cd tn tx p) + 1)) := nI_add _ _
        have e3 : nI k + 1 = nI (k + 1) := nI_add k 1
        unfold st_X4_doOrders_4
        dsimp only
        rw [if_neg hk60, x4, R_put, h.r3, x3, t1, if_neg (show ¬ nI tn ≤ nI p by rw [nI_leI (by omega) (by omega)]; exact g), po, bd_t, x4, R_put, h.r3, x3, os, bd_t, e1, e2, e3, le_t]
      by_cases b : (a_ord (cd tn tx) v p).1 = true
      · rw [if_pos b]
        rw [b, if_neg (show ¬ (if true = true then nI 1 else nI 0) = 0 by decide)] at st
        rw [lp_inl st]
        have osl : osz (cd tn tx p) ≤ 5 := by unfold osz; (repeat' split) <;> omega
        exact ih (p + (osz (cd tn tx p) + 1)) (k + 1) (a_ord (cd tn tx) v p).2 (by omega) (by omega) k1.1 (by
          rcases r4 with r4 | ⟨r4, r5, r6⟩
          · left; omega
          · right; exact ⟨r5, r6⟩)
      · rw [if_neg b]
        have b' : (a_ord (cd tn tx) v p).1 = false := by simpa using b
        rw [b', if_pos (show (if false = true then nI 1 else nI 0) = 0 from rfl)] at st
        exact lp_inr st
theorem relC_clr (h : RelC S G x nw v hs nx sl tn tx) : RelC (s_I S (rf S x 3) 1 0) G x nw v hs nx sl 0 tx ∧ fc S G (s_I S (rf S x 3) 1 0) G := by
  obtain ⟨g1, g3, g30, g5, gR, gS, gx, _, _⟩ := relC_tags h
  obtain ⟨t1, t2, t3⟩ := h.tt
  have oth : ∀ d, G d ≠ 5 → p_I (s_I S (rf S x 3) 1 0) d = p_I S d := by
    intro d z5
    show u_2 (p_I S) (rf S x 3) 1 _ d = _
    rw [u2_o (fun z => by rw [z] at z5; omega)]
  refine ⟨relC_W (S' := s_I S (rf S x 3) 1 0) h rfl rfl rfl rfl (fun d hd hg => oth d (by omega)) (oth _ (by omega)) ⟨?_, by omega, ?_⟩ (by rw [oth _ (by omega)]; exact h.tk), fc_I (by omega)⟩
  · show u_2 (p_I S) (rf S x 3) 1 0 (rf S x 3) 1 = _
    rw [u_s]
    rfl
  · rw [oth _ (by omega)]
    exact t3
def f_run (v : AS) (tn : Nat) (tx : Nat → Int32) : (Nat ⊕ Int32) × Option AS := if dst (cd tn tx) tn = 2 then (.inr (nI (ords (cd tn tx) tn 60 0 0 v).1), some (ords (cd tn tx) tn 60 0 0 v).2) else (.inl 0, none)
theorem k_run (h : RelC S G x nw v hs nx sl tn tx) (hI : IV v) {Q : (Nat ⊕ Int32) → PH → Prop} (hQ : ∀ S' G', RelO S' G' x nw v hs nx sl (if dst (cd tn tx) tn = 2 then 0 else tn) tx (f_run v tn tx).2 → fc S G S' G' → Q (f_run v tn tx).1 S') : w_X4_run (some x) S Q := by
  unfold w_X4_run
  unfold f_run at hQ
  have w3 : ∀ {S : PH} {G : Nat → Nat} (_ : RC S G x nw) {f : Nat → Prop}, wdr S 3 (some (rf S x 3)) f = f (rf S x 3) := fun {S G} h {f} => h.Wtx
  rw [h.rc.Wx, h.rc.r3, w3 h.rc, p_week h.rc h.tt, wbd_e]
  by_cases h1 : dst (cd tn tx) tn = 2
  · rw [if_pos h1, if_pos h1] at hQ
    rw [if_pos h1, if_neg (show ¬ nI 1 = 0 by decide), h.rc.Wx]
    rw [h.rc.r1, h.rc.Whi, ← h.rc.r1]
    refine k_save h (fun S' G' k1 k2 => ?_)
    rw [wq_re]
    have hh : RC S' G' x nw := k1.rc
    have hg := k1.gi
    have ht : TT (put S' G' 0 v) x tn tx := k1.tt
    have po := p_ords hg k1.rc ht h1 60 0 0 v (by omega) (by omega) hI (Or.inr ⟨rfl, dst_w h1⟩)
    rw [put_put, put_put] at po
    have iv := (iv_ords (C := cd tn tx) (if_neg (by omega)) h1 60 0 0 v hI (Or.inr ⟨rfl, dst_w h1⟩)).1
    rw [wdr_put, hh.Wx]
    unfold m_X4_doOrders
    rw [show ((0 : Int32)) = nI 0 from rfl, po, wbd_e, wdr_put, hh.Wx, R_put, hh.r3]
    generalize (ords (cd tn tx) tn 60 0 0 v).2 = w at *
    have kk := k_new (G := G) (w := w) k1 k2 iv.aw
    have kr : RelC (put S' G' 0 w) G' x nw w ((v :: hs).take 6) ((nx + 1) % 6) sl tn tx := kk.1
    have kc := relC_clr kr
    have r3 : rf (put S' G' 0 w) x 3 = rf S' x 3 := rfl
    rw [wdr_put, w3 hh, wle_t]
    rw [r3] at kc
    exact hQ _ G' kc.1 (fc_t kk.2 kc.2)
  · rw [if_neg h1, if_neg h1] at hQ
    rw [if_neg h1, if_pos (show nI 0 = 0 from rfl)]
    exact hQ S G h fc_r
end CR2
