/-! BOTH IN ONE POOL: the class's object, the reference's object, the two rows for answers -/
def RelM (T : PH) (G : Nat → Nat) (m : Nat) (v : AS) (hs : List AS) (sl : Nat → Option AS) (tn : Nat) (tx : Nat → Int32) : Prop := RM T G m ∧ ∃ u, T = mput T G u ∧ MU u v hs sl tn tx
def OUT (T : PH) (G : Nat → Nat) (oj oe : Nat) : Prop := (ob T G oj 10 3001 ∧ p_N T oj = 1) ∧ (ob T G oe 11 3002 ∧ p_N T oe = 1)
def IVs (v : AS) (hs : List AS) (sl : Nat → Option AS) : Prop := IV v ∧ (∀ w, w ∈ hs → IV w) ∧ ∀ i w, i < 2 → sl i = some w → IV w
section BO
variable {S T T' : PH} {G G' : Nat → Nat} {x nw m oj oe : Nat} {u v : AS} {hs : List AS} {nx : Nat} {sl : Nat → Option AS} {tn : Nat} {tx : Nat → Int32}
theorem mput_mput {u' : AS} : mput (mput S G u) G u' = mput S G u' := by
  refine put_eq rfl rfl rfl ?_ rfl rfl rfl
  show mvv (mvv (p_I S) G u) G u' = mvv (p_I S) G u'
  funext a k
  unfold mvv
  split
  · split
    · rfl
    · rfl
  · split
    · rfl
    · split
      · rfl
      · split
        · rfl
        · split
          · rfl
          · rfl
theorem mput_low {d : Nat} (h : G d < 2000) : p_I (mput S G u) d = p_I S d := by
  funext k
  show mvv (p_I S) G u d k = p_I S d k
  unfold mvv
  rw [if_neg (by omega), if_neg (by omega), if_neg (by omega), if_neg (by omega), if_neg (by omega)]
theorem relM_put (h : RM S G m) (hu : MU u v hs sl tn tx) : RelM (mput S G u) G m v hs sl tn tx := ⟨h, u, mput_mput.symm, hu⟩
theorem relC_M (h : RelC S G x nw v hs nx sl tn tx) : RelC (mput S G u) G x nw v hs nx sl tn tx := by
  obtain ⟨g1, g3, g30, g5, gR, gS, gx, _, _⟩ := relC_tags h
  have kK : kk S G (mput S G u) G := fun d hd _ => ⟨⟨hd, rfl, rfl, rfl⟩, fun _ _ => rfl⟩
  refine relC_D (S' := mput S G u) h rfl rfl rfl rfl (fun _ => none) (fun b h1 h2 => Or.inl ⟨rfl, fun d hd k1 k2 => mput_low (by omega)⟩) ⟨rep_kk kK h.rc.st h.rv (fun d hd k1 k2 => mput_low (by omega)), h.aw⟩ (by rw [mput_low (by omega)]; exact h.hn) (fun i w hw => Or.inr ⟨rfl, h.hv i w hw⟩) (fun i hi => ⟨(h.so i hi).1, fun w hw => Or.inr ⟨rfl, hw⟩⟩) ?_ ?_
  · rw [mput_low (by omega), mput_low (by omega)]
    exact h.tt
  · rw [mput_low (by omega)]
    exact h.tk
theorem ob_fc (hf : fc T G T' G') {a c g : Nat} (h : ob T G a c g) (hg : 2000 ≤ g) : ob T' G' a c g ∧ p_N T' a = p_N T a ∧ p_I T' a = p_I T a ∧ p_R T' a = p_R T a := by
  obtain ⟨⟨h1, h2, h3, h4, h5, h6, h7⟩, h8⟩ := hf a h.1.1 (by rw [h.2]; exact hg)
  exact ⟨⟨⟨h1, h2.trans h.1.2⟩, h8.trans h.2⟩, h3, h4, h5⟩
theorem ar_fc (hf : fc T G T' G') {r : Option Nat} {c n g : Nat} (h : ar T G r c n g) (hg : 2000 ≤ g) : ar T' G' r c n g ∧ p_I T' (r.getD 0) = p_I T (r.getD 0) := by
  obtain ⟨k1, k2, k3, k4⟩ := ob_fc hf (a := r.getD 0) (c := c) (g := g) ⟨h.1.2.1, h.2⟩ hg
  exact ⟨⟨⟨h.1.1, k1.1, k2.trans h.1.2.2⟩, k1.2⟩, k3⟩
theorem relM_fc (h : RelM T G m v hs sl tn tx) (hf : fc T G T' G') (hg : Gi G') : RelM T' G' m v hs sl tn tx := by
  obtain ⟨⟨h0, h1, h3, h4, h5⟩, u, hu, hM⟩ := h
  have hR : RM T G m := ⟨h0, h1, h3, h4, h5⟩
  obtain ⟨k0, _, i0, r0⟩ := ob_fc hf h0 (by omega)
  obtain ⟨k1, i1⟩ := ar_fc hf h1 (by omega)
  obtain ⟨k3, i3⟩ := ar_fc hf h3 (by omega)
  obtain ⟨k4, i4⟩ := ar_fc hf h4 (by omega)
  obtain ⟨k5, i5⟩ := ar_fc hf h5 (by omega)
  have hR' : RM T' G' m := ⟨k0, by rw [r0]; exact k1, by rw [r0]; exact k3, by rw [r0]; exact k4, by rw [r0]; exact k5⟩
  have j0 : ∀ k, k = 0 ∨ k = 2 ∨ (5 ≤ k ∧ k < 11) → p_I T' m k = u k 0 := fun k hk => by
    rw [i0, hu]
    exact mg_i hR k hk
  have j1 : p_I T' (rf T m 1) = u 1 := by
    rw [show p_I T' (rf T m 1) = p_I T (rf T m 1) from i1, hu]
    exact mg_1 hR
  have j3 : p_I T' (rf T m 3) = u 3 := by
    rw [show p_I T' (rf T m 3) = p_I T (rf T m 3) from i3, hu]
    exact mg_3 hR
  have j4 : p_I T' (rf T m 4) = u 4 := by
    rw [show p_I T' (rf T m 4) = p_I T (rf T m 4) from i4, hu]
    exact mg_4 hR
  have j5 : p_I T' (rf T m 11) = u 11 := by
    rw [show p_I T' (rf T m 11) = p_I T (rf T m 11) from i5, hu]
    exact mg_11 hR
  refine ⟨hR', u, put_eq rfl rfl rfl ?_ rfl rfl rfl, hM⟩
  show p_I T' = mvv (p_I T') G' u
  funext a k
  unfold mvv
  split
  · rename_i c
    have e : a = m := hg a m (by omega) (c.trans k0.2.symm)
    subst e
    split
    · rename_i c2
      exact j0 k c2
    · rfl
  · split
    · rename_i c
      have e : a = rf T m 1 := hg a _ (by omega) (c.trans k1.2.symm)
      rw [e, j1]
    · split
      · rename_i c
        have e : a = rf T m 3 := hg a _ (by omega) (c.trans k3.2.symm)
        rw [e, j3]
      · split
        · rename_i c
          have e : a = rf T m 4 := hg a _ (by omega) (c.trans k4.2.symm)
          rw [e, j4]
        · split
          · rename_i c
            have e : a = rf T m 11 := hg a _ (by omega) (c.trans k5.2.symm)
            rw [e, j5]
          · rfl
theorem out_fc (h : OUT T G oj oe) (hf : fc T G T' G') : OUT T' G' oj oe := by
  obtain ⟨k1, k2, _⟩ := ob_fc hf h.1.1 (by omega)
  obtain ⟨k3, k4, _⟩ := ob_fc hf h.2.1 (by omega)
  exact ⟨⟨k1, k2.trans h.1.2⟩, ⟨k3, k4.trans h.2.2⟩⟩
theorem relM_J (h : RelM T G m v hs sl tn tx) {a k : Nat} {y : Int64} : RelM (s_J T a k y) G m v hs sl tn tx := by
  obtain ⟨h1, u, hu, hM⟩ := h
  refine ⟨h1, u, put_eq rfl rfl rfl ?_ rfl rfl rfl, hM⟩
  have e := congrArg p_I hu
  exact e
theorem relM_E (h : RelM T G m v hs sl tn tx) {a k : Nat} {y : UInt64} : RelM (s_E T a k y) G m v hs sl tn tx := by
  obtain ⟨h1, u, hu, hM⟩ := h
  refine ⟨h1, u, put_eq rfl rfl rfl ?_ rfl rfl rfl, hM⟩
  have e := congrArg p_I hu
  exact e
theorem out_j (h : OUT T G oj oe) {β : Type} {f : Nat → Option β} : dr T 10 (some oj) f = f oj := dr_t h.1.1.1
theorem out_e (h : OUT T G oj oe) {β : Type} {f : Nat → Option β} : dr T 11 (some oe) f = f oe := dr_t h.2.1.1
theorem out_wj (h : OUT T G oj oe) {f : Nat → Prop} : wdr T 10 (some oj) f = f oj := wdr_e h.1.1.1
theorem out_we (h : OUT T G oj oe) {f : Nat → Prop} : wdr T 11 (some oe) f = f oe := wdr_e h.2.1.1
end BO
/-- the whole relation -/
def LW (T : PH) (G : Nat → Nat) (x nw m oj oe : Nat) (v : AS) (hs : List AS) (nx : Nat) (sl : Nat → Option AS) (tn : Nat) (tx : Nat → Int32) : Prop := RelC T G x nw v hs nx sl tn tx ∧ IVs v hs sl ∧ RelM T G m v hs sl tn tx ∧ OUT T G oj oe
def LWE (x nw m oj oe : Nat) (T : PH) : Prop := ∃ G v hs nx sl tn tx, LW T G x nw m oj oe v hs nx sl tn tx
/-- after the class's call: the reference's call, and the comparison -/
def tl (i5 : Int32) (K : Int32 → PH → Prop) (r2 r3 : Option Nat) (ref : PH → Option (Int32 × PH)) (v3 : Int32) (S4 : PH) : Prop := wdr S4 5 r2 fun _ => wbd (ref S4) fun v12 S13 => wdr S13 5 r2 fun _ => wbd (m_X5_thrown r2 S13) fun v18 S19 => if v18 = v3 then (if v3 = 0 then (wdr S19 10 r3 fun a23 => wck (ix (0 : Int32) (p_N S19 a23)) <| if (lg_cmp (p_J S19 a23 0) (Int32.toInt64 v12)) = 0 then (K (i5 + (4 : Int32)) S19) else ((0 : Int32) = (1 : Int32))) else (K (i5 + (4 : Int32)) S19)) else ((0 : Int32) = (1 : Int32))
section TL
variable {T : PH} {G : Nat → Nat} {x nw m oj oe : Nat} {v v' : AS} {hs hs' : List AS} {nx' : Nat} {sl sl' : Nat → Option AS} {tn tn' : Nat} {tx tx' : Nat → Int32} {i5 : Int32} {K : Int32 → PH → Prop}
theorem lg_refl (y : Int64) : lg_cmp y y = 0 := by
  unfold lg_cmp
  simp
theorem tl_ok (hC : RelC T G x nw v' hs' nx' sl' tn' tx') (hV : IVs v' hs' sl') (hM : RelM T G m v hs sl tn tx) (hO : OUT T G oj oe) {ref : PH → Option (Int32 × PH)} {tb : Nat → Int32} {r : Nat ⊕ Int32} {v3 : Int32} (hq : ∀ u, MU u v hs sl tn tx → ∃ u', RES (ref (mput T G u)) T G tb u' r ∧ MU u' v' hs' sl' tn' tx') (h3 : (∀ e, r = .inl e → v3 = tb e ∧ tb e ≠ nI 0) ∧ ∀ y, r = .inr y → v3 = 0 ∧ p_J T oj 0 = Int32.toInt64 y) (hK : ∀ S', LWE x nw m oj oe S' → K (i5 + 4) S') : tl i5 K (some m) (some oj) ref v3 T := by
  obtain ⟨hR, u, hu, hU⟩ := hM
  obtain ⟨u', q1, q2⟩ := hq u hU
  have fin : LWE x nw m oj oe (mput T G u') := ⟨G, v', hs', nx', sl', tn', tx', relC_M hC, hV, relM_put hR q2, hO⟩
  have wm : ∀ {u : AS} {f : Nat → Prop}, wdr (mput T G u) 5 (some m) f = f m := fun {u f} => wdr_e hR.1.1
  have wm0 : ∀ {f : Nat → Prop}, wdr T 5 (some m) f = f m := fun {f} => wdr_e hR.1.1
  have th : ∀ u : AS, m_X5_thrown (some m) (mput T G u) = some (u 0 0, mput T G u) := by
    intro u
    unfold m_X5_thrown
    rw [dr_mp, hR.mm, mg_i hR 0 (by omega)]
  unfold tl
  rw [wm0, hu]
  cases r with
  | inl e =>
    obtain ⟨e1, e2⟩ := q1
    obtain ⟨k1, k2⟩ := h3.1 e rfl
    rw [e1, wbd_e, wm, th, wbd_e, e2, if_pos k1.symm, k1, if_neg (show ¬ tb e = 0 from k2)]
    exact hK _ fin
  | inr y =>
    obtain ⟨e1, e2⟩ := q1
    obtain ⟨k1, k2⟩ := h3.2 y rfl
    have ej : p_J (mput T G u') oj 0 = Int32.toInt64 y := k2
    have ok : wdr (mput T G u') 10 (some oj) = fun f => f oj := by funext f; exact wdr_e hO.1.1.1
    have on : p_N (mput T G u') oj = 1 := hO.1.2
    rw [e1, wbd_e, wm, th, wbd_e, e2, k1, if_pos (show nI 0 = 0 from rfl), if_pos rfl, ok]
    show wck (ix (0 : Int32) (p_N (mput T G u') oj)) _
    rw [on, show ((0 : Int32)) = nI 0 from rfl, wck_n (by omega) (by omega), ej, lg_refl, if_pos (show (0 : Int32) = nI 0 from rfl)]
    exact hK _ fin
end TL
