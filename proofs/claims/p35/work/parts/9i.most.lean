/-! THE FACE: the most reviews, the person who is needed most -/
def m_v (v : AS) (ab : Int32) : Nat := a_min (fun r => if nI r = ab then 0 else e_cap v r) (e_dem v) (e_E v)
def a_nd (A : Nat → Nat) : Nat → Nat × Nat := fun n => fo (fun i s => if s.2 ≤ A (i + 1) then s else (i + 1, A (i + 1))) n (0, A 0)
def f_most (v : AS) (i : Int32) : Nat ⊕ Int32 := if a_in i (nI 0) (nI 1) then .inr (nI (m_v v nM)) else .inl 0
def f_need (v : AS) : Int32 := nI (a_nd (fun p => m_v v (nI p)) 7).1
/-- what the Matching was told of v -/
def TO (v w : AS) : Prop := (∀ r, r < 8 → w 0 r = nI (e_cap v r) ∧ w 1 r = mk8 (e_E v r) 8) ∧ ∀ q, q < 8 → w 2 q = nI (e_dem v q)
theorem TO_c3 {v w w' : AS} (h : TO v w) (k : c3 w w') : TO v w' := ⟨fun r hr => by rw [k 0 (by omega), k 1 (by omega)]; exact h.1 r hr, fun q hq => by rw [k 2 (by omega)]; exact h.2 q hq⟩
theorem nd_le (A : Nat → Nat) (hA : ∀ i, A i ≤ 64) : ∀ n, (a_nd A n).1 ≤ n ∧ (a_nd A n).2 ≤ 64
  | 0 => ⟨Nat.le_refl _, hA 0⟩
  | n + 1 => by
    obtain ⟨h1, h2⟩ := nd_le A hA n
    have e : a_nd A (n + 1) = (if (a_nd A n).2 ≤ A (n + 1) then a_nd A n else (n + 1, A (n + 1))) := rfl
    rw [e]
    split
    · exact ⟨by omega, h2⟩
    · exact ⟨Nat.le_refl _, hA (n + 1)⟩
theorem m_v64 {v : AS} (hI : IV v) (ab : Int32) : m_v v ab ≤ 64 := (mnn_in (fun q _ => e_dem8 hI q)).2.2
section MF2
variable {S : PH} {G : Nat → Nat} {x nw : Nat} {v w : AS} {hs : List AS} {nx : Nat} {sl : Nat → Option AS} {tn : Nat} {tx : Nat → Int32}
theorem relC_mw (h : RelC S G x nw v hs nx sl tn tx) : RelC (mw S G w) G x nw v hs nx sl tn tx ∧ fc S G (mw S G w) G := by
  obtain ⟨g1, g3, g30, g5, gR, gS, gx, _, _⟩ := relC_tags h
  have oth : ∀ d, G d < 8 ∨ 16 ≤ G d → p_I (mw S G w) d = p_I S d := fun d hd => mz_o hd
  refine ⟨relC_W (S' := mw S G w) h rfl rfl rfl rfl (fun d hd hg => oth d (by omega)) (oth _ (by omega)) ?_ ?_, fun d hd hg => ⟨⟨hd, rfl, rfl, oth d (by omega), rfl, rfl, rfl⟩, rfl⟩⟩
  · rw [oth _ (by omega), oth _ (by omega)]
    exact h.tt
  · rw [oth _ (by omega)]
    exact h.tk
theorem to_ways (hg : Gi G) (h : RC S G x nw) (hI : IV v) (ht : TO v w) (ab : Int32) : ∃ w', m_X1_byWays (some (rf S x 4)) ab (mw S G w) = some (nI (m_v v ab), mw S G w') ∧ TO v w' := by
  obtain ⟨w', A, k1, k2, k3, k4⟩ := p_ways (E := e_E v) (cap := e_cap v) (dem := e_dem v) hg h (fun r q hr hq => by rw [(ht.1 r hr).2]; exact mk_hb _ hq) (fun r hr => ⟨(ht.1 r hr).1, e_cap2 hI hr⟩) (fun q hq => ⟨ht.2 q hq, e_dem8 hI q⟩) ab
  have e := min_uq (fun q _ => e_dem8 hI q) k3 k4
  exact ⟨w', by rw [k1, e]; rfl, TO_c3 ht k2⟩
theorem to_cuts (h : RC S G x nw) (hI : IV v) (ht : TO v w) : m_X1_byCuts (some (rf S x 4)) (mw S G w) = some (nI (m_v v nM), mw S G w) := by
  have k := p_cuts (E := e_E v) (cap := e_cap v) (dem := e_dem v) (w := w) h (fun r hr => by
    obtain ⟨j, j1, j2⟩ := mk_n (e_E v r)
    refine ⟨j, j1, (ht.1 r hr).2.trans j2, fun q hq => ?_⟩
    rw [← j2]
    exact mk_hb _ hq) (fun r hr => ⟨(ht.1 r hr).1, e_cap2 hI hr⟩) (fun q hq => ⟨ht.2 q hq, e_dem8 hI q⟩)
  rw [k]
  have e : m_v v nM = a_min (e_cap v) (e_dem v) (e_E v) := min_cg (fun p hp => if_neg (nM_ne (by omega)))
  rw [e]
theorem k_most (h : RelC S G x nw v hs nx sl tn tx) (hI : IV v) (i : Int32) : ∃ S', m_X4_most (some x) i S = some (f_most v i, S') ∧ RelC S' G x nw v hs nx sl tn tx ∧ fc S G S' G := by
  unfold m_X4_most f_most
  rw [show ((0 : Int32)) = nI 0 from rfl, show ((1 : Int32)) = nI 1 from rfl, rng]
  by_cases h1 : a_in i (nI 0) (nI 1) = true
  · rw [if_pos h1, if_pos h1, h.rc.x4]
    obtain ⟨w, ew⟩ := mw_self h.gi h.rc
    obtain ⟨w', k1, k2, k3⟩ := p_readM (w := w) h.gi h.rc h.rv hI
    rw [← ew] at k1
    have ht : TO v w' := ⟨k2, k3⟩
    rw [k1, bd_t]
    have x4 : ∀ {w : AS} {β : Type} {f : Nat → Option β}, dr (mw S G w) 4 (some x) f = f x := fun {w β f} => h.rc.x4
    have mt : ∀ {w : AS} {β : Type} {f : Nat → Option β}, dr (mw S G w) 1 (some (rf S x 4)) f = f (rf S x 4) := fun {w β f} => h.rc.mt
    by_cases h2 : i = nI 0
    · obtain ⟨w2, y1, y2⟩ := to_ways h.gi h.rc hI ht nM
      rw [if_pos h2, x4, R_mw, h.rc.r4, mt, show -nI 1 = nM by decide, y1, bd_t]
      exact ⟨_, rfl, relC_mw h⟩
    · rw [if_neg h2, x4, R_mw, h.rc.r4, mt, to_cuts h.rc hI ht, bd_t]
      exact ⟨_, rfl, relC_mw h⟩
  · rw [if_neg h1, if_neg h1]
    exact ⟨S, rfl, h, fc_r⟩
end MF2
