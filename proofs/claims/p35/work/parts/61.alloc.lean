/-! NEW OBJECTS: an object while its constructor lays its arrays -/
theorem wdr_t {S : PH} {c a : Nat} {f : Nat → Prop} (h : a ∈ p_L S ∧ p_K S a = c) (k : f a) : wdr S c (some a) f := ⟨a, rfl, h, k⟩
theorem wbd_t {α : Type} {o : Option (α × PH)} {v : α} {S : PH} {f : α → PH → Prop} (h : o = some (v, S)) (k : f v S) : wbd o f := ⟨v, S, h, k⟩
theorem wbt_r {α : Type} {o : Option ((Nat ⊕ α) × PH)} {v : α} {S : PH} {f : α → PH → Prop} {g : Nat → PH → Prop} (h : o = some (.inr v, S)) (k : f v S) : wbt o f g := Or.inl ⟨v, S, h, k⟩
theorem wbt_l {α : Type} {o : Option ((Nat ⊕ α) × PH)} {j : Nat} {S : PH} {f : α → PH → Prop} {g : Nat → PH → Prop} (h : o = some (.inl j, S)) (k : g j S) : wbt o f g := Or.inr ⟨j, S, h, k⟩
theorem wck_t {b : Bool} {o : Prop} (h : b = true) (k : o) : wck b o := ⟨h, k⟩
theorem wlpn_mono {τ : Type} {step : (τ → Prop) → τ → Prop} (hm : ∀ K K' : τ → Prop, (∀ t, K t → K' t) → ∀ t, step K t → step K' t) : ∀ n t, wlpn step n t → wlpn step (n + 1) t
  | 0, _, h => h.elim
  | n + 1, t, h => hm _ _ (wlpn_mono hm n) t h
/-- rounds of a loop -/
theorem wlp_go {τ : Type} {step : (τ → Prop) → τ → Prop} (P : Nat → τ → Prop) (N : Nat) (hN : ∀ K t, P N t → step K t) (h : ∀ i, i < N → ∀ (K : τ → Prop), (∀ t, P (i + 1) t → K t) → ∀ t, P i t → step K t) : ∀ t, P 0 t → wlp step t := by
  have key : ∀ k, k ≤ N → ∀ t, P (N - k) t → wlpn step (k + 1) t := by
    intro k
    induction k with
    | zero => intro _ t ht; exact hN _ t ht
    | succ k ih =>
      intro hk t ht
      refine h (N - (k + 1)) (by omega) (wlpn step (k + 1)) (fun t' ht' => ?_) t ht
      have e : N - (k + 1) + 1 = N - k := by omega
      rw [e] at ht'
      exact ih (by omega) t' ht'
  intro t ht
  refine ⟨N + 1, key N (Nat.le_refl N) t ?_⟩
  rwa [Nat.sub_self]
def GW (S : PH) (G : Nat → Nat) : Prop := Gi G ∧ ∀ c, c ∉ p_L S → G c = 0
/-- object d is in S' as it was in S -/
def sme (S S' : PH) (d : Nat) : Prop := d ∈ p_L S' ∧ p_K S' d = p_K S d ∧ p_N S' d = p_N S d ∧ p_I S' d = p_I S d ∧ p_R S' d = p_R S d ∧ p_J S' d = p_J S d ∧ p_E S' d = p_E S d
theorem sme_tr {S S' S'' : PH} {d : Nat} (h : sme S S' d) (k : sme S' S'' d) : sme S S'' d := ⟨k.1, k.2.1.trans h.2.1, k.2.2.1.trans h.2.2.1, k.2.2.2.1.trans h.2.2.2.1, k.2.2.2.2.1.trans h.2.2.2.2.1, k.2.2.2.2.2.1.trans h.2.2.2.2.2.1, k.2.2.2.2.2.2.trans h.2.2.2.2.2.2⟩
theorem va_o {α : Type} {f : Nat → α} {k d : Nat} {v : α} (h : d ≠ k) : va_up f k v d = f d := by unfold va_up; exact if_neg h
theorem va_s {α : Type} {f : Nat → α} {k : Nat} {v : α} : va_up f k v k = v := by unfold va_up; exact if_pos rfl
theorem ur_o {α : Type} {f : Nat → Nat → α} {a d : Nat} {g : Nat → α} (h : d ≠ a) : u_r f a g d = f d := by unfold u_r; exact if_neg h
theorem u2_o {α : Type} {f : Nat → Nat → α} {a k d : Nat} {v : α} (h : d ≠ a) : u_2 f a k v d = f d := by funext j; unfold u_2; exact if_neg (fun z => h z.1)
theorem sme_N {S : PH} {q k n d : Nat} (hd : d ∈ p_L S) (h : d ≠ q) : sme S (s_N S q k n) d := ⟨List.mem_append_left _ hd, va_o h, va_o h, ur_o h, ur_o h, ur_o h, ur_o h⟩
theorem sme_R {S : PH} {a j d : Nat} {v : Option Nat} (hd : d ∈ p_L S) (h : d ≠ a) : sme S (s_R S a j v) d := ⟨hd, rfl, rfl, rfl, u2_o h, rfl, rfl⟩
theorem sme_I {S : PH} {a j d : Nat} {v : Int32} (hd : d ∈ p_L S) (h : d ≠ a) : sme S (s_I S a j v) d := ⟨hd, rfl, rfl, u2_o h, rfl, rfl, rfl⟩
theorem GW_up {S S2 : PH} {G : Nat → Nat} {q t : Nat} (h : GW S G) (hq : q ∉ p_L S) (ht : ∀ d, G d ≠ t) (hL : p_L S2 = p_L S ++ [q]) : GW S2 (va_up G q t) := by
  refine ⟨fun a c h0 e => ?_, fun c hc => ?_⟩
  · by_cases ha : a = q
    · by_cases hc : c = q
      · rw [ha, hc]
      · rw [ha, va_s, va_o hc] at e
        exact absurd e.symm (ht c)
    · by_cases hc : c = q
      · rw [hc, va_s, va_o ha] at e
        exact absurd e (ht a)
      · rw [va_o ha] at h0 e
        rw [va_o hc] at e
        exact h.1 a c h0 e
  · rw [hL, List.mem_append, List.mem_singleton, not_or] at hc
    rw [va_o hc.2]
    exact h.2 c hc.1
theorem ar_sm {S S' : PH} {G G' : Nat → Nat} {r : Option Nat} {c n g : Nat} (h : ar S G r c n g) (hs : sme S S' (r.getD 0)) (hG : G' (r.getD 0) = G (r.getD 0)) : ar S' G' r c n g := ⟨⟨h.1.1, ⟨hs.1, hs.2.1.trans h.1.2.1.2⟩, hs.2.2.1.trans h.1.2.2⟩, hG.trans h.2⟩
theorem ob_sm {S S' : PH} {G G' : Nat → Nat} {a c g : Nat} (h : ob S G a c g) (hs : sme S S' a) (hG : G' a = G a) : ob S' G' a c g := ⟨⟨hs.1, hs.2.1.trans h.1.2⟩, hG.trans h.2⟩
def AO (S0 : PH) (G0 : Nat → Nat) (a c tO B E TB : Nat) (S : PH) (G : Nat → Nat) (F : List (Nat × Nat × Nat × Nat)) (T : List Nat) (g : Nat → Int32) (b2 : Prop) : Prop := GW S G ∧ (∀ d, d ∈ p_L S0 → d ≠ a → sme S0 S d ∧ G d = G0 d) ∧ (∀ d, d ∉ p_L S0 → G d = 0 ∨ G d ∈ T) ∧ ob S G a c tO ∧ a ∈ p_L S0 ∧ (∀ e ∈ F, (ar S G (p_R S a e.1) e.2.1 e.2.2.1 e.2.2.2 ∧ p_I S ((p_R S a e.1).getD 0) = fun _ => 0) ∧ (p_R S a e.1).getD 0 ≠ a) ∧ (∀ d, d ≠ a → ¬ (B ≤ G0 d ∧ G0 d < E)) ∧ p_I S a = g ∧ (b2 → rf S a 10 ∈ p_L S ∧ rf S a 10 ≠ a ∧ ∀ q, q < 8 → (ar S G (p_R S (rf S a 10) q) 6 8 (TB + q) ∧ p_I S (rf S (rf S a 10) q) = fun _ => 0) ∧ rf S (rf S a 10) q ≠ a)
section AOs
variable {S0 S : PH} {G0 G : Nat → Nat} {a c tO B E TB : Nat} {F : List (Nat × Nat × Nat × Nat)} {T : List Nat} {g : Nat → Int32} {b2 : Prop}
theorem AO.w (h : AO S0 G0 a c tO B E TB S G F T g b2) : GW S G := h.1
theorem AO.f (h : AO S0 G0 a c tO B E TB S G F T g b2) : ∀ d, d ∈ p_L S0 → d ≠ a → sme S0 S d ∧ G d = G0 d := h.2.1
theorem AO.n (h : AO S0 G0 a c tO B E TB S G F T g b2) : ∀ d, d ∉ p_L S0 → G d = 0 ∨ G d ∈ T := h.2.2.1
theorem AO.o (h : AO S0 G0 a c tO B E TB S G F T g b2) : ob S G a c tO := h.2.2.2.1
theorem AO.a0 (h : AO S0 G0 a c tO B E TB S G F T g b2) : a ∈ p_L S0 := h.2.2.2.2.1
theorem AO.fs (h : AO S0 G0 a c tO B E TB S G F T g b2) : ∀ e ∈ F, (ar S G (p_R S a e.1) e.2.1 e.2.2.1 e.2.2.2 ∧ p_I S ((p_R S a e.1).getD 0) = fun _ => 0) ∧ (p_R S a e.1).getD 0 ≠ a := h.2.2.2.2.2.1
theorem AO.x (h : AO S0 G0 a c tO B E TB S G F T g b2) : ∀ d, d ≠ a → ¬ (B ≤ G0 d ∧ G0 d < E) := h.2.2.2.2.2.2.1
theorem AO.i (h : AO S0 G0 a c tO B E TB S G F T g b2) : p_I S a = g := h.2.2.2.2.2.2.2.1
theorem AO.m (h : AO S0 G0 a c tO B E TB S G F T g b2) : b2 → rf S a 10 ∈ p_L S ∧ rf S a 10 ≠ a ∧ ∀ q, q < 8 → (ar S G (p_R S (rf S a 10) q) 6 8 (TB + q) ∧ p_I S (rf S (rf S a 10) q) = fun _ => 0) ∧ rf S (rf S a 10) q ≠ a := h.2.2.2.2.2.2.2.2
theorem AO.free (h : AO S0 G0 a c tO B E TB S G F T g b2) {t : Nat} (ht : B ≤ t ∧ t < E) (hT : t ∉ T) (hO : t ≠ tO) (h0 : 0 < B) : ∀ d, G d ≠ t := by
  intro d e
  by_cases hd : d ∈ p_L S0
  · by_cases ha : d = a
    · rw [ha, h.o.2] at e
      exact hO e.symm
    · have := (h.f d hd ha).2
      exact h.x d ha (by omega)
  · rcases h.n d hd with k | k
    · omega
    · rw [e] at k
      exact hT k
theorem AO.tr (h : AO S0 G0 a c tO B E TB S G F T g b2) {S2 : PH} {G2 : Nat → Nat} {T2 : List Nat} {g2 : Nat → Int32} (h1 : ∀ d, d ∈ p_L S → d ≠ a → sme S S2 d) (h2 : a ∈ p_L S2 ∧ p_K S2 a = c) (h3 : ∀ e ∈ F, p_R S2 a e.1 = p_R S a e.1) (h4 : b2 → p_R S2 a 10 = p_R S a 10) (hG : ∀ d, d ∈ p_L S → G2 d = G d) (hw : GW S2 G2) (hT : ∀ d, d ∉ p_L S → G2 d = 0 ∨ G2 d ∈ T2) (hTT : ∀ t, t ∈ T → t ∈ T2) (hg : p_I S2 a = g2) : AO S0 G0 a c tO B E TB S2 G2 F T2 g2 b2 := by
  refine ⟨hw, ?_, ?_, ⟨h2, (hG a h.o.1.1).trans h.o.2⟩, h.a0, ?_, h.x, hg, ?_⟩
  · exact fun d hd ha => ⟨sme_tr (h.f d hd ha).1 (h1 d (h.f d hd ha).1.1 ha), (hG d (h.f d hd ha).1.1).trans (h.f d hd ha).2⟩
  · intro d hd
    by_cases hs : d ∈ p_L S
    · rw [hG d hs]
      rcases h.n d hd with k | k
      · exact Or.inl k
      · exact Or.inr (hTT _ k)
    · exact hT d hs
  · intro e he
    have k := h.fs e he
    have hs := h1 _ k.1.1.1.2.1.1 k.2
    rw [h3 e he]
    exact ⟨⟨ar_sm k.1.1 hs (hG _ k.1.1.1.2.1.1), hs.2.2.2.1.trans k.1.2⟩, k.2⟩
  · intro hb
    obtain ⟨m1, m2, m3⟩ := h.m hb
    have e : rf S2 a 10 = rf S a 10 := by unfold rf; rw [h4 hb]
    have hs := h1 _ m1 m2
    refine ⟨by rw [e]; exact hs.1, by rw [e]; exact m2, fun q hq => ?_⟩
    have k := m3 q hq
    have e2 : rf S2 (rf S a 10) q = rf S (rf S a 10) q := by
      show (p_R S2 (rf S a 10) q).getD 0 = (p_R S (rf S a 10) q).getD 0
      rw [hs.2.2.2.2.1]
    have hs2 := h1 _ k.1.1.1.2.1.1 k.2
    rw [e, e2, hs.2.2.2.2.1]
    exact ⟨⟨ar_sm k.1.1 hs2 (hG _ k.1.1.1.2.1.1), hs2.2.2.2.1.trans k.1.2⟩, k.2⟩
/-- one more array -/
theorem AO.arr (h : AO S0 G0 a c tO B E TB S G F T g b2) (j k n t : Nat) (ht : B ≤ t ∧ t < E) (hT : t ∉ T) (hO : t ≠ tO) (h0 : 0 < B) (hj : ∀ e ∈ F, e.1 ≠ j) (h10 : b2 → j ≠ 10) {K : PH → Prop} (hK : ∀ S' G', AO S0 G0 a c tO B E TB S' G' ((j, k, n, t) :: F) (t :: T) g b2 → K S') : wnw S fun q => wle (s_N S q k n) fun S1 => wdr S1 c (some a) fun a1 => wle (s_R S1 a1 j (some q)) fun S2 => K S2 := by
  intro q hq
  have hqa : a ≠ q := fun z => hq (z ▸ h.o.1.1)
  have hfr := h.free ht hT hO h0
  have ha1 : a ∈ p_L (s_N S q k n) ∧ p_K (s_N S q k n) a = c := ⟨List.mem_append_left _ h.o.1.1, (va_o hqa).trans h.o.1.2⟩
  refine wdr_t ha1 (hK _ (va_up G q t) ?_)
  have hR : p_R (s_R (s_N S q k n) a j (some q)) a j = some q := by
    show u_2 _ a j (some q) a j = some q
    unfold u_2; exact if_pos ⟨rfl, rfl⟩
  have hR2 : ∀ f, f ≠ j → p_R (s_R (s_N S q k n) a j (some q)) a f = p_R S a f := by
    intro f hf
    show u_2 (u_r (p_R S) q _) a j (some q) a f = p_R S a f
    unfold u_2
    rw [if_neg (fun z => hf z.2), ur_o hqa]
  have hbase : AO S0 G0 a c tO B E TB (s_R (s_N S q k n) a j (some q)) (va_up G q t) F (t :: T) g b2 := by
    refine h.tr (fun d hd hda => ?_) ⟨ha1.1, ha1.2⟩ (fun e he => hR2 _ (hj e he)) (fun hb => hR2 _ (Ne.symm (h10 hb))) (fun d hd => va_o (fun z => hq (z ▸ hd))) (GW_up h.w hq hfr rfl) (fun d hd => ?_) (fun u hu => List.mem_cons_of_mem _ hu) ?_
    · have hdq : d ≠ q := fun z => hq (z ▸ hd)
      exact sme_tr (sme_N hd hdq) (sme_R (List.mem_append_left _ hd) hda)
    · by_cases e : d = q
      · rw [e, va_s]
        exact Or.inr List.mem_cons_self
      · rw [va_o e]
        exact Or.inl (h.w.2 d hd)
    · show u_r (p_I S) q _ a = g
      rw [ur_o hqa]
      exact h.i
  refine ⟨hbase.w, hbase.f, hbase.n, hbase.o, hbase.a0, ?_, hbase.x, hbase.i, hbase.m⟩
  intro e he
  rcases List.mem_cons.mp he with rfl | he
  · rw [hR]
    refine ⟨⟨⟨⟨rfl, ⟨List.mem_append_right _ List.mem_cons_self, va_s⟩, va_s⟩, va_s⟩, ?_⟩, Ne.symm hqa⟩
    show u_r (p_I S) q _ q = _
    unfold u_r
    rw [if_pos rfl]
  · exact hbase.fs e he
/-- one of its numbers -/
theorem AO.num (h : AO S0 G0 a c tO B E TB S G F T g b2) (j : Nat) (w : Int32) {K : PH → Prop} (hK : ∀ S', AO S0 G0 a c tO B E TB S' G F T (up1 g j w) b2 → K S') : wdr S c (some a) fun a1 => wle (s_I S a1 j w) fun S2 => K S2 := by
  refine wdr_t h.o.1 (hK _ (h.tr (fun d hd hda => sme_I hd hda) h.o.1 (fun _ _ => rfl) (fun _ => rfl) (fun _ _ => rfl) ⟨h.w.1, h.w.2⟩ (fun d hd => Or.inl (h.w.2 d hd)) (fun _ hu => hu) ?_))
  rw [← h.i]
  funext i
  show u_2 (p_I S) a j w a i = up1 (p_I S a) j w i
  unfold u_2 up1
  by_cases e : i = j
  · rw [if_pos ⟨rfl, e⟩, if_pos e]
  · rw [if_neg (fun z => e z.2), if_neg e]
end AOs
