/-! THE REFERENCE READS A TEXT -/
theorem cd_lt {tn : Nat} {tx : Nat → Int32} {p : Nat} (h : cd tn tx p ≠ 0) : p < tn := by
  rcases Nat.lt_or_ge p tn with g | g
  · exact g
  · exact absurd (if_neg (by omega)) h
theorem a_in_0 {l : Nat} {g : Int32} (h0 : 0 < l) (hl : l < 1000) : a_in 0 (nI l) g = false := by
  unfold a_in
  rw [decide_eq_true (show (0 : Int32) < nI l from by show nI 0 < nI l; rw [nI_ltI (by omega) (by omega)]; exact h0)]
  rfl
theorem a_in_self (y c : Int32) : a_in y c c = decide (y = c) := by
  unfold a_in
  refine Bool.eq_iff_iff.mpr ?_
  simp only [Bool.and_eq_true, Bool.not_eq_true', decide_eq_false_iff_not, decide_eq_true_eq]
  constructor
  · rintro ⟨h1, h2⟩
    exact Int32.le_antisymm (Int32.not_lt.mp h2) (Int32.not_lt.mp h1)
  · rintro rfl
    exact ⟨fun z => Int32.lt_irrefl z, fun z => Int32.lt_irrefl z⟩
theorem dig_n {c : Int32} {g : Nat} (hg : g ≤ 9) (h : a_in c (nI 48) (nI (48 + g)) = true) : ∃ j, j ≤ g ∧ c = nI (48 + j) ∧ c - nI 48 = nI j := by
  unfold a_in at h
  simp only [Bool.and_eq_true, Bool.not_eq_true', decide_eq_false_iff_not] at h
  obtain ⟨h1, h2⟩ := h
  have h1 := i_le.mp (Int32.not_lt.mp h1)
  have h2 := i_le.mp (Int32.not_lt.mp h2)
  have e48 : (nI 48).toInt = 48 := by decide
  rw [e48] at h1
  rw [nI_toInt (by omega)] at h2
  obtain ⟨k, hk, rfl⟩ := nI_of (x := c) (by rw [i_lt]; have : (0 : Int32).toInt = 0 := (by decide); omega)
  rw [nI_toInt (by omega)] at h1 h2
  exact ⟨k - 48, by omega, by congr 1; omega, by rw [pk_sub (by omega)]⟩
theorem d7_n {c : Int32} (h : d7 c = true) : ∃ j, j ≤ 7 ∧ c = nI (48 + j) ∧ c - nI 48 = nI j := dig_n (g := 7) (by omega) h
theorem d9_n {c : Int32} (h : d9 c = true) : ∃ j, j ≤ 9 ∧ c = nI (48 + j) ∧ c - nI 48 = nI j := dig_n (g := 9) (by omega) h
theorem u_id {u : AS} {f k : Nat} {w : Int32} (h : u f k = w) : u_2 u f k w = u := by
  funext a b
  unfold u_2
  split
  · rename_i e
    rw [e.1, e.2, h]
  · rfl
/-- nothing is other but the reader's own numbers -/
def sR (u u' : AS) : Prop := ∀ f, ¬ (6 ≤ f ∧ f < 11) → u' f = u f
theorem sR.rf (u : AS) : sR u u := fun _ _ => rfl
theorem sR.tr {u w z : AS} (h : sR u w) (g : sR w z) : sR u z := fun f hf => (g f hf).trans (h f hf)
theorem sR.set {u w : AS} (h : sR u w) {f k : Nat} {x : Int32} (hf : 6 ≤ f ∧ f < 11) : sR u (u_2 w f k x) := fun a ha => (u_ne (by rintro rfl; exact ha hf)).trans (h a ha)
def TU (u : AS) (tn : Nat) (tx : Nat → Int32) (p : Nat) : Prop := u 5 0 = nI tn ∧ tn ≤ 60 ∧ u 4 = tx ∧ u 6 0 = nI p ∧ p ≤ tn
theorem TU.at_ {u : AS} {tn p q : Nat} {tx : Nat → Int32} (h : TU u tn tx p) (hq : q ≤ tn) : TU (u_2 u 6 0 (nI q)) tn tx q := ⟨by rw [u_ne (by omega)]; exact h.1, h.2.1, by rw [u_ne (by omega)]; exact h.2.2.1, u_s, hq⟩
theorem TU.set {u : AS} {tn p f : Nat} {tx : Nat → Int32} {w : Int32} (h : TU u tn tx p) (hf : 7 ≤ f) : TU (u_2 u f 0 w) tn tx p := ⟨by rw [u_ne (by omega)]; exact h.1, h.2.1, by rw [u_ne (by omega)]; exact h.2.2.1, by rw [u_ne (by omega)]; exact h.2.2.2.1, h.2.2.2.2⟩
section RD
variable {S : PH} {G : Nat → Nat} {m : Nat} {u : AS} {tn p : Nat} {tx : Nat → Int32}
theorem o_here (h : RM S G m) (ht : TU u tn tx p) {l : Nat} (h0 : 0 < l) (hl : l < 1000) (g : Int32) : m_X5_isHere (some m) (nI l) g (mput S G u) = some (if a_in (cd tn tx p) (nI l) g then nI 1 else nI 0, mput S G u) := by
  obtain ⟨t1, t2, t3, t4, t5⟩ := ht
  unfold m_X5_isHere
  rw [dr_mp, h.mm, mg_i h 5 (by omega), mg_i h 6 (by omega), t1, t4]
  by_cases e : p = tn
  · rw [if_pos (by rw [e]; exact Int32.le_refl _), show cd tn tx p = 0 from if_neg (by omega), a_in_0 h0 hl]
    rfl
  · rw [if_neg (show ¬ nI tn ≤ nI p by rw [nI_leI (by omega) (by omega)]; omega), R_mp, dr_mp, h.t, N_mp, h.nt, ck_n (by omega) (by omega), n_cl (by omega), mg_4 h, t3, o_in, bd_t, show cd tn tx p = tx p from if_pos (by omega)]
    rw [ite_k]
    rfl
theorem nar1 : ck (β := Int32 × PH) (decide (vp_nar .boolean (nI 1) = nI 1)) = fun o => o := by funext o; rfl
theorem nar0 : ck (β := Int32 × PH) (decide (vp_nar .boolean (nI 0) = nI 0)) = fun o => o := by funext o; rfl
theorem o_yes (hg : Gi G) (h : RM S G m) (ht : TU u tn tx p) {c : Nat} (h0 : 0 < c) (hc : c < 1000) (e : cd tn tx p = nI c) : m_X5_takesSign (some m) (nI c) (mput S G u) = some (nI 1, mput S G (u_2 u 6 0 (nI (p + 1)))) := by
  have hh := o_here h ht h0 hc (nI c)
  obtain ⟨t1, t2, t3, t4, t5⟩ := ht
  rw [a_in_self, decide_eq_true e, if_pos rfl] at hh
  unfold m_X5_takesSign j_X5_takesSign_21
  have e1 : nI p + 1 = nI (p + 1) := nI_add p 1
  rw [dr_mp, h.mm, hh, bd_t, dr_mp, h.mm, if_neg (show ¬ nI 1 = 0 by decide), dr_mp, h.mm, mg_i h 6 (by omega), t4, e1, ms_i hg h 6 (by omega), le_t, nar1]
theorem o_not (hg : Gi G) (h : RM S G m) (ht : TU u tn tx p) {c : Nat} (h0 : 0 < c) (hc : c < 1000) (e : ¬ cd tn tx p = nI c) : m_X5_takesSign (some m) (nI c) (mput S G u) = some (nI 0, mput S G u) := by
  have hh := o_here h ht h0 hc (nI c)
  obtain ⟨t1, t2, t3, t4, t5⟩ := ht
  rw [a_in_self, decide_eq_false e, if_neg (by decide)] at hh
  unfold m_X5_takesSign j_X5_takesSign_21
  have e1 : nI p + 0 = nI p := nI_add p 0
  rw [dr_mp, h.mm, hh, bd_t, dr_mp, h.mm, if_pos (show nI 0 = 0 from rfl), dr_mp, h.mm, mg_i h 6 (by omega), t4, e1, ms_i hg h 6 (by omega), le_t, nar0, u_id t4]
theorem o_dyes (hg : Gi G) (h : RM S G m) (ht : TU u tn tx p) {g : Nat} (hg9 : g ≤ 9) (e : a_in (cd tn tx p) (nI 48) (nI (48 + g)) = true) : m_X5_digit (some m) (nI g) (mput S G u) = some (cd tn tx p - nI 48, mput S G (u_2 u 6 0 (nI (p + 1)))) := by
  have hh := o_here h ht (l := 48) (by omega) (by omega) (nI (48 + g))
  have hp : p < tn := cd_lt (tx := tx) (fun z => by rw [z, a_in_0 (by omega) (by omega)] at e; cases e)
  obtain ⟨t1, t2, t3, t4, t5⟩ := ht
  rw [e, if_pos rfl] at hh
  unfold m_X5_digit j_X5_digit_25
  have e1 : nI p + 1 = nI (p + 1) := nI_add p 1
  have e2 : nI (p + 1) - 1 = nI p := pk_sub (a := p + 1) (b := 1) (by omega)
  have e3 : (48 : Int32) + nI g = nI (48 + g) := nI_add 48 g
  rw [dr_mp, h.mm, show (48 : Int32) = nI 48 from rfl, show nI 48 + nI g = nI (48 + g) from e3, hh, bd_t, dr_mp, h.mm, if_neg (show ¬ nI 1 = 0 by decide), dr_mp, h.mm, mg_i h 6 (by omega), t4, e1, ms_i hg h 6 (by omega), le_t, if_neg (show ¬ nI 1 = 0 by decide), dr_mp, h.mm, mg_i h 6 (by omega), u_s, e2, R_mp, dr_mp, h.t, N_mp, h.nt, ck_n (by omega) (by omega), n_cl (by omega), mg_4 h, u_ne (by omega), t3, show cd tn tx p = tx p from if_pos hp]
theorem o_dnot (hg : Gi G) (h : RM S G m) (ht : TU u tn tx p) {g : Nat} (hg9 : g ≤ 9) (e : a_in (cd tn tx p) (nI 48) (nI (48 + g)) = false) : m_X5_digit (some m) (nI g) (mput S G u) = some (nM, mput S G u) := by
  have hh := o_here h ht (l := 48) (by omega) (by omega) (nI (48 + g))
  obtain ⟨t1, t2, t3, t4, t5⟩ := ht
  rw [e, if_neg (by decide)] at hh
  unfold m_X5_digit j_X5_digit_25
  have e1 : nI p + 0 = nI p := nI_add p 0
  have e3 : (48 : Int32) + nI g = nI (48 + g) := nI_add 48 g
  rw [dr_mp, h.mm, show (48 : Int32) = nI 48 from rfl, show nI 48 + nI g = nI (48 + g) from e3, hh, bd_t, dr_mp, h.mm, if_pos (show nI 0 = 0 from rfl), dr_mp, h.mm, mg_i h 6 (by omega), t4, e1, ms_i hg h 6 (by omega), le_t, if_pos (show nI 0 = 0 from rfl), u_id t4]
  rfl
theorem d7_a (c : Int32) : d7 c = a_in c (nI 48) (nI (48 + 7)) := rfl
theorem d9_a (c : Int32) : d9 c = a_in c (nI 48) (nI (48 + 9)) := rfl
theorem m_1 : nM = (-1 : Int32) := by decide
theorem o_pair (hg : Gi G) (h : RM S G m) (ht : TU u tn tx p) : ∃ u', m_X5_readsPair (some m) (mput S G u) = some (if d7 (cd tn tx p) && d7 (cd tn tx (p + 1)) then nI 1 else nI 0, mput S G u') ∧ sR u u' ∧ u' 7 0 = u 7 0 ∧ TU u' tn tx (if d7 (cd tn tx p) then (if d7 (cd tn tx (p + 1)) then p + 2 else p + 1) else p) ∧ (d7 (cd tn tx p) = true → d7 (cd tn tx (p + 1)) = true → u' 8 0 = cd tn tx p - nI 48 ∧ u' 9 0 = cd tn tx (p + 1) - nI 48) := by
  have dl : ∀ q, d7 (cd tn tx q) = true → q < tn := fun q e => cd_lt (tx := tx) (fun z => by rw [z] at e; exact absurd e (by decide))
  unfold m_X5_readsPair
  rw [dr_mp, h.mm, show (7 : Int32) = nI 7 from rfl]
  cases e1 : d7 (cd tn tx p) with
  | false =>
    refine ⟨u_2 (u_2 u 8 0 nM) 9 0 nM, ?_, ((sR.rf u).set (by omega)).set (by omega), ?_, (ht.set (by omega)).set (by omega), fun z => by cases z⟩
    · rw [o_dnot hg h ht (g := 7) (by omega) ((d7_a _).symm.trans e1), bd_t, dr_mp, h.mm, ms_i hg h 8 (by omega), le_t, dr_mp, h.mm, mg_i h 8 (by omega), u_s, if_pos m_1]
      unfold j_X5_readsPair_29
      rw [dr_mp, h.mm, ms_i hg h 9 (by omega), le_t, dr_mp, h.mm, mg_i h 9 (by omega), u_s, if_pos (show (-1 : Int32) = -1 from rfl)]
      rfl
    · rw [u_ne (by omega), u_ne (by omega)]
  | true =>
    have hp := dl p e1
    obtain ⟨j, hj, _, ej⟩ := d7_n e1
    have n1 : ¬ nI j = (-1 : Int32) := nM_ne (by omega)
    have ht1 : TU (u_2 (u_2 u 6 0 (nI (p + 1))) 8 0 (nI j)) tn tx (p + 1) := (ht.at_ (by omega)).set (by omega)
    rw [o_dyes hg h ht (g := 7) (by omega) ((d7_a _).symm.trans e1), bd_t, dr_mp, h.mm, ms_i hg h 8 (by omega), le_t, ej, dr_mp, h.mm, mg_i h 8 (by omega), u_s, if_neg n1]
    cases e2 : d7 (cd tn tx (p + 1)) with
    | false =>
      refine ⟨u_2 (u_2 (u_2 u 6 0 (nI (p + 1))) 8 0 (nI j)) 9 0 nM, ?_, (((sR.rf u).set (by omega)).set (by omega)).set (by omega), ?_, ht1.set (by omega), fun _ z => by cases z⟩
      · rw [o_dnot hg h ht1 (g := 7) (by omega) ((d7_a _).symm.trans e2), bd_t]
        unfold j_X5_readsPair_29
        rw [dr_mp, h.mm, ms_i hg h 9 (by omega), le_t, dr_mp, h.mm, mg_i h 9 (by omega), u_s, if_pos m_1]
        rfl
      · rw [u_ne (by omega), u_ne (by omega), u_ne (by omega)]
    | true =>
      have hp2 := dl _ e2
      obtain ⟨j2, hj2, _, ej2⟩ := d7_n e2
      have n2 : ¬ nI j2 = (-1 : Int32) := nM_ne (by omega)
      refine ⟨u_2 (u_2 (u_2 (u_2 u 6 0 (nI (p + 1))) 8 0 (nI j)) 6 0 (nI (p + 2))) 9 0 (nI j2), ?_, ((((sR.rf u).set (by omega)).set (by omega)).set (by omega)).set (by omega), ?_, (ht1.at_ (by omega)).set (by omega), fun _ _ => ⟨?_, ?_⟩⟩
      · rw [o_dyes hg h ht1 (g := 7) (by omega) ((d7_a _).symm.trans e2), bd_t, ej2]
        unfold j_X5_readsPair_29
        rw [dr_mp, h.mm, ms_i hg h 9 (by omega), le_t, dr_mp, h.mm, mg_i h 9 (by omega), u_s, if_neg n2]
        rfl
      · rw [u_ne (by omega), u_ne (by omega), u_ne (by omega), u_ne (by omega)]
      · rw [u_ne (by omega), u_ne (by omega), u_s]
      · rw [u_s, ej2]
end RD
