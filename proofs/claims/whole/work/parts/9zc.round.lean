/-! THE LAW: a round keeps the relation -/
theorem ite_p {c : Prop} [Decidable c] {p q : Prop} (h : c → p) (k : ¬ c → q) : if c then p else q := by
  by_cases g : c
  · rw [if_pos g]; exact h g
  · rw [if_neg g]; exact k g
section RR2
variable {S : PH} {x nw m oj oe : Nat} {K : Int32 → PH → Prop} {L : Nat} {xs : Nat → Int32}
theorem r_round (hL : LWE x nw m oj oe S) {i : Nat} (h20 : L ≤ 2048) (hi : i ≤ 4096) (hK : i + 4 ≤ L → ∀ T, LWE x nw m oj oe T → K (nI (i + 4)) T) : w_law_round xs L (some x) (some m) (some oj) (some oe) (nI i) S K := by
  obtain ⟨G, v, hs, nx, sl, tn, tx, hW⟩ := hL
  have e4 : nI i + 4 = nI (i + 4) := nI_add i 4
  have lt : (nI L - 4 < nI i) ↔ L < i + 4 := by
    have e : (4 : Int32) = nI 4 := rfl
    rw [e, i_lt, pk_sub_toInt (by omega) (by omega), nI_toInt (by omega)]
    omega
  unfold w_law_round
  by_cases hend : L < i + 4
  · rw [if_pos (show Int32.ofNat L - 4 < nI i from lt.mpr hend)]
  · rw [if_neg (show ¬ Int32.ofNat L - 4 < nI i from fun z => hend (lt.mp z))]
    have hx0 : ix (nI i) L = true := ix_n (by omega) (by omega)
    have hx1 : ix (nI i + (1 : Int32)) L = true := by rw [show nI i + (1 : Int32) = nI (i + 1) from nI_add i 1]; exact ix_n (by omega) (by omega)
    have hx2 : ix (nI i + (2 : Int32)) L = true := by rw [show nI i + (2 : Int32) = nI (i + 2) from nI_add i 2]; exact ix_n (by omega) (by omega)
    have hx3 : ix (nI i + (3 : Int32)) L = true := by rw [show nI i + (3 : Int32) = nI (i + 3) from nI_add i 3]; exact ix_n (by omega) (by omega)
    have hK' : ∀ T, LWE x nw m oj oe T → K (nI i + 4) T := fun T hT => by rw [e4]; exact hK (by omega) T hT
    refine ⟨hx0, ?_⟩
    generalize (xs (Int32.toNatClampNeg (nI i))) &&& (31 : Int32) = c
    refine ite_p (fun _ => r_188 hW hx1 hx2 hx3 hK') (fun _ => ?_)
    refine ite_p (fun _ => r_256 hW hx1 hx2 hx3 hK') (fun _ => ?_)
    refine ite_p (fun _ => r_324 hW hx1 hx2 hx3 hK') (fun _ => ?_)
    refine ite_p (fun _ => r_392 hW hx1 hx2 hx3 hK') (fun _ => ?_)
    refine ite_p (fun _ => r_460 hW hx1 hx2 hx3 hK') (fun _ => ?_)
    refine ite_p (fun _ => r_516 hW hx1 hx2 hx3 hK') (fun _ => ?_)
    refine ite_p (fun _ => r_560 hW hx1 hx2 hx3 hK') (fun _ => ?_)
    refine ite_p (fun _ => r_628 hW hx1 hx2 hx3 hK') (fun _ => ?_)
    refine ite_p (fun _ => r_708 hW hx1 hx2 hx3 hK') (fun _ => ?_)
    refine ite_p (fun _ => r_776 hW hx1 hx2 hx3 hK') (fun _ => ?_)
    refine ite_p (fun _ => r_832 hW hx1 hx2 hx3 hK') (fun _ => ?_)
    refine ite_p (fun _ => r_888 hW hx1 hx2 hx3 hK') (fun _ => ?_)
    refine ite_p (fun _ => r_944 hW hx1 hx2 hx3 hK') (fun _ => ?_)
    refine ite_p (fun _ => r_1000 hW hK') (fun _ => ?_)
    refine ite_p (fun _ => r_1013 hW hK') (fun _ => ?_)
    refine ite_p (fun _ => r_1026 hW hx1 hx2 hx3 hK') (fun _ => ?_)
    refine ite_p (fun _ => r_1070 hW hx1 hx2 hx3 hK') (fun _ => ?_)
    refine ite_p (fun _ => r_1126 hW hx1 hx2 hx3 hK') (fun _ => ?_)
    refine ite_p (fun _ => r_1182 hW hK') (fun _ => ?_)
    refine ite_p (fun _ => r_1226 hW hx1 hx2 hx3 hK') (fun _ => ?_)
    refine ite_p (fun _ => r_1294 hW hx1 hx2 hx3 hK') (fun _ => ?_)
    refine ite_p (fun _ => r_1362 hW hx1 hx2 hx3 hK') (fun _ => ?_)
    refine ite_p (fun _ => r_1430 hW hx1 hx2 hx3 hK') (fun _ => ?_)
    refine ite_p (fun _ => r_1486 hW hx1 hx2 hx3 hK') (fun _ => ?_)
    refine ite_p (fun _ => r_1542 hW hx1 hx2 hx3 hK') (fun _ => ?_)
    refine ite_p (fun _ => r_1610 hW hx1 hx2 hx3 hK') (fun _ => ?_)
    refine ite_p (fun _ => r_1666 hW hx1 hx2 hx3 hK') (fun _ => ?_)
    refine ite_p (fun _ => r_1722 hW hK') (fun _ => ?_)
    refine ite_p (fun _ => r_1735 hW hx1 hx2 hx3 hK') (fun _ => ?_)
    refine ite_p (fun _ => r_1791 hW hx1 hx2 hx3 hK') (fun _ => ?_)
    refine ite_p (fun _ => r_1868 hW hK') (fun _ => ?_)
    refine ite_p (fun _ => r_1911 hW hK') (fun _ => ?_)
    exact hK' S ⟨G, v, hs, nx, sl, tn, tx, hW⟩
end RR2
