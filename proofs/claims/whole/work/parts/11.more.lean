/-! WHAT THE WALKS WANT BESIDE THE ROWS -/
theorem x_ldcwf {Z : ZT} {cc : ByteArray} {own : String} {nL : Nat} {R : Room} {S : PH} {k n pc : Nat} {l : List (Nat × Value)} {st : List Value} (h : CX Z cc own nL R) {ix : Nat} {v : UInt32} (d : decode cc pc = .ok (.ldc_w ix, 3)) (hw : Cond.constantFloat own ix v ∈ w_G) (kk : PX Z nL S k n (pc + 3) l (.float v :: st)) : PX Z nL S k n pc l st := by
  obtain ⟨p, lq, e, R0, s, m, args, below, meth, c, D, C, A, Q⟩ := Z
  intro H locs ls hP hD hS hl T hT X
  obtain ⟨t, a, b⟩ := kk H locs ls hP hD hS hl T hT X
  refine ⟨t, ?_, b⟩
  obtain ⟨kc, cf, hk, hcf, hcp⟩ := Cond.constantFloat_spec h.2.2.2.1 (h.2.2.2.2.1 _ hw)
  obtain ⟨k', hk', he⟩ := X.warmed.alike.2.2 _ _ hk
  have hexec := h.1
  have hdg : decode c.code pc = .ok (.ldc_w ix, 3) := by rw [h.2.1]; exact d
  jvm_step X.here [hexec, hdg, ldc_w.wp_float (s := T) (f := F0 m pc ls st) X.here.top hk' (by rw [he]; exact hcf) hcp]
  exact a
theorem ir_x {τ ρ : Type} {P : τ → Prop} {o : Option ρ} {x : τ ⊕ ρ} {x' : ρ} (h : ir o = some x) (hg : GX P (fun r => r = x') x) : o = some x' := by
  obtain ⟨r, h1, rfl⟩ := ir_el h
  have hg : r = x' := hg
  rw [h1, hg]
theorem bk_x {τ ρ : Type} {P : τ → Prop} {G : ρ → Prop} {t : τ} {x : τ ⊕ ρ} (h : some (Sum.inl t) = some x) (hg : GX P G x) : P t := by
  cases h
  exact hg
def wq {α : Type} (f : α → PH → Prop) (g : Nat → PH → Prop) : (Nat ⊕ α) → PH → Prop := fun x S => match x with
  | .inr v => f v S
  | .inl j => g j S
theorem wq_r {α : Type} {f : α → PH → Prop} {g : Nat → PH → Prop} {v : α} {S : PH} (h : wq f g (.inr v) S) : f v S := h
theorem wq_l {α : Type} {f : α → PH → Prop} {g : Nat → PH → Prop} {j : Nat} {S : PH} (h : wq f g (.inl j) S) : g j S := h
theorem wbt_el {α : Type} {o : Option ((Nat ⊕ α) × PH)} {f : α → PH → Prop} {g : Nat → PH → Prop} (h : wbt o f g) : (∃ v S, o = some (.inr v, S) ∧ f v S) ∨ (∃ j S, o = some (.inl j, S) ∧ g j S) := by
  rcases h with ⟨v, S, h1, h2⟩ | ⟨j, S, h1, h2⟩
  · exact Or.inl ⟨v, S, h1, h2⟩
  · exact Or.inr ⟨j, S, h1, h2⟩
theorem r_Wx {α : Type} {enc : α → Option Value} {Q : (Nat ⊕ α) → PH → Prop} {F : Nat → PH → Prop} (h : ∀ j S, Q (.inl j) S → F j S) : ∀ j S, oQ enc Q (.inr j) S → F j S := fun j S q => h j S q
def wnw (S : PH) (f : Nat → Prop) : Prop := ∀ q, q ∉ p_L S → f q
def s_Mi (S : PH) (q : Nat) (g : Nat → Nat) : Nat → PH
  | 0 => s_N S q 9 8
  | i + 1 => s_R (s_N (s_Mi S q g i) (g i) 6 8) q i (some (g i))
/-- an array of eight arrays of eight whole numbers -/
def wmul (S : PH) (f : Nat → PH → Prop) : Prop := ∀ (q : Nat) (g : Nat → Nat), q ∉ p_L S → (∀ i, i < 8 → g i ∉ p_L (s_Mi S q g i)) → f q (s_Mi S q g 8)
def nn32 (r : UInt32) : Bool := decide (r &&& 0x7fffffff ≤ 0x7f800000)
def nn64 (r : UInt64) : Bool := decide (r &&& 0x7fffffffffffffff ≤ 0x7ff0000000000000)
theorem nn32_ok {r : UInt32} (h : nn32 r = true) : vf_n32 r := by unfold vf_n32; unfold nn32 at h; exact of_decide_eq_true h
theorem nn64_ok {r : UInt64} (h : nn64 r = true) : vf_n64 r := by unfold vf_n64; unfold nn64 at h; exact of_decide_eq_true h
def mmin (x z : Int32) : Int32 := if z < x then z else x
def mmax (x z : Int32) : Int32 := if x < z then z else x
theorem tab_o {x : Int32} {hi : Int} (lo : Int) (ks : List Int32) (h1 : ks.map Int32.toInt = (List.range ks.length).map (fun i : Nat => lo + (i : Int))) (h2 : hi < lo + (ks.length : Int)) (hne : ∀ k ∈ ks, ¬ x = k) : x.toInt < lo ∨ hi < x.toInt := by
  rcases Int.lt_or_le x.toInt lo with h | h
  · exact Or.inl h
  · rcases Int.lt_or_le hi x.toInt with g | g
    · exact Or.inr g
    · exfalso
      have hl : (x.toInt - lo).toNat < ks.length := by omega
      have e1 : (ks.map Int32.toInt)[(x.toInt - lo).toNat]? = some (ks[(x.toInt - lo).toNat].toInt) := by
        rw [List.getElem?_map, List.getElem?_eq_getElem hl]; rfl
      rw [h1, List.getElem?_map, List.getElem?_range hl] at e1
      have e2 : lo + (((x.toInt - lo).toNat : Nat) : Int) = ks[(x.toInt - lo).toNat].toInt := Option.some.inj e1
      have e3 : x.toInt = ks[(x.toInt - lo).toNat].toInt := by omega
      exact hne _ (List.getElem_mem hl) (Int32.toInt_inj.mp e3)
theorem q_obi : Cond.instanceMethod objectInit ∈ w_G := q_22
theorem q_obc : Cond.code objectInit ⟨#[0xb1]⟩ 1 none ∈ w_G := q_23
theorem q_mai : Cond.initialized "java/lang/Math" ∈ w_G := q_13
theorem q_mins : Cond.static (if true then Lib.Math.min.name else Lib.Math.max.name) ∈ w_G := q_359
theorem q_minc : Cond.code (if true then Lib.Math.min.name else Lib.Math.max.name) (if true then Lib.Math.min.code else Lib.Math.max.code) 2 (some .int) ∈ w_G := q_360
theorem q_maxs : Cond.static (if false then Lib.Math.min.name else Lib.Math.max.name) ∈ w_G := q_362
theorem q_maxc : Cond.code (if false then Lib.Math.min.name else Lib.Math.max.name) (if false then Lib.Math.min.code else Lib.Math.max.code) 2 (some .int) ∈ w_G := q_363
theorem q_cpn : Cond.native arraycopyName ∈ w_G := q_36
theorem q_cps : Cond.static arraycopyName ∈ w_G := q_35
theorem q_sys : Cond.initialized "java/lang/System" ∈ w_G := q_3
theorem tx_45_49_0 : TX RX4 45 49 0 := ⟨q_430, q_11, by decide +kernel, by decide +kernel, by decide +kernel, by decide +kernel, by decide +kernel⟩
theorem tx_58_62_1 : TX RX4 58 62 1 := ⟨q_499, q_12, by decide +kernel, by decide +kernel, by decide +kernel, by decide +kernel, by decide +kernel⟩
theorem tx_289_293_2 : TX RX4 289 293 2 := ⟨q_536, q_14, by decide +kernel, by decide +kernel, by decide +kernel, by decide +kernel, by decide +kernel⟩
theorem hy_X0_init : yX0_init.cls ≠ "java/lang/invoke/MethodHandle" ∧ yX0_init.cls ≠ "java/lang/invoke/VarHandle" ∧ (parseMethodDescriptor yX0_init.desc).map (fun d => d.parameters.length) = some 0 := by decide +kernel
theorem hy_X2_init : yX2_init.cls ≠ "java/lang/invoke/MethodHandle" ∧ yX2_init.cls ≠ "java/lang/invoke/VarHandle" ∧ (parseMethodDescriptor yX2_init.desc).map (fun d => d.parameters.length) = some 0 := by decide +kernel
theorem hy_X2_become : yX2_become.cls ≠ "java/lang/invoke/MethodHandle" ∧ yX2_become.cls ≠ "java/lang/invoke/VarHandle" ∧ (parseMethodDescriptor yX2_become.desc).map (fun d => d.parameters.length) = some 1 := by decide +kernel
theorem hy_X0_save : yX0_save.cls ≠ "java/lang/invoke/MethodHandle" ∧ yX0_save.cls ≠ "java/lang/invoke/VarHandle" ∧ (parseMethodDescriptor yX0_save.desc).map (fun d => d.parameters.length) = some 1 := by decide +kernel
theorem hy_X0_beforeNext : yX0_beforeNext.cls ≠ "java/lang/invoke/MethodHandle" ∧ yX0_beforeNext.cls ≠ "java/lang/invoke/VarHandle" ∧ (parseMethodDescriptor yX0_beforeNext.desc).map (fun d => d.parameters.length) = some 0 := by decide +kernel
theorem hy_X0_latest : yX0_latest.cls ≠ "java/lang/invoke/MethodHandle" ∧ yX0_latest.cls ≠ "java/lang/invoke/VarHandle" ∧ (parseMethodDescriptor yX0_latest.desc).map (fun d => d.parameters.length) = some 0 := by decide +kernel
theorem hy_X0_dropLatest : yX0_dropLatest.cls ≠ "java/lang/invoke/MethodHandle" ∧ yX0_dropLatest.cls ≠ "java/lang/invoke/VarHandle" ∧ (parseMethodDescriptor yX0_dropLatest.desc).map (fun d => d.parameters.length) = some 0 := by decide +kernel
theorem hy_X1_init : yX1_init.cls ≠ "java/lang/invoke/MethodHandle" ∧ yX1_init.cls ≠ "java/lang/invoke/VarHandle" ∧ (parseMethodDescriptor yX1_init.desc).map (fun d => d.parameters.length) = some 0 := by decide +kernel
theorem hy_X4_has : yX4_has.cls ≠ "java/lang/invoke/MethodHandle" ∧ yX4_has.cls ≠ "java/lang/invoke/VarHandle" ∧ (parseMethodDescriptor yX4_has.desc).map (fun d => d.parameters.length) = some 2 := by decide +kernel
theorem hy_X1_exchange : yX1_exchange.cls ≠ "java/lang/invoke/MethodHandle" ∧ yX1_exchange.cls ≠ "java/lang/invoke/VarHandle" ∧ (parseMethodDescriptor yX1_exchange.desc).map (fun d => d.parameters.length) = some 2 := by decide +kernel
theorem hy_X1_queueHeld : yX1_queueHeld.cls ≠ "java/lang/invoke/MethodHandle" ∧ yX1_queueHeld.cls ≠ "java/lang/invoke/VarHandle" ∧ (parseMethodDescriptor yX1_queueHeld.desc).map (fun d => d.parameters.length) = some 3 := by decide +kernel
theorem hy_X1_findWay : yX1_findWay.cls ≠ "java/lang/invoke/MethodHandle" ∧ yX1_findWay.cls ≠ "java/lang/invoke/VarHandle" ∧ (parseMethodDescriptor yX1_findWay.desc).map (fun d => d.parameters.length) = some 1 := by decide +kernel
theorem hy_X1_byWays : yX1_byWays.cls ≠ "java/lang/invoke/MethodHandle" ∧ yX1_byWays.cls ≠ "java/lang/invoke/VarHandle" ∧ (parseMethodDescriptor yX1_byWays.desc).map (fun d => d.parameters.length) = some 1 := by decide +kernel
theorem hy_X1_openPapers : yX1_openPapers.cls ≠ "java/lang/invoke/MethodHandle" ∧ yX1_openPapers.cls ≠ "java/lang/invoke/VarHandle" ∧ (parseMethodDescriptor yX1_openPapers.desc).map (fun d => d.parameters.length) = some 0 := by decide +kernel
theorem hy_J6_bitCount_0f7a4 : yJ6_bitCount_0f7a4.cls ≠ "java/lang/invoke/MethodHandle" ∧ yJ6_bitCount_0f7a4.cls ≠ "java/lang/invoke/VarHandle" ∧ (parseMethodDescriptor yJ6_bitCount_0f7a4.desc).map (fun d => d.parameters.length) = some 1 := by decide +kernel
theorem hy_X1_costOfCut : yX1_costOfCut.cls ≠ "java/lang/invoke/MethodHandle" ∧ yX1_costOfCut.cls ≠ "java/lang/invoke/VarHandle" ∧ (parseMethodDescriptor yX1_costOfCut.desc).map (fun d => d.parameters.length) = some 1 := by decide +kernel
theorem hy_X1_byCuts : yX1_byCuts.cls ≠ "java/lang/invoke/MethodHandle" ∧ yX1_byCuts.cls ≠ "java/lang/invoke/VarHandle" ∧ (parseMethodDescriptor yX1_byCuts.desc).map (fun d => d.parameters.length) = some 0 := by decide +kernel
theorem hy_X3_init : yX3_init.cls ≠ "java/lang/invoke/MethodHandle" ∧ yX3_init.cls ≠ "java/lang/invoke/VarHandle" ∧ (parseMethodDescriptor yX3_init.desc).map (fun d => d.parameters.length) = some 0 := by decide +kernel
theorem hy_X3_code : yX3_code.cls ≠ "java/lang/invoke/MethodHandle" ∧ yX3_code.cls ≠ "java/lang/invoke/VarHandle" ∧ (parseMethodDescriptor yX3_code.desc).map (fun d => d.parameters.length) = some 1 := by decide +kernel
theorem hy_X3_isDigit : yX3_isDigit.cls ≠ "java/lang/invoke/MethodHandle" ∧ yX3_isDigit.cls ≠ "java/lang/invoke/VarHandle" ∧ (parseMethodDescriptor yX3_isDigit.desc).map (fun d => d.parameters.length) = some 2 := by decide +kernel
theorem hy_X3_digit : yX3_digit.cls ≠ "java/lang/invoke/MethodHandle" ∧ yX3_digit.cls ≠ "java/lang/invoke/VarHandle" ∧ (parseMethodDescriptor yX3_digit.desc).map (fun d => d.parameters.length) = some 1 := by decide +kernel
theorem hy_X3_dueAfterLetter : yX3_dueAfterLetter.cls ≠ "java/lang/invoke/MethodHandle" ∧ yX3_dueAfterLetter.cls ≠ "java/lang/invoke/VarHandle" ∧ (parseMethodDescriptor yX3_dueAfterLetter.desc).map (fun d => d.parameters.length) = some 1 := by decide +kernel
theorem hy_X3_dueAfter : yX3_dueAfter.cls ≠ "java/lang/invoke/MethodHandle" ∧ yX3_dueAfter.cls ≠ "java/lang/invoke/VarHandle" ∧ (parseMethodDescriptor yX3_dueAfter.desc).map (fun d => d.parameters.length) = some 2 := by decide +kernel
theorem hy_X3_firstWrong : yX3_firstWrong.cls ≠ "java/lang/invoke/MethodHandle" ∧ yX3_firstWrong.cls ≠ "java/lang/invoke/VarHandle" ∧ (parseMethodDescriptor yX3_firstWrong.desc).map (fun d => d.parameters.length) = some 0 := by decide +kernel
theorem hy_X3_isWeek : yX3_isWeek.cls ≠ "java/lang/invoke/MethodHandle" ∧ yX3_isWeek.cls ≠ "java/lang/invoke/VarHandle" ∧ (parseMethodDescriptor yX3_isWeek.desc).map (fun d => d.parameters.length) = some 0 := by decide +kernel
theorem hy_X3_orderSize : yX3_orderSize.cls ≠ "java/lang/invoke/MethodHandle" ∧ yX3_orderSize.cls ≠ "java/lang/invoke/VarHandle" ∧ (parseMethodDescriptor yX3_orderSize.desc).map (fun d => d.parameters.length) = some 1 := by decide +kernel
theorem hy_X3_hashWithText : yX3_hashWithText.cls ≠ "java/lang/invoke/MethodHandle" ∧ yX3_hashWithText.cls ≠ "java/lang/invoke/VarHandle" ∧ (parseMethodDescriptor yX3_hashWithText.desc).map (fun d => d.parameters.length) = some 1 := by decide +kernel
theorem hy_X4_init : yX4_init.cls ≠ "java/lang/invoke/MethodHandle" ∧ yX4_init.cls ≠ "java/lang/invoke/VarHandle" ∧ (parseMethodDescriptor yX4_init.desc).map (fun d => d.parameters.length) = some 0 := by decide +kernel
theorem hy_X4_paper : yX4_paper.cls ≠ "java/lang/invoke/MethodHandle" ∧ yX4_paper.cls ≠ "java/lang/invoke/VarHandle" ∧ (parseMethodDescriptor yX4_paper.desc).map (fun d => d.parameters.length) = some 2 := by decide +kernel
theorem hy_X4_requirePerson : yX4_requirePerson.cls ≠ "java/lang/invoke/MethodHandle" ∧ yX4_requirePerson.cls ≠ "java/lang/invoke/VarHandle" ∧ (parseMethodDescriptor yX4_requirePerson.desc).map (fun d => d.parameters.length) = some 1 := by decide +kernel
theorem hy_X4_topics : yX4_topics.cls ≠ "java/lang/invoke/MethodHandle" ∧ yX4_topics.cls ≠ "java/lang/invoke/VarHandle" ∧ (parseMethodDescriptor yX4_topics.desc).map (fun d => d.parameters.length) = some 2 := by decide +kernel
theorem hy_X4_meet : yX4_meet.cls ≠ "java/lang/invoke/MethodHandle" ∧ yX4_meet.cls ≠ "java/lang/invoke/VarHandle" ∧ (parseMethodDescriptor yX4_meet.desc).map (fun d => d.parameters.length) = some 2 := by decide +kernel
theorem hy_X4_requireSetting : yX4_requireSetting.cls ≠ "java/lang/invoke/MethodHandle" ∧ yX4_requireSetting.cls ≠ "java/lang/invoke/VarHandle" ∧ (parseMethodDescriptor yX4_requireSetting.desc).map (fun d => d.parameters.length) = some 1 := by decide +kernel
theorem hy_X4_set : yX4_set.cls ≠ "java/lang/invoke/MethodHandle" ∧ yX4_set.cls ≠ "java/lang/invoke/VarHandle" ∧ (parseMethodDescriptor yX4_set.desc).map (fun d => d.parameters.length) = some 2 := by decide +kernel
theorem hy_X4_bring : yX4_bring.cls ≠ "java/lang/invoke/MethodHandle" ∧ yX4_bring.cls ≠ "java/lang/invoke/VarHandle" ∧ (parseMethodDescriptor yX4_bring.desc).map (fun d => d.parameters.length) = some 1 := by decide +kernel
theorem hy_X4_canWeekPass : yX4_canWeekPass.cls ≠ "java/lang/invoke/MethodHandle" ∧ yX4_canWeekPass.cls ≠ "java/lang/invoke/VarHandle" ∧ (parseMethodDescriptor yX4_canWeekPass.desc).map (fun d => d.parameters.length) = some 0 := by decide +kernel
theorem hy_X4_giveFromPool : yX4_giveFromPool.cls ≠ "java/lang/invoke/MethodHandle" ∧ yX4_giveFromPool.cls ≠ "java/lang/invoke/VarHandle" ∧ (parseMethodDescriptor yX4_giveFromPool.desc).map (fun d => d.parameters.length) = some 2 := by decide +kernel
theorem hy_X4_passWeek : yX4_passWeek.cls ≠ "java/lang/invoke/MethodHandle" ∧ yX4_passWeek.cls ≠ "java/lang/invoke/VarHandle" ∧ (parseMethodDescriptor yX4_passWeek.desc).map (fun d => d.parameters.length) = some 0 := by decide +kernel
theorem hy_X4_week : yX4_week.cls ≠ "java/lang/invoke/MethodHandle" ∧ yX4_week.cls ≠ "java/lang/invoke/VarHandle" ∧ (parseMethodDescriptor yX4_week.desc).map (fun d => d.parameters.length) = some 0 := by decide +kernel
theorem hy_X4_isPaper : yX4_isPaper.cls ≠ "java/lang/invoke/MethodHandle" ∧ yX4_isPaper.cls ≠ "java/lang/invoke/VarHandle" ∧ (parseMethodDescriptor yX4_isPaper.desc).map (fun d => d.parameters.length) = some 1 := by decide +kernel
theorem hy_X4_requirePaper : yX4_requirePaper.cls ≠ "java/lang/invoke/MethodHandle" ∧ yX4_requirePaper.cls ≠ "java/lang/invoke/VarHandle" ∧ (parseMethodDescriptor yX4_requirePaper.desc).map (fun d => d.parameters.length) = some 1 := by decide +kernel
theorem hy_X4_reviewersIn : yX4_reviewersIn.cls ≠ "java/lang/invoke/MethodHandle" ∧ yX4_reviewersIn.cls ≠ "java/lang/invoke/VarHandle" ∧ (parseMethodDescriptor yX4_reviewersIn.desc).map (fun d => d.parameters.length) = some 1 := by decide +kernel
theorem hy_X4_workedWithSome : yX4_workedWithSome.cls ≠ "java/lang/invoke/MethodHandle" ∧ yX4_workedWithSome.cls ≠ "java/lang/invoke/VarHandle" ∧ (parseMethodDescriptor yX4_workedWithSome.desc).map (fun d => d.parameters.length) = some 1 := by decide +kernel
theorem hy_X4_personsInConflict : yX4_personsInConflict.cls ≠ "java/lang/invoke/MethodHandle" ∧ yX4_personsInConflict.cls ≠ "java/lang/invoke/VarHandle" ∧ (parseMethodDescriptor yX4_personsInConflict.desc).map (fun d => d.parameters.length) = some 1 := by decide +kernel
theorem hy_X4_tokensOf : yX4_tokensOf.cls ≠ "java/lang/invoke/MethodHandle" ∧ yX4_tokensOf.cls ≠ "java/lang/invoke/VarHandle" ∧ (parseMethodDescriptor yX4_tokensOf.desc).map (fun d => d.parameters.length) = some 1 := by decide +kernel
theorem hy_X4_reasonAgainstTaking : yX4_reasonAgainstTaking.cls ≠ "java/lang/invoke/MethodHandle" ∧ yX4_reasonAgainstTaking.cls ≠ "java/lang/invoke/VarHandle" ∧ (parseMethodDescriptor yX4_reasonAgainstTaking.desc).map (fun d => d.parameters.length) = some 2 := by decide +kernel
theorem hy_X4_refuse : yX4_refuse.cls ≠ "java/lang/invoke/MethodHandle" ∧ yX4_refuse.cls ≠ "java/lang/invoke/VarHandle" ∧ (parseMethodDescriptor yX4_refuse.desc).map (fun d => d.parameters.length) = some 1 := by decide +kernel
theorem hy_X4_takeReview : yX4_takeReview.cls ≠ "java/lang/invoke/MethodHandle" ∧ yX4_takeReview.cls ≠ "java/lang/invoke/VarHandle" ∧ (parseMethodDescriptor yX4_takeReview.desc).map (fun d => d.parameters.length) = some 2 := by decide +kernel
theorem hy_X4_take : yX4_take.cls ≠ "java/lang/invoke/MethodHandle" ∧ yX4_take.cls ≠ "java/lang/invoke/VarHandle" ∧ (parseMethodDescriptor yX4_take.desc).map (fun d => d.parameters.length) = some 2 := by decide +kernel
theorem hy_X4_isScore : yX4_isScore.cls ≠ "java/lang/invoke/MethodHandle" ∧ yX4_isScore.cls ≠ "java/lang/invoke/VarHandle" ∧ (parseMethodDescriptor yX4_isScore.desc).map (fun d => d.parameters.length) = some 1 := by decide +kernel
theorem hy_X4_canWrite : yX4_canWrite.cls ≠ "java/lang/invoke/MethodHandle" ∧ yX4_canWrite.cls ≠ "java/lang/invoke/VarHandle" ∧ (parseMethodDescriptor yX4_canWrite.desc).map (fun d => d.parameters.length) = some 2 := by decide +kernel
theorem hy_X4_writersIn : yX4_writersIn.cls ≠ "java/lang/invoke/MethodHandle" ∧ yX4_writersIn.cls ≠ "java/lang/invoke/VarHandle" ∧ (parseMethodDescriptor yX4_writersIn.desc).map (fun d => d.parameters.length) = some 1 := by decide +kernel
theorem hy_X4_writeReview : yX4_writeReview.cls ≠ "java/lang/invoke/MethodHandle" ∧ yX4_writeReview.cls ≠ "java/lang/invoke/VarHandle" ∧ (parseMethodDescriptor yX4_writeReview.desc).map (fun d => d.parameters.length) = some 3 := by decide +kernel
theorem hy_X4_write : yX4_write.cls ≠ "java/lang/invoke/MethodHandle" ∧ yX4_write.cls ≠ "java/lang/invoke/VarHandle" ∧ (parseMethodDescriptor yX4_write.desc).map (fun d => d.parameters.length) = some 3 := by decide +kernel
theorem hy_X4_canDrop : yX4_canDrop.cls ≠ "java/lang/invoke/MethodHandle" ∧ yX4_canDrop.cls ≠ "java/lang/invoke/VarHandle" ∧ (parseMethodDescriptor yX4_canDrop.desc).map (fun d => d.parameters.length) = some 2 := by decide +kernel
theorem hy_X4_dropReview : yX4_dropReview.cls ≠ "java/lang/invoke/MethodHandle" ∧ yX4_dropReview.cls ≠ "java/lang/invoke/VarHandle" ∧ (parseMethodDescriptor yX4_dropReview.desc).map (fun d => d.parameters.length) = some 2 := by decide +kernel
theorem hy_X4_drop : yX4_drop.cls ≠ "java/lang/invoke/MethodHandle" ∧ yX4_drop.cls ≠ "java/lang/invoke/VarHandle" ∧ (parseMethodDescriptor yX4_drop.desc).map (fun d => d.parameters.length) = some 2 := by decide +kernel
theorem hy_X4_reasonAgainstDiscussion : yX4_reasonAgainstDiscussion.cls ≠ "java/lang/invoke/MethodHandle" ∧ yX4_reasonAgainstDiscussion.cls ≠ "java/lang/invoke/VarHandle" ∧ (parseMethodDescriptor yX4_reasonAgainstDiscussion.desc).map (fun d => d.parameters.length) = some 1 := by decide +kernel
theorem hy_X4_sumIn : yX4_sumIn.cls ≠ "java/lang/invoke/MethodHandle" ∧ yX4_sumIn.cls ≠ "java/lang/invoke/VarHandle" ∧ (parseMethodDescriptor yX4_sumIn.desc).map (fun d => d.parameters.length) = some 1 := by decide +kernel
theorem hy_X4_bringNearer : yX4_bringNearer.cls ≠ "java/lang/invoke/MethodHandle" ∧ yX4_bringNearer.cls ≠ "java/lang/invoke/VarHandle" ∧ (parseMethodDescriptor yX4_bringNearer.desc).map (fun d => d.parameters.length) = some 1 := by decide +kernel
theorem hy_X4_discussPaper : yX4_discussPaper.cls ≠ "java/lang/invoke/MethodHandle" ∧ yX4_discussPaper.cls ≠ "java/lang/invoke/VarHandle" ∧ (parseMethodDescriptor yX4_discussPaper.desc).map (fun d => d.parameters.length) = some 1 := by decide +kernel
theorem hy_X4_discuss : yX4_discuss.cls ≠ "java/lang/invoke/MethodHandle" ∧ yX4_discuss.cls ≠ "java/lang/invoke/VarHandle" ∧ (parseMethodDescriptor yX4_discuss.desc).map (fun d => d.parameters.length) = some 1 := by decide +kernel
theorem hy_X4_reasonAgainstRebuttal : yX4_reasonAgainstRebuttal.cls ≠ "java/lang/invoke/MethodHandle" ∧ yX4_reasonAgainstRebuttal.cls ≠ "java/lang/invoke/VarHandle" ∧ (parseMethodDescriptor yX4_reasonAgainstRebuttal.desc).map (fun d => d.parameters.length) = some 1 := by decide +kernel
theorem hy_X4_raiseLeast : yX4_raiseLeast.cls ≠ "java/lang/invoke/MethodHandle" ∧ yX4_raiseLeast.cls ≠ "java/lang/invoke/VarHandle" ∧ (parseMethodDescriptor yX4_raiseLeast.desc).map (fun d => d.parameters.length) = some 2 := by decide +kernel
theorem hy_X4_giveCredit : yX4_giveCredit.cls ≠ "java/lang/invoke/MethodHandle" ∧ yX4_giveCredit.cls ≠ "java/lang/invoke/VarHandle" ∧ (parseMethodDescriptor yX4_giveCredit.desc).map (fun d => d.parameters.length) = some 1 := by decide +kernel
theorem hy_X4_rebutPaper : yX4_rebutPaper.cls ≠ "java/lang/invoke/MethodHandle" ∧ yX4_rebutPaper.cls ≠ "java/lang/invoke/VarHandle" ∧ (parseMethodDescriptor yX4_rebutPaper.desc).map (fun d => d.parameters.length) = some 1 := by decide +kernel
theorem hy_X4_rebut : yX4_rebut.cls ≠ "java/lang/invoke/MethodHandle" ∧ yX4_rebut.cls ≠ "java/lang/invoke/VarHandle" ∧ (parseMethodDescriptor yX4_rebut.desc).map (fun d => d.parameters.length) = some 1 := by decide +kernel
theorem hy_X4_canDecide : yX4_canDecide.cls ≠ "java/lang/invoke/MethodHandle" ∧ yX4_canDecide.cls ≠ "java/lang/invoke/VarHandle" ∧ (parseMethodDescriptor yX4_canDecide.desc).map (fun d => d.parameters.length) = some 1 := by decide +kernel
theorem hy_X4_decide : yX4_decide.cls ≠ "java/lang/invoke/MethodHandle" ∧ yX4_decide.cls ≠ "java/lang/invoke/VarHandle" ∧ (parseMethodDescriptor yX4_decide.desc).map (fun d => d.parameters.length) = some 1 := by decide +kernel
theorem hy_X4_append : yX4_append.cls ≠ "java/lang/invoke/MethodHandle" ∧ yX4_append.cls ≠ "java/lang/invoke/VarHandle" ∧ (parseMethodDescriptor yX4_append.desc).map (fun d => d.parameters.length) = some 1 := by decide +kernel
theorem hy_X4_clearBuffer : yX4_clearBuffer.cls ≠ "java/lang/invoke/MethodHandle" ∧ yX4_clearBuffer.cls ≠ "java/lang/invoke/VarHandle" ∧ (parseMethodDescriptor yX4_clearBuffer.desc).map (fun d => d.parameters.length) = some 0 := by decide +kernel
theorem hy_X4_firstError : yX4_firstError.cls ≠ "java/lang/invoke/MethodHandle" ∧ yX4_firstError.cls ≠ "java/lang/invoke/VarHandle" ∧ (parseMethodDescriptor yX4_firstError.desc).map (fun d => d.parameters.length) = some 0 := by decide +kernel
theorem hy_X4_doOrder : yX4_doOrder.cls ≠ "java/lang/invoke/MethodHandle" ∧ yX4_doOrder.cls ≠ "java/lang/invoke/VarHandle" ∧ (parseMethodDescriptor yX4_doOrder.desc).map (fun d => d.parameters.length) = some 1 := by decide +kernel
theorem hy_X4_doOrders : yX4_doOrders.cls ≠ "java/lang/invoke/MethodHandle" ∧ yX4_doOrders.cls ≠ "java/lang/invoke/VarHandle" ∧ (parseMethodDescriptor yX4_doOrders.desc).map (fun d => d.parameters.length) = some 0 := by decide +kernel
theorem hy_X4_run : yX4_run.cls ≠ "java/lang/invoke/MethodHandle" ∧ yX4_run.cls ≠ "java/lang/invoke/VarHandle" ∧ (parseMethodDescriptor yX4_run.desc).map (fun d => d.parameters.length) = some 0 := by decide +kernel
theorem hy_X4_requireSlot : yX4_requireSlot.cls ≠ "java/lang/invoke/MethodHandle" ∧ yX4_requireSlot.cls ≠ "java/lang/invoke/VarHandle" ∧ (parseMethodDescriptor yX4_requireSlot.desc).map (fun d => d.parameters.length) = some 1 := by decide +kernel
theorem hy_X4_keep : yX4_keep.cls ≠ "java/lang/invoke/MethodHandle" ∧ yX4_keep.cls ≠ "java/lang/invoke/VarHandle" ∧ (parseMethodDescriptor yX4_keep.desc).map (fun d => d.parameters.length) = some 1 := by decide +kernel
theorem hy_X4_goBack : yX4_goBack.cls ≠ "java/lang/invoke/MethodHandle" ∧ yX4_goBack.cls ≠ "java/lang/invoke/VarHandle" ∧ (parseMethodDescriptor yX4_goBack.desc).map (fun d => d.parameters.length) = some 1 := by decide +kernel
theorem hy_X4_undo : yX4_undo.cls ≠ "java/lang/invoke/MethodHandle" ∧ yX4_undo.cls ≠ "java/lang/invoke/VarHandle" ∧ (parseMethodDescriptor yX4_undo.desc).map (fun d => d.parameters.length) = some 0 := by decide +kernel
theorem hy_X4_loadOf : yX4_loadOf.cls ≠ "java/lang/invoke/MethodHandle" ∧ yX4_loadOf.cls ≠ "java/lang/invoke/VarHandle" ∧ (parseMethodDescriptor yX4_loadOf.desc).map (fun d => d.parameters.length) = some 1 := by decide +kernel
theorem hy_X4_writtenBy : yX4_writtenBy.cls ≠ "java/lang/invoke/MethodHandle" ∧ yX4_writtenBy.cls ≠ "java/lang/invoke/VarHandle" ∧ (parseMethodDescriptor yX4_writtenBy.desc).map (fun d => d.parameters.length) = some 1 := by decide +kernel
theorem hy_X4_papersInConflict : yX4_papersInConflict.cls ≠ "java/lang/invoke/MethodHandle" ∧ yX4_papersInConflict.cls ≠ "java/lang/invoke/VarHandle" ∧ (parseMethodDescriptor yX4_papersInConflict.desc).map (fun d => d.parameters.length) = some 1 := by decide +kernel
theorem hy_X4_personProperty : yX4_personProperty.cls ≠ "java/lang/invoke/MethodHandle" ∧ yX4_personProperty.cls ≠ "java/lang/invoke/VarHandle" ∧ (parseMethodDescriptor yX4_personProperty.desc).map (fun d => d.parameters.length) = some 2 := by decide +kernel
theorem hy_X4_personOf : yX4_personOf.cls ≠ "java/lang/invoke/MethodHandle" ∧ yX4_personOf.cls ≠ "java/lang/invoke/VarHandle" ∧ (parseMethodDescriptor yX4_personOf.desc).map (fun d => d.parameters.length) = some 2 := by decide +kernel
theorem hy_X4_spreadIn : yX4_spreadIn.cls ≠ "java/lang/invoke/MethodHandle" ∧ yX4_spreadIn.cls ≠ "java/lang/invoke/VarHandle" ∧ (parseMethodDescriptor yX4_spreadIn.desc).map (fun d => d.parameters.length) = some 1 := by decide +kernel
theorem hy_X4_paperProperty : yX4_paperProperty.cls ≠ "java/lang/invoke/MethodHandle" ∧ yX4_paperProperty.cls ≠ "java/lang/invoke/VarHandle" ∧ (parseMethodDescriptor yX4_paperProperty.desc).map (fun d => d.parameters.length) = some 2 := by decide +kernel
theorem hy_X4_paperOf : yX4_paperOf.cls ≠ "java/lang/invoke/MethodHandle" ∧ yX4_paperOf.cls ≠ "java/lang/invoke/VarHandle" ∧ (parseMethodDescriptor yX4_paperOf.desc).map (fun d => d.parameters.length) = some 2 := by decide +kernel
theorem hy_X4_score : yX4_score.cls ≠ "java/lang/invoke/MethodHandle" ∧ yX4_score.cls ≠ "java/lang/invoke/VarHandle" ∧ (parseMethodDescriptor yX4_score.desc).map (fun d => d.parameters.length) = some 2 := by decide +kernel
theorem hy_X4_allSpent : yX4_allSpent.cls ≠ "java/lang/invoke/MethodHandle" ∧ yX4_allSpent.cls ≠ "java/lang/invoke/VarHandle" ∧ (parseMethodDescriptor yX4_allSpent.desc).map (fun d => d.parameters.length) = some 0 := by decide +kernel
theorem hy_X4_allTokens : yX4_allTokens.cls ≠ "java/lang/invoke/MethodHandle" ∧ yX4_allTokens.cls ≠ "java/lang/invoke/VarHandle" ∧ (parseMethodDescriptor yX4_allTokens.desc).map (fun d => d.parameters.length) = some 0 := by decide +kernel
theorem hy_X4_allReviews : yX4_allReviews.cls ≠ "java/lang/invoke/MethodHandle" ∧ yX4_allReviews.cls ≠ "java/lang/invoke/VarHandle" ∧ (parseMethodDescriptor yX4_allReviews.desc).map (fun d => d.parameters.length) = some 0 := by decide +kernel
theorem hy_X4_allWritten : yX4_allWritten.cls ≠ "java/lang/invoke/MethodHandle" ∧ yX4_allWritten.cls ≠ "java/lang/invoke/VarHandle" ∧ (parseMethodDescriptor yX4_allWritten.desc).map (fun d => d.parameters.length) = some 0 := by decide +kernel
theorem hy_X4_decidedPapers : yX4_decidedPapers.cls ≠ "java/lang/invoke/MethodHandle" ∧ yX4_decidedPapers.cls ≠ "java/lang/invoke/VarHandle" ∧ (parseMethodDescriptor yX4_decidedPapers.desc).map (fun d => d.parameters.length) = some 0 := by decide +kernel
theorem hy_X4_pairsWorked : yX4_pairsWorked.cls ≠ "java/lang/invoke/MethodHandle" ∧ yX4_pairsWorked.cls ≠ "java/lang/invoke/VarHandle" ∧ (parseMethodDescriptor yX4_pairsWorked.desc).map (fun d => d.parameters.length) = some 0 := by decide +kernel
theorem hy_X4_number : yX4_number.cls ≠ "java/lang/invoke/MethodHandle" ∧ yX4_number.cls ≠ "java/lang/invoke/VarHandle" ∧ (parseMethodDescriptor yX4_number.desc).map (fun d => d.parameters.length) = some 1 := by decide +kernel
theorem hy_X4_count : yX4_count.cls ≠ "java/lang/invoke/MethodHandle" ∧ yX4_count.cls ≠ "java/lang/invoke/VarHandle" ∧ (parseMethodDescriptor yX4_count.desc).map (fun d => d.parameters.length) = some 1 := by decide +kernel
theorem hy_X4_setting : yX4_setting.cls ≠ "java/lang/invoke/MethodHandle" ∧ yX4_setting.cls ≠ "java/lang/invoke/VarHandle" ∧ (parseMethodDescriptor yX4_setting.desc).map (fun d => d.parameters.length) = some 1 := by decide +kernel
theorem hy_X4_whyNot : yX4_whyNot.cls ≠ "java/lang/invoke/MethodHandle" ∧ yX4_whyNot.cls ≠ "java/lang/invoke/VarHandle" ∧ (parseMethodDescriptor yX4_whyNot.desc).map (fun d => d.parameters.length) = some 2 := by decide +kernel
theorem hy_X4_bestPersonFor : yX4_bestPersonFor.cls ≠ "java/lang/invoke/MethodHandle" ∧ yX4_bestPersonFor.cls ≠ "java/lang/invoke/VarHandle" ∧ (parseMethodDescriptor yX4_bestPersonFor.desc).map (fun d => d.parameters.length) = some 1 := by decide +kernel
theorem hy_X4_bestReviewer : yX4_bestReviewer.cls ≠ "java/lang/invoke/MethodHandle" ∧ yX4_bestReviewer.cls ≠ "java/lang/invoke/VarHandle" ∧ (parseMethodDescriptor yX4_bestReviewer.desc).map (fun d => d.parameters.length) = some 1 := by decide +kernel
theorem hy_X4_readFitting : yX4_readFitting.cls ≠ "java/lang/invoke/MethodHandle" ∧ yX4_readFitting.cls ≠ "java/lang/invoke/VarHandle" ∧ (parseMethodDescriptor yX4_readFitting.desc).map (fun d => d.parameters.length) = some 2 := by decide +kernel
theorem hy_X4_readMatching : yX4_readMatching.cls ≠ "java/lang/invoke/MethodHandle" ∧ yX4_readMatching.cls ≠ "java/lang/invoke/VarHandle" ∧ (parseMethodDescriptor yX4_readMatching.desc).map (fun d => d.parameters.length) = some 0 := by decide +kernel
theorem hy_X4_most : yX4_most.cls ≠ "java/lang/invoke/MethodHandle" ∧ yX4_most.cls ≠ "java/lang/invoke/VarHandle" ∧ (parseMethodDescriptor yX4_most.desc).map (fun d => d.parameters.length) = some 1 := by decide +kernel
theorem hy_X4_neededPerson : yX4_neededPerson.cls ≠ "java/lang/invoke/MethodHandle" ∧ yX4_neededPerson.cls ≠ "java/lang/invoke/VarHandle" ∧ (parseMethodDescriptor yX4_neededPerson.desc).map (fun d => d.parameters.length) = some 0 := by decide +kernel
theorem hy_X4_needed : yX4_needed.cls ≠ "java/lang/invoke/MethodHandle" ∧ yX4_needed.cls ≠ "java/lang/invoke/VarHandle" ∧ (parseMethodDescriptor yX4_needed.desc).map (fun d => d.parameters.length) = some 0 := by decide +kernel
theorem hy_X4_roundsFor : yX4_roundsFor.cls ≠ "java/lang/invoke/MethodHandle" ∧ yX4_roundsFor.cls ≠ "java/lang/invoke/VarHandle" ∧ (parseMethodDescriptor yX4_roundsFor.desc).map (fun d => d.parameters.length) = some 1 := by decide +kernel
theorem hy_X4_roundsToAgree : yX4_roundsToAgree.cls ≠ "java/lang/invoke/MethodHandle" ∧ yX4_roundsToAgree.cls ≠ "java/lang/invoke/VarHandle" ∧ (parseMethodDescriptor yX4_roundsToAgree.desc).map (fun d => d.parameters.length) = some 1 := by decide +kernel
theorem hy_X4_meanIn : yX4_meanIn.cls ≠ "java/lang/invoke/MethodHandle" ∧ yX4_meanIn.cls ≠ "java/lang/invoke/VarHandle" ∧ (parseMethodDescriptor yX4_meanIn.desc).map (fun d => d.parameters.length) = some 1 := by decide +kernel
theorem hy_X4_meanScore : yX4_meanScore.cls ≠ "java/lang/invoke/MethodHandle" ∧ yX4_meanScore.cls ≠ "java/lang/invoke/VarHandle" ∧ (parseMethodDescriptor yX4_meanScore.desc).map (fun d => d.parameters.length) = some 1 := by decide +kernel
theorem hy_X4_shareOfSpent : yX4_shareOfSpent.cls ≠ "java/lang/invoke/MethodHandle" ∧ yX4_shareOfSpent.cls ≠ "java/lang/invoke/VarHandle" ∧ (parseMethodDescriptor yX4_shareOfSpent.desc).map (fun d => d.parameters.length) = some 0 := by decide +kernel
theorem hy_X4_spentShare : yX4_spentShare.cls ≠ "java/lang/invoke/MethodHandle" ∧ yX4_spentShare.cls ≠ "java/lang/invoke/VarHandle" ∧ (parseMethodDescriptor yX4_spentShare.desc).map (fun d => d.parameters.length) = some 0 := by decide +kernel
theorem hy_X4_doubleBits : yX4_doubleBits.cls ≠ "java/lang/invoke/MethodHandle" ∧ yX4_doubleBits.cls ≠ "java/lang/invoke/VarHandle" ∧ (parseMethodDescriptor yX4_doubleBits.desc).map (fun d => d.parameters.length) = some 1 := by decide +kernel
theorem hy_X4_hashWithPaper : yX4_hashWithPaper.cls ≠ "java/lang/invoke/MethodHandle" ∧ yX4_hashWithPaper.cls ≠ "java/lang/invoke/VarHandle" ∧ (parseMethodDescriptor yX4_hashWithPaper.desc).map (fun d => d.parameters.length) = some 2 := by decide +kernel
theorem hy_X4_floatBits : yX4_floatBits.cls ≠ "java/lang/invoke/MethodHandle" ∧ yX4_floatBits.cls ≠ "java/lang/invoke/VarHandle" ∧ (parseMethodDescriptor yX4_floatBits.desc).map (fun d => d.parameters.length) = some 1 := by decide +kernel
theorem hy_X4_digest : yX4_digest.cls ≠ "java/lang/invoke/MethodHandle" ∧ yX4_digest.cls ≠ "java/lang/invoke/VarHandle" ∧ (parseMethodDescriptor yX4_digest.desc).map (fun d => d.parameters.length) = some 0 := by decide +kernel
theorem hy_X5_init : yX5_init.cls ≠ "java/lang/invoke/MethodHandle" ∧ yX5_init.cls ≠ "java/lang/invoke/VarHandle" ∧ (parseMethodDescriptor yX5_init.desc).map (fun d => d.parameters.length) = some 0 := by decide +kernel
theorem hy_X5_thrown : yX5_thrown.cls ≠ "java/lang/invoke/MethodHandle" ∧ yX5_thrown.cls ≠ "java/lang/invoke/VarHandle" ∧ (parseMethodDescriptor yX5_thrown.desc).map (fun d => d.parameters.length) = some 0 := by decide +kernel
theorem hy_X5_in : yX5_in.cls ≠ "java/lang/invoke/MethodHandle" ∧ yX5_in.cls ≠ "java/lang/invoke/VarHandle" ∧ (parseMethodDescriptor yX5_in.desc).map (fun d => d.parameters.length) = some 3 := by decide +kernel
theorem hy_X5_holds : yX5_holds.cls ≠ "java/lang/invoke/MethodHandle" ∧ yX5_holds.cls ≠ "java/lang/invoke/VarHandle" ∧ (parseMethodDescriptor yX5_holds.desc).map (fun d => d.parameters.length) = some 1 := by decide +kernel
theorem hy_X5_has : yX5_has.cls ≠ "java/lang/invoke/MethodHandle" ∧ yX5_has.cls ≠ "java/lang/invoke/VarHandle" ∧ (parseMethodDescriptor yX5_has.desc).map (fun d => d.parameters.length) = some 2 := by decide +kernel
theorem hy_X5_ones : yX5_ones.cls ≠ "java/lang/invoke/MethodHandle" ∧ yX5_ones.cls ≠ "java/lang/invoke/VarHandle" ∧ (parseMethodDescriptor yX5_ones.desc).map (fun d => d.parameters.length) = some 1 := by decide +kernel
theorem hy_X5_isPerson : yX5_isPerson.cls ≠ "java/lang/invoke/MethodHandle" ∧ yX5_isPerson.cls ≠ "java/lang/invoke/VarHandle" ∧ (parseMethodDescriptor yX5_isPerson.desc).map (fun d => d.parameters.length) = some 1 := by decide +kernel
theorem hy_X5_isPaper : yX5_isPaper.cls ≠ "java/lang/invoke/MethodHandle" ∧ yX5_isPaper.cls ≠ "java/lang/invoke/VarHandle" ∧ (parseMethodDescriptor yX5_isPaper.desc).map (fun d => d.parameters.length) = some 1 := by decide +kernel
theorem hy_X5_of : yX5_of.cls ≠ "java/lang/invoke/MethodHandle" ∧ yX5_of.cls ≠ "java/lang/invoke/VarHandle" ∧ (parseMethodDescriptor yX5_of.desc).map (fun d => d.parameters.length) = some 2 := by decide +kernel
theorem hy_X5_lay : yX5_lay.cls ≠ "java/lang/invoke/MethodHandle" ∧ yX5_lay.cls ≠ "java/lang/invoke/VarHandle" ∧ (parseMethodDescriptor yX5_lay.desc).map (fun d => d.parameters.length) = some 3 := by decide +kernel
theorem hy_X5_scoreOf : yX5_scoreOf.cls ≠ "java/lang/invoke/MethodHandle" ∧ yX5_scoreOf.cls ≠ "java/lang/invoke/VarHandle" ∧ (parseMethodDescriptor yX5_scoreOf.desc).map (fun d => d.parameters.length) = some 2 := by decide +kernel
theorem hy_X5_isWritten : yX5_isWritten.cls ≠ "java/lang/invoke/MethodHandle" ∧ yX5_isWritten.cls ≠ "java/lang/invoke/VarHandle" ∧ (parseMethodDescriptor yX5_isWritten.desc).map (fun d => d.parameters.length) = some 2 := by decide +kernel
theorem hy_X5_reviewers : yX5_reviewers.cls ≠ "java/lang/invoke/MethodHandle" ∧ yX5_reviewers.cls ≠ "java/lang/invoke/VarHandle" ∧ (parseMethodDescriptor yX5_reviewers.desc).map (fun d => d.parameters.length) = some 2 := by decide +kernel
theorem hy_X5_sumOf : yX5_sumOf.cls ≠ "java/lang/invoke/MethodHandle" ∧ yX5_sumOf.cls ≠ "java/lang/invoke/VarHandle" ∧ (parseMethodDescriptor yX5_sumOf.desc).map (fun d => d.parameters.length) = some 1 := by decide +kernel
theorem hy_X5_around : yX5_around.cls ≠ "java/lang/invoke/MethodHandle" ∧ yX5_around.cls ≠ "java/lang/invoke/VarHandle" ∧ (parseMethodDescriptor yX5_around.desc).map (fun d => d.parameters.length) = some 1 := by decide +kernel
theorem hy_X5_isInConflict : yX5_isInConflict.cls ≠ "java/lang/invoke/MethodHandle" ∧ yX5_isInConflict.cls ≠ "java/lang/invoke/VarHandle" ∧ (parseMethodDescriptor yX5_isInConflict.desc).map (fun d => d.parameters.length) = some 2 := by decide +kernel
theorem hy_X5_pays : yX5_pays.cls ≠ "java/lang/invoke/MethodHandle" ∧ yX5_pays.cls ≠ "java/lang/invoke/VarHandle" ∧ (parseMethodDescriptor yX5_pays.desc).map (fun d => d.parameters.length) = some 2 := by decide +kernel
theorem hy_X5_gets : yX5_gets.cls ≠ "java/lang/invoke/MethodHandle" ∧ yX5_gets.cls ≠ "java/lang/invoke/VarHandle" ∧ (parseMethodDescriptor yX5_gets.desc).map (fun d => d.parameters.length) = some 2 := by decide +kernel
theorem hy_X5_copies : yX5_copies.cls ≠ "java/lang/invoke/MethodHandle" ∧ yX5_copies.cls ≠ "java/lang/invoke/VarHandle" ∧ (parseMethodDescriptor yX5_copies.desc).map (fun d => d.parameters.length) = some 2 := by decide +kernel
theorem hy_X5_save : yX5_save.cls ≠ "java/lang/invoke/MethodHandle" ∧ yX5_save.cls ≠ "java/lang/invoke/VarHandle" ∧ (parseMethodDescriptor yX5_save.desc).map (fun d => d.parameters.length) = some 0 := by decide +kernel
theorem hy_X5_paper : yX5_paper.cls ≠ "java/lang/invoke/MethodHandle" ∧ yX5_paper.cls ≠ "java/lang/invoke/VarHandle" ∧ (parseMethodDescriptor yX5_paper.desc).map (fun d => d.parameters.length) = some 2 := by decide +kernel
theorem hy_X5_topics : yX5_topics.cls ≠ "java/lang/invoke/MethodHandle" ∧ yX5_topics.cls ≠ "java/lang/invoke/VarHandle" ∧ (parseMethodDescriptor yX5_topics.desc).map (fun d => d.parameters.length) = some 2 := by decide +kernel
theorem hy_X5_meet : yX5_meet.cls ≠ "java/lang/invoke/MethodHandle" ∧ yX5_meet.cls ≠ "java/lang/invoke/VarHandle" ∧ (parseMethodDescriptor yX5_meet.desc).map (fun d => d.parameters.length) = some 2 := by decide +kernel
theorem hy_X5_mostOf : yX5_mostOf.cls ≠ "java/lang/invoke/MethodHandle" ∧ yX5_mostOf.cls ≠ "java/lang/invoke/VarHandle" ∧ (parseMethodDescriptor yX5_mostOf.desc).map (fun d => d.parameters.length) = some 1 := by decide +kernel
theorem hy_X5_set : yX5_set.cls ≠ "java/lang/invoke/MethodHandle" ∧ yX5_set.cls ≠ "java/lang/invoke/VarHandle" ∧ (parseMethodDescriptor yX5_set.desc).map (fun d => d.parameters.length) = some 2 := by decide +kernel
theorem hy_X5_bring : yX5_bring.cls ≠ "java/lang/invoke/MethodHandle" ∧ yX5_bring.cls ≠ "java/lang/invoke/VarHandle" ∧ (parseMethodDescriptor yX5_bring.desc).map (fun d => d.parameters.length) = some 1 := by decide +kernel
theorem hy_X5_weekGoes : yX5_weekGoes.cls ≠ "java/lang/invoke/MethodHandle" ∧ yX5_weekGoes.cls ≠ "java/lang/invoke/VarHandle" ∧ (parseMethodDescriptor yX5_weekGoes.desc).map (fun d => d.parameters.length) = some 0 := by decide +kernel
theorem hy_X5_week : yX5_week.cls ≠ "java/lang/invoke/MethodHandle" ∧ yX5_week.cls ≠ "java/lang/invoke/VarHandle" ∧ (parseMethodDescriptor yX5_week.desc).map (fun d => d.parameters.length) = some 0 := by decide +kernel
theorem hy_X5_reasonFor : yX5_reasonFor.cls ≠ "java/lang/invoke/MethodHandle" ∧ yX5_reasonFor.cls ≠ "java/lang/invoke/VarHandle" ∧ (parseMethodDescriptor yX5_reasonFor.desc).map (fun d => d.parameters.length) = some 2 := by decide +kernel
theorem hy_X5_takes : yX5_takes.cls ≠ "java/lang/invoke/MethodHandle" ∧ yX5_takes.cls ≠ "java/lang/invoke/VarHandle" ∧ (parseMethodDescriptor yX5_takes.desc).map (fun d => d.parameters.length) = some 2 := by decide +kernel
theorem hy_X5_take : yX5_take.cls ≠ "java/lang/invoke/MethodHandle" ∧ yX5_take.cls ≠ "java/lang/invoke/VarHandle" ∧ (parseMethodDescriptor yX5_take.desc).map (fun d => d.parameters.length) = some 2 := by decide +kernel
theorem hy_X5_canWrite : yX5_canWrite.cls ≠ "java/lang/invoke/MethodHandle" ∧ yX5_canWrite.cls ≠ "java/lang/invoke/VarHandle" ∧ (parseMethodDescriptor yX5_canWrite.desc).map (fun d => d.parameters.length) = some 2 := by decide +kernel
theorem hy_X5_write : yX5_write.cls ≠ "java/lang/invoke/MethodHandle" ∧ yX5_write.cls ≠ "java/lang/invoke/VarHandle" ∧ (parseMethodDescriptor yX5_write.desc).map (fun d => d.parameters.length) = some 3 := by decide +kernel
theorem hy_X5_drops : yX5_drops.cls ≠ "java/lang/invoke/MethodHandle" ∧ yX5_drops.cls ≠ "java/lang/invoke/VarHandle" ∧ (parseMethodDescriptor yX5_drops.desc).map (fun d => d.parameters.length) = some 2 := by decide +kernel
theorem hy_X5_drop : yX5_drop.cls ≠ "java/lang/invoke/MethodHandle" ∧ yX5_drop.cls ≠ "java/lang/invoke/VarHandle" ∧ (parseMethodDescriptor yX5_drop.desc).map (fun d => d.parameters.length) = some 2 := by decide +kernel
theorem hy_X5_reasonAgainstTalk : yX5_reasonAgainstTalk.cls ≠ "java/lang/invoke/MethodHandle" ∧ yX5_reasonAgainstTalk.cls ≠ "java/lang/invoke/VarHandle" ∧ (parseMethodDescriptor yX5_reasonAgainstTalk.desc).map (fun d => d.parameters.length) = some 1 := by decide +kernel
theorem hy_X5_discusses : yX5_discusses.cls ≠ "java/lang/invoke/MethodHandle" ∧ yX5_discusses.cls ≠ "java/lang/invoke/VarHandle" ∧ (parseMethodDescriptor yX5_discusses.desc).map (fun d => d.parameters.length) = some 1 := by decide +kernel
theorem hy_X5_discuss : yX5_discuss.cls ≠ "java/lang/invoke/MethodHandle" ∧ yX5_discuss.cls ≠ "java/lang/invoke/VarHandle" ∧ (parseMethodDescriptor yX5_discuss.desc).map (fun d => d.parameters.length) = some 1 := by decide +kernel
theorem hy_X5_lowestScorer : yX5_lowestScorer.cls ≠ "java/lang/invoke/MethodHandle" ∧ yX5_lowestScorer.cls ≠ "java/lang/invoke/VarHandle" ∧ (parseMethodDescriptor yX5_lowestScorer.desc).map (fun d => d.parameters.length) = some 1 := by decide +kernel
theorem hy_X5_rebuts : yX5_rebuts.cls ≠ "java/lang/invoke/MethodHandle" ∧ yX5_rebuts.cls ≠ "java/lang/invoke/VarHandle" ∧ (parseMethodDescriptor yX5_rebuts.desc).map (fun d => d.parameters.length) = some 1 := by decide +kernel
theorem hy_X5_rebut : yX5_rebut.cls ≠ "java/lang/invoke/MethodHandle" ∧ yX5_rebut.cls ≠ "java/lang/invoke/VarHandle" ∧ (parseMethodDescriptor yX5_rebut.desc).map (fun d => d.parameters.length) = some 1 := by decide +kernel
theorem hy_X5_canDecide : yX5_canDecide.cls ≠ "java/lang/invoke/MethodHandle" ∧ yX5_canDecide.cls ≠ "java/lang/invoke/VarHandle" ∧ (parseMethodDescriptor yX5_canDecide.desc).map (fun d => d.parameters.length) = some 1 := by decide +kernel
theorem hy_X5_decide : yX5_decide.cls ≠ "java/lang/invoke/MethodHandle" ∧ yX5_decide.cls ≠ "java/lang/invoke/VarHandle" ∧ (parseMethodDescriptor yX5_decide.desc).map (fun d => d.parameters.length) = some 1 := by decide +kernel
theorem hy_X5_append : yX5_append.cls ≠ "java/lang/invoke/MethodHandle" ∧ yX5_append.cls ≠ "java/lang/invoke/VarHandle" ∧ (parseMethodDescriptor yX5_append.desc).map (fun d => d.parameters.length) = some 1 := by decide +kernel
theorem hy_X5_clearBuffer : yX5_clearBuffer.cls ≠ "java/lang/invoke/MethodHandle" ∧ yX5_clearBuffer.cls ≠ "java/lang/invoke/VarHandle" ∧ (parseMethodDescriptor yX5_clearBuffer.desc).map (fun d => d.parameters.length) = some 0 := by decide +kernel
theorem hy_X5_isHere : yX5_isHere.cls ≠ "java/lang/invoke/MethodHandle" ∧ yX5_isHere.cls ≠ "java/lang/invoke/VarHandle" ∧ (parseMethodDescriptor yX5_isHere.desc).map (fun d => d.parameters.length) = some 2 := by decide +kernel
theorem hy_X5_takesSign : yX5_takesSign.cls ≠ "java/lang/invoke/MethodHandle" ∧ yX5_takesSign.cls ≠ "java/lang/invoke/VarHandle" ∧ (parseMethodDescriptor yX5_takesSign.desc).map (fun d => d.parameters.length) = some 1 := by decide +kernel
theorem hy_X5_digit : yX5_digit.cls ≠ "java/lang/invoke/MethodHandle" ∧ yX5_digit.cls ≠ "java/lang/invoke/VarHandle" ∧ (parseMethodDescriptor yX5_digit.desc).map (fun d => d.parameters.length) = some 1 := by decide +kernel
theorem hy_X5_readsPair : yX5_readsPair.cls ≠ "java/lang/invoke/MethodHandle" ∧ yX5_readsPair.cls ≠ "java/lang/invoke/VarHandle" ∧ (parseMethodDescriptor yX5_readsPair.desc).map (fun d => d.parameters.length) = some 0 := by decide +kernel
theorem hy_X5_readsOrder : yX5_readsOrder.cls ≠ "java/lang/invoke/MethodHandle" ∧ yX5_readsOrder.cls ≠ "java/lang/invoke/VarHandle" ∧ (parseMethodDescriptor yX5_readsOrder.desc).map (fun d => d.parameters.length) = some 0 := by decide +kernel
theorem hy_X5_isWeek : yX5_isWeek.cls ≠ "java/lang/invoke/MethodHandle" ∧ yX5_isWeek.cls ≠ "java/lang/invoke/VarHandle" ∧ (parseMethodDescriptor yX5_isWeek.desc).map (fun d => d.parameters.length) = some 0 := by decide +kernel
theorem hy_X5_firstError : yX5_firstError.cls ≠ "java/lang/invoke/MethodHandle" ∧ yX5_firstError.cls ≠ "java/lang/invoke/VarHandle" ∧ (parseMethodDescriptor yX5_firstError.desc).map (fun d => d.parameters.length) = some 0 := by decide +kernel
theorem hy_X5_isDone : yX5_isDone.cls ≠ "java/lang/invoke/MethodHandle" ∧ yX5_isDone.cls ≠ "java/lang/invoke/VarHandle" ∧ (parseMethodDescriptor yX5_isDone.desc).map (fun d => d.parameters.length) = some 0 := by decide +kernel
theorem hy_X5_run : yX5_run.cls ≠ "java/lang/invoke/MethodHandle" ∧ yX5_run.cls ≠ "java/lang/invoke/VarHandle" ∧ (parseMethodDescriptor yX5_run.desc).map (fun d => d.parameters.length) = some 0 := by decide +kernel
theorem hy_X5_keep : yX5_keep.cls ≠ "java/lang/invoke/MethodHandle" ∧ yX5_keep.cls ≠ "java/lang/invoke/VarHandle" ∧ (parseMethodDescriptor yX5_keep.desc).map (fun d => d.parameters.length) = some 1 := by decide +kernel
theorem hy_X5_goBack : yX5_goBack.cls ≠ "java/lang/invoke/MethodHandle" ∧ yX5_goBack.cls ≠ "java/lang/invoke/VarHandle" ∧ (parseMethodDescriptor yX5_goBack.desc).map (fun d => d.parameters.length) = some 1 := by decide +kernel
theorem hy_X5_undo : yX5_undo.cls ≠ "java/lang/invoke/MethodHandle" ∧ yX5_undo.cls ≠ "java/lang/invoke/VarHandle" ∧ (parseMethodDescriptor yX5_undo.desc).map (fun d => d.parameters.length) = some 0 := by decide +kernel
theorem hy_X5_reviewsOf : yX5_reviewsOf.cls ≠ "java/lang/invoke/MethodHandle" ∧ yX5_reviewsOf.cls ≠ "java/lang/invoke/VarHandle" ∧ (parseMethodDescriptor yX5_reviewsOf.desc).map (fun d => d.parameters.length) = some 2 := by decide +kernel
theorem hy_X5_conflicts : yX5_conflicts.cls ≠ "java/lang/invoke/MethodHandle" ∧ yX5_conflicts.cls ≠ "java/lang/invoke/VarHandle" ∧ (parseMethodDescriptor yX5_conflicts.desc).map (fun d => d.parameters.length) = some 1 := by decide +kernel
theorem hy_X5_ofPerson : yX5_ofPerson.cls ≠ "java/lang/invoke/MethodHandle" ∧ yX5_ofPerson.cls ≠ "java/lang/invoke/VarHandle" ∧ (parseMethodDescriptor yX5_ofPerson.desc).map (fun d => d.parameters.length) = some 2 := by decide +kernel
theorem hy_X5_personOf : yX5_personOf.cls ≠ "java/lang/invoke/MethodHandle" ∧ yX5_personOf.cls ≠ "java/lang/invoke/VarHandle" ∧ (parseMethodDescriptor yX5_personOf.desc).map (fun d => d.parameters.length) = some 2 := by decide +kernel
theorem hy_X5_difference : yX5_difference.cls ≠ "java/lang/invoke/MethodHandle" ∧ yX5_difference.cls ≠ "java/lang/invoke/VarHandle" ∧ (parseMethodDescriptor yX5_difference.desc).map (fun d => d.parameters.length) = some 1 := by decide +kernel
theorem hy_X5_ofPaper : yX5_ofPaper.cls ≠ "java/lang/invoke/MethodHandle" ∧ yX5_ofPaper.cls ≠ "java/lang/invoke/VarHandle" ∧ (parseMethodDescriptor yX5_ofPaper.desc).map (fun d => d.parameters.length) = some 2 := by decide +kernel
theorem hy_X5_paperOf : yX5_paperOf.cls ≠ "java/lang/invoke/MethodHandle" ∧ yX5_paperOf.cls ≠ "java/lang/invoke/VarHandle" ∧ (parseMethodDescriptor yX5_paperOf.desc).map (fun d => d.parameters.length) = some 2 := by decide +kernel
theorem hy_X5_score : yX5_score.cls ≠ "java/lang/invoke/MethodHandle" ∧ yX5_score.cls ≠ "java/lang/invoke/VarHandle" ∧ (parseMethodDescriptor yX5_score.desc).map (fun d => d.parameters.length) = some 2 := by decide +kernel
theorem hy_X5_sum : yX5_sum.cls ≠ "java/lang/invoke/MethodHandle" ∧ yX5_sum.cls ≠ "java/lang/invoke/VarHandle" ∧ (parseMethodDescriptor yX5_sum.desc).map (fun d => d.parameters.length) = some 1 := by decide +kernel
theorem hy_X5_overPapers : yX5_overPapers.cls ≠ "java/lang/invoke/MethodHandle" ∧ yX5_overPapers.cls ≠ "java/lang/invoke/VarHandle" ∧ (parseMethodDescriptor yX5_overPapers.desc).map (fun d => d.parameters.length) = some 1 := by decide +kernel
theorem hy_X5_pairs : yX5_pairs.cls ≠ "java/lang/invoke/MethodHandle" ∧ yX5_pairs.cls ≠ "java/lang/invoke/VarHandle" ∧ (parseMethodDescriptor yX5_pairs.desc).map (fun d => d.parameters.length) = some 0 := by decide +kernel
theorem hy_X5_counted : yX5_counted.cls ≠ "java/lang/invoke/MethodHandle" ∧ yX5_counted.cls ≠ "java/lang/invoke/VarHandle" ∧ (parseMethodDescriptor yX5_counted.desc).map (fun d => d.parameters.length) = some 1 := by decide +kernel
theorem hy_X5_count : yX5_count.cls ≠ "java/lang/invoke/MethodHandle" ∧ yX5_count.cls ≠ "java/lang/invoke/VarHandle" ∧ (parseMethodDescriptor yX5_count.desc).map (fun d => d.parameters.length) = some 1 := by decide +kernel
theorem hy_X5_setting : yX5_setting.cls ≠ "java/lang/invoke/MethodHandle" ∧ yX5_setting.cls ≠ "java/lang/invoke/VarHandle" ∧ (parseMethodDescriptor yX5_setting.desc).map (fun d => d.parameters.length) = some 1 := by decide +kernel
theorem hy_X5_whyNot : yX5_whyNot.cls ≠ "java/lang/invoke/MethodHandle" ∧ yX5_whyNot.cls ≠ "java/lang/invoke/VarHandle" ∧ (parseMethodDescriptor yX5_whyNot.desc).map (fun d => d.parameters.length) = some 2 := by decide +kernel
theorem hy_X5_best : yX5_best.cls ≠ "java/lang/invoke/MethodHandle" ∧ yX5_best.cls ≠ "java/lang/invoke/VarHandle" ∧ (parseMethodDescriptor yX5_best.desc).map (fun d => d.parameters.length) = some 1 := by decide +kernel
theorem hy_X5_bestReviewer : yX5_bestReviewer.cls ≠ "java/lang/invoke/MethodHandle" ∧ yX5_bestReviewer.cls ≠ "java/lang/invoke/VarHandle" ∧ (parseMethodDescriptor yX5_bestReviewer.desc).map (fun d => d.parameters.length) = some 1 := by decide +kernel
theorem hy_X5_able : yX5_able.cls ≠ "java/lang/invoke/MethodHandle" ∧ yX5_able.cls ≠ "java/lang/invoke/VarHandle" ∧ (parseMethodDescriptor yX5_able.desc).map (fun d => d.parameters.length) = some 1 := by decide +kernel
theorem hy_X5_mostWithout : yX5_mostWithout.cls ≠ "java/lang/invoke/MethodHandle" ∧ yX5_mostWithout.cls ≠ "java/lang/invoke/VarHandle" ∧ (parseMethodDescriptor yX5_mostWithout.desc).map (fun d => d.parameters.length) = some 1 := by decide +kernel
theorem hy_X5_most : yX5_most.cls ≠ "java/lang/invoke/MethodHandle" ∧ yX5_most.cls ≠ "java/lang/invoke/VarHandle" ∧ (parseMethodDescriptor yX5_most.desc).map (fun d => d.parameters.length) = some 1 := by decide +kernel
theorem hy_X5_neededOne : yX5_neededOne.cls ≠ "java/lang/invoke/MethodHandle" ∧ yX5_neededOne.cls ≠ "java/lang/invoke/VarHandle" ∧ (parseMethodDescriptor yX5_neededOne.desc).map (fun d => d.parameters.length) = some 0 := by decide +kernel
theorem hy_X5_needed : yX5_needed.cls ≠ "java/lang/invoke/MethodHandle" ∧ yX5_needed.cls ≠ "java/lang/invoke/VarHandle" ∧ (parseMethodDescriptor yX5_needed.desc).map (fun d => d.parameters.length) = some 0 := by decide +kernel
theorem hy_X5_talked : yX5_talked.cls ≠ "java/lang/invoke/MethodHandle" ∧ yX5_talked.cls ≠ "java/lang/invoke/VarHandle" ∧ (parseMethodDescriptor yX5_talked.desc).map (fun d => d.parameters.length) = some 1 := by decide +kernel
theorem hy_X5_rounds : yX5_rounds.cls ≠ "java/lang/invoke/MethodHandle" ∧ yX5_rounds.cls ≠ "java/lang/invoke/VarHandle" ∧ (parseMethodDescriptor yX5_rounds.desc).map (fun d => d.parameters.length) = some 1 := by decide +kernel
theorem hy_X5_roundsToAgree : yX5_roundsToAgree.cls ≠ "java/lang/invoke/MethodHandle" ∧ yX5_roundsToAgree.cls ≠ "java/lang/invoke/VarHandle" ∧ (parseMethodDescriptor yX5_roundsToAgree.desc).map (fun d => d.parameters.length) = some 1 := by decide +kernel
theorem hy_X5_mean : yX5_mean.cls ≠ "java/lang/invoke/MethodHandle" ∧ yX5_mean.cls ≠ "java/lang/invoke/VarHandle" ∧ (parseMethodDescriptor yX5_mean.desc).map (fun d => d.parameters.length) = some 1 := by decide +kernel
theorem hy_X5_meanScore : yX5_meanScore.cls ≠ "java/lang/invoke/MethodHandle" ∧ yX5_meanScore.cls ≠ "java/lang/invoke/VarHandle" ∧ (parseMethodDescriptor yX5_meanScore.desc).map (fun d => d.parameters.length) = some 1 := by decide +kernel
theorem hy_X5_share : yX5_share.cls ≠ "java/lang/invoke/MethodHandle" ∧ yX5_share.cls ≠ "java/lang/invoke/VarHandle" ∧ (parseMethodDescriptor yX5_share.desc).map (fun d => d.parameters.length) = some 0 := by decide +kernel
theorem hy_X5_spentShare : yX5_spentShare.cls ≠ "java/lang/invoke/MethodHandle" ∧ yX5_spentShare.cls ≠ "java/lang/invoke/VarHandle" ∧ (parseMethodDescriptor yX5_spentShare.desc).map (fun d => d.parameters.length) = some 0 := by decide +kernel
theorem hy_X5_mix : yX5_mix.cls ≠ "java/lang/invoke/MethodHandle" ∧ yX5_mix.cls ≠ "java/lang/invoke/VarHandle" ∧ (parseMethodDescriptor yX5_mix.desc).map (fun d => d.parameters.length) = some 1 := by decide +kernel
theorem hy_X5_bits : yX5_bits.cls ≠ "java/lang/invoke/MethodHandle" ∧ yX5_bits.cls ≠ "java/lang/invoke/VarHandle" ∧ (parseMethodDescriptor yX5_bits.desc).map (fun d => d.parameters.length) = some 3 := by decide +kernel
theorem hy_X5_mixPaper : yX5_mixPaper.cls ≠ "java/lang/invoke/MethodHandle" ∧ yX5_mixPaper.cls ≠ "java/lang/invoke/VarHandle" ∧ (parseMethodDescriptor yX5_mixPaper.desc).map (fun d => d.parameters.length) = some 1 := by decide +kernel
theorem hy_X5_digest : yX5_digest.cls ≠ "java/lang/invoke/MethodHandle" ∧ yX5_digest.cls ≠ "java/lang/invoke/VarHandle" ∧ (parseMethodDescriptor yX5_digest.desc).map (fun d => d.parameters.length) = some 0 := by decide +kernel
theorem hy_L_paper : yL_paper.cls ≠ "java/lang/invoke/MethodHandle" ∧ yL_paper.cls ≠ "java/lang/invoke/VarHandle" ∧ (parseMethodDescriptor yL_paper.desc).map (fun d => d.parameters.length) = some 4 := by decide +kernel
theorem hy_L_topics : yL_topics.cls ≠ "java/lang/invoke/MethodHandle" ∧ yL_topics.cls ≠ "java/lang/invoke/VarHandle" ∧ (parseMethodDescriptor yL_topics.desc).map (fun d => d.parameters.length) = some 4 := by decide +kernel
theorem hy_L_meet : yL_meet.cls ≠ "java/lang/invoke/MethodHandle" ∧ yL_meet.cls ≠ "java/lang/invoke/VarHandle" ∧ (parseMethodDescriptor yL_meet.desc).map (fun d => d.parameters.length) = some 4 := by decide +kernel
theorem hy_L_set : yL_set.cls ≠ "java/lang/invoke/MethodHandle" ∧ yL_set.cls ≠ "java/lang/invoke/VarHandle" ∧ (parseMethodDescriptor yL_set.desc).map (fun d => d.parameters.length) = some 4 := by decide +kernel
theorem hy_L_bring : yL_bring.cls ≠ "java/lang/invoke/MethodHandle" ∧ yL_bring.cls ≠ "java/lang/invoke/VarHandle" ∧ (parseMethodDescriptor yL_bring.desc).map (fun d => d.parameters.length) = some 3 := by decide +kernel
theorem hy_L_week : yL_week.cls ≠ "java/lang/invoke/MethodHandle" ∧ yL_week.cls ≠ "java/lang/invoke/VarHandle" ∧ (parseMethodDescriptor yL_week.desc).map (fun d => d.parameters.length) = some 2 := by decide +kernel
theorem hy_L_take : yL_take.cls ≠ "java/lang/invoke/MethodHandle" ∧ yL_take.cls ≠ "java/lang/invoke/VarHandle" ∧ (parseMethodDescriptor yL_take.desc).map (fun d => d.parameters.length) = some 4 := by decide +kernel
theorem hy_L_write : yL_write.cls ≠ "java/lang/invoke/MethodHandle" ∧ yL_write.cls ≠ "java/lang/invoke/VarHandle" ∧ (parseMethodDescriptor yL_write.desc).map (fun d => d.parameters.length) = some 5 := by decide +kernel
theorem hy_L_drop : yL_drop.cls ≠ "java/lang/invoke/MethodHandle" ∧ yL_drop.cls ≠ "java/lang/invoke/VarHandle" ∧ (parseMethodDescriptor yL_drop.desc).map (fun d => d.parameters.length) = some 4 := by decide +kernel
theorem hy_L_discuss : yL_discuss.cls ≠ "java/lang/invoke/MethodHandle" ∧ yL_discuss.cls ≠ "java/lang/invoke/VarHandle" ∧ (parseMethodDescriptor yL_discuss.desc).map (fun d => d.parameters.length) = some 3 := by decide +kernel
theorem hy_L_rebut : yL_rebut.cls ≠ "java/lang/invoke/MethodHandle" ∧ yL_rebut.cls ≠ "java/lang/invoke/VarHandle" ∧ (parseMethodDescriptor yL_rebut.desc).map (fun d => d.parameters.length) = some 3 := by decide +kernel
theorem hy_L_decide : yL_decide.cls ≠ "java/lang/invoke/MethodHandle" ∧ yL_decide.cls ≠ "java/lang/invoke/VarHandle" ∧ (parseMethodDescriptor yL_decide.desc).map (fun d => d.parameters.length) = some 3 := by decide +kernel
theorem hy_L_append : yL_append.cls ≠ "java/lang/invoke/MethodHandle" ∧ yL_append.cls ≠ "java/lang/invoke/VarHandle" ∧ (parseMethodDescriptor yL_append.desc).map (fun d => d.parameters.length) = some 3 := by decide +kernel
theorem hy_L_run : yL_run.cls ≠ "java/lang/invoke/MethodHandle" ∧ yL_run.cls ≠ "java/lang/invoke/VarHandle" ∧ (parseMethodDescriptor yL_run.desc).map (fun d => d.parameters.length) = some 2 := by decide +kernel
theorem hy_L_keep : yL_keep.cls ≠ "java/lang/invoke/MethodHandle" ∧ yL_keep.cls ≠ "java/lang/invoke/VarHandle" ∧ (parseMethodDescriptor yL_keep.desc).map (fun d => d.parameters.length) = some 3 := by decide +kernel
theorem hy_L_goBack : yL_goBack.cls ≠ "java/lang/invoke/MethodHandle" ∧ yL_goBack.cls ≠ "java/lang/invoke/VarHandle" ∧ (parseMethodDescriptor yL_goBack.desc).map (fun d => d.parameters.length) = some 3 := by decide +kernel
theorem hy_L_undo : yL_undo.cls ≠ "java/lang/invoke/MethodHandle" ∧ yL_undo.cls ≠ "java/lang/invoke/VarHandle" ∧ (parseMethodDescriptor yL_undo.desc).map (fun d => d.parameters.length) = some 2 := by decide +kernel
theorem hy_L_personOf : yL_personOf.cls ≠ "java/lang/invoke/MethodHandle" ∧ yL_personOf.cls ≠ "java/lang/invoke/VarHandle" ∧ (parseMethodDescriptor yL_personOf.desc).map (fun d => d.parameters.length) = some 4 := by decide +kernel
theorem hy_L_paperOf : yL_paperOf.cls ≠ "java/lang/invoke/MethodHandle" ∧ yL_paperOf.cls ≠ "java/lang/invoke/VarHandle" ∧ (parseMethodDescriptor yL_paperOf.desc).map (fun d => d.parameters.length) = some 4 := by decide +kernel
theorem hy_L_score : yL_score.cls ≠ "java/lang/invoke/MethodHandle" ∧ yL_score.cls ≠ "java/lang/invoke/VarHandle" ∧ (parseMethodDescriptor yL_score.desc).map (fun d => d.parameters.length) = some 4 := by decide +kernel
theorem hy_L_count : yL_count.cls ≠ "java/lang/invoke/MethodHandle" ∧ yL_count.cls ≠ "java/lang/invoke/VarHandle" ∧ (parseMethodDescriptor yL_count.desc).map (fun d => d.parameters.length) = some 3 := by decide +kernel
theorem hy_L_setting : yL_setting.cls ≠ "java/lang/invoke/MethodHandle" ∧ yL_setting.cls ≠ "java/lang/invoke/VarHandle" ∧ (parseMethodDescriptor yL_setting.desc).map (fun d => d.parameters.length) = some 3 := by decide +kernel
theorem hy_L_whyNot : yL_whyNot.cls ≠ "java/lang/invoke/MethodHandle" ∧ yL_whyNot.cls ≠ "java/lang/invoke/VarHandle" ∧ (parseMethodDescriptor yL_whyNot.desc).map (fun d => d.parameters.length) = some 4 := by decide +kernel
theorem hy_L_bestReviewer : yL_bestReviewer.cls ≠ "java/lang/invoke/MethodHandle" ∧ yL_bestReviewer.cls ≠ "java/lang/invoke/VarHandle" ∧ (parseMethodDescriptor yL_bestReviewer.desc).map (fun d => d.parameters.length) = some 3 := by decide +kernel
theorem hy_L_most : yL_most.cls ≠ "java/lang/invoke/MethodHandle" ∧ yL_most.cls ≠ "java/lang/invoke/VarHandle" ∧ (parseMethodDescriptor yL_most.desc).map (fun d => d.parameters.length) = some 3 := by decide +kernel
theorem hy_L_roundsToAgree : yL_roundsToAgree.cls ≠ "java/lang/invoke/MethodHandle" ∧ yL_roundsToAgree.cls ≠ "java/lang/invoke/VarHandle" ∧ (parseMethodDescriptor yL_roundsToAgree.desc).map (fun d => d.parameters.length) = some 3 := by decide +kernel
theorem hy_L_meanScore : yL_meanScore.cls ≠ "java/lang/invoke/MethodHandle" ∧ yL_meanScore.cls ≠ "java/lang/invoke/VarHandle" ∧ (parseMethodDescriptor yL_meanScore.desc).map (fun d => d.parameters.length) = some 3 := by decide +kernel
