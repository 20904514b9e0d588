/-! WHAT THE WALKS WANT BESIDE THE ROWS -/
theorem x_ldcwf {Z : ZT} {cc : ByteArray} {own : String} {nL : Nat} {R : Room} {S : PH} {k n pc : Nat} {l : List (Nat × Value)} {st : List Value} (h : CX Z cc own nL R) {ix : Nat} {v : UInt32} (d : decode cc pc = .ok (.ldc_w ix, 3)) (hw : Cond.constantFloat own ix v ∈ w_G) (kk : PX Z nL S k n (pc + 3) l (.float v :: st)) : PX Z nL S k n pc l st := by
  obtain ⟨p, lq, e, R0, s, m, args, below, meth, c, D, C, A, Q⟩ := Z
  intro H locs ls hP hD hS hl T hT X
  obtain ⟨t, a, b⟩ := kk H locs ls hP hD hS hl T hT X
  refine ⟨t, ?_, b⟩
  obtain ⟨kc, cf, hk, hcf, hcp⟩ := Cond.constantFloat_spec h.2.2.2.1 (h.2.2.2.2.1 _ hw)
  obtain ⟨k', hk', he⟩ := X.warmed.alike.2.2 _ _ hk
  have hexec := h.1
  have hdg : decode c.code pc = .ok (.ldc_w ix, 3) := by rw [h.2.1]; exact d
  jvm_step X.here [hexec, hdg, ldc_w.wp_float (s := T) (f := F0 m pc ls st) X.here.top hk' (by rw [he]; exact hcf) hcp]
  exact a
theorem ir_x {τ ρ : Type} {P : τ → Prop} {o : Option ρ} {x : τ ⊕ ρ} {x' : ρ} (h : ir o = some x) (hg : GX P (fun r => r = x') x) : o = some x' := by
  obtain ⟨r, h1, rfl⟩ := ir_el h
  have hg : r = x' := hg
  rw [h1, hg]
theorem bk_x {τ ρ : Type} {P : τ → Prop} {G : ρ → Prop} {t : τ} {x : τ ⊕ ρ} (h : some (Sum.inl t) = some x) (hg : GX P G x) : P t := by
  cases h
  exact hg
def wq {α : Type} (f : α → PH → Prop) (g : Nat → PH → Prop) : (Nat ⊕ α) → PH → Prop := fun x S => match x with
  | .inr v => f v S
  | .inl j => g j S
theorem wq_r {α : Type} {f : α → PH → Prop} {g : Nat → PH → Prop} {v : α} {S : PH} (h : wq f g (.inr v) S) : f v S := h
theorem wq_l {α : Type} {f : α → PH → Prop} {g : Nat → PH → Prop} {j : Nat} {S : PH} (h : wq f g (.inl j) S) : g j S := h
theorem wbt_el {α : Type} {o : Option ((Nat ⊕ α) × PH)} {f : α → PH → Prop} {g : Nat → PH → Prop} (h : wbt o f g) : (∃ v S, o = some (.inr v, S) ∧ f v S) ∨ (∃ j S, o = some (.inl j, S) ∧ g j S) := by
  rcases h with ⟨v, S, h1, h2⟩ | ⟨j, S, h1, h2⟩
  · exact Or.inl ⟨v, S, h1, h2⟩
  · exact Or.inr ⟨j, S, h1, h2⟩
theorem r_Wx {α : Type} {enc : α → Option Value} {Q : (Nat ⊕ α) → PH → Prop} {F : Nat → PH → Prop} (h : ∀ j S, Q (.inl j) S → F j S) : ∀ j S, oQ enc Q (.inr j) S → F j S := fun j S q => h j S q
def wnw (S : PH) (f : Nat → Prop) : Prop := ∀ q, q ∉ p_L S → f q
def s_Mi (S : PH) (q : Nat) (g : Nat → Nat) : Nat → PH
  | 0 => s_N S q 9 8
  | i + 1 => s_R (s_N (s_Mi S q g i) (g i) 6 8) q i (some (g i))
/-- an array of eight arrays of eight whole numbers -/
def wmul (S : PH) (f : Nat → PH → Prop) : Prop := ∀ (q : Nat) (g : Nat → Nat), q ∉ p_L S → (∀ i, i < 8 → g i ∉ p_L (s_Mi S q g i)) → f q (s_Mi S q g 8)
def nn32 (r : UInt32) : Bool := decide (r &&& 0x7fffffff ≤ 0x7f800000)
def nn64 (r : UInt64) : Bool := decide (r &&& 0x7fffffffffffffff ≤ 0x7ff0000000000000)
theorem nn32_ok {r : UInt32} (h : nn32 r = true) : vf_n32 r := by unfold vf_n32; unfold nn32 at h; exact of_decide_eq_true h
theorem nn64_ok {r : UInt64} (h : nn64 r = true) : vf_n64 r := by unfold vf_n64; unfold nn64 at h; exact of_decide_eq_true h
def mmin (x z : Int32) : Int32 := if z < x then z else x
def mmax (x z : Int32) : Int32 := if x < z then z else x
theorem tab_o {x : Int32} {hi : Int} (lo : Int) (ks : List Int32) (h1 : ks.map Int32.toInt = (List.range ks.length).map (fun i : Nat => lo + (i : Int))) (h2 : hi < lo + (ks.length : Int)) (hne : ∀ k ∈ ks, ¬ x = k) : x.toInt < lo ∨ hi < x.toInt := by
  rcases Int.lt_or_le x.toInt lo with h | h
  · exact Or.inl h
  · rcases Int.lt_or_le hi x.toInt with g | g
    · exact Or.inr g
    · exfalso
      have hl : (x.toInt - lo).toNat < ks.length := by omega
      have e1 : (ks.map Int32.toInt)[(x.toInt - lo).toNat]? = some (ks[(x.toInt - lo).toNat].toInt) := by
        rw [List.getElem?_map, List.getElem?_eq_getElem hl]; rfl
      rw [h1, List.getElem?_map, List.getElem?_range hl] at e1
      have e2 : lo + (((x.toInt - lo).toNat : Nat) : Int) = ks[(x.toInt - lo).toNat].toInt := Option.some.inj e1
      have e3 : x.toInt = ks[(x.toInt - lo).toNat].toInt := by omega
      exact hne _ (List.getElem_mem hl) (Int32.toInt_inj.mp e3)
theorem q_obi : Cond.instanceMethod objectInit ∈ w_G := q_21
theorem q_obc : Cond.code objectInit ⟨#[0xb1]⟩ 1 none ∈ w_G := q_22
theorem q_mai : Cond.initialized "java/lang/Math" ∈ w_G := q_12
theorem q_mins : Cond.static (if true then Lib.Math.min.name else Lib.Math.max.name) ∈ w_G := q_290
theorem q_minc : Cond.code (if true then Lib.Math.min.name else Lib.Math.max.name) (if true then Lib.Math.min.code else Lib.Math.max.code) 2 (some .int) ∈ w_G := q_291
theorem q_maxs : Cond.static (if false then Lib.Math.min.name else Lib.Math.max.name) ∈ w_G := q_404
theorem q_maxc : Cond.code (if false then Lib.Math.min.name else Lib.Math.max.name) (if false then Lib.Math.min.code else Lib.Math.max.code) 2 (some .int) ∈ w_G := q_405
theorem q_cpn : Cond.native arraycopyName ∈ w_G := q_35
theorem q_cps : Cond.static arraycopyName ∈ w_G := q_34
theorem q_sys : Cond.initialized "java/lang/System" ∈ w_G := q_3
theorem tx_45_49_0 : TX RX4 45 49 0 := ⟨q_195, q_10, by decide +kernel, by decide +kernel, by decide +kernel, by decide +kernel, by decide +kernel⟩
theorem tx_58_62_1 : TX RX4 58 62 1 := ⟨q_264, q_11, by decide +kernel, by decide +kernel, by decide +kernel, by decide +kernel, by decide +kernel⟩
theorem tx_289_293_2 : TX RX4 289 293 2 := ⟨q_316, q_14, by decide +kernel, by decide +kernel, by decide +kernel, by decide +kernel, by decide +kernel⟩
theorem hy_X0_init : yX0_init.cls ≠ "java/lang/invoke/MethodHandle" ∧ yX0_init.cls ≠ "java/lang/invoke/VarHandle" ∧ (parseMethodDescriptor yX0_init.desc).map (fun d => d.parameters.length) = some 0 := by decide +kernel
theorem hy_X2_init : yX2_init.cls ≠ "java/lang/invoke/MethodHandle" ∧ yX2_init.cls ≠ "java/lang/invoke/VarHandle" ∧ (parseMethodDescriptor yX2_init.desc).map (fun d => d.parameters.length) = some 0 := by decide +kernel
theorem hy_X2_become : yX2_become.cls ≠ "java/lang/invoke/MethodHandle" ∧ yX2_become.cls ≠ "java/lang/invoke/VarHandle" ∧ (parseMethodDescriptor yX2_become.desc).map (fun d => d.parameters.length) = some 1 := by decide +kernel
theorem hy_X0_save : yX0_save.cls ≠ "java/lang/invoke/MethodHandle" ∧ yX0_save.cls ≠ "java/lang/invoke/VarHandle" ∧ (parseMethodDescriptor yX0_save.desc).map (fun d => d.parameters.length) = some 1 := by decide +kernel
theorem hy_X0_beforeNext : yX0_beforeNext.cls ≠ "java/lang/invoke/MethodHandle" ∧ yX0_beforeNext.cls ≠ "java/lang/invoke/VarHandle" ∧ (parseMethodDescriptor yX0_beforeNext.desc).map (fun d => d.parameters.length) = some 0 := by decide +kernel
theorem hy_X0_latest : yX0_latest.cls ≠ "java/lang/invoke/MethodHandle" ∧ yX0_latest.cls ≠ "java/lang/invoke/VarHandle" ∧ (parseMethodDescriptor yX0_latest.desc).map (fun d => d.parameters.length) = some 0 := by decide +kernel
theorem hy_X0_dropLatest : yX0_dropLatest.cls ≠ "java/lang/invoke/MethodHandle" ∧ yX0_dropLatest.cls ≠ "java/lang/invoke/VarHandle" ∧ (parseMethodDescriptor yX0_dropLatest.desc).map (fun d => d.parameters.length) = some 0 := by decide +kernel
theorem hy_X1_init : yX1_init.cls ≠ "java/lang/invoke/MethodHandle" ∧ yX1_init.cls ≠ "java/lang/invoke/VarHandle" ∧ (parseMethodDescriptor yX1_init.desc).map (fun d => d.parameters.length) = some 0 := by decide +kernel
theorem hy_X4_has : yX4_has.cls ≠ "java/lang/invoke/MethodHandle" ∧ yX4_has.cls ≠ "java/lang/invoke/VarHandle" ∧ (parseMethodDescriptor yX4_has.desc).map (fun d => d.parameters.length) = some 2 := by decide +kernel
theorem hy_X1_exchange : yX1_exchange.cls ≠ "java/lang/invoke/MethodHandle" ∧ yX1_exchange.cls ≠ "java/lang/invoke/VarHandle" ∧ (parseMethodDescriptor yX1_exchange.desc).map (fun d => d.parameters.length) = some 2 := by decide +kernel
theorem hy_X1_queueHeld : yX1_queueHeld.cls ≠ "java/lang/invoke/MethodHandle" ∧ yX1_queueHeld.cls ≠ "java/lang/invoke/VarHandle" ∧ (parseMethodDescriptor yX1_queueHeld.desc).map (fun d => d.parameters.length) = some 3 := by decide +kernel
theorem hy_X1_findWay : yX1_findWay.cls ≠ "java/lang/invoke/MethodHandle" ∧ yX1_findWay.cls ≠ "java/lang/invoke/VarHandle" ∧ (parseMethodDescriptor yX1_findWay.desc).map (fun d => d.parameters.length) = some 1 := by decide +kernel
theorem hy_X1_byWays : yX1_byWays.cls ≠ "java/lang/invoke/MethodHandle" ∧ yX1_byWays.cls ≠ "java/lang/invoke/VarHandle" ∧ (parseMethodDescriptor yX1_byWays.desc).map (fun d => d.parameters.length) = some 1 := by decide +kernel
theorem hy_X1_openPapers : yX1_openPapers.cls ≠ "java/lang/invoke/MethodHandle" ∧ yX1_openPapers.cls ≠ "java/lang/invoke/VarHandle" ∧ (parseMethodDescriptor yX1_openPapers.desc).map (fun d => d.parameters.length) = some 0 := by decide +kernel
theorem hy_J6_bitCount_0f7a4 : yJ6_bitCount_0f7a4.cls ≠ "java/lang/invoke/MethodHandle" ∧ yJ6_bitCount_0f7a4.cls ≠ "java/lang/invoke/VarHandle" ∧ (parseMethodDescriptor yJ6_bitCount_0f7a4.desc).map (fun d => d.parameters.length) = some 1 := by decide +kernel
theorem hy_X1_costOfCut : yX1_costOfCut.cls ≠ "java/lang/invoke/MethodHandle" ∧ yX1_costOfCut.cls ≠ "java/lang/invoke/VarHandle" ∧ (parseMethodDescriptor yX1_costOfCut.desc).map (fun d => d.parameters.length) = some 1 := by decide +kernel
theorem hy_X1_byCuts : yX1_byCuts.cls ≠ "java/lang/invoke/MethodHandle" ∧ yX1_byCuts.cls ≠ "java/lang/invoke/VarHandle" ∧ (parseMethodDescriptor yX1_byCuts.desc).map (fun d => d.parameters.length) = some 0 := by decide +kernel
theorem hy_X3_init : yX3_init.cls ≠ "java/lang/invoke/MethodHandle" ∧ yX3_init.cls ≠ "java/lang/invoke/VarHandle" ∧ (parseMethodDescriptor yX3_init.desc).map (fun d => d.parameters.length) = some 0 := by decide +kernel
theorem hy_X4_init : yX4_init.cls ≠ "java/lang/invoke/MethodHandle" ∧ yX4_init.cls ≠ "java/lang/invoke/VarHandle" ∧ (parseMethodDescriptor yX4_init.desc).map (fun d => d.parameters.length) = some 0 := by decide +kernel
theorem hy_X4_paper : yX4_paper.cls ≠ "java/lang/invoke/MethodHandle" ∧ yX4_paper.cls ≠ "java/lang/invoke/VarHandle" ∧ (parseMethodDescriptor yX4_paper.desc).map (fun d => d.parameters.length) = some 2 := by decide +kernel
theorem hy_X4_requirePerson : yX4_requirePerson.cls ≠ "java/lang/invoke/MethodHandle" ∧ yX4_requirePerson.cls ≠ "java/lang/invoke/VarHandle" ∧ (parseMethodDescriptor yX4_requirePerson.desc).map (fun d => d.parameters.length) = some 1 := by decide +kernel
theorem hy_X4_topics : yX4_topics.cls ≠ "java/lang/invoke/MethodHandle" ∧ yX4_topics.cls ≠ "java/lang/invoke/VarHandle" ∧ (parseMethodDescriptor yX4_topics.desc).map (fun d => d.parameters.length) = some 2 := by decide +kernel
theorem hy_X4_meet : yX4_meet.cls ≠ "java/lang/invoke/MethodHandle" ∧ yX4_meet.cls ≠ "java/lang/invoke/VarHandle" ∧ (parseMethodDescriptor yX4_meet.desc).map (fun d => d.parameters.length) = some 2 := by decide +kernel
theorem hy_X4_requireSetting : yX4_requireSetting.cls ≠ "java/lang/invoke/MethodHandle" ∧ yX4_requireSetting.cls ≠ "java/lang/invoke/VarHandle" ∧ (parseMethodDescriptor yX4_requireSetting.desc).map (fun d => d.parameters.length) = some 1 := by decide +kernel
theorem hy_X4_set : yX4_set.cls ≠ "java/lang/invoke/MethodHandle" ∧ yX4_set.cls ≠ "java/lang/invoke/VarHandle" ∧ (parseMethodDescriptor yX4_set.desc).map (fun d => d.parameters.length) = some 2 := by decide +kernel
theorem hy_X4_canWeekPass : yX4_canWeekPass.cls ≠ "java/lang/invoke/MethodHandle" ∧ yX4_canWeekPass.cls ≠ "java/lang/invoke/VarHandle" ∧ (parseMethodDescriptor yX4_canWeekPass.desc).map (fun d => d.parameters.length) = some 0 := by decide +kernel
theorem hy_X4_giveFromPool : yX4_giveFromPool.cls ≠ "java/lang/invoke/MethodHandle" ∧ yX4_giveFromPool.cls ≠ "java/lang/invoke/VarHandle" ∧ (parseMethodDescriptor yX4_giveFromPool.desc).map (fun d => d.parameters.length) = some 2 := by decide +kernel
theorem hy_X4_passWeek : yX4_passWeek.cls ≠ "java/lang/invoke/MethodHandle" ∧ yX4_passWeek.cls ≠ "java/lang/invoke/VarHandle" ∧ (parseMethodDescriptor yX4_passWeek.desc).map (fun d => d.parameters.length) = some 0 := by decide +kernel
theorem hy_X4_week : yX4_week.cls ≠ "java/lang/invoke/MethodHandle" ∧ yX4_week.cls ≠ "java/lang/invoke/VarHandle" ∧ (parseMethodDescriptor yX4_week.desc).map (fun d => d.parameters.length) = some 0 := by decide +kernel
theorem hy_X4_isPaper : yX4_isPaper.cls ≠ "java/lang/invoke/MethodHandle" ∧ yX4_isPaper.cls ≠ "java/lang/invoke/VarHandle" ∧ (parseMethodDescriptor yX4_isPaper.desc).map (fun d => d.parameters.length) = some 1 := by decide +kernel
theorem hy_X4_requirePaper : yX4_requirePaper.cls ≠ "java/lang/invoke/MethodHandle" ∧ yX4_requirePaper.cls ≠ "java/lang/invoke/VarHandle" ∧ (parseMethodDescriptor yX4_requirePaper.desc).map (fun d => d.parameters.length) = some 1 := by decide +kernel
theorem hy_X4_reviewersIn : yX4_reviewersIn.cls ≠ "java/lang/invoke/MethodHandle" ∧ yX4_reviewersIn.cls ≠ "java/lang/invoke/VarHandle" ∧ (parseMethodDescriptor yX4_reviewersIn.desc).map (fun d => d.parameters.length) = some 1 := by decide +kernel
theorem hy_X4_workedWithSome : yX4_workedWithSome.cls ≠ "java/lang/invoke/MethodHandle" ∧ yX4_workedWithSome.cls ≠ "java/lang/invoke/VarHandle" ∧ (parseMethodDescriptor yX4_workedWithSome.desc).map (fun d => d.parameters.length) = some 1 := by decide +kernel
theorem hy_X4_personsInConflict : yX4_personsInConflict.cls ≠ "java/lang/invoke/MethodHandle" ∧ yX4_personsInConflict.cls ≠ "java/lang/invoke/VarHandle" ∧ (parseMethodDescriptor yX4_personsInConflict.desc).map (fun d => d.parameters.length) = some 1 := by decide +kernel
theorem hy_X4_tokensOf : yX4_tokensOf.cls ≠ "java/lang/invoke/MethodHandle" ∧ yX4_tokensOf.cls ≠ "java/lang/invoke/VarHandle" ∧ (parseMethodDescriptor yX4_tokensOf.desc).map (fun d => d.parameters.length) = some 1 := by decide +kernel
theorem hy_X4_reasonAgainstTaking : yX4_reasonAgainstTaking.cls ≠ "java/lang/invoke/MethodHandle" ∧ yX4_reasonAgainstTaking.cls ≠ "java/lang/invoke/VarHandle" ∧ (parseMethodDescriptor yX4_reasonAgainstTaking.desc).map (fun d => d.parameters.length) = some 2 := by decide +kernel
theorem hy_X4_refuse : yX4_refuse.cls ≠ "java/lang/invoke/MethodHandle" ∧ yX4_refuse.cls ≠ "java/lang/invoke/VarHandle" ∧ (parseMethodDescriptor yX4_refuse.desc).map (fun d => d.parameters.length) = some 1 := by decide +kernel
theorem hy_X4_takeReview : yX4_takeReview.cls ≠ "java/lang/invoke/MethodHandle" ∧ yX4_takeReview.cls ≠ "java/lang/invoke/VarHandle" ∧ (parseMethodDescriptor yX4_takeReview.desc).map (fun d => d.parameters.length) = some 2 := by decide +kernel
theorem hy_X4_take : yX4_take.cls ≠ "java/lang/invoke/MethodHandle" ∧ yX4_take.cls ≠ "java/lang/invoke/VarHandle" ∧ (parseMethodDescriptor yX4_take.desc).map (fun d => d.parameters.length) = some 2 := by decide +kernel
theorem hy_X4_isScore : yX4_isScore.cls ≠ "java/lang/invoke/MethodHandle" ∧ yX4_isScore.cls ≠ "java/lang/invoke/VarHandle" ∧ (parseMethodDescriptor yX4_isScore.desc).map (fun d => d.parameters.length) = some 1 := by decide +kernel
theorem hy_X4_canWrite : yX4_canWrite.cls ≠ "java/lang/invoke/MethodHandle" ∧ yX4_canWrite.cls ≠ "java/lang/invoke/VarHandle" ∧ (parseMethodDescriptor yX4_canWrite.desc).map (fun d => d.parameters.length) = some 2 := by decide +kernel
theorem hy_X4_writersIn : yX4_writersIn.cls ≠ "java/lang/invoke/MethodHandle" ∧ yX4_writersIn.cls ≠ "java/lang/invoke/VarHandle" ∧ (parseMethodDescriptor yX4_writersIn.desc).map (fun d => d.parameters.length) = some 1 := by decide +kernel
theorem hy_X4_writeReview : yX4_writeReview.cls ≠ "java/lang/invoke/MethodHandle" ∧ yX4_writeReview.cls ≠ "java/lang/invoke/VarHandle" ∧ (parseMethodDescriptor yX4_writeReview.desc).map (fun d => d.parameters.length) = some 3 := by decide +kernel
theorem hy_X4_write : yX4_write.cls ≠ "java/lang/invoke/MethodHandle" ∧ yX4_write.cls ≠ "java/lang/invoke/VarHandle" ∧ (parseMethodDescriptor yX4_write.desc).map (fun d => d.parameters.length) = some 3 := by decide +kernel
theorem hy_X4_canDrop : yX4_canDrop.cls ≠ "java/lang/invoke/MethodHandle" ∧ yX4_canDrop.cls ≠ "java/lang/invoke/VarHandle" ∧ (parseMethodDescriptor yX4_canDrop.desc).map (fun d => d.parameters.length) = some 2 := by decide +kernel
theorem hy_X4_dropReview : yX4_dropReview.cls ≠ "java/lang/invoke/MethodHandle" ∧ yX4_dropReview.cls ≠ "java/lang/invoke/VarHandle" ∧ (parseMethodDescriptor yX4_dropReview.desc).map (fun d => d.parameters.length) = some 2 := by decide +kernel
theorem hy_X4_drop : yX4_drop.cls ≠ "java/lang/invoke/MethodHandle" ∧ yX4_drop.cls ≠ "java/lang/invoke/VarHandle" ∧ (parseMethodDescriptor yX4_drop.desc).map (fun d => d.parameters.length) = some 2 := by decide +kernel
theorem hy_X4_reasonAgainstDiscussion : yX4_reasonAgainstDiscussion.cls ≠ "java/lang/invoke/MethodHandle" ∧ yX4_reasonAgainstDiscussion.cls ≠ "java/lang/invoke/VarHandle" ∧ (parseMethodDescriptor yX4_reasonAgainstDiscussion.desc).map (fun d => d.parameters.length) = some 1 := by decide +kernel
theorem hy_X4_sumIn : yX4_sumIn.cls ≠ "java/lang/invoke/MethodHandle" ∧ yX4_sumIn.cls ≠ "java/lang/invoke/VarHandle" ∧ (parseMethodDescriptor yX4_sumIn.desc).map (fun d => d.parameters.length) = some 1 := by decide +kernel
theorem hy_X4_bringNearer : yX4_bringNearer.cls ≠ "java/lang/invoke/MethodHandle" ∧ yX4_bringNearer.cls ≠ "java/lang/invoke/VarHandle" ∧ (parseMethodDescriptor yX4_bringNearer.desc).map (fun d => d.parameters.length) = some 1 := by decide +kernel
theorem hy_X4_discussPaper : yX4_discussPaper.cls ≠ "java/lang/invoke/MethodHandle" ∧ yX4_discussPaper.cls ≠ "java/lang/invoke/VarHandle" ∧ (parseMethodDescriptor yX4_discussPaper.desc).map (fun d => d.parameters.length) = some 1 := by decide +kernel
theorem hy_X4_discuss : yX4_discuss.cls ≠ "java/lang/invoke/MethodHandle" ∧ yX4_discuss.cls ≠ "java/lang/invoke/VarHandle" ∧ (parseMethodDescriptor yX4_discuss.desc).map (fun d => d.parameters.length) = some 1 := by decide +kernel
theorem hy_X4_reasonAgainstRebuttal : yX4_reasonAgainstRebuttal.cls ≠ "java/lang/invoke/MethodHandle" ∧ yX4_reasonAgainstRebuttal.cls ≠ "java/lang/invoke/VarHandle" ∧ (parseMethodDescriptor yX4_reasonAgainstRebuttal.desc).map (fun d => d.parameters.length) = some 1 := by decide +kernel
theorem hy_X4_raiseLeast : yX4_raiseLeast.cls ≠ "java/lang/invoke/MethodHandle" ∧ yX4_raiseLeast.cls ≠ "java/lang/invoke/VarHandle" ∧ (parseMethodDescriptor yX4_raiseLeast.desc).map (fun d => d.parameters.length) = some 2 := by decide +kernel
theorem hy_X4_giveCredit : yX4_giveCredit.cls ≠ "java/lang/invoke/MethodHandle" ∧ yX4_giveCredit.cls ≠ "java/lang/invoke/VarHandle" ∧ (parseMethodDescriptor yX4_giveCredit.desc).map (fun d => d.parameters.length) = some 1 := by decide +kernel
theorem hy_X4_rebutPaper : yX4_rebutPaper.cls ≠ "java/lang/invoke/MethodHandle" ∧ yX4_rebutPaper.cls ≠ "java/lang/invoke/VarHandle" ∧ (parseMethodDescriptor yX4_rebutPaper.desc).map (fun d => d.parameters.length) = some 1 := by decide +kernel
theorem hy_X4_rebut : yX4_rebut.cls ≠ "java/lang/invoke/MethodHandle" ∧ yX4_rebut.cls ≠ "java/lang/invoke/VarHandle" ∧ (parseMethodDescriptor yX4_rebut.desc).map (fun d => d.parameters.length) = some 1 := by decide +kernel
theorem hy_X4_canDecide : yX4_canDecide.cls ≠ "java/lang/invoke/MethodHandle" ∧ yX4_canDecide.cls ≠ "java/lang/invoke/VarHandle" ∧ (parseMethodDescriptor yX4_canDecide.desc).map (fun d => d.parameters.length) = some 1 := by decide +kernel
theorem hy_X4_decide : yX4_decide.cls ≠ "java/lang/invoke/MethodHandle" ∧ yX4_decide.cls ≠ "java/lang/invoke/VarHandle" ∧ (parseMethodDescriptor yX4_decide.desc).map (fun d => d.parameters.length) = some 1 := by decide +kernel
theorem hy_X4_requireSlot : yX4_requireSlot.cls ≠ "java/lang/invoke/MethodHandle" ∧ yX4_requireSlot.cls ≠ "java/lang/invoke/VarHandle" ∧ (parseMethodDescriptor yX4_requireSlot.desc).map (fun d => d.parameters.length) = some 1 := by decide +kernel
theorem hy_X4_keep : yX4_keep.cls ≠ "java/lang/invoke/MethodHandle" ∧ yX4_keep.cls ≠ "java/lang/invoke/VarHandle" ∧ (parseMethodDescriptor yX4_keep.desc).map (fun d => d.parameters.length) = some 1 := by decide +kernel
theorem hy_X4_goBack : yX4_goBack.cls ≠ "java/lang/invoke/MethodHandle" ∧ yX4_goBack.cls ≠ "java/lang/invoke/VarHandle" ∧ (parseMethodDescriptor yX4_goBack.desc).map (fun d => d.parameters.length) = some 1 := by decide +kernel
theorem hy_X4_undo : yX4_undo.cls ≠ "java/lang/invoke/MethodHandle" ∧ yX4_undo.cls ≠ "java/lang/invoke/VarHandle" ∧ (parseMethodDescriptor yX4_undo.desc).map (fun d => d.parameters.length) = some 0 := by decide +kernel
theorem hy_X4_loadOf : yX4_loadOf.cls ≠ "java/lang/invoke/MethodHandle" ∧ yX4_loadOf.cls ≠ "java/lang/invoke/VarHandle" ∧ (parseMethodDescriptor yX4_loadOf.desc).map (fun d => d.parameters.length) = some 1 := by decide +kernel
theorem hy_X4_writtenBy : yX4_writtenBy.cls ≠ "java/lang/invoke/MethodHandle" ∧ yX4_writtenBy.cls ≠ "java/lang/invoke/VarHandle" ∧ (parseMethodDescriptor yX4_writtenBy.desc).map (fun d => d.parameters.length) = some 1 := by decide +kernel
theorem hy_X4_papersInConflict : yX4_papersInConflict.cls ≠ "java/lang/invoke/MethodHandle" ∧ yX4_papersInConflict.cls ≠ "java/lang/invoke/VarHandle" ∧ (parseMethodDescriptor yX4_papersInConflict.desc).map (fun d => d.parameters.length) = some 1 := by decide +kernel
theorem hy_X4_personProperty : yX4_personProperty.cls ≠ "java/lang/invoke/MethodHandle" ∧ yX4_personProperty.cls ≠ "java/lang/invoke/VarHandle" ∧ (parseMethodDescriptor yX4_personProperty.desc).map (fun d => d.parameters.length) = some 2 := by decide +kernel
theorem hy_X4_personOf : yX4_personOf.cls ≠ "java/lang/invoke/MethodHandle" ∧ yX4_personOf.cls ≠ "java/lang/invoke/VarHandle" ∧ (parseMethodDescriptor yX4_personOf.desc).map (fun d => d.parameters.length) = some 2 := by decide +kernel
theorem hy_X4_spreadIn : yX4_spreadIn.cls ≠ "java/lang/invoke/MethodHandle" ∧ yX4_spreadIn.cls ≠ "java/lang/invoke/VarHandle" ∧ (parseMethodDescriptor yX4_spreadIn.desc).map (fun d => d.parameters.length) = some 1 := by decide +kernel
theorem hy_X4_paperProperty : yX4_paperProperty.cls ≠ "java/lang/invoke/MethodHandle" ∧ yX4_paperProperty.cls ≠ "java/lang/invoke/VarHandle" ∧ (parseMethodDescriptor yX4_paperProperty.desc).map (fun d => d.parameters.length) = some 2 := by decide +kernel
theorem hy_X4_paperOf : yX4_paperOf.cls ≠ "java/lang/invoke/MethodHandle" ∧ yX4_paperOf.cls ≠ "java/lang/invoke/VarHandle" ∧ (parseMethodDescriptor yX4_paperOf.desc).map (fun d => d.parameters.length) = some 2 := by decide +kernel
theorem hy_X4_score : yX4_score.cls ≠ "java/lang/invoke/MethodHandle" ∧ yX4_score.cls ≠ "java/lang/invoke/VarHandle" ∧ (parseMethodDescriptor yX4_score.desc).map (fun d => d.parameters.length) = some 2 := by decide +kernel
theorem hy_X4_allSpent : yX4_allSpent.cls ≠ "java/lang/invoke/MethodHandle" ∧ yX4_allSpent.cls ≠ "java/lang/invoke/VarHandle" ∧ (parseMethodDescriptor yX4_allSpent.desc).map (fun d => d.parameters.length) = some 0 := by decide +kernel
theorem hy_X4_allTokens : yX4_allTokens.cls ≠ "java/lang/invoke/MethodHandle" ∧ yX4_allTokens.cls ≠ "java/lang/invoke/VarHandle" ∧ (parseMethodDescriptor yX4_allTokens.desc).map (fun d => d.parameters.length) = some 0 := by decide +kernel
theorem hy_X4_allReviews : yX4_allReviews.cls ≠ "java/lang/invoke/MethodHandle" ∧ yX4_allReviews.cls ≠ "java/lang/invoke/VarHandle" ∧ (parseMethodDescriptor yX4_allReviews.desc).map (fun d => d.parameters.length) = some 0 := by decide +kernel
theorem hy_X4_allWritten : yX4_allWritten.cls ≠ "java/lang/invoke/MethodHandle" ∧ yX4_allWritten.cls ≠ "java/lang/invoke/VarHandle" ∧ (parseMethodDescriptor yX4_allWritten.desc).map (fun d => d.parameters.length) = some 0 := by decide +kernel
theorem hy_X4_decidedPapers : yX4_decidedPapers.cls ≠ "java/lang/invoke/MethodHandle" ∧ yX4_decidedPapers.cls ≠ "java/lang/invoke/VarHandle" ∧ (parseMethodDescriptor yX4_decidedPapers.desc).map (fun d => d.parameters.length) = some 0 := by decide +kernel
theorem hy_X4_pairsWorked : yX4_pairsWorked.cls ≠ "java/lang/invoke/MethodHandle" ∧ yX4_pairsWorked.cls ≠ "java/lang/invoke/VarHandle" ∧ (parseMethodDescriptor yX4_pairsWorked.desc).map (fun d => d.parameters.length) = some 0 := by decide +kernel
theorem hy_X4_number : yX4_number.cls ≠ "java/lang/invoke/MethodHandle" ∧ yX4_number.cls ≠ "java/lang/invoke/VarHandle" ∧ (parseMethodDescriptor yX4_number.desc).map (fun d => d.parameters.length) = some 1 := by decide +kernel
theorem hy_X4_count : yX4_count.cls ≠ "java/lang/invoke/MethodHandle" ∧ yX4_count.cls ≠ "java/lang/invoke/VarHandle" ∧ (parseMethodDescriptor yX4_count.desc).map (fun d => d.parameters.length) = some 1 := by decide +kernel
theorem hy_X4_setting : yX4_setting.cls ≠ "java/lang/invoke/MethodHandle" ∧ yX4_setting.cls ≠ "java/lang/invoke/VarHandle" ∧ (parseMethodDescriptor yX4_setting.desc).map (fun d => d.parameters.length) = some 1 := by decide +kernel
theorem hy_X4_whyNot : yX4_whyNot.cls ≠ "java/lang/invoke/MethodHandle" ∧ yX4_whyNot.cls ≠ "java/lang/invoke/VarHandle" ∧ (parseMethodDescriptor yX4_whyNot.desc).map (fun d => d.parameters.length) = some 2 := by decide +kernel
theorem hy_X4_bestPersonFor : yX4_bestPersonFor.cls ≠ "java/lang/invoke/MethodHandle" ∧ yX4_bestPersonFor.cls ≠ "java/lang/invoke/VarHandle" ∧ (parseMethodDescriptor yX4_bestPersonFor.desc).map (fun d => d.parameters.length) = some 1 := by decide +kernel
theorem hy_X4_bestReviewer : yX4_bestReviewer.cls ≠ "java/lang/invoke/MethodHandle" ∧ yX4_bestReviewer.cls ≠ "java/lang/invoke/VarHandle" ∧ (parseMethodDescriptor yX4_bestReviewer.desc).map (fun d => d.parameters.length) = some 1 := by decide +kernel
theorem hy_X4_readFitting : yX4_readFitting.cls ≠ "java/lang/invoke/MethodHandle" ∧ yX4_readFitting.cls ≠ "java/lang/invoke/VarHandle" ∧ (parseMethodDescriptor yX4_readFitting.desc).map (fun d => d.parameters.length) = some 2 := by decide +kernel
theorem hy_X4_readMatching : yX4_readMatching.cls ≠ "java/lang/invoke/MethodHandle" ∧ yX4_readMatching.cls ≠ "java/lang/invoke/VarHandle" ∧ (parseMethodDescriptor yX4_readMatching.desc).map (fun d => d.parameters.length) = some 0 := by decide +kernel
theorem hy_X4_most : yX4_most.cls ≠ "java/lang/invoke/MethodHandle" ∧ yX4_most.cls ≠ "java/lang/invoke/VarHandle" ∧ (parseMethodDescriptor yX4_most.desc).map (fun d => d.parameters.length) = some 1 := by decide +kernel
theorem hy_X4_roundsFor : yX4_roundsFor.cls ≠ "java/lang/invoke/MethodHandle" ∧ yX4_roundsFor.cls ≠ "java/lang/invoke/VarHandle" ∧ (parseMethodDescriptor yX4_roundsFor.desc).map (fun d => d.parameters.length) = some 1 := by decide +kernel
theorem hy_X4_roundsToAgree : yX4_roundsToAgree.cls ≠ "java/lang/invoke/MethodHandle" ∧ yX4_roundsToAgree.cls ≠ "java/lang/invoke/VarHandle" ∧ (parseMethodDescriptor yX4_roundsToAgree.desc).map (fun d => d.parameters.length) = some 1 := by decide +kernel
theorem hy_X4_meanIn : yX4_meanIn.cls ≠ "java/lang/invoke/MethodHandle" ∧ yX4_meanIn.cls ≠ "java/lang/invoke/VarHandle" ∧ (parseMethodDescriptor yX4_meanIn.desc).map (fun d => d.parameters.length) = some 1 := by decide +kernel
theorem hy_X4_meanScore : yX4_meanScore.cls ≠ "java/lang/invoke/MethodHandle" ∧ yX4_meanScore.cls ≠ "java/lang/invoke/VarHandle" ∧ (parseMethodDescriptor yX4_meanScore.desc).map (fun d => d.parameters.length) = some 1 := by decide +kernel
theorem hy_X4_shareOfSpent : yX4_shareOfSpent.cls ≠ "java/lang/invoke/MethodHandle" ∧ yX4_shareOfSpent.cls ≠ "java/lang/invoke/VarHandle" ∧ (parseMethodDescriptor yX4_shareOfSpent.desc).map (fun d => d.parameters.length) = some 0 := by decide +kernel
theorem hy_X4_spentShare : yX4_spentShare.cls ≠ "java/lang/invoke/MethodHandle" ∧ yX4_spentShare.cls ≠ "java/lang/invoke/VarHandle" ∧ (parseMethodDescriptor yX4_spentShare.desc).map (fun d => d.parameters.length) = some 0 := by decide +kernel
theorem hy_L_up : yL_up.cls ≠ "java/lang/invoke/MethodHandle" ∧ yL_up.cls ≠ "java/lang/invoke/VarHandle" ∧ (parseMethodDescriptor yL_up.desc).map (fun d => d.parameters.length) = some 2 := by decide +kernel
theorem hy_L_bits : yL_bits.cls ≠ "java/lang/invoke/MethodHandle" ∧ yL_bits.cls ≠ "java/lang/invoke/VarHandle" ∧ (parseMethodDescriptor yL_bits.desc).map (fun d => d.parameters.length) = some 1 := by decide +kernel
theorem hy_L_looks : yL_looks.cls ≠ "java/lang/invoke/MethodHandle" ∧ yL_looks.cls ≠ "java/lang/invoke/VarHandle" ∧ (parseMethodDescriptor yL_looks.desc).map (fun d => d.parameters.length) = some 1 := by decide +kernel
theorem hy_L_act : yL_act.cls ≠ "java/lang/invoke/MethodHandle" ∧ yL_act.cls ≠ "java/lang/invoke/VarHandle" ∧ (parseMethodDescriptor yL_act.desc).map (fun d => d.parameters.length) = some 3 := by decide +kernel
theorem hy_L_holds : yL_holds.cls ≠ "java/lang/invoke/MethodHandle" ∧ yL_holds.cls ≠ "java/lang/invoke/VarHandle" ∧ (parseMethodDescriptor yL_holds.desc).map (fun d => d.parameters.length) = some 1 := by decide +kernel
theorem hy_L_isAhead : yL_isAhead.cls ≠ "java/lang/invoke/MethodHandle" ∧ yL_isAhead.cls ≠ "java/lang/invoke/VarHandle" ∧ (parseMethodDescriptor yL_isAhead.desc).map (fun d => d.parameters.length) = some 2 := by decide +kernel
