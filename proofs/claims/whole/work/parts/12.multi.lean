/-! ROWS THAT THE KIT HASN'T: an array of arrays; a copy out of a static array -/
section XM
variable {Z : ZT} {cc : ByteArray} {own : String} {nL : Nat} {R : Room} {S : PH} {k n pc : Nat} {l : List (Nat × Value)} {st : List Value}
theorem x_multi (h : CX Z cc own nL R) {i : Nat} (hw : Cond.classLink own i "[[I" ∈ w_G) (hov : Cond.arrayOver (.array .int) ∈ x_W) (h1 : k + 9 ≤ R.cells) (h2 : n + 72 ≤ R.slots) (d : decode cc pc = .ok (.multianewarray i 2, 4)) {f : Nat → PH → Prop} (hf : wmul S f) (kk : ∀ q S', f q S' → PX Z nL S' (k + 9) (n + 72) (pc + 4) l (va_rf (some q) :: st)) : PX Z nL S k n pc l (.int 8 :: .int 8 :: st) := by
  sorry
theorem x_copyT (h : CX Z cc own nL R) {i a t : Nat} {r : Option Nat} {vs : List Int32} (hw1 : Cond.methodLink own i arraycopyName ∈ w_G) (hw2 : Cond.native arraycopyName ∈ w_G) (hw3 : Cond.static arraycopyName ∈ w_G) (hw4 : Cond.initialized "java/lang/System" ∈ w_G) (ht : ST Z t vs) (e1 : r = some a) (ha : a ∈ p_L S ∧ p_K S a = 6) {sp dp z : Int32} (h1 : ¬ sp < 0) (h2 : ¬ dp < 0) (h3 : ¬ z < 0) (h4 : sp.toNatClampNeg + z.toNatClampNeg ≤ 4) (h5 : dp.toNatClampNeg + z.toNatClampNeg ≤ p_N S a) (hst : st.length ≤ 4) (hRf : 1 ≤ R.frames) (hRl : 8 + (nativeFrameWords "java/lang/System" "arraycopy" 5 + 11) ≤ R.locals) (d : decode cc pc = .ok (.invokestatic i, 3)) (kk : PX Z nL (s_W S a (va_cpy (fun j => List.getD vs j 0) (p_I S a) sp.toNatClampNeg dp.toNatClampNeg z.toNatClampNeg)) k n (pc + 3) l st) : PX Z nL S k n pc l (.int z :: .int dp :: va_rf r :: .int sp :: .ref t :: st) := by
  sorry
end XM
