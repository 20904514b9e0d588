/-! BITS of means -/
def r_dn : Nat → UInt64 → Int64 → Option (UInt64 × Int64)
  | 0, _, _ => none
  | n + 1, r, e => if (Op.cmpValue (FP.dcmp r (4611686018427387904 : UInt64)) .l) < 0 then some (r, e) else if 0 ≤ (lg_cmp e (2046 : Int64)) then some (r, e) else if nn64 (FP.dmul r (4602678819172646912 : UInt64)) = true then r_dn n (FP.dmul r (4602678819172646912 : UInt64)) (e + (1 : Int64)) else none
def r_up : Nat → UInt64 → Int64 → Option (UInt64 × Int64)
  | 0, _, _ => none
  | n + 1, r, e => if 0 ≤ (Op.cmpValue (FP.dcmp r FP.dconst1) .g) then some (r, e) else if (lg_cmp e (1 : Int64)) ≤ 0 then some (r, e) else if nn64 (FP.dmul r (4611686018427387904 : UInt64)) = true then r_up n (FP.dmul r (4611686018427387904 : UInt64)) (e - (1 : Int64)) else none
def r_fin (s : Int64) (p : UInt64 × Int64) : Option Int64 := if nn64 (FP.dsub p.1 FP.dconst1) = true then (if nn64 (FP.dmul (FP.dsub p.1 FP.dconst1) (4841369599423283200 : UInt64)) = true then some ((s ||| (p.2 <<< ((Int32.toInt64 (52 : Int32)) &&& 63))) ||| (FP.d2l (FP.dmul (FP.dsub p.1 FP.dconst1) (4841369599423283200 : UInt64)))) else none) else none
def r_go (s : Int64) (x : UInt64) : Option Int64 := (r_dn 12 x (1023 : Int64)).bind fun p => (r_up 12 p.1 p.2).bind fun p => r_fin s p
def dbl (x : UInt64) : Option Int64 := if (Op.cmpValue (FP.dcmp x FP.dconst0) .l) = 0 then some 0 else if 0 ≤ (Op.cmpValue (FP.dcmp x FP.dconst0) .g) then r_go 0 x else r_go (-9223372036854775808 : Int64) (FP.dneg x)
def s_dn : Nat → UInt64 → Int64 → Option (UInt64 × Int64)
  | 0, _, _ => none
  | n + 1, r, e => if (Op.cmpValue (FP.dcmp r (4611686018427387904 : UInt64)) .l) < 0 then some (r, e) else if nn64 (FP.ddiv r (4611686018427387904 : UInt64)) = true then s_dn n (FP.ddiv r (4611686018427387904 : UInt64)) (e + (1 : Int64)) else none
def s_up : Nat → UInt64 → Int64 → Option (UInt64 × Int64)
  | 0, _, _ => none
  | n + 1, r, e => if 0 ≤ (Op.cmpValue (FP.dcmp r FP.dconst1) .g) then some (r, e) else if nn64 (FP.dmul r (4611686018427387904 : UInt64)) = true then s_up n (FP.dmul r (4611686018427387904 : UInt64)) (e - (1 : Int64)) else none
def s_fin (k : Int64) (p : UInt64 × Int64) : Option Int64 := if nn64 (FP.dsub p.1 FP.dconst1) = true then (if nn64 (FP.dmul (FP.dsub p.1 FP.dconst1) (FP.l2d k)) = true then some ((p.2 * k) + (FP.d2l (FP.dmul (FP.dsub p.1 FP.dconst1) (FP.l2d k)))) else none) else none
def bts (x : UInt64) (k one : Int64) : Option Int64 := if (Op.cmpValue (FP.dcmp x FP.dconst0) .l) = 0 then some 0 else (s_dn 12 x one).bind fun p => (s_up 12 p.1 p.2).bind fun p => s_fin k p
def rbits (x : UInt64) : Option Int64 := if 0 ≤ (Op.cmpValue (FP.dcmp x FP.dconst0) .g) then bts x (4503599627370496 : Int64) (1023 : Int64) else some (-4616189618054758400 : Int64)
def okb (x : UInt64) : Bool := decide (dbl x = rbits x) && (dbl x).isSome
theorem ok_means : ∀ a, a < 73 → ∀ b, b < 8 → okb (FP.ddiv (FP.i2d (nI a)) (FP.i2d (nI (b + 1)))) = true := by decide +kernel
theorem ok_m1 : okb 13830554455654793216 = true := by decide +kernel
