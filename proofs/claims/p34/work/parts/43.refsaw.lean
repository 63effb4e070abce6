-- needs: 42
noncomputable section
/-- why a sawing is refused, and the detail; 0: it isn't -/
def sawQ (r : Nat → Int32) (kind len rack : Int32) : Int32 × Int32 := if r 4 = 40 then (1, 40) else if r 1 < 10 then (2, r 1) else if r 2 < len then (3, r 2) else if freeP r rack = 5 then (4, rack) else if kind ≠ rack then (5, rack) else (0, 0)
/-- a block is sawn -/
def sawR (r : Nat → Int32) (kind len place : Int32) : Nat → Int32 := upd (upd (setB (upd (upd r (125 + 8 * CN r + 0) kind) (125 + 8 * CN r + 1) len) (CN r) 0 (-1) (-1) 0 place 0) 2 (r 2 - len)) 4 (r 4 + 1)
def sawM (r : Nat → Int32) (kind len : Int32) : UInt32 := FP.fmul (FP.fmul (FP.i2f len) (FP.i2f (r 1))) (if kind = 0 then 0x3f800000 else 0x3f000000)
def sawC (r : Nat → Int32) (kind len rack : Int32) : Int32 := if ¬ (0 ≤ rack ∧ rack ≤ 1) then 1 else if ¬ ((0 ≤ kind ∧ kind ≤ 1) ∧ (1 ≤ len ∧ len ≤ 6)) then 2 else if (sawQ r kind len rack).1 ≠ 0 then 3 else 0
def sawR9 (r : Nat → Int32) (kind len rack : Int32) : Nat → Int32 := if sawC r kind len rack = 0 then sawR r kind len (nI (freeP r rack)) else r
def sawW9 (r : Nat → Int32) (w : Nat → UInt32) (kind len rack : Int32) : Nat → UInt32 := if sawC r kind len rack = 0 then vf_upd w (CN r) (sawM r kind len) else w
theorem hF_5' {h : AH} {r : Nat → Int32} {w : Nat → UInt32} {k : Nat} {x : UInt32} : hF (setR h r w) 5 k x = setR h r (vf_upd w k x) := hF_5 h r w k x
/-- the thickness, the length that is left -/
def HdX (r : Nat → Int32) : Prop := (∃ T, T ≤ 60 ∧ r 1 = nI T)
end
