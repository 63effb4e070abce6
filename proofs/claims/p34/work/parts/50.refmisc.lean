-- needs: 49
noncomputable section
def refusC (h : AH) : Int32 := if h.1 0 12 = 0 then 1 else 0
/-- the block whose load comes nearest to what it bears -/
def qtF (r : Nat → Int32) (w : Nat → UInt32) (k : Nat) : UInt32 := FP.fdiv (LDw r w k) (bornR r w k)
def oI : Option Nat → Int32
  | none => -1
  | some b => nI b
def wstS (r : Nat → Int32) (w : Nat → UInt32) (k : Nat) (s : Option Nat) : Option Nat := if ofB r k 2 = 1 then (match s with | none => some k | some b => if 0 < Op.cmpValue (FP.fcmp (qtF r w k) (qtF r w b)) .l then some k else some b) else s
def wstN (r : Nat → Int32) (w : Nat → UInt32) (n : Nat) : Option Nat := iterN (wstS r w) n none
theorem wstN_ok {r : Nat → Int32} {w : Nat → UInt32} : ∀ n b, wstN r w n = some b → b < n ∧ ofB r b 2 = 1
  | 0, b, h => nomatch h
  | n + 1, b, h => by
    have e : wstN r w (n + 1) = wstS r w n (wstN r w n) := rfl
    rw [e] at h
    unfold wstS at h
    by_cases c1 : ofB r n 2 = 1
    · rw [if_pos c1] at h
      cases hs : wstN r w n with
      | none =>
        rw [hs] at h
        cases h
        exact ⟨by omega, c1⟩
      | some k =>
        rw [hs] at h
        have := wstN_ok n k hs
        dsimp at h
        split at h
        · cases h; exact ⟨by omega, c1⟩
        · cases h; exact ⟨by omega, this.2⟩
    · rw [if_neg c1] at h
      have := wstN_ok n b h
      exact ⟨by omega, this.2⟩
theorem qt_nn {r : Nat → Int32} {w : Nat → UInt32} (hw : Wel r) (hm : MasW r w) {b : Nat} (hb : b < CN r) (hs : ofB r b 2 = 1) : nn (qtF r w b) := by
  have h1 := LDw_ok hw hm hb
  have ho := (hw.2.2 b hb).2 hs
  have h2 := born_ok (kd := KD r b) (hm b hb hs) (show JT r b < 10 by have := ho.2.2.2.2.2; omega)
  exact f_nn (fdiv_b h1.1 h2.2.1 (Nat.lt_of_lt_of_le (by decide) h2.2.2.1)).1
def worstC (r : Nat → Int32) : Int32 := if cntS r 1 (CN r) = 0 then 1 else 0
end
