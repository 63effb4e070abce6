-- needs: 62
noncomputable section
/-- carrying out an order: what is thrown, the fault, reason and detail, row, masses -/
def stC (o : Int32) (r : Nat → Int32) (q : Int32 × Int32 × Int32) : Int32 := if o = 115 then sawC r q.1 q.2.1 q.2.2 else if o = 108 then layC r q.1 q.2.1 q.2.2 else if o = 104 then passC q.1 else if o = 118 then visitC q.1 else heatC q.1 q.2.1
def stX (o : Int32) : Int32 := if o = 115 then 3 else if o = 108 then 2 else 0
def ftI (code x : Int32) : Int32 := if code = 0 then 0 else if code = x then 2 else 1
abbrev stF (o : Int32) (r : Nat → Int32) (q : Int32 × Int32 × Int32) : Int32 := ftI (stC o r q) (stX o)
def stD (o : Int32) (r : Nat → Int32) (q : Int32 × Int32 × Int32) (s : Int32 × Int32) : Int32 × Int32 := if o = 115 then (if sawC r q.1 q.2.1 q.2.2 = 3 then sawQ r q.1 q.2.1 q.2.2 else s) else if o = 108 then (if layC r q.1 q.2.1 q.2.2 = 2 then layQ r q.1.toNatClampNeg q.2.1.toNatClampNeg q.2.2.toNatClampNeg else s) else s
def stR (o : Int32) (r : Nat → Int32) (w : Nat → UInt32) (q : Int32 × Int32 × Int32) : Nat → Int32 := if o = 115 then sawR9 r q.1 q.2.1 q.2.2 else if o = 108 then layR9 r q.1 q.2.1 q.2.2 else if o = 104 then passR r w q.1 else if o = 118 then visitR r q.1 else heatR r q.1 q.2.1
def stW (o : Int32) (r : Nat → Int32) (w : Nat → UInt32) (q : Int32 × Int32 × Int32) : Nat → UInt32 := if o = 115 then sawW9 r w q.1 q.2.1 q.2.2 else if o = 104 then passW r w q.1 else w
theorem Inv.st {B : Nat} {r : Nat → Int32} {w : Nat → UInt32} (h : Inv B r w) (o : Int32) (q : Int32 × Int32 × Int32) (hB : B + 48 < 2 ^ 30) : ∃ B', B' ≤ B + 48 ∧ Inv B' (stR o r w q) (stW o r w q) := by
  unfold stR stW
  by_cases c1 : o = 115
  · rw [if_pos c1, if_pos c1]; exact ⟨B, by omega, h.saw9 _ _ _⟩
  rw [if_neg c1, if_neg c1]
  by_cases c2 : o = 108
  · rw [if_pos c2, if_neg (fun z => absurd (c2.symm.trans z) (by decide))]; exact ⟨B, by omega, h.lay9 _ _ _⟩
  rw [if_neg c2]
  by_cases c3 : o = 104
  · rw [if_pos c3, if_pos c3]; exact h.pass _ hB
  rw [if_neg c3, if_neg c3]
  by_cases c4 : o = 118
  · rw [if_pos c4]; exact ⟨B, by omega, h.visit _⟩
  rw [if_neg c4]
  exact ⟨B, by omega, h.heat _ _⟩
theorem st_115 {r : Nat → Int32} {w : Nat → UInt32} {q : Int32 × Int32 × Int32} {s : Int32 × Int32} : stC 115 r q = sawC r q.1 q.2.1 q.2.2 ∧ stX 115 = 3 ∧ stD 115 r q s = (if sawC r q.1 q.2.1 q.2.2 = 3 then sawQ r q.1 q.2.1 q.2.2 else s) ∧ stR 115 r w q = sawR9 r q.1 q.2.1 q.2.2 ∧ stW 115 r w q = sawW9 r w q.1 q.2.1 q.2.2 := by
  refine ⟨?_, ?_, ?_, ?_, ?_⟩
  · unfold stC; rw [if_pos rfl]
  · unfold stX; rw [if_pos rfl]
  · unfold stD; rw [if_pos rfl]
  · unfold stR; rw [if_pos rfl]
  · unfold stW; rw [if_pos rfl]
theorem st_108 {r : Nat → Int32} {w : Nat → UInt32} {q : Int32 × Int32 × Int32} {s : Int32 × Int32} : stC 108 r q = layC r q.1 q.2.1 q.2.2 ∧ stX 108 = 2 ∧ stD 108 r q s = (if layC r q.1 q.2.1 q.2.2 = 2 then layQ r q.1.toNatClampNeg q.2.1.toNatClampNeg q.2.2.toNatClampNeg else s) ∧ stR 108 r w q = layR9 r q.1 q.2.1 q.2.2 ∧ stW 108 r w q = w := by
  refine ⟨?_, ?_, ?_, ?_, ?_⟩
  · unfold stC; rw [if_neg (by decide), if_pos rfl]
  · unfold stX; rw [if_neg (by decide), if_pos rfl]
  · unfold stD; rw [if_neg (by decide), if_pos rfl]
  · unfold stR; rw [if_neg (by decide), if_pos rfl]
  · unfold stW; rw [if_neg (by decide), if_neg (by decide)]
theorem st_104 {r : Nat → Int32} {w : Nat → UInt32} {q : Int32 × Int32 × Int32} {s : Int32 × Int32} : stC 104 r q = passC q.1 ∧ stX 104 = 0 ∧ stD 104 r q s = s ∧ stR 104 r w q = passR r w q.1 ∧ stW 104 r w q = passW r w q.1 := by
  refine ⟨?_, ?_, ?_, ?_, ?_⟩
  · unfold stC; rw [if_neg (by decide), if_neg (by decide), if_pos rfl]
  · unfold stX; rw [if_neg (by decide), if_neg (by decide)]
  · unfold stD; rw [if_neg (by decide), if_neg (by decide)]
  · unfold stR; rw [if_neg (by decide), if_neg (by decide), if_pos rfl]
  · unfold stW; rw [if_neg (by decide), if_pos rfl]
theorem st_118 {r : Nat → Int32} {w : Nat → UInt32} {q : Int32 × Int32 × Int32} {s : Int32 × Int32} : stC 118 r q = visitC q.1 ∧ stX 118 = 0 ∧ stD 118 r q s = s ∧ stR 118 r w q = visitR r q.1 ∧ stW 118 r w q = w := by
  refine ⟨?_, ?_, ?_, ?_, ?_⟩
  · unfold stC; rw [if_neg (by decide), if_neg (by decide), if_neg (by decide), if_pos rfl]
  · unfold stX; rw [if_neg (by decide), if_neg (by decide)]
  · unfold stD; rw [if_neg (by decide), if_neg (by decide)]
  · unfold stR; rw [if_neg (by decide), if_neg (by decide), if_neg (by decide), if_pos rfl]
  · unfold stW; rw [if_neg (by decide), if_neg (by decide)]
theorem st_116 {r : Nat → Int32} {w : Nat → UInt32} {q : Int32 × Int32 × Int32} {s : Int32 × Int32} : stC 116 r q = heatC q.1 q.2.1 ∧ stX 116 = 0 ∧ stD 116 r q s = s ∧ stR 116 r w q = heatR r q.1 q.2.1 ∧ stW 116 r w q = w := by
  refine ⟨?_, ?_, ?_, ?_, ?_⟩
  · unfold stC; rw [if_neg (by decide), if_neg (by decide), if_neg (by decide), if_neg (by decide)]
  · unfold stX; rw [if_neg (by decide), if_neg (by decide)]
  · unfold stD; rw [if_neg (by decide), if_neg (by decide)]
  · unfold stR; rw [if_neg (by decide), if_neg (by decide), if_neg (by decide), if_neg (by decide)]
  · unfold stW; rw [if_neg (by decide), if_neg (by decide)]
def KnO (o : Int32) : Prop := o = 115 ∨ o = 108 ∨ o = 104 ∨ o = 118 ∨ o = 116
end
