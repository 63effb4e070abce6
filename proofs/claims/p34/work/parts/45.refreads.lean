-- needs: 44
noncomputable section
theorem fcmp_self {x : UInt32} (h : x.toNat ≤ 2139095040) : FP.fcmp x x = some .eq := by rw [fcmp_b h h, Nat.compare_eq_eq.mpr rfl]
/-- a call that changes nothing but what was thrown and the loads -/
theorem OpP_rd {h : AH} {code : Int32} {K : Nat} {ld : Nat → UInt32} : OpP h (hFr (hI h 0 0 code) 27 ld) code (h.1 0 12) (h.1 0 13) (h.1 1) (h.2.1 5) false K := by
  obtain ⟨a1, a2, a3, a4, a5, a6, a7⟩ := OpP_x (h := h) (code := code) (K := K)
  refine ⟨a1, a2, a3, a4, ?_, a6.to ⟨rfl, fun i hi => ⟨rfl, hFr_ne _ _ (by omega)⟩⟩, a7.tr ⟨fun _ _ _ => rfl, fun _ _ _ _ _ => rfl, fun a _ x _ => hFr_ne _ _ x, rfl⟩⟩
  rw [← a5]; exact hFr_ne _ _ (by decide)
def passC (n : Int32) : Int32 := if ¬ (1 ≤ n ∧ n ≤ 48) then 1 else 0
def passR (r : Nat → Int32) (w : Nat → UInt32) (n : Int32) : Nat → Int32 := if passC n = 0 then hoursR n.toNatClampNeg r w else r
def passW (r : Nat → Int32) (w : Nat → UInt32) (n : Int32) : Nat → UInt32 := if passC n = 0 then hoursW n.toNatClampNeg r w else w
abbrev goneN (r : Nat → Int32) : Nat := cntS r 2 (CN r)
def loadC (r : Nat → Int32) (x : Int32) : Int32 := if ¬ (0 ≤ x ∧ x ≤ r 4 - 1) then 1 else if ofB r x.toNatClampNeg 2 = 1 then 0 else 2
def loadV (r : Nat → Int32) (w : Nat → UInt32) (x ag : Int32) : UInt32 := if ag = 0 then LDw r w x.toNatClampNeg else bornR r w x.toNatClampNeg
theorem hI_22 {h : AH} {x y : Int32} : hI (hI h 0 0 x) 0 0 y = hI h 0 0 y := hI_2
def blockC (r : Nat → Int32) (x f : Int32) : Int32 := if ¬ (0 ≤ x ∧ x ≤ r 4 - 1) then 1 else if 0 ≤ f ∧ f ≤ 7 then 0 else 2
def massC (r : Nat → Int32) (x : Int32) : Int32 := if ¬ (0 ≤ x ∧ x ≤ r 4 - 1) then 1 else if ofB r x.toNatClampNeg 2 = 2 then 2 else 0
def atC (y z : Int32) : Int32 := if (0 ≤ y ∧ y ≤ 11) ∧ (0 ≤ z ∧ z ≤ 7) then 0 else 1
def heightC (y : Int32) : Int32 := if 0 ≤ y ∧ y ≤ 11 then 0 else 1
def shadyC (r : Nat → Int32) (x hr : Int32) : Int32 := if ¬ ((0 ≤ x ∧ x ≤ r 4 - 1) ∧ 0 ≤ hr ∧ hr ≤ 23) then 1 else if ofB r x.toNatClampNeg 2 = 1 then 0 else 2
end
