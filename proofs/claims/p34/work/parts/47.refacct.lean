-- needs: 46
noncomputable section
/-- sums of lengths, reasons, the account -/
def sumN (f : Nat → Nat) : Nat → Nat
  | 0 => 0
  | n + 1 => sumN f n + f n
theorem sumN_congr {f g : Nat → Nat} : ∀ {n : Nat}, (∀ k, k < n → f k = g k) → sumN f n = sumN g n
  | 0, _ => rfl
  | n + 1, h => by
    show sumN f n + f n = sumN g n + g n
    rw [sumN_congr (fun k hk => h k (by omega)), h n (by omega)]
def lenF (r : Nat → Int32) (al : Bool) (k : Nat) : Nat := if al = true ∨ ofB r k 2 = 1 then LN r k else 0
abbrev lenN (r : Nat → Int32) (al : Bool) : Nat := sumN (lenF r al) (CN r)
abbrev whyN (r : Nat → Int32) (x : Int32) (n : Nat) : Nat := cntP (fun k => decide (ofB r k 7 = x)) n
def acctC (n : Int32) : Int32 := if 0 ≤ n ∧ n ≤ 14 then 0 else 1
def acctV (r : Nat → Int32) (len kept : Int32) (n : Nat) : Int32 := if n < 5 then r n else if n = 5 then nI (cntS r 0 (CN r)) else if n = 6 then nI (cntS r 1 (CN r)) else if n < 11 then nI (whyN r (nI (n - 6)) (CN r)) else if n = 11 then nI (lenN r false) else if n = 12 then tOf r else if n = 13 then len else kept
end
