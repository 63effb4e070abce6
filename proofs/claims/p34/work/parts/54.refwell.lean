-- needs: 53
noncomputable section
theorem cnt3 {r : Nat → Int32} : ∀ n, (∀ b, b < n → ofB r b 2 = 0 ∨ ofB r b 2 = 1 ∨ ofB r b 2 = 2) → cntS r 0 n + cntS r 1 n + cntS r 2 n = n
  | 0, _ => rfl
  | n + 1, h => by
    have IH := cnt3 n (fun b hb => h b (by omega))
    have cs : ∀ s, cntS r s (n + 1) = cntS r s n + (if ofB r n 2 = s then 1 else 0) := fun s => by
      by_cases q : ofB r n 2 = s <;> simp [cntS, cntP, q]
    rw [cs, cs, cs]
    rcases h n (by omega) with q | q | q
    · rw [q, if_pos rfl, if_neg (by decide), if_neg (by decide)]; omega
    · rw [q, if_neg (by decide), if_pos rfl, if_neg (by decide)]; omega
    · rw [q, if_neg (by decide), if_neg (by decide), if_pos rfl]; omega
theorem Str.s3 {r : Nat → Int32} (h : Str r) {b : Nat} (hb : b < CN r) : ofB r b 2 = 0 ∨ ofB r b 2 = 1 ∨ ofB r b 2 = 2 := (h.b hb).2.elim (fun q => Or.inl q.1) (fun q => q.elim (fun z => Or.inr (Or.inl z.1)) (fun z => Or.inr (Or.inr z.1)))
/-- what is on the wall is supported, and 200 of ice stay 200 -/
def SupW (r : Nat → Int32) : Prop := ∀ b, b < CN r → ofB r b 2 = 1 → LN r b ≤ 2 * supN r b
def IceW (r : Nat → Int32) : Prop := ∃ L, r 2 = nI L ∧ L + lenN r true = 200
end
