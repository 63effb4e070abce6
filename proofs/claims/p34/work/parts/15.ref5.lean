-- needs: 14
noncomputable section
/-- one course handed down: of the first k blocks -/
def courseS (r : Nat → Int32) (w : Nat → UInt32) (c : Nat) (k : Nat) (ld : Nat → UInt32) : Nat → UInt32 := iterN (fun k ld => if ofB r k 2 = 1 ∧ ofB r k 4 = nI c then giveR r w ld k (CN r) else ld) k ld
def loadsI (r : Nat → Int32) (w : Nat → UInt32) (ld : Nat → UInt32) (i : Nat) : Nat → UInt32 := iterN (fun i ld => courseS r w (7 - i) (CN r) ld) i ld
def zeroF (ld : Nat → UInt32) : Nat → UInt32 := fun b => if b < 40 then 0 else ld b
/-- the load of a block on the wall -/
abbrev LDw (r : Nat → Int32) (w : Nat → UInt32) (b : Nat) : UInt32 := LD r w (7 - CU r b) b
def ldInv (r : Nat → Int32) (w : Nat → UInt32) (i k : Nat) (S : Nat → UInt32) : Prop := ∀ b, b < CN r → (ofB r b 2 = 1 → (7 - i ≤ CU r b → S b = LDw r w b) ∧ (CU r b + 1 = 7 - i → S b = LDs (LD r w i) r w b k)) ∧ (¬ (ofB r b 2 = 1 ∧ 7 - i ≤ CU r b + 1) → S b = 0)
theorem ldInv_0 {r : Nat → Int32} {w ld : Nat → UInt32} (hw : Wel r) : ldInv r w 0 0 (zeroF ld) := by
  intro b hb
  have h40 := hw.2.1
  have hz : zeroF ld b = 0 := if_pos (by omega)
  refine ⟨fun hs => ⟨fun h7 => ?_, fun h6 => ?_⟩, fun _ => hz⟩
  · rw [hz]
    show _ = LD r w (7 - CU r b) b
    rw [show 7 - CU r b = 0 by omega]
    rfl
  · rw [hz]
    rfl
theorem ldInv_n {r : Nat → Int32} {w S : Nat → UInt32} {i : Nat} (hi : i < 7) (h : ldInv r w i (CN r) S) : ldInv r w (i + 1) 0 S := by
  intro b hb
  obtain ⟨h1, h2⟩ := h b hb
  refine ⟨fun hs => ⟨fun h7 => ?_, fun h6 => ?_⟩, fun hn => h2 (fun q => hn ⟨q.1, by omega⟩)⟩
  · by_cases h8 : 7 - i ≤ CU r b
    · exact (h1 hs).1 h8
    · have e := (h1 hs).2 (by omega)
      rw [e]
      show _ = LD r w (7 - CU r b) b
      rw [show 7 - CU r b = i + 1 by omega]
      rfl
  · rw [h2 (fun q => by omega)]
    rfl
theorem CU_nI {r : Nat → Int32} {b c : Nat} (h : PlOk r b) (hc : c < 100) (e : ofB r b 4 = nI c) : CU r b = c := by
  show (ofB r b 4).toNatClampNeg = c
  rw [e]
  exact cl c
theorem LDs_s {f : Nat → UInt32} {r : Nat → Int32} {w : Nat → UInt32} {b k : Nat} : LDs f r w b (k + 1) = if onBb r k b = true then FP.fadd (LDs f r w b k) (shareF (w k) (f k) (colsN r k b) (supN r k)) else LDs f r w b k := rfl
theorem ldInv_s {r : Nat → Int32} {w S : Nat → UInt32} {i k : Nat} (hw : Wel r) (hm : MasW r w) (hi : i < 7) (hk : k < CN r) (h : ldInv r w i k S) : ldInv r w i (k + 1) (if ofB r k 2 = 1 ∧ ofB r k 4 = nI (7 - i) then giveR r w S k (CN r) else S) ∧ (ofB r k 2 = 1 ∧ ofB r k 4 = nI (7 - i) → giveNN r w S k ∧ 0 < CU r k) := by
  have h40 := hw.2.1
  by_cases hc : ofB r k 2 = 1 ∧ ofB r k 4 = nI (7 - i)
  · have pk := (hw.2.2 k hk).2 hc.1
    have ck := CU_nI pk (by omega) hc.2
    have sk : S k = LD r w i k := by
      have := ((h k hk).1 hc.1).1 (by omega)
      rw [this]
      show LD r w (7 - CU r k) k = _
      rw [ck, show 7 - (7 - i) = i by omega]
    have cond : ∀ b, b < CN r → (ofB r b 2 = 1 ∧ ofB r b 4 = ofB r k 4 - 1 ∧ 0 < colsN r k b) → CU r b + 1 = 7 - i ∧ onB r k b := by
      intro b hb hq
      have pb := (hw.2.2 b hb).2 hq.1
      have e1 : ofB r b 4 = nI (7 - i - 1) := by rw [hq.2.1, hc.2, nI_mod (by omega)]
      have cb := CU_nI pb (by omega) e1
      refine ⟨by omega, hc.1, ?_, hq.2.2⟩
      rw [e1, hc.2, nI_1]
      congr 1
      omega
    have cond2 : ∀ b, b < CN r → ofB r b 2 = 1 → CU r b + 1 = 7 - i → onB r k b → (ofB r b 2 = 1 ∧ ofB r b 4 = ofB r k 4 - 1 ∧ 0 < colsN r k b) := by
      intro b hb hs hcb ho
      refine ⟨hs, ?_, ho.2.2⟩
      have pb := (hw.2.2 b hb).2 hs
      rw [hc.2, pb.2.2.1, nI_mod (by omega)]
      congr 1
      omega
    rw [if_pos hc]
    constructor
    · intro b hb
      obtain ⟨h1, h2⟩ := h b hb
      by_cases hq : ofB r b 2 = 1 ∧ ofB r b 4 = ofB r k 4 - 1 ∧ 0 < colsN r k b
      · obtain ⟨c1, c2⟩ := cond b hb hq
        have eg : giveR r w S k (CN r) b = FP.fadd (S b) (shareF (w k) (S k) (colsN r k b) (supN r k)) := if_pos ⟨hb, hq⟩
        refine ⟨fun hs => ⟨fun h7 => by omega, fun h6 => ?_⟩, fun hn => absurd ⟨hq.1, by omega⟩ hn⟩
        rw [eg, LDs_s, if_pos (onBb_t.mpr c2), (h1 hs).2 h6, sk]
      · have eg : giveR r w S k (CN r) b = S b := if_neg (fun q => hq q.2)
        rw [eg]
        refine ⟨fun hs => ⟨(h1 hs).1, fun h6 => ?_⟩, h2⟩
        rw [LDs_s, if_neg (fun q => hq (cond2 b hb hs h6 (onBb_t.mp q)))]
        exact (h1 hs).2 h6
    · intro _
      refine ⟨fun b hb hq => ?_, by omega⟩
      obtain ⟨c1, c2⟩ := cond b hb hq
      have e2 := ((h b hb).1 hq.1).2 c1
      rw [sk, e2]
      have hP := LDs_P hw hm hb (n := i) (by omega) (fun k2 hk2 => LD_ok hw hm i k2 (by omega) hk2) k (by omega)
      obtain ⟨n1, n2, n3, n4, -⟩ := share_nn hw hm hk hb hc.1 hq.2.2 (n := i) (j := k) (by omega) (LD_ok hw hm i k (by omega) hk) (by omega) hP
      exact ⟨n1, n2, n3, n4⟩
  · rw [if_neg hc]
    refine ⟨fun b hb => ?_, fun q => absurd q hc⟩
    obtain ⟨h1, h2⟩ := h b hb
    refine ⟨fun hs => ⟨(h1 hs).1, fun h6 => ?_⟩, h2⟩
    rw [LDs_s, if_neg (fun q => hc ?_)]
    · exact (h1 hs).2 h6
    · have ho := onBb_t.mp q
      refine ⟨ho.1, ?_⟩
      have pb := (hw.2.2 b hb).2 hs
      rw [ho.2.1, pb.2.2.1, nI_1, h6]
theorem ldInv_c {r : Nat → Int32} {w S : Nat → UInt32} {i : Nat} (hw : Wel r) (hm : MasW r w) (hi : i < 7) (h : ldInv r w i 0 S) : ∀ k, k ≤ CN r → ldInv r w i k (courseS r w (7 - i) k S) :=
  iterN_inv (I := fun k t => ldInv r w i k t) h (fun k t hk ht => (ldInv_s hw hm hi hk ht).1)
theorem ldInv_i {r : Nat → Int32} {w ld : Nat → UInt32} (hw : Wel r) (hm : MasW r w) : ∀ i, i ≤ 7 → ldInv r w i 0 (loadsI r w (zeroF ld) i) :=
  iterN_inv (I := fun i t => ldInv r w i 0 t) (ldInv_0 hw) (fun i t hi ht => ldInv_n hi (ldInv_c hw hm hi ht (CN r) (Nat.le_refl _)))
/-- the loads as they are found -/
abbrev loadsR (r : Nat → Int32) (w ld : Nat → UInt32) : Nat → UInt32 := loadsI r w (zeroF ld) 7
theorem loadsR_at {r : Nat → Int32} {w ld : Nat → UInt32} (hw : Wel r) (hm : MasW r w) {b : Nat} (hb : b < CN r) (hs : ofB r b 2 = 1) : loadsR r w ld b = LDw r w b := ((ldInv_i hw hm 7 (Nat.le_refl _) b hb).1 hs).1 (by omega)
theorem LDw_ok {r : Nat → Int32} {w : Nat → UInt32} (hw : Wel r) (hm : MasW r w) {b : Nat} (hb : b < CN r) : ldOk 7 (LDw r w b) := by
  have := LD_ok hw hm (7 - CU r b) b (by omega) hb
  exact ⟨this.1, this.2.1, Nat.le_trans this.2.2 (Nat.mul_le_mul_left _ (Nat.pow_le_pow_right (by decide) (by omega)))⟩
/-- the walk -/
def zeroTo (n : Nat) (ld : Nat → UInt32) : Nat → UInt32 := fun b => if b < n then 0 else ld b
theorem zeroTo_s (n : Nat) (ld : Nat → UInt32) : vf_upd (zeroTo n ld) n 0 = zeroTo (n + 1) ld := by
  funext b
  unfold vf_upd zeroTo
  by_cases h : b = n
  · rw [if_pos h, if_pos (by omega)]
  · rw [if_neg h]
    by_cases h2 : b < n
    · rw [if_pos h2, if_pos (by omega)]
    · rw [if_neg h2, if_neg (by omega)]
theorem zeroTo_0 (ld : Nat → UInt32) : zeroTo 0 ld = ld := by
  funext b
  exact if_neg (Nat.not_lt_zero b)
end
