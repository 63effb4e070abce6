-- needs: 11 093
noncomputable section
/-- f done for k = 0 .. n - 1 -/
def iterN {α : Type} (f : Nat → α → α) : Nat → α → α
  | 0, s => s
  | n + 1, s => f n (iterN f n s)
theorem iterN_inv {α : Type} {f : Nat → α → α} {I : Nat → α → Prop} {n : Nat} {s : α} (h0 : I 0 s) (h1 : ∀ k t, k < n → I k t → I (k + 1) (f k t)) : ∀ m, m ≤ n → I m (iterN f m s)
  | 0, _ => h0
  | m + 1, hm => h1 m _ (by omega) (iterN_inv h0 h1 m (by omega))
theorem iterN_congr {α : Type} {f g : Nat → α → α} {n : Nat} {s : α} (h : ∀ k t, k < n → f k t = g k t) : iterN f n s = iterN g n s := by
  induction n with
  | zero => rfl
  | succ n ih =>
    show f n _ = g n _
    rw [ih (fun k t hk => h k t (by omega)), h n _ (by omega)]
/-- the number of blocks -/
abbrev CN (r : Nat → Int32) : Nat := (r 4).toNatClampNeg
/-- a row that can be walked: its count, and lengths and places of its blocks -/
def Wel (r : Nat → Int32) : Prop := r 4 = nI (CN r) ∧ CN r ≤ 40 ∧ ∀ b, b < CN r → LnOk r b ∧ (ofB r b 2 = 1 → PlOk r b)
/-- six fields of a block put anew -/
def setB (r : Nat → Int32) (b : Nat) (s co cu jt pl wy : Int32) : Nat → Int32 := upd (upd (upd (upd (upd (upd r (125 + 8 * b + 2) s) (125 + 8 * b + 3) co) (125 + 8 * b + 4) cu) (125 + 8 * b + 5) jt) (125 + 8 * b + 6) pl) (125 + 8 * b + 7) wy
theorem setB_hd {r : Nat → Int32} {b i : Nat} {s co cu jt pl wy : Int32} (hi : i < 125) : setB r b s co cu jt pl wy i = r i := by
  unfold setB upd
  rw [if_neg (by omega), if_neg (by omega), if_neg (by omega), if_neg (by omega), if_neg (by omega), if_neg (by omega)]
theorem setB_ne {r : Nat → Int32} {b b2 x : Nat} {s co cu jt pl wy : Int32} (hb : b2 ≠ b) (hx : x < 8) : ofB (setB r b s co cu jt pl wy) b2 x = ofB r b2 x := by
  show setB r b s co cu jt pl wy (125 + 8 * b2 + x) = _
  unfold setB upd
  rw [if_neg (by omega), if_neg (by omega), if_neg (by omega), if_neg (by omega), if_neg (by omega), if_neg (by omega)]
theorem setB_eq {r : Nat → Int32} {b : Nat} {s co cu jt pl wy : Int32} : ofB (setB r b s co cu jt pl wy) b 0 = ofB r b 0 ∧ ofB (setB r b s co cu jt pl wy) b 1 = ofB r b 1 ∧ ofB (setB r b s co cu jt pl wy) b 2 = s ∧ ofB (setB r b s co cu jt pl wy) b 3 = co ∧ ofB (setB r b s co cu jt pl wy) b 4 = cu ∧ ofB (setB r b s co cu jt pl wy) b 5 = jt ∧ ofB (setB r b s co cu jt pl wy) b 6 = pl ∧ ofB (setB r b s co cu jt pl wy) b 7 = wy := by
  unfold setB upd ofB
  refine ⟨?_, ?_, ?_, ?_, ?_, ?_, ?_, ?_⟩ <;> simp
theorem fillR_hd {r : Nat → Int32} {c j L i : Nat} {v : Int32} (hi : i < 29) : fillR r c j L v i = r i := by
  unfold fillR
  rw [if_neg (by omega)]
theorem fillR_b {r : Nat → Int32} {c j L b x : Nat} {v : Int32} (hc : c < 8) (hj : j + L ≤ 12) : ofB (fillR r c j L v) b x = ofB r b x := by
  show fillR r c j L v (125 + 8 * b + x) = _
  unfold fillR
  rw [if_neg (by omega)]
theorem fillR_g {r : Nat → Int32} {c j L c2 j2 : Nat} {v : Int32} (hj : j + L ≤ 12) (hj2 : j2 < 12) : gAt (fillR r c j L v) c2 j2 = if c2 = c ∧ j ≤ j2 ∧ j2 < j + L then v else gAt r c2 j2 := by
  show fillR r c j L v (29 + 12 * c2 + j2) = _
  unfold fillR
  by_cases h : c2 = c ∧ j ≤ j2 ∧ j2 < j + L
  · rw [if_pos h, if_pos (by omega)]
  · rw [if_neg h]
    by_cases h2 : 29 + 12 * c + j ≤ 29 + 12 * c2 + j2 ∧ 29 + 12 * c2 + j2 < 29 + 12 * c + j + L
    · exact absurd (by omega) h
    · rw [if_neg h2]
/-- a block goes -/
def goesR (r : Nat → Int32) (b : Nat) (wy : Int32) : Nat → Int32 := setB (if ofB r b 2 = 1 then fillR r (CU r b) (CO r b) (LN r b) (-1) else r) b 2 (-1) (-1) 0 (-1) wy
theorem goesR_hd {r : Nat → Int32} {b i : Nat} {wy : Int32} (hi : i < 29) : goesR r b wy i = r i := by
  unfold goesR
  rw [setB_hd (by omega)]
  split
  · exact fillR_hd hi
  · rfl
theorem goesR_ne {r : Nat → Int32} {b b2 x : Nat} {wy : Int32} (hp : ofB r b 2 = 1 → PlOk r b) (hb : b2 ≠ b) (hx : x < 8) : ofB (goesR r b wy) b2 x = ofB r b2 x := by
  unfold goesR
  rw [setB_ne hb hx]
  split
  · next h => obtain ⟨-, p1, -, p2, -, -⟩ := hp h; exact fillR_b (by omega) p1
  · rfl
theorem goesR_eq {r : Nat → Int32} {b : Nat} {wy : Int32} (hp : ofB r b 2 = 1 → PlOk r b) : ofB (goesR r b wy) b 0 = ofB r b 0 ∧ ofB (goesR r b wy) b 1 = ofB r b 1 ∧ ofB (goesR r b wy) b 2 = 2 ∧ ofB (goesR r b wy) b 3 = -1 ∧ ofB (goesR r b wy) b 4 = -1 ∧ ofB (goesR r b wy) b 5 = 0 ∧ ofB (goesR r b wy) b 6 = -1 ∧ ofB (goesR r b wy) b 7 = wy := by
  unfold goesR
  obtain ⟨e0, e1, e2, e3, e4, e5, e6, e7⟩ := setB_eq (r := if ofB r b 2 = 1 then fillR r (CU r b) (CO r b) (LN r b) (-1) else r) (b := b) (s := 2) (co := -1) (cu := -1) (jt := 0) (pl := -1) (wy := wy)
  refine ⟨e0.trans ?_, e1.trans ?_, e2, e3, e4, e5, e6, e7⟩
  · split
    · next h => obtain ⟨-, p1, -, p2, -, -⟩ := hp h; exact fillR_b (by omega) p1
    · rfl
  · split
    · next h => obtain ⟨-, p1, -, p2, -, -⟩ := hp h; exact fillR_b (by omega) p1
    · rfl
theorem goesR_g {r : Nat → Int32} {b c j : Nat} {wy : Int32} (hp : ofB r b 2 = 1 → PlOk r b) (hc : c < 8) (hj : j < 12) : gAt (goesR r b wy) c j = if ofB r b 2 = 1 ∧ c = CU r b ∧ CO r b ≤ j ∧ j < CO r b + LN r b then -1 else gAt r c j := by
  show goesR r b wy (29 + 12 * c + j) = _
  unfold goesR
  rw [setB_hd (by omega)]
  by_cases h : ofB r b 2 = 1
  · obtain ⟨-, p1, -, p2, -, -⟩ := hp h
    rw [if_pos h]
    show gAt (fillR r (CU r b) (CO r b) (LN r b) (-1)) c j = _
    rw [fillR_g p1 hj]
    by_cases h2 : c = CU r b ∧ CO r b ≤ j ∧ j < CO r b + LN r b
    · rw [if_pos h2, if_pos ⟨h, h2⟩]
    · rw [if_neg h2, if_neg (fun q => h2 q.2)]
  · rw [if_neg h, if_neg (fun q => h q.1)]
theorem goesR_CN {r : Nat → Int32} {b : Nat} {wy : Int32} : CN (goesR r b wy) = CN r := by
  show (goesR r b wy 4).toNatClampNeg = _
  rw [goesR_hd (by decide)]
theorem goesR_LN {r : Nat → Int32} {b b2 : Nat} {wy : Int32} (hp : ofB r b 2 = 1 → PlOk r b) : ofB (goesR r b wy) b2 1 = ofB r b2 1 := by
  by_cases h : b2 = b
  · subst h; exact (goesR_eq hp).2.1
  · exact goesR_ne hp h (by decide)
theorem goesR_Wel {r : Nat → Int32} {b : Nat} {wy : Int32} (hw : Wel r) (hb : b < CN r) : Wel (goesR r b wy) := by
  obtain ⟨h1, h2, h3⟩ := hw
  have hp := (h3 b hb).2
  refine ⟨?_, ?_, ?_⟩
  · rw [goesR_CN, goesR_hd (by decide)]; exact h1
  · rw [goesR_CN]; exact h2
  · intro b2 hb2
    rw [goesR_CN] at hb2
    obtain ⟨q1, q2⟩ := h3 b2 hb2
    have e1 := goesR_LN (wy := wy) (b2 := b2) hp
    constructor
    · show ofB (goesR r b wy) b2 1 = nI (ofB (goesR r b wy) b2 1).toNatClampNeg ∧ 1 ≤ (ofB (goesR r b wy) b2 1).toNatClampNeg ∧ (ofB (goesR r b wy) b2 1).toNatClampNeg ≤ 6
      rw [e1]
      exact q1
    · intro hs
      by_cases h : b2 = b
      · subst h
        rw [(goesR_eq hp).2.2.1] at hs
        cases hs
      · rw [goesR_ne hp h (by decide)] at hs
        show ofB (goesR r b wy) b2 3 = nI (ofB (goesR r b wy) b2 3).toNatClampNeg ∧ (ofB (goesR r b wy) b2 3).toNatClampNeg + (ofB (goesR r b wy) b2 1).toNatClampNeg ≤ 12 ∧ ofB (goesR r b wy) b2 4 = nI (ofB (goesR r b wy) b2 4).toNatClampNeg ∧ (ofB (goesR r b wy) b2 4).toNatClampNeg ≤ 7 ∧ ofB (goesR r b wy) b2 5 = nI (ofB (goesR r b wy) b2 5).toNatClampNeg ∧ (ofB (goesR r b wy) b2 5).toNatClampNeg ≤ 9
        rw [e1, goesR_ne hp h (by decide), goesR_ne hp h (by decide), goesR_ne hp h (by decide)]
        exact q2 hs
/-- in how many columns a lies on b -/
def colP (r : Nat → Int32) (a b : Nat) : Nat → Bool := fun k => decide (gAt r (CU r a - 1) (CO r a + k) = nI b)
def colsN (r : Nat → Int32) (a b : Nat) : Nat := cntP (colP r a b) (LN r a)
theorem cntP_pos {p : Nat → Bool} {n : Nat} : 0 < cntP p n ↔ ∃ k, k < n ∧ p k = true := by
  induction n with
  | zero => exact ⟨fun h => absurd h (Nat.lt_irrefl 0), fun ⟨k, h, _⟩ => absurd h (Nat.not_lt_zero k)⟩
  | succ n ih =>
    unfold cntP
    by_cases h : p n = true
    · rw [if_pos h]
      exact ⟨fun _ => ⟨n, Nat.lt_succ_self n, h⟩, fun _ => by omega⟩
    · rw [if_neg h, Nat.add_zero, ih]
      constructor
      · rintro ⟨k, h1, h2⟩; exact ⟨k, by omega, h2⟩
      · rintro ⟨k, h1, h2⟩
        by_cases hk : k = n
        · subst hk; exact absurd h2 h
        · exact ⟨k, by omega, h2⟩
theorem colsN_sup {r : Nat → Int32} {a b : Nat} (hb : b < 40) (h : 0 < colsN r a b) : 0 < supN r a := by
  obtain ⟨k, h1, h2⟩ := cntP_pos.mp h
  refine cntP_pos.mpr ⟨k, h1, decide_eq_true (Or.inr ?_)⟩
  rw [of_decide_eq_true h2]
  exact nI_pos' (by omega)
/-- the kind as a number -/
abbrev KD (r : Nat → Int32) (b : Nat) : Nat := if ofB r b 0 = 0 then 0 else 1
def bornR (r : Nat → Int32) (w : Nat → UInt32) (b : Nat) : UInt32 := bornF (w b) (KD r b) (JT r b)
/-- k lies on b, in the course above -/
def onB (r : Nat → Int32) (k b : Nat) : Prop := ofB r k 2 = 1 ∧ ofB r k 4 = ofB r b 4 + 1 ∧ 0 < colsN r k b
def onBb (r : Nat → Int32) (k b : Nat) : Bool := decide (ofB r k 2 = 1) && decide (ofB r k 4 = ofB r b 4 + 1) && decide (0 < colsN r k b)
theorem onBb_t {r : Nat → Int32} {k b : Nat} : onBb r k b = true ↔ onB r k b := by
  unfold onBb onB
  simp [and_assoc]
/-- the load of b, where n courses may stand above; of the first m blocks alone -/
def LDs (f : Nat → UInt32) (r : Nat → Int32) (w : Nat → UInt32) (b m : Nat) : UInt32 := iterN (fun k acc => if onBb r k b = true then FP.fadd acc (shareF (w k) (f k) (colsN r k b) (supN r k)) else acc) m 0
def LD (r : Nat → Int32) (w : Nat → UInt32) : Nat → Nat → UInt32
  | 0, _ => 0
  | n + 1, b => LDs (LD r w n) r w b (CN r)
/-- masses of blocks on the wall -/
def MasW (r : Nat → Int32) (w : Nat → UInt32) : Prop := ∀ b, b < CN r → ofB r b 2 = 1 → mOk (w b)
theorem supN_le {r : Nat → Int32} {b : Nat} (h : LnOk r b) : supN r b < 7 := by
  have := cntP_le (supP r (CU r b) (CO r b)) (LN r b)
  have h3 := h.2.2
  unfold supN
  omega
theorem colsN_le {r : Nat → Int32} {a b : Nat} (h : LnOk r a) : colsN r a b < 7 := by
  have := cntP_le (colP r a b) (LN r a)
  have h3 := h.2.2
  unfold colsN
  omega
/-- a load in the making -/
def ldP (n j : Nat) (x : UInt32) : Prop := x.toNat < 2139095040 ∧ (x.toNat = 0 ∨ 0x3e000000 ≤ x.toNat) ∧ fU x.toNat ≤ j * 2 ^ (158 + 10 * n)
theorem ldP_0 (n j : Nat) : ldP n j 0 := ⟨by decide, Or.inl rfl, by rw [show (0 : UInt32).toNat = 0 from rfl, show fU 0 = 0 from FP.Core.unitsOf_zero _]; exact Nat.zero_le _⟩
theorem ldP.up {n j k : Nat} {x : UInt32} (h : ldP n j x) (hk : j ≤ k) : ldP n k x := ⟨h.1, h.2.1, Nat.le_trans h.2.2 (Nat.mul_le_mul_right _ hk)⟩
theorem ldP.ok {n j : Nat} {x : UInt32} (h : ldP n j x) (hj : j ≤ 40) : ldOk n x := (h.up hj)
/-- what is met on the way: no NaN -/
theorem share_nn {r : Nat → Int32} {w : Nat → UInt32} {n k b j : Nat} {ld acc : UInt32} (hw : Wel r) (hm : MasW r w) (hk : k < CN r) (hb : b < CN r) (hs : ofB r k 2 = 1) (hc : 0 < colsN r k b) (hn : n + 1 ≤ 7) (hl : ldOk n ld) (hj : j < 40) (ha : ldP (n + 1) j acc) :
    nn (FP.fadd (w k) ld) ∧ nn (FP.fmul (FP.fadd (w k) ld) (FP.i2f (nI (colsN r k b)))) ∧ nn (shareF (w k) ld (colsN r k b) (supN r k)) ∧ nn (FP.fadd acc (shareF (w k) ld (colsN r k b) (supN r k))) ∧ ldP (n + 1) (j + 1) (FP.fadd acc (shareF (w k) ld (colsN r k b) (supN r k))) := by
  have h40 := hw.2.1
  obtain ⟨l1, -⟩ := hw.2.2 k hk
  have hsu := colsN_sup (by omega) hc
  obtain ⟨a1, a2, a3, a4, a5⟩ := share_ok (n := n) (by omega) (hm k hk hs) hl (Nat.pos_iff_ne_zero.mp hc) (colsN_le l1) (Nat.pos_iff_ne_zero.mp hsu) (supN_le l1)
  obtain ⟨b1, b2, b3⟩ := load_add (n := n + 1) hn hj ha.1 ha.2.1 ha.2.2 a3 a4 a5
  exact ⟨f_nn (Nat.le_of_lt a1), f_nn (Nat.le_of_lt a2), f_nn (Nat.le_of_lt a3), f_nn (Nat.le_of_lt b1), b1, Or.inr b2, b3⟩
theorem LDs_P {r : Nat → Int32} {w : Nat → UInt32} {n b : Nat} {f : Nat → UInt32} (hw : Wel r) (hm : MasW r w) (hb : b < CN r) (hn : n + 1 ≤ 7) (hf : ∀ k, k < CN r → ldOk n (f k)) : ∀ m, m ≤ CN r → ldP (n + 1) m (LDs f r w b m) := by
  refine iterN_inv (I := fun m x => ldP (n + 1) m x) (ldP_0 _ _) (fun k t hk ht => ?_)
  have h40 := hw.2.1
  split
  · next h =>
    obtain ⟨o1, o2, o3⟩ := onBb_t.mp h
    exact (share_nn hw hm hk hb o1 o3 hn (hf k hk) (by omega) ht).2.2.2.2
  · exact ht.up (by omega)
theorem LD_ok {r : Nat → Int32} {w : Nat → UInt32} (hw : Wel r) (hm : MasW r w) : ∀ (n b : Nat), n ≤ 7 → b < CN r → ldOk n (LD r w n b)
  | 0, b, _, _ => ldOk_0 0
  | n + 1, b, hn, hb => (LDs_P hw hm hb hn (fun k hk => LD_ok hw hm n k (by omega) hk) (CN r) (Nat.le_refl _)).ok hw.2.1
end
