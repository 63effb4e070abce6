-- needs: 56
noncomputable section
/-- the numbers of an order, and the place behind them -/
def rdSaw (I : Nat → Int32) (L : Nat) (s : TS) : TS × Int32 × Int32 × Int32 :=
  ((numS I L 1 (mustS I L (numS I L 1 (numS I L 1 s).2).2 64)).2, nI (numS I L 1 s).1, nI (numS I L 1 (numS I L 1 s).2).1, nI (numS I L 1 (mustS I L (numS I L 1 (numS I L 1 s).2).2 64)).1)
def rdLay (I : Nat → Int32) (L : Nat) (s : TS) : TS × Int32 × Int32 × Int32 :=
  ((numS I L 1 (mustS I L (numS I L 2 (mustS I L (numS I L 2 s).2 64)).2 47)).2, nI (numS I L 2 s).1, nI (numS I L 2 (mustS I L (numS I L 2 s).2 64)).1, nI (numS I L 1 (mustS I L (numS I L 2 (mustS I L (numS I L 2 s).2 64)).2 47)).1)
/-- behind a minus, where one stands -/
def negS (I : Nat → Int32) (L : Nat) (s : TS) : TS := (s.1 + (if seeB I L s 45 45 = true then 1 else 0), s.2)
def negI (I : Nat → Int32) (L : Nat) (s : TS) : Int32 := if seeB I L s 45 45 = true then -1 else 1
def rdHeat (I : Nat → Int32) (L : Nat) (s : TS) : TS × Int32 × Int32 × Int32 :=
  ((numS I L 2 (negS I L (mustS I L (numS I L 2 s).2 61))).2, nI (numS I L 2 s).1, nI (numS I L 2 (negS I L (mustS I L (numS I L 2 s).2 61))).1 * negI I L (mustS I L (numS I L 2 s).2 61), 0)
def rdOne (I : Nat → Int32) (L : Nat) (s : TS) : TS × Int32 × Int32 × Int32 := ((numS I L 2 s).2, nI (numS I L 2 s).1, 0, 0)
/-- what was told -/
def ToldP (h : AH) (n : Nat) (q : Int32 × Int32 × Int32) : Prop := h.1 30 0 = q.1 ∧ (1 < n → h.1 30 1 = q.2.1) ∧ (2 < n → h.1 30 2 = q.2.2)
theorem FrT.of {h g : AH} (H : FrN h g) : FrT h g := H.1
theorem tl_0 : (0 : Int32).toNatClampNeg = 0 := rfl
theorem tl_1 : (1 : Int32).toNatClampNeg = 1 := rfl
theorem tl_2 : (2 : Int32).toNatClampNeg = 2 := rfl
theorem hI3_0 {g : AH} {x : Int32} {j : Nat} : (hI g 30 j x).1 30 j = x := by rw [hI_at, upd_eq]
theorem hI3_n {g : AH} {x : Int32} {i j : Nat} (e : i ≠ j) : (hI g 30 j x).1 30 i = g.1 30 i := by rw [hI_at, upd_ne e]
end
