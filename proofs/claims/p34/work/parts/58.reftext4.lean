-- needs: 57
noncomputable section
/-- an order: the place behind it, its sign, what is told -/
def ordK (I : Nat → Int32) (L : Nat) (s : TS) (o : Int32) : TS × Int32 × Int32 × Int32 := if o = 115 then rdSaw I L s else if o = 108 then rdLay I L s else if o = 116 then rdHeat I L s else rdOne I L s
def knB (I : Nat → Int32) (L : Nat) (s : TS) : Bool := seeB I L s 115 115 || seeB I L s 108 108 || seeB I L s 104 104 || seeB I L s 118 118 || seeB I L s 116 116
def rdOrd (I : Nat → Int32) (L : Nat) (s : TS) : TS × Int32 × Int32 × Int32 × Int32 := if knB I L s = true then ((ordK I L (s.1 + 1, false) (I s.1)).1, I s.1, (ordK I L (s.1 + 1, false) (I s.1)).2) else ((s.1, true), 32, 0, 0, 0)
def nT (o : Int32) : Nat := if o = 115 ∨ o = 108 then 3 else if o = 116 then 2 else 1
def OrdP (h h' : AH) (I : Nat → Int32) (L : Nat) (s : TS) : Prop := TxI h' I L (rdOrd I L s).1 ∧ FrT h h' ∧ ((rdOrd I L s).1.2 = false → h'.1 0 23 = (rdOrd I L s).2.1 ∧ ToldP h' (nT (rdOrd I L s).2.1) (rdOrd I L s).2.2)
theorem see_I {I : Nat → Int32} {L : Nat} {s : TS} {o : Int32} (h : seeB I L s o o = true) : I s.1 = o := Int32.le_antisymm (seeB_w h).2.2.2 (seeB_w h).2.2.1
theorem eor0 : ((0 : Int32) ||| 0) = 0 := rfl
end
