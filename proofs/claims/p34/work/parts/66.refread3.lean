-- needs: 65
noncomputable section
/-- the text is wrong; where; what its orders do -/
abbrev rdWr (I : Nat → Int32) (L : Nat) : Bool := (rdI I L (oN0 I L)).1.2
abbrev rdAt (I : Nat → Int32) (L : Nat) : Nat := (rdI I L (oN0 I L)).1.1
abbrev rdC (I : Nat → Int32) (L : Nat) (r : Nat → Int32) (w : Nat → UInt32) (s : Int32 × Int32) : CyS := cyN I L (0, r, w, s) (oN0 I L + 1)
/-- the heap before the loop -/
def preH (g : AH) : AH := hI (hI (hFr (hIr (hI (hI g 0 21 (-1)) 0 0 0) 4 (mapI (g.1 1) 445 (g.1 4))) 8 (mapF (g.2.1 5) 40 (g.2.1 8))) 0 15 1) 0 20 0
theorem preH_0 {g : AH} {j : Nat} (h1 : j ≠ 0) (h2 : j ≠ 15) (h3 : j ≠ 20) (h4 : j ≠ 21) : (preH g).1 0 j = g.1 0 j := by
  unfold preH
  rw [hI_at, upd_ne h3, hI_at, upd_ne h2, hFr_1, hIr_ne (by decide), hI_at, upd_ne h1, hI_at, upd_ne h4]
theorem preH_a {g : AH} {a : Nat} (h1 : a ≠ 0) (h2 : a ≠ 4) : (preH g).1 a = g.1 a := by
  unfold preH
  rw [hI_ne h1, hI_ne h1, hFr_1, hIr_ne h2, hI_ne h1, hI_ne h1]
theorem preH_f {g : AH} {a : Nat} (h2 : a ≠ 8) : (preH g).2.1 a = g.2.1 a := hFr_ne _ _ h2
theorem preH_4 {g : AH} {j : Nat} (h : j < 445) : (preH g).1 4 j = g.1 1 j := by
  unfold preH
  rw [hI_ne (by decide), hI_ne (by decide), hFr_1, hIr_at, mapI_lt h]
theorem preH_8 {g : AH} {j : Nat} (h : j < 40) : (preH g).2.1 8 j = g.2.1 5 j := by
  show (hFr _ 8 _).2.1 8 j = _
  rw [hFr_at, mapF_lt h]
theorem preH_S {g : AH} : HSame g (preH g) := ⟨preH_0 (by decide) (by decide) (by decide) (by decide), fun i hi => ⟨preH_a (by omega) (by omega), preH_f (by omega)⟩⟩
theorem preH_21 {g : AH} : (preH g).1 0 21 = -1 := by
  unfold preH
  rw [hI_at, upd_ne (by decide), hI_at, upd_ne (by decide), hFr_1, hIr_ne (by decide), hI_at, upd_ne (by decide), hI_at, upd_eq]
theorem preH_15 {g : AH} : (preH g).1 0 15 = 1 := by
  unfold preH
  rw [hI_at, upd_ne (by decide), hI_at, upd_eq]
theorem preH_20 {g : AH} : (preH g).1 0 20 = 0 := by
  unfold preH
  rw [hI_at, upd_eq]
end
