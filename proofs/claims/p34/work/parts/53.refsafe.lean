-- needs: 52
noncomputable section
theorem MasW_upd {r : Nat → Int32} {w : Nat → UInt32} {i : Nat} {x : Int32} (h : MasW r w) (hi : i < 125) (h4 : i ≠ 4) : MasW (upd r i x) w := fun b hb hs => h b (by rw [upd_CN h4] at hb; exact hb) (by rw [show ofB (upd r i x) b 2 = ofB r b 2 from upd_ne (by omega)] at hs; exact hs)
theorem MasK_upd {r : Nat → Int32} {w : Nat → UInt32} {i : Nat} {x : Int32} (h : MasK r w) (hi : i < 125) (h4 : i ≠ 4) : MasK (upd r i x) w := fun b hb hs => h b (by rw [upd_CN h4] at hb; exact hb) (by rw [show ofB (upd r i x) b 2 = ofB r b 2 from upd_ne (by omega)] at hs; exact hs)
theorem HS_v {B : Nat} {r : Nat → Int32} {w : Nat → UInt32} (h : HS B r w) {v : Nat} (hv : v ≤ 50) : HS B (upd r 3 (nI v)) w := by
  obtain ⟨hw, hm, ⟨c1, c2, c3⟩, hd, ht⟩ := h
  have e : CK (upd r 3 (nI v)) = CK r := congrArg Int32.toNatClampNeg (upd_ne (by decide))
  refine ⟨upd_Wel hw (by decide) (by decide), MasW_upd hm (by decide) (by decide), ⟨?_, by rw [e]; exact c2, c3⟩, ⟨v, hv, upd_eq⟩, fun i hi => by rw [upd_ne (by omega)]; exact ht i hi⟩
  rw [e, upd_ne (by decide)]
  exact c1
theorem HS_t {B : Nat} {r : Nat → Int32} {w : Nat → UInt32} (h : HS B r w) {i : Nat} (hi : i < 24) {t : Int32} (h1 : -30 ≤ t) (h2 : t ≤ 20) : HS B (upd r (5 + i) t) w := by
  obtain ⟨hw, hm, ⟨c1, c2, c3⟩, ⟨v, hv, hd⟩, ht⟩ := h
  have e : CK (upd r (5 + i) t) = CK r := congrArg Int32.toNatClampNeg (upd_ne (by omega))
  refine ⟨upd_Wel hw (by omega) (by omega), MasW_upd hm (by omega) (by omega), ⟨?_, by rw [e]; exact c2, c3⟩, ⟨v, hv, by rw [upd_ne (by omega)]; exact hd⟩, fun j hj => ?_⟩
  · rw [e, upd_ne (by omega)]
    exact c1
  · by_cases q : j = i
    · subst q
      rw [upd_eq]
      exact ⟨h1, h2⟩
    · rw [upd_ne (by omega)]
      exact ht j hj
theorem on_upd {r : Nat → Int32} {i : Nat} {x : Int32} (hi : i < 125) (h4 : i ≠ 4) : onN (upd r i x) = onN r := by
  show cntS (upd r i x) 1 (CN (upd r i x)) = cntS r 1 (CN r)
  rw [upd_CN h4]
  exact cntP_congr (fun k hk => by rw [show ofB (upd r i x) k 2 = ofB r k 2 from upd_ne (by omega)])
/-- the hours until noon's hour has gone -/
def nhR (r : Nat → Int32) : Nat := (36 - hrOf r) % 24 + 1
theorem nh_e : ∀ a, a < 24 → (12 : Int32) - nI a + 24 = nI (36 - a) := by decide
def svR (r : Nat → Int32) (w : Nat → UInt32) (v : Nat) : Nat → Int32 := hoursR (nhR r) (upd r 3 (nI v)) w
def svP (r : Nat → Int32) (w : Nat → UInt32) (v : Nat) : Bool := decide (onN (svR r w v) = onN r)
def svF (r : Nat → Int32) (w : Nat → UInt32) : Nat → Option Nat
  | 0 => none
  | n + 1 => if svP r w n = true then some n else svF r w n
def sfC (r : Nat → Int32) (w : Nat → UInt32) : Int32 := if svF r w 51 = none then 1 else 0
theorem hI_hX {g : AH} {i : Nat} {x : Int32} : hI g 1 i x = hX g (upd (g.1 1) i x) (g.2.1 5) (g.2.1 27) (g.1 28) := by
  conv => lhs; rw [← hX_self (h := g)]
  refine Prod.ext ?_ rfl
  funext a j
  by_cases e : a = 1
  · subst e
    by_cases q : j = i
    · subst q
      simp [hI, hX, upd]
    · simp [hI, hX, upd, q]
  · by_cases e2 : a = 28
    · subst e2
      simp [hI, hX]
    · simp [hI, hX, e, e2]
end
