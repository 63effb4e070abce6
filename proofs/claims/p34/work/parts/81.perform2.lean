-- needs: 80
noncomputable section
theorem p_pfPass (d : Nat) {h : AH} {r : Nat → Int32} {w : Nat → UInt32} {B : Nat} (P : Pal h 32 r w) (I : Inv B r w) (hB : B + 48 < 2 ^ 30) (q9 : Int32 × Int32 × Int32) (hc : passC q9.1 = 0) : WM (d + 6) mX9_perform [.ref 71, .ref 32, .int 104, .int q9.1, .int q9.2.1, .int q9.2.2] h (fun v h' => v = some (.int (nI (onN r) - nI (onN (passR r w q9.1)))) ∧ Pal h' 32 (passR r w q9.1) (passW r w q9.1) ∧ FrH 32 72 h h') := by
  unfold passR passW
  rw [if_pos hc, if_pos hc]
  have c1 : 1 ≤ q9.1 ∧ q9.1 ≤ 48 := Decidable.not_not.mp (fun z => by unfold passC at hc; rw [if_pos z] at hc; exact absurd hc (by decide))
  obtain ⟨n, hn, e⟩ := nI_of2 (x := q9.1) (M := 48) (n := 48) rfl (Int32.not_lt.mpr (Int32.le_trans (by decide) c1.1)) c1.2
  rw [e, nI_clamp (by omega)]
  have A := p_letGo (d + 0) n (by omega) palL32 houL72 (by omega) I.1 I.2.1 (by omega) P
  show WX _ _ 0 [(0, _), (1, _), (2, _), (3, _), (4, _), (5, _)] [] _ _
  refine ex_s rfl ?_
  refine ex_sw rfl rfl ?_
  iterate 4 refine ex_s rfl ?_
  refine ex_xc rfl rfl ⟨Nat.le_of_ble_eq_true rfl, Nat.le_of_ble_eq_true rfl⟩ (A) (fun rv9 h9 p9 => ?_)
  obtain ⟨rfl, P1, F1⟩ := p9
  refine ex_q rfl ?_
  exact ⟨rfl, P1, F1⟩
theorem pf_t {o : Int32} {r : Nat → Int32} {w : Nat → UInt32} {q : Int32 × Int32 × Int32} : pfR 120 r w q = takeR r q.1 ∧ pfW 120 r w q = w := ⟨if_pos rfl, if_pos rfl⟩
theorem pf_o {o : Int32} (ho : o ≠ 120) {r : Nat → Int32} {w : Nat → UInt32} {q : Int32 × Int32 × Int32} : pfR o r w q = stR o r w q ∧ pfW o r w q = stW o r w q := ⟨if_neg ho, if_neg ho⟩
theorem layK_0 {c : Int32} (h : layK c = 0) : c = 0 := by
  unfold layK at h
  by_cases e : c = 2
  · rw [if_pos e] at h; exact absurd h (by decide)
  · rw [if_neg e] at h; exact h
theorem if02 {c : Int32} (h : (if c = 0 then (0 : Int32) else 2) = 0) : c = 0 := by
  by_cases e : c = 0
  · exact e
  · rw [if_neg e] at h; exact absurd h (by decide)
theorem p_perform (d : Nat) {h : AH} {r : Nat → Int32} {w : Nat → UInt32} {B : Nat} (P : Pal h 32 r w) (I : Inv B r w) (hB : B + 48 < 2 ^ 30) {o : Int32} (ho : SgO o) (q9 : Int32 × Int32 × Int32) (hc : clF o r q9 = 0) : WM (d + 6) mX9_perform [.ref 71, .ref 32, .int o, .int q9.1, .int q9.2.1, .int q9.2.2] h (fun v h' => v = some (.int (pfA o r w q9)) ∧ Pal h' 32 (pfR o r w q9) (pfW o r w q9) ∧ FrH 32 72 h h') := by
  rcases ho with e | e | e | e | e | e <;> subst e
  · rw [cl_115.1] at hc
    have Z := p_pfSaw (d + 3) P I q9 hc
    obtain ⟨-, -, -, a, b⟩ := st_115 (r := r) (w := w) (q := q9) (s := (0, 0))
    rw [(pf_o (o := 115) (by decide)).1, (pf_o (o := 115) (by decide)).2, a, b, show pfA 115 r w q9 = nI (CN r) from if_pos rfl]
    exact Z
  · rw [cl_108.1] at hc
    have Z := p_pfLay (d + 3) P I.1 q9 (layK_0 hc)
    obtain ⟨-, -, -, a, b⟩ := st_108 (r := r) (w := w) (q := q9) (s := (0, 0))
    rw [(pf_o (o := 108) (by decide)).1, (pf_o (o := 108) (by decide)).2, a, b, show pfA 108 r w q9 = nI (supN (layR9 r q9.1 q9.2.1 q9.2.2) q9.1.toNatClampNeg) by unfold pfA; rw [if_neg (by decide), if_pos rfl]]
    exact Z
  · rw [cl_116] at hc
    have Z := p_pfHeat (d + 3) P q9 hc
    obtain ⟨-, -, -, a, b⟩ := st_116 (r := r) (w := w) (q := q9) (s := (0, 0))
    rw [(pf_o (o := 116) (by decide)).1, (pf_o (o := 116) (by decide)).2, a, b, show pfA 116 r w q9 = r (5 + q9.1.toNatClampNeg) by unfold pfA; rw [if_neg (by decide), if_neg (by decide), if_pos rfl]]
    exact Z
  · rw [cl_118] at hc
    have Z := p_pfVisit (d + 3) P q9 (if02 hc)
    obtain ⟨-, -, -, a, b⟩ := st_118 (r := r) (w := w) (q := q9) (s := (0, 0))
    rw [(pf_o (o := 118) (by decide)).1, (pf_o (o := 118) (by decide)).2, a, b, show pfA 118 r w q9 = r 3 by unfold pfA; rw [if_neg (by decide), if_neg (by decide), if_neg (by decide), if_pos rfl]]
    exact Z
  · rw [cl_120.1] at hc
    have Z := p_pfTake (d + 3) P I.1 q9 (layK_0 hc)
    rw [show pfR 120 r w q9 = takeR r q9.1 from if_pos rfl, show pfW 120 r w q9 = w from if_pos rfl, show pfA 120 r w q9 = ofB r q9.1.toNatClampNeg 1 by unfold pfA; rw [if_neg (by decide), if_neg (by decide), if_neg (by decide), if_neg (by decide), if_pos rfl]]
    exact Z
  · rw [cl_104] at hc
    have Z := p_pfPass d P I hB q9 (if02 hc)
    obtain ⟨-, -, -, a, b⟩ := st_104 (r := r) (w := w) (q := q9) (s := (0, 0))
    rw [(pf_o (o := 104) (by decide)).1, (pf_o (o := 104) (by decide)).2, a, b, show pfA 104 r w q9 = nI (onN r) - nI (onN (passR r w q9.1)) by unfold pfA; rw [if_neg (by decide), if_neg (by decide), if_neg (by decide), if_neg (by decide), if_neg (by decide)]]
    exact Z
end
