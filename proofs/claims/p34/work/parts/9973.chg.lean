noncomputable section
theorem LM.mono {l : Launch} {mi : Nat} {av : List Value} {h : AH} {P P2 : Option Value → AH → Prop} (M : LM l mi av h P) (hp : ∀ v h', P v h' → P2 v h') : LM l mi av h P2 := by
  obtain ⟨x, h3, p, k⟩ := M
  exact ⟨x, h3, hp _ _ p, k⟩
section
variable {l : Launch} {h : AH} {r r2 : Nat → Int32} {w w2 : Nat → UInt32} {S : Sv} {K : Hs} {q : Int32 × Int32} {T : Tx} {B B2 : Nat}
/-- what was before the latest change -/
def topK (K : Hs) (r : Nat → Int32) (w : Nat → UInt32) : Hs := ((pushK K r w).1 - 1, (pushK K r w).2)
theorem push_top (hK : K.1 ≤ 8) : (pushK K r w).2.1 ((pushK K r w).1 - 1) = r ∧ (pushK K r w).2.2 ((pushK K r w).1 - 1) = w := by
  have e : min (K.1 + 1) 8 - 1 = min K.1 7 := by omega
  refine ⟨?_, ?_⟩
  · show (if min (K.1 + 1) 8 - 1 = min K.1 7 then r else _) = r
    rw [if_pos e]
  · show (if min (K.1 + 1) 8 - 1 = min K.1 7 then w else _) = w
    rw [if_pos e]
theorem push_pos : undoC (pushK K r w) = 0 := by
  unfold undoC
  rw [if_neg]
  show ¬ min (K.1 + 1) 8 = 0
  omega
theorem IS.top (J : IS B r w S K) (hK : K.1 ≤ 8) : IS B r w S (topK K r w) := by
  have P := J.push hK J.1
  exact ⟨J.1, J.2.1, fun i hi => P.2.2 i (by have hi : i < (pushK K r w).1 - 1 := hi; omega)⟩
theorem CS.K8 (C : CS h r w S K q T) : K.1 ≤ 8 := C.2.2.1.1
theorem l_undo_ok (hfl : l.stackTraces = false) (hK : K.1 ≤ 8) (C : CS h r2 w2 S (pushK K r w) q T) (J : IS B r2 w2 S (pushK K r w)) : LM l mL_undo [.ref 31] h (fun v h' => v = some (.int (nI ((pushK K r w).1 - 1))) ∧ CS h' r w S (topK K r w) q T) := by
  refine (l_undo hfl C J).mono (fun v h' p => ?_)
  rcases p with ⟨-, rfl, C2⟩ | ⟨z, -⟩
  · rw [(push_top hK).1, (push_top hK).2] at C2
    exact ⟨rfl, C2⟩
  · exact absurd push_pos z
theorem r3_ok (I : Inv B r w) : ∃ n, n ≤ 50 ∧ r 3 = nI n := I.2.1.2.2.2.1
theorem visit_r {v : Nat} (hv : v ≤ 50) : visitC (nI v) = 0 ∧ visitR r (nI v) = upd r 3 (nI v) := by
  have e : visitC (nI v) = 0 := by
    unfold visitC
    rw [if_neg (fun z => z ⟨nI_pos' (by omega), nI_le (b := 50) hv (by decide)⟩)]
  exact ⟨e, if_pos e⟩
theorem Inv.vis (I : Inv B r w) {v : Nat} (hv : v ≤ 50) : Inv B (upd r 3 (nI v)) w := by
  have := I.visit (nI v)
  rw [(visit_r hv).2] at this
  exact this
theorem l_visit_ok (hfl : l.stackTraces = false) (C : CS h r w S K q T) (I : Inv B r w) (hB : B + 48 < 2 ^ 30) {v : Nat} (hv : v ≤ 50) : LM l mL_visit [.ref 31, .int (nI v)] h (fun x h' => x = some (.int (r 3)) ∧ CS h' (upd r 3 (nI v)) w S (pushK K r w) q T) := by
  refine (l_visit hfl C I hB (nI v)).mono (fun x h' p => ?_)
  obtain ⟨e1, e2⟩ := visit_r (r := r) hv
  have e4 : pfR 118 r w (nI v, 0, 0) = visitR r (nI v) := (pf_o (o := 118) (by decide)).1.trans (st_118 (w := w) (s := (0, 0))).2.2.2.1
  have e5 : pfW 118 r w (nI v, 0, 0) = w := (pf_o (o := 118) (by decide)).2.trans (st_118 (r := r) (s := (0, 0))).2.2.2.2
  have e6 : pfA 118 r w (nI v, 0, 0) = r 3 := by unfold pfA; rw [if_neg (by decide), if_neg (by decide), if_neg (by decide), if_pos rfl]
  have e7 : clF 118 r (nI v, 0, 0) = 0 := by rw [show clF 118 r (nI v, 0, 0) = (if visitC (nI v) = 0 then 0 else 2) from cl_118, if_pos e1]
  rcases p with ⟨-, rfl, C2⟩ | ⟨z, -⟩
  · rw [e4, e5, e2] at C2
    rw [e6]
    exact ⟨rfl, C2⟩
  · exact absurd e7 z
theorem pass_c {n : Nat} (h1 : 1 ≤ n) (h2 : n ≤ 48) : passC (nI n) = 0 ∧ passR r w (nI n) = hoursR n r w ∧ passW r w (nI n) = hoursW n r w := by
  have e : passC (nI n) = 0 := by
    unfold passC
    rw [if_neg (fun z => z ⟨nI_le (a := 1) h1 (by omega), nI_le (b := 48) h2 (by decide)⟩)]
  refine ⟨e, ?_, ?_⟩
  · unfold passR; rw [if_pos e, nI_clamp (by omega)]
  · unfold passW; rw [if_pos e, nI_clamp (by omega)]
theorem l_pass_ok (hfl : l.stackTraces = false) (C : CS h r w S K q T) (I : Inv B r w) (hB : B + 48 < 2 ^ 30) {n : Nat} (h1 : 1 ≤ n) (h2 : n ≤ 48) : LM l mL_pass [.ref 31, .int (nI n)] h (fun x h' => x = some (.int (nI (onN r - onN (hoursR n r w)))) ∧ CS h' (hoursR n r w) (hoursW n r w) S (pushK K r w) q T) := by
  refine (l_pass hfl C I hB (nI n)).mono (fun x h' p => ?_)
  obtain ⟨e1, e2, e3⟩ := pass_c (r := r) (w := w) h1 h2
  have e4 : pfR 104 r w (nI n, 0, 0) = passR r w (nI n) := (pf_o (o := 104) (by decide)).1.trans (st_104 (w := w) (s := (0, 0))).2.2.2.1
  have e5 : pfW 104 r w (nI n, 0, 0) = passW r w (nI n) := (pf_o (o := 104) (by decide)).2.trans (st_104 (r := r) (s := (0, 0))).2.2.2.2
  have e6 : pfA 104 r w (nI n, 0, 0) = nI (onN r) - nI (onN (passR r w (nI n))) := by unfold pfA; rw [if_neg (by decide), if_neg (by decide), if_neg (by decide), if_neg (by decide), if_neg (by decide)]
  have e7 : clF 104 r (nI n, 0, 0) = 0 := by rw [show clF 104 r (nI n, 0, 0) = (if passC (nI n) = 0 then 0 else 2) from cl_104, if_pos e1]
  rcases p with ⟨-, rfl, C2⟩ | ⟨z, -⟩
  · rw [e4, e5, e2, e3] at C2
    rw [e6, e2, nI_sub (hours_on n B I.2.1 (by omega))]
    exact ⟨rfl, C2⟩
  · exact absurd e7 z
theorem lgS {x : Int64} : lg_cmp x x = 0 := by
  unfold lg_cmp
  rw [if_neg (fun z : x > x => Int64.lt_irrefl z), if_pos rfl]
end
end
