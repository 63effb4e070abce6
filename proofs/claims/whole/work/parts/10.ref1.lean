-- needs: 09
noncomputable section
/-- the row's fields of a block; a place of the wall -/
abbrev ofB (r : Nat → Int32) (b x : Nat) : Int32 := r (125 + 8 * b + x)
abbrev gAt (r : Nat → Int32) (c j : Nat) : Int32 := r (29 + 12 * c + j)
/-- a condition as an int -/
def bI (P : Prop) [Decidable P] : Int32 := if P then 1 else 0
theorem bI_t {P : Prop} [Decidable P] (h : P) : bI P = 1 := if_pos h
theorem bI_f {P : Prop} [Decidable P] (h : ¬ P) : bI P = 0 := if_neg h
theorem bI_ne {P : Prop} [Decidable P] : bI P ≠ 0 ↔ P := by
  by_cases h : P
  · rw [bI_t h]; exact ⟨fun _ => h, fun _ => by decide⟩
  · rw [bI_f h]; exact ⟨fun q => absurd rfl q, fun q => absurd q h⟩
theorem bI_eq {P : Prop} [Decidable P] : bI P = 0 ↔ ¬ P := by
  by_cases h : P
  · rw [bI_t h]; exact ⟨fun q => absurd q (by decide), fun q => absurd h q⟩
  · rw [bI_f h]; exact ⟨fun _ => h, fun _ => rfl⟩
theorem kOk_bI {P : Prop} [Decidable P] : kOk 1 (bI P) = true := by
  by_cases h : P
  · rw [bI_t h]; rfl
  · rw [bI_f h]; rfl
theorem st_t {P : Prop} [Decidable P] (h : P) : some (Value.int 1) = some (Value.int (bI P)) := by rw [bI_t h]
theorem st_f {P : Prop} [Decidable P] (h : ¬ P) : some (Value.int 0) = some (Value.int (bI P)) := by rw [bI_f h]
theorem ix_of (b x : Nat) : ((125 : Int32) + 8 * nI b + nI x) = nI (125 + 8 * b + x) := by
  rw [show (125 : Int32) = nI 125 from rfl, show (8 : Int32) = nI 8 from rfl, pk_mul, nI_add, nI_add]
theorem ix_g (c j : Nat) : ((29 : Int32) + 12 * nI c + nI j) = nI (29 + 12 * c + j) := by
  rw [show (29 : Int32) = nI 29 from rfl, show (12 : Int32) = nI 12 from rfl, pk_mul, nI_add, nI_add]
theorem cl (n : Nat) (h : n < 2 ^ 31 := by omega) : (nI n).toNatClampNeg = n := nI_clamp h
theorem nle {x y : Int32} (h : x < y) : ¬ y ≤ x := Int32.not_le.mpr h
theorem nlt {x y : Int32} (h : x ≤ y) : ¬ y < x := Int32.not_lt.mpr h
theorem lt_of {x y : Int32} (h : ¬ y ≤ x) : x < y := Int32.not_le.mp h
theorem le_of {x y : Int32} (h : ¬ y < x) : x ≤ y := Int32.not_lt.mp h
theorem bI_k {P : Prop} [Decidable P] : kOk 1 (bI P) = true := kOk_bI
theorem f_thrown (d : Nat) (h : AH) : EvM d mX11_thrown [.ref 0] h (some (.int (h.1 0 0))) h := by
  show EvR _ _ 0 [(0, _)] [] _ _ _
  iterate 2 refine er_s rfl ?_
  refine er_q rfl ?_ ?_
  · rfl
  · rfl
theorem f_isBetween (d : Nat) (x a b : Int32) (h : AH) : EvM d mX11_isBetween [.int x, .int a, .int b] h (some (.int (bI (a ≤ x ∧ x ≤ b)))) h := by
  show EvR _ _ 0 [(0, _), (1, _), (2, _)] [] _ _ _
  iterate 2 refine er_s rfl ?_
  refine er_b rfl rfl (fun c2 => ?_) (fun c2 => ?_)
  · refine er_s rfl ?_
    refine er_q rfl ?_ ?_
    · first | exact st_t ⟨le_of c2, by first | assumption | exact le_of c7⟩ | exact st_f (fun q => nle c2 q.1) | exact st_f (fun q => nle c7 q.2)
    · rfl
  · iterate 2 refine er_s rfl ?_
    refine er_b rfl rfl (fun c7 => ?_) (fun c7 => ?_)
    · refine er_s rfl ?_
      refine er_q rfl ?_ ?_
      · first | exact st_t ⟨le_of c2, by first | assumption | exact le_of c7⟩ | exact st_f (fun q => nle c2 q.1) | exact st_f (fun q => nle c7 q.2)
      · rfl
    · refine er_s rfl ?_
      refine er_g rfl rfl ?_
      refine er_q rfl ?_ ?_
      · first | exact st_t ⟨le_of c2, by first | assumption | exact le_of c7⟩ | exact st_f (fun q => nle c2 q.1) | exact st_f (fun q => nle c7 q.2)
      · rfl
theorem f_of (d : Nat) {b x : Nat} (hb : b < 40) (hx : x < 8) (h : AH) : EvM d mX11_of [.ref 0, .int (nI b), .int (nI x)] h (some (.int (ofB (h.1 1) b x))) h := by
  show EvR _ _ 0 [(0, _), (1, _), (2, _)] [] _ _ _
  iterate 9 refine er_s rfl ?_
  rw [ix_of]
  refine er_il rfl rfl (vp_in_nI (by omega) (by omega)) ?_
  refine er_q rfl ?_ ?_
  · rw [cl _]
  · rfl
theorem f_put (d : Nat) {b x : Nat} (hb : b < 40) (hx : x < 8) (v : Int32) (h : AH) : EvM d mX11_put [.ref 0, .int (nI b), .int (nI x), .int v] h none (hI h 1 (125 + 8 * b + x) v) := by
  show EvR _ _ 0 [(0, _), (1, _), (2, _), (3, _)] [] _ _ _
  iterate 10 refine er_s rfl ?_
  rw [ix_of]
  refine er_is rfl rfl (vp_in_nI (by omega) (by omega)) ?_
  refine er_q rfl ?_ ?_
  · rfl
  · rw [cl _]
theorem f_fails (d : Nat) (n : Int32) (P : Prop) [Decidable P] (h : AH) : EvM d mX11_fails [.ref 0, .int n, .int (bI P)] h (some (.int (bI P))) (hI h 0 0 (if P then n else 0)) := by
  show EvR _ _ 0 [(0, _), (1, _), (2, _)] [] _ _ _
  iterate 2 refine er_s rfl ?_
  refine er_b rfl rfl (fun c2 => ?_) (fun c2 => ?_)
  · iterate 3 refine er_s rfl ?_
    refine er_q (ret_bK rfl kOk_bI) ?_ ?_
    · rfl
    · first | (rw [if_pos (bI_ne.mp (by assumption))]) | (rw [if_neg (bI_eq.mp (by assumption))])
  · refine er_s rfl ?_
    refine er_g rfl rfl ?_
    iterate 2 refine er_s rfl ?_
    refine er_q (ret_bK rfl kOk_bI) ?_ ?_
    · rfl
    · first | (rw [if_pos (bI_ne.mp (by assumption))]) | (rw [if_neg (bI_eq.mp (by assumption))])
theorem f_refuse (d : Nat) (P : Prop) [Decidable P] (y z : Int32) (h : AH) : EvM d mX11_refuse [.ref 0, .int (bI P), .int y, .int z] h (some (.int (bI P))) (if P then hI (hI h 0 12 y) 0 13 z else h) := by
  show EvR _ _ 0 [(0, _), (1, _), (2, _), (3, _)] [] _ _ _
  refine er_s rfl ?_
  refine er_b rfl rfl (fun c1 => ?_) (fun c1 => ?_)
  · refine er_s rfl ?_
    refine er_q (ret_bK rfl kOk_bI) ?_ ?_
    · rfl
    · first | (rw [if_pos (bI_ne.mp (by assumption))]) | (rw [if_neg (bI_eq.mp (by assumption))])
  · iterate 7 refine er_s rfl ?_
    refine er_q (ret_bK rfl kOk_bI) ?_ ?_
    · rfl
    · first | (rw [if_pos (bI_ne.mp (by assumption))]) | (rw [if_neg (bI_eq.mp (by assumption))])
end
