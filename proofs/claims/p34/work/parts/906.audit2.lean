-- needs: 905
noncomputable section
theorem p_countIn43 (d : Nat) (x : Int32) (h : AH) : EvM d mX1_countIn [.ref 43, .int x] h (some (.int (nI (cntP (fun i => decide (h.1 43 i = x)) 96)))) h := by
  have Lp : ∀ (n i : Nat), i + n = 96 → EvR d mX1_countIn 4 [(0, .ref 43), (1, .int x), (2, .int (nI (cntP (fun i => decide (h.1 43 i = x)) i))), (3, .int (nI i))] [] h (some (.int (nI (cntP (fun i => decide (h.1 43 i = x)) 96)))) h := by
    intro n
    induction n with
    | zero =>
      intro i hi
      have hi : i = 96 := by omega
      subst hi
      iterate 3 refine er_s rfl ?_
      refine er_b rfl rfl (fun _ => ?_) (fun q => absurd (Int32.le_refl _) q)
      refine er_s rfl ?_
      refine er_q rfl ?_ ?_
      · rfl
      · rfl
    | succ n ih =>
      intro i hi
      have IH := ih (i + 1) (by omega)
      iterate 3 refine er_s rfl ?_
      refine er_b rfl rfl (fun q => absurd q (nI_ge (b := 96) (by omega) (by decide))) (fun _ => ?_)
      iterate 2 refine er_s rfl ?_
      refine er_il rfl rfl (vi) ?_
      rw [cl i]
      refine er_s rfl ?_
      refine er_b rfl rfl (fun c14 => ?_) (fun c14 => ?_)
      · refine er_s rfl ?_
        refine er_g rfl rfl ?_
        rw [cnt_f2 (p := fun i => decide (h.1 43 i = x)) (fun t9 => c14 (of_decide_eq_true t9)), nI_1]
        exact er_sub (sub4 rfl rfl rfl rfl) IH
      · iterate 2 refine er_s rfl ?_
        refine er_g rfl rfl ?_
        rw [cnt_t (p := fun i => decide (h.1 43 i = x)) (decide_eq_true (Decidable.not_not.mp c14)), nI_1]
        exact er_sub (sub4 rfl rfl rfl rfl) IH
  have Z := Lp 96 0 rfl
  show EvR _ _ 0 [(0, _), (1, _)] [] _ _ _
  iterate 4 refine er_s rfl ?_
  exact er_sub (sub4 rfl rfl rfl rfl) Z
theorem p_countIn44 (d : Nat) (x : Int32) (h : AH) : EvM d mX1_countIn [.ref 44, .int x] h (some (.int (nI (cntP (fun i => decide (h.1 44 i = x)) 10)))) h := by
  have Lp : ∀ (n i : Nat), i + n = 10 → EvR d mX1_countIn 4 [(0, .ref 44), (1, .int x), (2, .int (nI (cntP (fun i => decide (h.1 44 i = x)) i))), (3, .int (nI i))] [] h (some (.int (nI (cntP (fun i => decide (h.1 44 i = x)) 10)))) h := by
    intro n
    induction n with
    | zero =>
      intro i hi
      have hi : i = 10 := by omega
      subst hi
      iterate 3 refine er_s rfl ?_
      refine er_b rfl rfl (fun _ => ?_) (fun q => absurd (Int32.le_refl _) q)
      refine er_s rfl ?_
      refine er_q rfl ?_ ?_
      · rfl
      · rfl
    | succ n ih =>
      intro i hi
      have IH := ih (i + 1) (by omega)
      iterate 3 refine er_s rfl ?_
      refine er_b rfl rfl (fun q => absurd q (nI_ge (b := 10) (by omega) (by decide))) (fun _ => ?_)
      iterate 2 refine er_s rfl ?_
      refine er_il rfl rfl (vi) ?_
      rw [cl i]
      refine er_s rfl ?_
      refine er_b rfl rfl (fun c14 => ?_) (fun c14 => ?_)
      · refine er_s rfl ?_
        refine er_g rfl rfl ?_
        rw [cnt_f2 (p := fun i => decide (h.1 44 i = x)) (fun t9 => c14 (of_decide_eq_true t9)), nI_1]
        exact er_sub (sub4 rfl rfl rfl rfl) IH
      · iterate 2 refine er_s rfl ?_
        refine er_g rfl rfl ?_
        rw [cnt_t (p := fun i => decide (h.1 44 i = x)) (decide_eq_true (Decidable.not_not.mp c14)), nI_1]
        exact er_sub (sub4 rfl rfl rfl rfl) IH
  have Z := Lp 10 0 rfl
  show EvR _ _ 0 [(0, _), (1, _)] [] _ _ _
  iterate 4 refine er_s rfl ?_
  exact er_sub (sub4 rfl rfl rfl rfl) Z
end
