-- needs: 74
noncomputable section
theorem p_hasSpace (d : Nat) {h : AH} {L : Nat} (h5 : h.1 206 5 = nI L) (hL : L ≤ 60) : EvM d mX6_hasSpace [.ref 206] h (some (.int (bI (L < 60)))) h := by
  by_cases c : L < 60
  · rw [bI_t c]
    show EvR _ _ 0 [(0, _)] [] _ _ _
    iterate 2 refine er_s rfl ?_
    refine er_b rfl rfl (fun q => absurd q (by rw [h5]; exact lt0 (by omega))) (fun _ => ?_)
    iterate 3 refine er_s rfl ?_
    refine er_b rfl rfl (fun q => absurd q (by rw [h5]; exact nI_ge (b := 60) (by omega) (by omega))) (fun _ => ?_)
    refine er_s rfl ?_
    refine er_g rfl rfl ?_
    refine er_q (ret_bK rfl rfl) ?_ ?_
    · rfl
    · rfl
  · rw [bI_f c]
    show EvR _ _ 0 [(0, _)] [] _ _ _
    iterate 2 refine er_s rfl ?_
    refine er_b rfl rfl (fun q => absurd q (by rw [h5]; exact lt0 (by omega))) (fun _ => ?_)
    iterate 3 refine er_s rfl ?_
    refine er_b rfl rfl (fun _ => ?_) (fun q => absurd (by rw [h5]; exact nI_le (a := 60) (by omega) (by omega)) q)
    refine er_s rfl ?_
    refine er_q (ret_bK rfl rfl) ?_ ?_
    · rfl
    · rfl
theorem p_add (d : Nat) {h : AH} {L : Nat} (h5 : h.1 206 5 = nI L) (hL : L < 60) {x : Int32} (hx : kOk 2 x = true) : EvM d mX6_add [.ref 206, .int x] h none (hI (hI h 207 L x) 206 5 (nI (L + 1))) := by
  have g1 : (hI h 207 L x).1 206 5 = nI L := by rw [hI_ne (by decide)]; exact h5
  have W : WM d mX6_add [.ref 206, .int x] h (fun v h' => v = none ∧ h' = hI (hI h 207 L x) 206 5 (nI (L + 1))) := by
    show WX _ _ 0 [(0, _), (1, _)] [] _ _
    iterate 2 refine ex_s rfl ?_
    refine ex_b rfl rfl (fun q => absurd q (by rw [h5]; exact lt0 (by omega))) (fun _ => ?_)
    iterate 3 refine ex_s rfl ?_
    refine ex_b rfl rfl (fun q => absurd q (by rw [h5]; exact nI_ge (b := 60) (by omega) (by omega))) (fun _ => ?_)
    iterate 4 refine ex_s rfl ?_
    rw [show fv 0 (h.1 206 5) = Value.int (nI L) from congrArg Value.int h5]
    refine ex_s rfl ?_
    refine ex_cs rfl rfl (vi) hx ?_
    iterate 3 refine ex_s rfl ?_
    rw [cl L, show fv 0 ((hI h 207 L x).1 206 5) = Value.int (nI L) from congrArg Value.int g1]
    iterate 2 refine ex_s rfl ?_
    rw [nI_1]
    refine ex_s rfl ?_
    refine ex_q rfl ?_
    exact ⟨rfl, rfl⟩
  exact W.ev
theorem p_empty (d : Nat) (h : AH) : EvM d mX6_empty [.ref 206] h none (hI h 206 5 0) := by
  show EvR _ _ 0 [(0, _)] [] _ _ _
  iterate 3 refine er_s rfl ?_
  refine er_q rfl ?_ ?_
  · rfl
  · rfl
theorem p_inputLength (d : Nat) (h : AH) : EvM d mX6_inputLength [.ref 206] h (some (.int (h.1 206 5))) h := by
  show EvR _ _ 0 [(0, _)] [] _ _ _
  iterate 2 refine er_s rfl ?_
  refine er_q rfl ?_ ?_
  · rfl
  · rfl
theorem p_errorOffset (d : Nat) (h : AH) : EvM d mX6_errorOffset [.ref 206] h (some (.int (h.1 206 8))) h := by
  show EvR _ _ 0 [(0, _)] [] _ _ _
  iterate 2 refine er_s rfl ?_
  refine er_q rfl ?_ ?_
  · rfl
  · rfl
theorem p_number (d : Nat) (h : AH) : EvM d mX6_number [.ref 206] h (some (.int (h.1 206 7))) h := by
  show EvR _ _ 0 [(0, _)] [] _ _ _
  iterate 2 refine er_s rfl ?_
  refine er_q rfl ?_ ?_
  · rfl
  · rfl
theorem p_signOf (d : Nat) {k : Nat} (hk : k < 60) (h : AH) (hx : kOk 2 (h.1 208 k) = true) : EvM d mX6_signOf [.ref 206, .int (nI k)] h (some (.int (h.1 208 k))) h := by
  show EvR _ _ 0 [(0, _), (1, _)] [] _ _ _
  refine er_s rfl ?_
  refine er_b rfl rfl (fun q => absurd q (lt0 (by omega))) (fun _ => ?_)
  iterate 2 refine er_s rfl ?_
  refine er_b rfl rfl (fun q => absurd q (nI_ge (b := 60) (by omega) (by omega))) (fun _ => ?_)
  iterate 3 refine er_s rfl ?_
  refine er_cl rfl rfl (vi) ?_
  rw [cl k]
  refine er_g rfl rfl ?_
  refine er_q (ret_bK rfl hx) ?_ ?_
  · rfl
  · rfl
theorem p_firstOf (d : Nat) {k : Nat} (hk : k < 60) (h : AH) : EvM d mX6_firstOf [.ref 206, .int (nI k)] h (some (.int (h.1 209 k))) h := by
  show EvR _ _ 0 [(0, _), (1, _)] [] _ _ _
  refine er_s rfl ?_
  refine er_b rfl rfl (fun q => absurd q (lt0 (by omega))) (fun _ => ?_)
  iterate 2 refine er_s rfl ?_
  refine er_b rfl rfl (fun q => absurd q (nI_ge (b := 60) (by omega) (by omega))) (fun _ => ?_)
  iterate 3 refine er_s rfl ?_
  refine er_il rfl rfl (vi) ?_
  refine er_g rfl rfl ?_
  refine er_q rfl ?_ ?_
  · rw [cl k]
  · rfl
theorem p_secondOf (d : Nat) {k : Nat} (hk : k < 60) (h : AH) : EvM d mX6_secondOf [.ref 206, .int (nI k)] h (some (.int (h.1 210 k))) h := by
  show EvR _ _ 0 [(0, _), (1, _)] [] _ _ _
  refine er_s rfl ?_
  refine er_b rfl rfl (fun q => absurd q (lt0 (by omega))) (fun _ => ?_)
  iterate 2 refine er_s rfl ?_
  refine er_b rfl rfl (fun q => absurd q (nI_ge (b := 60) (by omega) (by omega))) (fun _ => ?_)
  iterate 3 refine er_s rfl ?_
  refine er_il rfl rfl (vi) ?_
  refine er_g rfl rfl ?_
  refine er_q rfl ?_ ?_
  · rw [cl k]
  · rfl
theorem p_thirdOf (d : Nat) {k : Nat} (hk : k < 60) (h : AH) : EvM d mX6_thirdOf [.ref 206, .int (nI k)] h (some (.int (h.1 211 k))) h := by
  show EvR _ _ 0 [(0, _), (1, _)] [] _ _ _
  refine er_s rfl ?_
  refine er_b rfl rfl (fun q => absurd q (lt0 (by omega))) (fun _ => ?_)
  iterate 2 refine er_s rfl ?_
  refine er_b rfl rfl (fun q => absurd q (nI_ge (b := 60) (by omega) (by omega))) (fun _ => ?_)
  iterate 3 refine er_s rfl ?_
  refine er_il rfl rfl (vi) ?_
  refine er_g rfl rfl ?_
  refine er_q rfl ?_ ?_
  · rw [cl k]
  · rfl
end
