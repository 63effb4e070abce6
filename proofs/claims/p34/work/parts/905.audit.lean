-- needs: 90
noncomputable section
theorem p_isFirm (d : Nat) {h : AH} {r : Nat → Int32} {w : Nat → UInt32} (P : Pal h 32 r w) (hS : Str r) (hm : MasW r w) (hs : SupW r) (hl : ∀ b, b < CN r → ofB r b 2 = 1 → h.2.1 97 b = LDw r w b) {b : Nat} (hb : b < CN r) : EvM (d + 13) mX1_isFirm [.ref 32, .ref 96, .int (nI b)] h (some (.int 1)) h := by
  have hw := hS.1
  have h40 := hw.2.1
  have W := p_isOnWall (d + 12) palL32 (b := b) (by omega) h
  rw [P.st hb] at W
  by_cases c : ofB r b 2 = 1
  · have S := p_isSupported (d + 10) palL32 P hw hb
    have O := p_loadOf (d + 12) (m := 96) ⟨rfl, rfl⟩ (b := b) (by omega) h
    rw [show h.2.1 (96 + 1) b = LDw r w b from hl b hb c] at O
    have F := p_loadFrom (d + 1) palL32 P hS hm hb c
    have e : Op.cmpValue (FP.fcmp (LDw r w b) (LDw r w b)) .l = 0 := by
      rw [fcmp_self (Nat.le_of_lt (LDw_ok hw hm hb).1)]; rfl
    show EvR _ _ 0 [(0, _), (1, _), (2, _)] [] _ _ _
    iterate 2 refine er_s rfl ?_
    refine er_c rfl rfl ⟨Nat.le_of_ble_eq_true rfl, Nat.le_of_ble_eq_true rfl⟩ (W) ?_
    refine er_b rfl rfl (fun _ => ?_) (fun q => absurd (bI_ne.mpr c) q)
    iterate 2 refine er_s rfl ?_
    refine er_c rfl rfl ⟨Nat.le_of_ble_eq_true rfl, Nat.le_of_ble_eq_true rfl⟩ (S) ?_
    refine er_b rfl rfl (fun q => absurd q (fun z => absurd z (bI_ne.mpr ⟨c, hs b hb c⟩))) (fun _ => ?_)
    iterate 2 refine er_s rfl ?_
    refine er_c rfl rfl ⟨Nat.le_of_ble_eq_true rfl, Nat.le_of_ble_eq_true rfl⟩ (O) ?_
    iterate 2 refine er_s rfl ?_
    refine er_c rfl rfl ⟨Nat.le_of_ble_eq_true rfl, Nat.le_of_ble_eq_true rfl⟩ (F) ?_
    refine er_s rfl ?_
    refine er_b rfl rfl (fun q => absurd q (fun z => z e)) (fun _ => ?_)
    refine er_s rfl ?_
    refine er_g rfl rfl ?_
    refine er_q (ret_bK rfl rfl) ?_ ?_
    · rfl
    · rfl
  · show EvR _ _ 0 [(0, _), (1, _), (2, _)] [] _ _ _
    iterate 2 refine er_s rfl ?_
    refine er_c rfl rfl ⟨Nat.le_of_ble_eq_true rfl, Nat.le_of_ble_eq_true rfl⟩ (W) ?_
    refine er_b rfl rfl (fun q => absurd q (fun z => z (bI_eq.mpr c))) (fun _ => ?_)
    refine er_s rfl ?_
    refine er_q (ret_bK rfl rfl) ?_ ?_
    · rfl
    · rfl
end
