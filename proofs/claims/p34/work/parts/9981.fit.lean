noncomputable section
section
variable {p : Program} {l : Launch} {e : Env} {R : Room} {s : State} {m : MethodId} {args : Array Value} {below : List Frame} {meth : Method} {c : Code} {Q : State → Prop} {KC : Nat} {D : va_G} {ca : Nat → ClassId} {ad0 ad : Nat → Nat} {A : Nat → Prop} {E : EX} {G : Nat → Nat → Int32} {kc : Nat} {h : AH} {r : Nat → Int32} {w : Nat → UInt32} {S : Sv} {K : Hs} {q : Int32 × Int32} {T : Tx} {B : Nat}
theorem if_rooms (hfl : l.stackTraces = false) (KE : ∀ (h : AH), CS h r w S K q T → WL p l e R s m args below meth c Q mL_isFit 23 KC D ca ad0 A ad E G kc 65 [(0, .ref 31), (1, .int 1)] [] h) : ∀ (n k : Nat) (h : AH), k + n = 8 → CS h r w S K q T → WL p l e R s m args below meth c Q mL_isFit 23 KC D ca ad0 A ad E G kc 43 [(0, .ref 31), (1, .int 1), (2, .int (nI k))] [] h := by
  intro n
  induction n with
  | zero =>
    intro k h hn C
    have hk : k = 8 := by omega
    subst hk
    refine wl_s rfl rfl ?_
    refine wl_b rfl rfl (fun q => absurd q (by decide)) (fun _ => ?_)
    iterate 2 refine wl_s rfl rfl ?_
    refine wl_b rfl rfl (fun _ => ?_) (fun q => absurd (by decide) q)
    exact wl_sub (sub2 rfl rfl) (KE _ C)
  | succ n ih =>
    intro k h hn C
    have hk : k < 8 := by omega
    intro F hkc
    have hk0 : kc + 0 ≤ KC := hkc
    refine ?_
    revert F hkc
    show WL p l e R s m args below meth c Q mL_isFit 23 KC D ca ad0 A ad E G kc 43 [(0, .ref 31), (1, .int 1), (2, .int (nI k))] [] h
    refine wl_s rfl rfl ?_
    refine wl_b rfl rfl (fun q => absurd q (by decide)) (fun _ => ?_)
    iterate 2 refine wl_s rfl rfl ?_
    refine wl_b rfl rfl (fun q => absurd q (nI_ge (b := 8) hk (by decide))) (fun _ => ?_)
    iterate 2 refine wl_s rfl rfl ?_
    refine wl_c (mj := mL_areRooms) (na := 2) rfl (by decide) (by decide +kernel) (by decide +kernel) (by decide +kernel) (by decide +kernel) rfl (Nat.le_of_ble_eq_true rfl) (by decide) hk0 (c_areRooms hfl C hk) (fun v9 h9 p9 => ?_)
    obtain ⟨rfl, C⟩ := p9
    iterate 2 refine wl_s rfl rfl ?_
    refine wl_g rfl rfl ?_
    rw [nI_1]
    exact wl_sub (sub3 rfl rfl rfl) (ih (k + 1) _ (by omega) C)
end
/-- blocks, loads and rooms -/
theorem c_isFit {l : Launch} (hfl : l.stackTraces = false) {h : AH} {r : Nat → Int32} {w : Nat → UInt32} {S : Sv} {K : Hs} {q : Int32 × Int32} {T : Tx} {B : Nat} (C : CS h r w S K q T) (I : Inv B r w) (hB : B + 48 < 2 ^ 30) : LX l mL_isFit 23 4 [.ref 31] h (fun v h' => v = some (.int 1) ∧ CS h' r w S K q T) := by
  have h40 := I.1.1.2.1
  have hon9 := onN_le I.1.1
  refine lc_mk hfl (by decide) (Nat.le_of_ble_eq_true rfl) (fun p e R s m args below meth c D ca A ad => ?_)
  show WL p l e R s m args below meth c _ mL_isFit 23 4 D ca ad A ad [] _ 0 0 [(0, .ref 31)] [] h
  by_cases hz : onN r = 0
  · have hwc : worstC r ≠ 0 := by
      unfold worstC
      rw [if_pos hz]
      decide
    refine wl_s rfl rfl ?_
    refine wl_c (mj := mL_areBlocks) (na := 1) rfl (by decide) (by decide +kernel) (by decide +kernel) (by decide +kernel) (by decide +kernel) rfl (Nat.le_of_ble_eq_true rfl) (by decide) (by decide) (c_areBlocks hfl C I hB) (fun v9 h9 p9 => ?_)
    obtain ⟨rfl, C⟩ := p9
    refine wl_b rfl rfl (fun q => absurd q (by decide)) (fun _ => ?_)
    iterate 2 refine wl_s rfl rfl ?_
    refine wl_v (i := 131) (mj := mX10_account) (na := 1) rfl (by decide +kernel) rfl ⟨Nat.le_of_ble_eq_true rfl, Nat.le_of_ble_eq_true rfl⟩ (by decide) (p_op_account 1 17 C I _) (px_good (acctC_ok (n := 6) (by decide))) (fun v9 h9 p9 => ?_)
    obtain ⟨rfl, C⟩ := p9
    rw [acct_6, hz]
    refine wl_b rfl rfl (fun q => absurd q (by decide)) (fun _ => ?_)
    refine wl_s rfl rfl ?_
    refine wl_w (mj := mL_worst) (na := 1) rfl (by decide) (by decide +kernel) (by decide +kernel) (by decide +kernel) (by decide +kernel) rfl (Nat.le_of_ble_eq_true rfl) (by decide) (by decide) (l_worst hfl C I) (fun v9 h9 p9 => ?_)
    obtain ⟨g3, C⟩ := p9
    obtain rfl := g3.elim (fun z => absurd z.1 hwc) (fun z => z.2)
    refine wl_s rfl rfl ?_
    refine wl_b rfl rfl (fun q => absurd q (by decide)) (fun _ => ?_)
    refine wl_g rfl rfl ?_
    refine wl_s rfl rfl ?_
    refine wl_g rfl rfl ?_
    iterate 3 refine wl_s rfl rfl ?_
    refine wl_sub (sub3 rfl rfl rfl) (if_rooms hfl (fun h C => ?_) 8 0 _ rfl C)
    refine wl_s rfl rfl ?_
    refine wl_q (by decide) rfl (fun k q => by cases q) ?_
    exact ⟨rfl, C⟩
  · refine wl_s rfl rfl ?_
    refine wl_c (mj := mL_areBlocks) (na := 1) rfl (by decide) (by decide +kernel) (by decide +kernel) (by decide +kernel) (by decide +kernel) rfl (Nat.le_of_ble_eq_true rfl) (by decide) (by decide) (c_areBlocks hfl C I hB) (fun v9 h9 p9 => ?_)
    obtain ⟨rfl, C⟩ := p9
    refine wl_b rfl rfl (fun q => absurd q (by decide)) (fun _ => ?_)
    iterate 2 refine wl_s rfl rfl ?_
    refine wl_v (i := 131) (mj := mX10_account) (na := 1) rfl (by decide +kernel) rfl ⟨Nat.le_of_ble_eq_true rfl, Nat.le_of_ble_eq_true rfl⟩ (by decide) (p_op_account 1 17 C I _) (px_good (acctC_ok (n := 6) (by decide))) (fun v9 h9 p9 => ?_)
    obtain ⟨rfl, C⟩ := p9
    rw [acct_6]
    refine wl_b rfl rfl (fun _ => ?_) (fun q => absurd (fun z => hz ((nI_z (by omega)).mp z)) q)
    refine wl_s rfl rfl ?_
    refine wl_c (mj := mL_areLoads) (na := 1) rfl (by decide) (by decide +kernel) (by decide +kernel) (by decide +kernel) (by decide +kernel) rfl (Nat.le_of_ble_eq_true rfl) (by decide) (by decide) (c_areLoads hfl C I hz) (fun v9 h9 p9 => ?_)
    obtain ⟨rfl, C⟩ := p9
    refine wl_b rfl rfl (fun q => absurd q (by decide)) (fun _ => ?_)
    refine wl_s rfl rfl ?_
    refine wl_g rfl rfl ?_
    iterate 3 refine wl_s rfl rfl ?_
    refine wl_sub (sub3 rfl rfl rfl) (if_rooms hfl (fun h C => ?_) 8 0 _ rfl C)
    refine wl_s rfl rfl ?_
    refine wl_q (by decide) rfl (fun k q => by cases q) ?_
    exact ⟨rfl, C⟩
end
