noncomputable section
theorem dgS_0 {f : Nat → Int32} {x : Int64} : dgS f 0 x = x := rfl
section
variable {p : Program} {l : Launch} {e : Env} {R : Room} {s : State} {m : MethodId} {args : Array Value} {below : List Frame} {meth : Method} {c : Code} {Q : State → Prop} {KC : Nat} {D : va_G} {ca : Nat → ClassId} {ad0 ad : Nat → Nat} {A : Nat → Prop} {E : EX} {G : Nat → Nat → Int32} {kc : Nat} {h : AH} {r : Nat → Int32} {w : Nat → UInt32} {S : Sv} {K : Hs} {q : Int32 × Int32} {T : Tx} {B : Nat}
theorem dg_l1 (I : Inv B r w) (KE : ∀ (h : AH), CS h r w S K q T → WL p l e R s m args below meth c Q mL_digest 22 KC D ca ad0 A ad E G kc 31 [(0, .ref 31), (1, .long (dg1 r))] [] h) : ∀ (n i : Nat) (x : Int64) (h : AH), i + n = 13 → x = dgS (fun k => acctV r 0 0 k) i 7 → CS h r w S K q T → WL p l e R s m args below meth c Q mL_digest 22 KC D ca ad0 A ad E G kc 6 [(0, .ref 31), (1, .long x), (3, .int (nI i))] [] h := by
  intro n
  induction n with
  | zero =>
    intro i x h hi hx C
    subst hx
    have hi : i = 13 := by omega
    subst hi
    iterate 2 refine wl_s rfl rfl ?_
    refine wl_b rfl rfl (fun _ => ?_) (fun q => absurd (Int32.le_refl _) q)
    exact wl_sub (sub2 rfl rfl) (KE _ C)
  | succ n ih =>
    intro i x h hi hx C
    subst hx
    iterate 2 refine wl_s rfl rfl ?_
    refine wl_b rfl rfl (fun q => absurd q (nI_ge (b := 13) (by omega) (by decide))) (fun _ => ?_)
    iterate 5 refine wl_s rfl rfl ?_
    refine wl_v (i := 131) (mj := mX10_account) (na := 1) rfl (by decide +kernel) rfl ⟨Nat.le_of_ble_eq_true rfl, Nat.le_of_ble_eq_true rfl⟩ (by decide) (p_op_account 1 17 C I _) (px_good (acctC_ok (by omega))) (fun v9 h9 p9 => ?_)
    obtain ⟨rfl, C⟩ := p9
    iterate 4 refine wl_s rfl rfl ?_
    refine wl_g rfl rfl ?_
    rw [cl i, acct_13 (by omega), nI_1]
    exact wl_sub (sub3 rfl rfl rfl) (ih (i + 1) _ _ (by omega) rfl C)
theorem dg_l2 (I : Inv B r w) (KE : ∀ (h : AH), CS h r w S K q T → WL p l e R s m args below meth c Q mL_digest 22 KC D ca ad0 A ad E G kc 71 [(0, .ref 31), (1, .long (dg2 r))] [] h) : ∀ (n i : Nat) (x : Int64) (h : AH), i + n = CN r * 8 → x = dgS (fun k => ofB r (k / 8) (k % 8)) i (dg1 r) → CS h r w S K q T → WL p l e R s m args below meth c Q mL_digest 22 KC D ca ad0 A ad E G kc 33 [(0, .ref 31), (1, .long x), (3, .int (nI i))] [] h := by
  have h40 := I.1.1.2.1
  intro n
  induction n with
  | zero =>
    intro i x h hi hx C
    subst hx
    have hi : i = CN r * 8 := by omega
    subst hi
    iterate 3 refine wl_s rfl rfl ?_
    refine wl_v (i := 131) (mj := mX10_account) (na := 1) rfl (by decide +kernel) rfl ⟨Nat.le_of_ble_eq_true rfl, Nat.le_of_ble_eq_true rfl⟩ (by decide) (p_op_account 1 17 C I _) (px_good (acctC_ok (n := 4) (by decide))) (fun v9 h9 p9 => ?_)
    obtain ⟨rfl, C⟩ := p9
    iterate 2 refine wl_s rfl rfl ?_
    rw [acct_4 I.1.1, show (8 : Int32) = nI 8 from rfl, pk_mul]
    refine wl_b rfl rfl (fun _ => ?_) (fun q => absurd (Int32.le_refl _) q)
    exact wl_sub (sub2 rfl rfl) (KE _ C)
  | succ n ih =>
    intro i x h hi hx C
    subst hx
    iterate 3 refine wl_s rfl rfl ?_
    refine wl_v (i := 131) (mj := mX10_account) (na := 1) rfl (by decide +kernel) rfl ⟨Nat.le_of_ble_eq_true rfl, Nat.le_of_ble_eq_true rfl⟩ (by decide) (p_op_account 1 17 C I _) (px_good (acctC_ok (n := 4) (by decide))) (fun v9 h9 p9 => ?_)
    obtain ⟨rfl, C⟩ := p9
    iterate 2 refine wl_s rfl rfl ?_
    rw [acct_4 I.1.1, show (8 : Int32) = nI 8 from rfl, pk_mul]
    refine wl_b rfl rfl (fun q => absurd q (nI_ge (by omega) (by omega))) (fun _ => ?_)
    iterate 10 refine wl_s rfl rfl ?_
    rw [rm8 (by omega), dv8 (by omega)]
    refine wl_v (i := 134) (mj := mX10_blockOf) (na := 2) rfl (by decide +kernel) rfl ⟨Nat.le_of_ble_eq_true rfl, Nat.le_of_ble_eq_true rfl⟩ (by decide) (p_op_blockOf 1 18 C I.1.1 _ _) (px_good (blockC_ok I.1.1 (by omega) (by omega))) (fun v9 h9 p9 => ?_)
    obtain ⟨rfl, C⟩ := p9
    iterate 4 refine wl_s rfl rfl ?_
    refine wl_g rfl rfl ?_
    rw [cl (i / 8), cl (i % 8), nI_1]
    exact wl_sub (sub3 rfl rfl rfl) (ih (i + 1) _ _ (by omega) rfl C)
theorem dg_l3 (I : Inv B r w) (hB : B + 48 < 2 ^ 30) (KE : ∀ (h : AH), CS h r w S K q T → WL p l e R s m args below meth c Q mL_digest 22 KC D ca ad0 A ad E G kc 102 [(0, .ref 31), (1, .long (dg3 r w))] [] h) : ∀ (n i : Nat) (x : Int64) (h : AH), i + n = CN r → x = dgS (fun k => mbA r w k 0) i (dg2 r) → CS h r w S K q T → WL p l e R s m args below meth c Q mL_digest 22 KC D ca ad0 A ad E G kc 73 [(0, .ref 31), (1, .long x), (3, .int (nI i))] [] h := by
  have h40 := I.1.1.2.1
  intro n
  induction n with
  | zero =>
    intro i x h hi hx C
    subst hx
    have hi : i = CN r := by omega
    subst hi
    iterate 3 refine wl_s rfl rfl ?_
    refine wl_v (i := 131) (mj := mX10_account) (na := 1) rfl (by decide +kernel) rfl ⟨Nat.le_of_ble_eq_true rfl, Nat.le_of_ble_eq_true rfl⟩ (by decide) (p_op_account 1 17 C I _) (px_good (acctC_ok (n := 4) (by decide))) (fun v9 h9 p9 => ?_)
    obtain ⟨rfl, C⟩ := p9
    rw [acct_4 I.1.1]
    refine wl_b rfl rfl (fun _ => ?_) (fun q => absurd (Int32.le_refl _) q)
    exact wl_sub (sub2 rfl rfl) (KE _ C)
  | succ n ih =>
    intro i x h hi hx C
    subst hx
    iterate 3 refine wl_s rfl rfl ?_
    refine wl_v (i := 131) (mj := mX10_account) (na := 1) rfl (by decide +kernel) rfl ⟨Nat.le_of_ble_eq_true rfl, Nat.le_of_ble_eq_true rfl⟩ (by decide) (p_op_account 1 17 C I _) (px_good (acctC_ok (n := 4) (by decide))) (fun v9 h9 p9 => ?_)
    obtain ⟨rfl, C⟩ := p9
    rw [acct_4 I.1.1]
    refine wl_b rfl rfl (fun q => absurd q (nI_ge (by omega) (by omega))) (fun _ => ?_)
    iterate 6 refine wl_s rfl rfl ?_
    refine wl_v (i := 137) (mj := mX10_massBits) (na := 2) rfl (by decide +kernel) rfl ⟨Nat.le_of_ble_eq_true rfl, Nat.le_of_ble_eq_true rfl⟩ (by decide) (p_op_massBits 1 13 C I hB _ _) (px_good (mbC_ok (n := 0) I.1.1 (by omega) (by decide))) (fun v9 h9 p9 => ?_)
    obtain ⟨rfl, C⟩ := p9
    iterate 4 refine wl_s rfl rfl ?_
    refine wl_g rfl rfl ?_
    rw [cl i, k0, nI_1]
    exact wl_sub (sub3 rfl rfl rfl) (ih (i + 1) _ _ (by omega) rfl C)
theorem dg_l4 (I : Inv B r w) (KE : ∀ (h : AH), CS h r w S K q T → WL p l e R s m args below meth c Q mL_digest 22 KC D ca ad0 A ad E G kc 136 [(0, .ref 31), (1, .long (dg r w))] [] h) : ∀ (n i : Nat) (x : Int64) (h : AH), i + n = 96 → x = dgS (fun k => gAt r (k / 12) (k % 12)) i (dg3 r w) → CS h r w S K q T → WL p l e R s m args below meth c Q mL_digest 22 KC D ca ad0 A ad E G kc 104 [(0, .ref 31), (1, .long x), (3, .int (nI i))] [] h := by
  intro n
  induction n with
  | zero =>
    intro i x h hi hx C
    subst hx
    have hi : i = 96 := by omega
    subst hi
    iterate 2 refine wl_s rfl rfl ?_
    refine wl_b rfl rfl (fun _ => ?_) (fun q => absurd (Int32.le_refl _) q)
    exact wl_sub (sub2 rfl rfl) (KE _ C)
  | succ n ih =>
    intro i x h hi hx C
    subst hx
    iterate 2 refine wl_s rfl rfl ?_
    refine wl_b rfl rfl (fun q => absurd q (nI_ge (b := 96) (by omega) (by decide))) (fun _ => ?_)
    iterate 10 refine wl_s rfl rfl ?_
    rw [rm12 (by omega), dv12 (by omega)]
    refine wl_v (i := 140) (mj := mX10_at) (na := 2) rfl (by decide +kernel) rfl ⟨Nat.le_of_ble_eq_true rfl, Nat.le_of_ble_eq_true rfl⟩ (by decide) (p_op_at 1 19 C _ _) (px_good (atC_ok (by omega) (by omega))) (fun v9 h9 p9 => ?_)
    obtain ⟨rfl, C⟩ := p9
    iterate 4 refine wl_s rfl rfl ?_
    refine wl_g rfl rfl ?_
    rw [cl (i / 12), cl (i % 12), nI_1]
    exact wl_sub (sub3 rfl rfl rfl) (ih (i + 1) _ _ (by omega) rfl C)
end
/-- the digest is one of what is, and changes nothing -/
theorem c_digest {l : Launch} (hfl : l.stackTraces = false) {h : AH} {r : Nat → Int32} {w : Nat → UInt32} {S : Sv} {K : Hs} {q : Int32 × Int32} {T : Tx} {B : Nat} (C : CS h r w S K q T) (I : Inv B r w) (hB : B + 48 < 2 ^ 30) : LX l mL_digest 22 0 [.ref 31] h (fun v h' => v = some (.long (dg r w)) ∧ CS h' r w S K q T) := by
  refine lc_mk hfl (by decide) (Nat.le_of_ble_eq_true rfl) (fun p e R s m args below meth c D ca A ad => ?_)
  show WL p l e R s m args below meth c _ mL_digest 22 0 D ca ad A ad [] _ 0 0 [(0, .ref 31)] [] h
  iterate 4 refine wl_s rfl rfl ?_
  refine wl_sub (sub3 rfl rfl rfl) (dg_l1 I (fun h C => ?_) 13 0 _ h rfl dgS_0.symm C)
  iterate 2 refine wl_s rfl rfl ?_
  refine wl_sub (sub3 rfl rfl rfl) (dg_l2 I (fun h C => ?_) (CN r * 8) 0 _ h (Nat.zero_add _) dgS_0.symm C)
  iterate 2 refine wl_s rfl rfl ?_
  refine wl_sub (sub3 rfl rfl rfl) (dg_l3 I hB (fun h C => ?_) (CN r) 0 _ h (Nat.zero_add _) dgS_0.symm C)
  iterate 2 refine wl_s rfl rfl ?_
  refine wl_sub (sub3 rfl rfl rfl) (dg_l4 I (fun h C => ?_) 96 0 _ h rfl dgS_0.symm C)
  refine wl_s rfl rfl ?_
  refine wl_q (by decide) rfl (fun k q => by cases q) ?_
  exact ⟨rfl, C⟩
end
