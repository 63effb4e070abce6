-- needs: 9964
noncomputable section
/-- what a method of the other side answers, its code, the state behind it -/
def FQ (h : AH) (c y : Int32) (Z : AH → Prop) : Option Value → AH → Prop := fun v h' => (∃ a, v = some (.int a) ∧ (c = 0 → a = y)) ∧ Z h' ∧ h'.1 0 0 = c ∧ FrX rfP h h'
theorem pif {P : Prop} {i : Decidable P} {x y : Int32 × Int32} : ((if P then x.1 else y.1), (if P then x.2 else y.2)) = (if P then x else y) := by
  by_cases c : P
  · rw [if_pos c, if_pos c, if_pos c]
  · rw [if_neg c, if_neg c, if_neg c]
theorem ifp {α : Type} {P : Prop} {i : Decidable P} {x y : α} : (if (decide P && !false) = true then x else y) = (if P then x else y) := by
  by_cases c : P
  · rw [if_pos c, if_pos (by rw [decide_eq_true c]; rfl)]
  · rw [if_neg c, if_neg (by rw [decide_eq_false c]; decide)]
theorem sf_v {r : Nat → Int32} {w : Nat → UInt32} {x : Int32} (c : sfC r w = 0) (f : ∀ b, svF r w 51 = some b → x = nI b) : x = sfA r w := by
  show x = oI (svF r w 51)
  cases e : svF r w 51 with
  | none => unfold sfC at c; rw [if_pos e] at c; exact absurd c (by decide)
  | some b => exact f b e
section
variable {h : AH} {r r' : Nat → Int32} {w w' : Nat → UInt32} {S : Sv} {K : Hs} {q : Int32 × Int32} {T : Tx} {d mj B : Nat} {av : List Value} {code re de : Int32} {p : Bool} {V : Option Value → Prop}
theorem rs_pk (R : RS h r w S K q T) (hl : ¬ mj = mL_law) (hi : inS rfP av = true) (F : WM d mj av h (fun v h' => V v ∧ OqP h h' code re de r' w' p K.1)) : WM d mj av h (fun v h' => V v ∧ RS h' r' w' S (if p = true then pushK K r w else K) (re, de) T ∧ h'.1 0 0 = code ∧ FrX rfP h h') := by
  obtain ⟨v, h', E, z⟩ := wm_fr rf_clo F hl hi
  exact ⟨v, h', E, z.1.1, R.op z.1.2, z.1.2.1, z.2⟩
theorem rs_push (R : RS h r w S K q T) (hl : ¬ mj = mL_law) (hi : inS rfP av = true) (F : WM d mj av h (fun v h' => V v ∧ OqP h h' code re de r' w' (decide (code = 0) && !inT h) K.1)) : WM d mj av h (fun v h' => V v ∧ RS h' r' w' S (if code = 0 then pushK K r w else K) (re, de) T ∧ h'.1 0 0 = code ∧ FrX rfP h h') := by
  rw [show inT h = false by unfold inT; rw [R.2.2.2.2.1]; decide] at F
  have G := rs_pk R hl hi F
  exact G.mono (fun v h' z => ⟨z.1, by rw [← ifp (P := code = 0)]; exact z.2.1, z.2.2⟩)
theorem g_heat (R : RS h r w S K q T) (I : IS B r w S K) (hB : B + 97 < 2 ^ 30) (a : Int32) (b : Int32) : WM 20 mX11_heat [.ref 0, .int a, .int b] h (FQ h (heatC a b) (r (5 + a.toNatClampNeg)) (fun g => RS g (heatR r a b) w S (if heatC a b = 0 then pushK K r w else K) q T)) := by
  obtain ⟨e1, e5⟩ := R.1
  subst e1 e5
  have F := f_heat 17 a b h R.2.2.1.1 R.2.2.1.2.1
  rw [R.2.2.2.1.1, R.2.2.2.1.2] at F
  exact (rs_push R (by decide) rfl (F.mono (fun v h' z => ⟨z.1, z.2.q⟩))).mono (fun v h' z => ⟨z.1, by exact z.2.1, z.2.2⟩)
theorem g_visit (R : RS h r w S K q T) (I : IS B r w S K) (hB : B + 97 < 2 ^ 30) (a : Int32) : WM 20 mX11_visit [.ref 0, .int a] h (FQ h (visitC a) (r 3) (fun g => RS g (visitR r a) w S (if visitC a = 0 then pushK K r w else K) q T)) := by
  obtain ⟨e1, e5⟩ := R.1
  subst e1 e5
  have F := f_visit 17 a h R.2.2.1.1 R.2.2.1.2.1
  rw [R.2.2.2.1.1, R.2.2.2.1.2] at F
  exact (rs_push R (by decide) rfl (F.mono (fun v h' z => ⟨z.1, z.2.q⟩))).mono (fun v h' z => ⟨z.1, by exact z.2.1, z.2.2⟩)
theorem g_saw (R : RS h r w S K q T) (I : IS B r w S K) (hB : B + 97 < 2 ^ 30) (a : Int32) (b : Int32) (c : Int32) : WM 20 mX11_saw [.ref 0, .int a, .int b, .int c] h (FQ h (sawC r a b c) (nI (CN r)) (fun g => RS g (sawR9 r a b c) (sawW9 r w a b c) S (if sawC r a b c = 0 then pushK K r w else K) (if sawC r a b c = 3 then sawQ r a b c else q) T)) := by
  obtain ⟨e1, e5⟩ := R.1
  subst e1 e5
  have F := f_saw 16 a b c h I.1.1.1 I.1.2.2.2.2.2.2.2 R.2.2.1.1 R.2.2.1.2.1
  rw [R.2.2.2.1.1, R.2.2.2.1.2] at F
  exact (rs_push R (by decide) rfl (F.mono (fun v h' z => ⟨z.1, z.2.q⟩))).mono (fun v h' z => ⟨z.1, by rw [← pif]; exact z.2.1, z.2.2⟩)
theorem g_lay (R : RS h r w S K q T) (I : IS B r w S K) (hB : B + 97 < 2 ^ 30) (a : Int32) (b : Int32) (c : Int32) : WM 20 mX11_lay [.ref 0, .int a, .int b, .int c] h (FQ h (layC r a b c) (nI (supN (layR9 r a b c) a.toNatClampNeg)) (fun g => RS g (layR9 r a b c) w S (if layC r a b c = 0 then pushK K r w else K) (if layC r a b c = 2 then layQ r a.toNatClampNeg b.toNatClampNeg c.toNatClampNeg else q) T)) := by
  obtain ⟨e1, e5⟩ := R.1
  subst e1 e5
  have F := f_lay 16 a b c h I.1.1 R.2.2.1.1 R.2.2.1.2.1
  rw [R.2.2.2.1.1, R.2.2.2.1.2] at F
  exact (rs_push R (by decide) rfl (F.mono (fun v h' z => ⟨z.1, z.2.q⟩))).mono (fun v h' z => ⟨z.1, by rw [← pif]; exact z.2.1, z.2.2⟩)
theorem g_take (R : RS h r w S K q T) (I : IS B r w S K) (hB : B + 97 < 2 ^ 30) (a : Int32) : WM 20 mX11_take [.ref 0, .int a] h (FQ h (takeC r a) (ofB r a.toNatClampNeg 1) (fun g => RS g (takeR r a) w S (if takeC r a = 0 then pushK K r w else K) (if takeC r a = 2 then (6, a) else q) T)) := by
  obtain ⟨e1, e5⟩ := R.1
  subst e1 e5
  have F := f_take 17 a h I.1.1 R.2.2.1.1 R.2.2.1.2.1
  rw [R.2.2.2.1.1, R.2.2.2.1.2] at F
  exact (rs_push R (by decide) rfl (F.mono (fun v h' z => ⟨z.1, z.2.q⟩))).mono (fun v h' z => ⟨z.1, by rw [← pif (x := ((6 : Int32), a))]; exact z.2.1, z.2.2⟩)
theorem g_pass (R : RS h r w S K q T) (I : IS B r w S K) (hB : B + 97 < 2 ^ 30) (a : Int32) : WM 20 mX11_pass [.ref 0, .int a] h (FQ h (passC a) (nI (onN r) - nI (onN (passR r w a))) (fun g => RS g (passR r w a) (passW r w a) S (if passC a = 0 then pushK K r w else K) q T)) := by
  obtain ⟨e1, e5⟩ := R.1
  subst e1 e5
  have F := f_pass 11 a h I.1.2.1 (by omega) R.2.2.1.1 R.2.2.1.2.1
  rw [R.2.2.2.1.1, R.2.2.2.1.2] at F
  exact (rs_push R (by decide) rfl (F.mono (fun v h' z => ⟨z.1, z.2.q⟩))).mono (fun v h' z => ⟨(by obtain ⟨x, e, f⟩ := z.1; exact ⟨x, e, fun c0 => (f c0).trans (pass_v I.1 (by omega) c0)⟩), by exact z.2.1, z.2.2⟩)
theorem g_blockOf (R : RS h r w S K q T) (I : IS B r w S K) (hB : B + 97 < 2 ^ 30) (a : Int32) (b : Int32) : WM 20 mX11_blockOf [.ref 0, .int a, .int b] h (FQ h (blockC r a b) (ofB r a.toNatClampNeg b.toNatClampNeg) (fun g => RS g r w S K q T)) := by
  obtain ⟨e1, e5⟩ := R.1
  subst e1 e5
  have F := f_blockOf 18 a b h I.1.1.1 K.1
  rw [R.2.2.2.1.1, R.2.2.2.1.2] at F
  exact (rs_pk R (by decide) rfl (F.mono (fun v h' z => ⟨z.1, z.2.q⟩))).mono (fun v h' z => ⟨z.1, by exact z.2.1, z.2.2⟩)
theorem g_load (R : RS h r w S K q T) (I : IS B r w S K) (hB : B + 97 < 2 ^ 30) (a : Int32) (b : Int32) : WM 20 mX11_load [.ref 0, .int a, .int b] h (FQ h (loadC r a) ((loadV r w a b).toInt32) (fun g => RS g r w S K q T)) := by
  obtain ⟨e1, e5⟩ := R.1
  subst e1 e5
  have F := f_load 14 a b h I.1.1.1 I.1.2.1.2.1 K.1
  rw [R.2.2.2.1.1, R.2.2.2.1.2] at F
  exact (rs_pk R (by decide) rfl (F.mono (fun v h' z => ⟨z.1, z.2.q⟩))).mono (fun v h' z => ⟨z.1, by exact z.2.1, z.2.2⟩)
theorem g_loadAgain (R : RS h r w S K q T) (I : IS B r w S K) (hB : B + 97 < 2 ^ 30) (a : Int32) : WM 20 mX11_loadAgain [.ref 0, .int a] h (FQ h (loadC r a) ((loadV r w a 0).toInt32) (fun g => RS g r w S K q T)) := by
  obtain ⟨e1, e5⟩ := R.1
  subst e1 e5
  have F := f_loadAgain 8 a h I.1.1.1 I.1.2.1.2.1 K.1
  rw [R.2.2.2.1.1, R.2.2.2.1.2] at F
  exact (rs_pk R (by decide) rfl (F.mono (fun v h' z => ⟨z.1, z.2.q⟩))).mono (fun v h' z => ⟨z.1, by exact z.2.1, z.2.2⟩)
theorem g_at (R : RS h r w S K q T) (I : IS B r w S K) (hB : B + 97 < 2 ^ 30) (a : Int32) (b : Int32) : WM 20 mX11_at [.ref 0, .int a, .int b] h (FQ h (atC a b) (gAt r b.toNatClampNeg a.toNatClampNeg) (fun g => RS g r w S K q T)) := by
  obtain ⟨e1, e5⟩ := R.1
  subst e1 e5
  have F := f_at 18 a b h K.1
  rw [R.2.2.2.1.1, R.2.2.2.1.2] at F
  exact (rs_pk R (by decide) rfl (F.mono (fun v h' z => ⟨z.1, z.2.q⟩))).mono (fun v h' z => ⟨z.1, by exact z.2.1, z.2.2⟩)
theorem g_height (R : RS h r w S K q T) (I : IS B r w S K) (hB : B + 97 < 2 ^ 30) (a : Int32) : WM 20 mX11_height [.ref 0, .int a] h (FQ h (heightC a) (nI (hgtN r a.toNatClampNeg 8)) (fun g => RS g r w S K q T)) := by
  obtain ⟨e1, e5⟩ := R.1
  subst e1 e5
  have F := f_height 17 a h K.1
  rw [R.2.2.2.1.1, R.2.2.2.1.2] at F
  exact (rs_pk R (by decide) rfl (F.mono (fun v h' z => ⟨z.1, z.2.q⟩))).mono (fun v h' z => ⟨z.1, by exact z.2.1, z.2.2⟩)
theorem g_isShady (R : RS h r w S K q T) (I : IS B r w S K) (hB : B + 97 < 2 ^ 30) (a : Int32) (b : Int32) : WM 20 mX11_isShady [.ref 0, .int a, .int b] h (FQ h (shadyC r a b) (bI (shadR r a.toNatClampNeg b = true)) (fun g => RS g r w S K q T)) := by
  obtain ⟨e1, e5⟩ := R.1
  subst e1 e5
  have F := f_isShady 16 a b h I.1.1.1 K.1
  rw [R.2.2.2.1.1, R.2.2.2.1.2] at F
  exact (rs_pk R (by decide) rfl (F.mono (fun v h' z => ⟨z.1, z.2.q⟩))).mono (fun v h' z => ⟨(by obtain ⟨x, e, f, -⟩ := z.1; exact ⟨x, e, f⟩), by exact z.2.1, z.2.2⟩)
theorem g_rooms (R : RS h r w S K q T) (I : IS B r w S K) (hB : B + 97 < 2 ^ 30) (a : Int32) (b : Int32) : WM 20 mX11_rooms [.ref 0, .int a, .int b] h (FQ h (roomsC a b) (roomsA r a.toNatClampNeg b) (fun g => RS g r w S K q T)) := by
  obtain ⟨e1, e5⟩ := R.1
  subst e1 e5
  have F := f_rooms 17 a b h K.1
  rw [R.2.2.2.1.1, R.2.2.2.1.2] at F
  exact (rs_pk R (by decide) rfl (F.mono (fun v h' z => ⟨z.1, z.2.q⟩))).mono (fun v h' z => ⟨z.1, by exact z.2.1, z.2.2⟩)
theorem g_inRack (R : RS h r w S K q T) (I : IS B r w S K) (hB : B + 97 < 2 ^ 30) (a : Int32) (b : Int32) : WM 20 mX11_inRack [.ref 0, .int a, .int b] h (FQ h (inRackC a b) (orM (blkIn r a b) (CN r)) (fun g => RS g r w S K q T)) := by
  obtain ⟨e1, e5⟩ := R.1
  subst e1 e5
  have F := f_inRack 18 a b h I.1.1.1 K.1
  rw [R.2.2.2.1.1, R.2.2.2.1.2] at F
  exact (rs_pk R (by decide) rfl (F.mono (fun v h' z => ⟨z.1, z.2.q⟩))).mono (fun v h' z => ⟨z.1, by exact z.2.1, z.2.2⟩)
theorem g_worst (R : RS h r w S K q T) (I : IS B r w S K) (hB : B + 97 < 2 ^ 30) : WM 20 mX11_worst [.ref 0] h (FQ h (worstC r) (oI (wstN r w (CN r))) (fun g => RS g r w S K q T)) := by
  obtain ⟨e1, e5⟩ := R.1
  subst e1 e5
  have F := f_worst 14 h I.1.1.1 I.1.2.1.2.1 K.1
  rw [R.2.2.2.1.1, R.2.2.2.1.2] at F
  exact (rs_pk R (by decide) rfl (F.mono (fun v h' z => ⟨z.1, z.2.q⟩))).mono (fun v h' z => ⟨z.1, by exact z.2.1, z.2.2⟩)
theorem g_goneIn (R : RS h r w S K q T) (I : IS B r w S K) (hB : B + 97 < 2 ^ 30) : WM 20 mX11_goneIn [.ref 0] h (FQ h (gnC r w) (nI (gnK r w)) (fun g => RS g r w S K q T)) := by
  obtain ⟨e1, e5⟩ := R.1
  subst e1 e5
  have F := f_goneIn 11 h I.1.2.1 (by omega) I.1.2.2.2.1 I.1.2.2.2.2.1 K.1
  rw [R.2.2.2.1.1, R.2.2.2.1.2] at F
  exact (rs_pk R (by decide) rfl (F.mono (fun v h' z => ⟨z.1, z.2⟩))).mono (fun v h' z => ⟨z.1, by exact z.2.1, z.2.2⟩)
theorem g_massBits (R : RS h r w S K q T) (I : IS B r w S K) (hB : B + 97 < 2 ^ 30) (a : Int32) (b : Int32) : WM 20 mX11_massBits [.ref 0, .int a, .int b] h (FQ h (mbC r a b) (mbA r w a.toNatClampNeg b.toNatClampNeg) (fun g => RS g r w S K q T)) := by
  obtain ⟨e1, e5⟩ := R.1
  subst e1 e5
  have F := f_massBits 11 a b h I.1.1 I.1.2.1 I.1.2.2.1 (by omega) I.1.2.2.2.1 I.1.2.2.2.2.1 K.1
  rw [R.2.2.2.1.1, R.2.2.2.1.2] at F
  exact (rs_pk R (by decide) rfl (F.mono (fun v h' z => ⟨z.1, z.2⟩))).mono (fun v h' z => ⟨z.1, by exact z.2.1, z.2.2⟩)
theorem g_safe (R : RS h r w S K q T) (I : IS B r w S K) (hB : B + 97 < 2 ^ 30) : WM 20 mX11_safe [.ref 0] h (FQ h (sfC r w) (sfA r w) (fun g => RS g r w S K q T)) := by
  obtain ⟨e1, e5⟩ := R.1
  subst e1 e5
  have F := f_safe 11 h I.1.2.1 (by omega) I.1.2.2.2.1 I.1.2.2.2.2.1 K.1
  rw [R.2.2.2.1.1, R.2.2.2.1.2] at F
  exact (rs_pk R (by decide) rfl (F.mono (fun v h' z => ⟨z.1, z.2⟩))).mono (fun v h' z => ⟨(by obtain ⟨x, e, f⟩ := z.1; exact ⟨x, e, fun c0 => sf_v c0 f⟩), by exact z.2.1, z.2.2⟩)
theorem g_left (R : RS h r w S K q T) (I : IS B r w S K) (hB : B + 97 < 2 ^ 30) (a : Int32) : WM 20 mX11_left [.ref 0, .int a] h (FQ h (leftC a) (nI (onN (hoursR a.toNatClampNeg r w))) (fun g => RS g r w S K q T)) := by
  obtain ⟨e1, e5⟩ := R.1
  subst e1 e5
  have F := f_left 11 a h I.1.2.1 (by omega) I.1.2.2.2.1 I.1.2.2.2.2.1 K.1
  rw [R.2.2.2.1.1, R.2.2.2.1.2] at F
  exact (rs_pk R (by decide) rfl (F.mono (fun v h' z => ⟨z.1, z.2⟩))).mono (fun v h' z => ⟨z.1, by exact z.2.1, z.2.2⟩)
theorem g_account (R : RS h r w S K q T) (I : IS B r w S K) (hB : B + 97 < 2 ^ 30) (a : Int32) : WM 20 mX11_account [.ref 0, .int a] h (FQ h (acctC a) (acctV r (nI T.1) (nI K.1) a.toNatClampNeg) (fun g => RS g r w S K q T)) := by
  obtain ⟨e1, e5⟩ := R.1
  subst e1 e5
  have F := f_account 17 a h I.1.1.1 I.1.2.1.2.2.1.1 (Nat.lt_of_le_of_lt I.1.2.1.2.2.1.2.1 (Nat.lt_trans I.1.2.1.2.2.1.2.2 (by decide))) K.1
  rw [R.2.2.2.2.2.1, R.2.2.1.2.1] at F
  rw [R.2.2.2.1.1, R.2.2.2.1.2] at F
  exact (rs_pk R (by decide) rfl (F.mono (fun v h' z => ⟨z.1, z.2.q⟩))).mono (fun v h' z => ⟨z.1, by exact z.2.1, z.2.2⟩)
end
end
