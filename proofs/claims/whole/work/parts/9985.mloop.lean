-- needs: 9984
noncomputable section
section
variable {p : Program} {l : Launch} {e : Env} {R : Room} {s : State} {m : MethodId} {args : Array Value} {below : List Frame} {meth : Method} {c : Code} {H H0 : Heap} {locs : List Loc} {cells slots : Nat} {Q : State → Prop} {ls : Array Slot} {D : va_G} {ca : Nat → ClassId} {A : Nat → Prop} {tys : List (ClassId × FieldType)} {ws : va_W}
theorem m_loop1 {q a : Nat} {fs : List Value} {rest : va_W} {f : Nat → Int32} (hx : p.tables.exec = Jvm.exec) (hb : c.code = cB mX11_init) (hown : s.vm.findClass (oN (cO mX11_init)) = some m.cls) (hts : ∀ w ∈ wAll, w.before args s = true) (hK : va_K D vcls (tysOf ca) s) (hfs : fs[1]? = some (.ref a))
    (KT : ∀ (H : Heap) (locs : List Loc) (ls : Array Slot), va_P D vcls ((q, .inr (9, fs)) :: (a, .inl (ca 1, 445, .inl (fun j => if 5 ≤ j ∧ j < 5 + 24 then (-5) else f j))) :: rest) H → va_D A ((q, .inr (9, fs)) :: (a, .inl (ca 1, 445, .inl (fun j => if 5 ≤ j ∧ j < 5 + 24 then (-5) else f j))) :: rest) → va_S A H0 H locs → lv_has ls (cM mX11_init) (lm id [(1, .int (nI 24)), (0, .ref q)]) → W p l e R s m args below meth c H locs cells slots Q (F0 m 174 ls [])) : ∀ (k i : Nat) (H : Heap) (locs : List Loc) (ls : Array Slot), i + k = 24 → va_P D vcls ((q, .inr (9, fs)) :: (a, .inl (ca 1, 445, .inl (fun j => if 5 ≤ j ∧ j < 5 + i then (-5) else f j))) :: rest) H → va_D A ((q, .inr (9, fs)) :: (a, .inl (ca 1, 445, .inl (fun j => if 5 ≤ j ∧ j < 5 + i then (-5) else f j))) :: rest) → va_S A H0 H locs → lv_has ls (cM mX11_init) (lm id [(1, .int (nI i)), (0, .ref q)]) → W p l e R s m args below meth c H locs cells slots Q (F0 m 152 ls []) := by
  have hL : ¬ mX11_init = mL_law := by decide
  intro k
  induction k with
  | zero =>
    intro i H locs ls hi hP hD hS hl
    have hi : i = 24 := by omega
    subst hi
    refine jL hx hb hl hL rfl rfl (fun ls1 hl1 => ?_)
    refine jA hx hb hown hts hL rfl rfl ?_
    refine jB hx hb hL rfl rfl ?_
    rw [if_pos (show decide ((24 : Int32) ≤ nI 24) = true by decide)]
    exact KT H locs ls1 hP hD hS hl1
  | succ k ih =>
    intro i H locs ls hi hP hD hS hl
    refine jL hx hb hl hL rfl rfl (fun ls1 hl1 => ?_)
    refine jA hx hb hown hts hL rfl rfl ?_
    refine jB hx hb hL rfl rfl ?_
    rw [if_neg (show ¬ decide ((24 : Int32) ≤ nI i) = true from fun z => nI_ge (b := 24) (show i < 24 by omega) (by decide) (of_decide_eq_true z))]
    refine jL hx hb hl1 hL rfl rfl (fun ls2 hl2 => ?_)
    refine jGet (index := 9) (ci := 9) (k := 1) (q0 := 0) hx hb hown hts hK hP rfl (by decide) (by decide) (by decide +kernel) hfs (by decide +kernel) ?_
    refine jA hx hb hown hts hL rfl rfl ?_
    refine jL hx hb hl2 hL rfl rfl (fun ls3 hl3 => ?_)
    refine jA hx hb hown hts hL rfl rfl ?_
    refine jA hx hb hown hts hL rfl rfl ?_
    have ei : (5 : Int32) + nI i = nI (5 + i) := by rw [show (5 : Int32) = nI 5 from rfl, nI_add]
    rw [ei]
    refine va_iast hx hb hK hP hD hS 1 0 rfl rfl (vp_in_nI (show 5 + i < 445 by omega) (by decide)) (by decide +kernel) (fun H1 locs1 hP1 hD1 hS1 => ?_)
    refine jL hx hb hl3 hL rfl rfl (fun ls4 hl4 => ?_)
    refine jB hx hb hL rfl rfl ?_
    rw [if_pos rfl]
    have e : upd (fun j => if 5 ≤ j ∧ j < 5 + i then (-5 : Int32) else f j) (nI (5 + i)).toNatClampNeg (-5) = fun j => if 5 ≤ j ∧ j < 5 + (i + 1) then (-5) else f j := by
      rw [nI_clamp (by omega)]
      funext j
      by_cases c1 : j = 5 + i
      · subst c1; rw [upd_eq, if_pos (by omega)]
      · rw [upd_ne c1]
        by_cases c2 : 5 ≤ j ∧ j < 5 + i
        · rw [if_pos c2, if_pos (by omega)]
        · rw [if_neg c2, if_neg (by omega)]
    have hP2 : va_P D vcls ((q, .inr (9, fs)) :: (a, .inl (ca 1, 445, .inl (upd (fun j => if 5 ≤ j ∧ j < 5 + i then (-5 : Int32) else f j) (nI (5 + i)).toNatClampNeg (-5)))) :: rest) H1 := hP1
    have hD2 : va_D A ((q, .inr (9, fs)) :: (a, .inl (ca 1, 445, .inl (upd (fun j => if 5 ≤ j ∧ j < 5 + i then (-5 : Int32) else f j) (nI (5 + i)).toNatClampNeg (-5)))) :: rest) := hD1
    rw [e] at hP2 hD2
    have hl7 : lv_has ls4 (cM mX11_init) (lm id [(1, .int (nI i + 1)), (0, .ref q)]) := hl4
    rw [nI_1] at hl7
    exact ih (i + 1) H1 locs1 ls4 (by omega) hP2 hD2 hS1 hl7
theorem m_loop2 {q a : Nat} {fs : List Value} {rest : va_W} {f : Nat → Int32} (hx : p.tables.exec = Jvm.exec) (hb : c.code = cB mX11_init) (hown : s.vm.findClass (oN (cO mX11_init)) = some m.cls) (hts : ∀ w ∈ wAll, w.before args s = true) (hK : va_K D vcls (tysOf ca) s) (hfs : fs[1]? = some (.ref a))
    (KT : ∀ (H : Heap) (locs : List Loc) (ls : Array Slot), va_P D vcls ((q, .inr (9, fs)) :: (a, .inl (ca 1, 445, .inl (fun j => if 29 ≤ j ∧ j < 29 + 96 then (-1) else f j))) :: rest) H → va_D A ((q, .inr (9, fs)) :: (a, .inl (ca 1, 445, .inl (fun j => if 29 ≤ j ∧ j < 29 + 96 then (-1) else f j))) :: rest) → va_S A H0 H locs → lv_has ls (cM mX11_init) (lm id [(1, .int (nI 96)), (0, .ref q)]) → W p l e R s m args below meth c H locs cells slots Q (F0 m 198 ls [])) : ∀ (k i : Nat) (H : Heap) (locs : List Loc) (ls : Array Slot), i + k = 96 → va_P D vcls ((q, .inr (9, fs)) :: (a, .inl (ca 1, 445, .inl (fun j => if 29 ≤ j ∧ j < 29 + i then (-1) else f j))) :: rest) H → va_D A ((q, .inr (9, fs)) :: (a, .inl (ca 1, 445, .inl (fun j => if 29 ≤ j ∧ j < 29 + i then (-1) else f j))) :: rest) → va_S A H0 H locs → lv_has ls (cM mX11_init) (lm id [(1, .int (nI i)), (0, .ref q)]) → W p l e R s m args below meth c H locs cells slots Q (F0 m 176 ls []) := by
  have hL : ¬ mX11_init = mL_law := by decide
  intro k
  induction k with
  | zero =>
    intro i H locs ls hi hP hD hS hl
    have hi : i = 96 := by omega
    subst hi
    refine jL hx hb hl hL rfl rfl (fun ls1 hl1 => ?_)
    refine jA hx hb hown hts hL rfl rfl ?_
    refine jB hx hb hL rfl rfl ?_
    rw [if_pos (show decide ((96 : Int32) ≤ nI 96) = true by decide)]
    exact KT H locs ls1 hP hD hS hl1
  | succ k ih =>
    intro i H locs ls hi hP hD hS hl
    refine jL hx hb hl hL rfl rfl (fun ls1 hl1 => ?_)
    refine jA hx hb hown hts hL rfl rfl ?_
    refine jB hx hb hL rfl rfl ?_
    rw [if_neg (show ¬ decide ((96 : Int32) ≤ nI i) = true from fun z => nI_ge (b := 96) (show i < 96 by omega) (by decide) (of_decide_eq_true z))]
    refine jL hx hb hl1 hL rfl rfl (fun ls2 hl2 => ?_)
    refine jGet (index := 9) (ci := 9) (k := 1) (q0 := 0) hx hb hown hts hK hP rfl (by decide) (by decide) (by decide +kernel) hfs (by decide +kernel) ?_
    refine jA hx hb hown hts hL rfl rfl ?_
    refine jL hx hb hl2 hL rfl rfl (fun ls3 hl3 => ?_)
    refine jA hx hb hown hts hL rfl rfl ?_
    refine jA hx hb hown hts hL rfl rfl ?_
    have ei : (29 : Int32) + nI i = nI (29 + i) := by rw [show (29 : Int32) = nI 29 from rfl, nI_add]
    rw [ei]
    refine va_iast hx hb hK hP hD hS 1 0 rfl rfl (vp_in_nI (show 29 + i < 445 by omega) (by decide)) (by decide +kernel) (fun H1 locs1 hP1 hD1 hS1 => ?_)
    refine jL hx hb hl3 hL rfl rfl (fun ls4 hl4 => ?_)
    refine jB hx hb hL rfl rfl ?_
    rw [if_pos rfl]
    have e : upd (fun j => if 29 ≤ j ∧ j < 29 + i then (-1 : Int32) else f j) (nI (29 + i)).toNatClampNeg (-1) = fun j => if 29 ≤ j ∧ j < 29 + (i + 1) then (-1) else f j := by
      rw [nI_clamp (by omega)]
      funext j
      by_cases c1 : j = 29 + i
      · subst c1; rw [upd_eq, if_pos (by omega)]
      · rw [upd_ne c1]
        by_cases c2 : 29 ≤ j ∧ j < 29 + i
        · rw [if_pos c2, if_pos (by omega)]
        · rw [if_neg c2, if_neg (by omega)]
    have hP2 : va_P D vcls ((q, .inr (9, fs)) :: (a, .inl (ca 1, 445, .inl (upd (fun j => if 29 ≤ j ∧ j < 29 + i then (-1 : Int32) else f j) (nI (29 + i)).toNatClampNeg (-1)))) :: rest) H1 := hP1
    have hD2 : va_D A ((q, .inr (9, fs)) :: (a, .inl (ca 1, 445, .inl (upd (fun j => if 29 ≤ j ∧ j < 29 + i then (-1 : Int32) else f j) (nI (29 + i)).toNatClampNeg (-1)))) :: rest) := hD1
    rw [e] at hP2 hD2
    have hl7 : lv_has ls4 (cM mX11_init) (lm id [(1, .int (nI i + 1)), (0, .ref q)]) := hl4
    rw [nI_1] at hl7
    exact ih (i + 1) H1 locs1 ls4 (by omega) hP2 hD2 hS1 hl7
end
end
