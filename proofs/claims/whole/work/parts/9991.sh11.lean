-- needs: 9990
noncomputable section
section
variable {p : Program} {l : Launch} {e : Env} {R : Room} {s : State} {m : MethodId} {args : Array Value} {below : List Frame} {meth : Method} {c : Code} {H H0 : Heap} {locs : List Loc} {cells slots : Nat} {Q : State → Prop} {ls : Array Slot} {D : va_G} {ca : Nat → ClassId} {A : Nat → Prop} {tys : List (ClassId × FieldType)} {ws : va_W}
theorem g2_r00 : (fun j => if 29 ≤ j ∧ j < 29 + 96 then (-1 : Int32) else (fun j => if 5 ≤ j ∧ j < 5 + 24 then (-5) else (upd (upd (fun _ => 0) (1 : Int32).toNatClampNeg 20) (2 : Int32).toNatClampNeg 200) j) j) = r00 := by
  funext j
  show (if 29 ≤ j ∧ j < 29 + 96 then (-1 : Int32) else _) = if j = 1 then (20 : Int32) else if j = 2 then 200 else if 5 ≤ j ∧ j < 29 then -5 else if 29 ≤ j ∧ j < 125 then -1 else 0
  by_cases c1 : 29 ≤ j ∧ j < 29 + 96
  · rw [if_pos c1, if_neg (by omega), if_neg (by omega), if_neg (by omega), if_pos (by omega)]
  · rw [if_neg c1]
    dsimp only
    by_cases c2 : 5 ≤ j ∧ j < 5 + 24
    · rw [if_pos c2, if_neg (by omega), if_neg (by omega), if_pos (by omega)]
    · rw [if_neg c2]
      by_cases c3 : j = 2
      · subst c3; decide
      · by_cases c4 : j = 1
        · subst c4; decide
        · rw [upd_ne (show j ≠ (2 : Int32).toNatClampNeg from c3), upd_ne (show j ≠ (1 : Int32).toNatClampNeg from c4), if_neg c4, if_neg c3, if_neg (by omega), if_neg (by omega)]
theorem o8 {r ad : Nat → Nat} {ts : List Nat} (h : ∀ i, i < 8 → some (r i) = (ts[i]?).map ad) (hl : ts.length = 8) : (fun i => if i < 8 then some (r i) else none) = fun i => (ts[i]?).map ad := by
  funext i
  by_cases c : i < 8
  · rw [if_pos c]; exact h i c
  · rw [if_neg c, List.getElem?_eq_none (by omega)]; rfl
set_option maxRecDepth 100000 in
theorem sh11 {q : Nat} {w : va_W} (h : ∃ (a1 a2 a3 a4 a5 a6 a7 a8 a9 a10 a11 a12 a13 a14 : Nat) (r1 r2 : Nat → Nat), w = ((q, .inr (9, [.int 0, .ref a1, .ref a2, .ref a3, .ref a4, .ref a5, .ref a6, .ref a7, .ref a8, .ref a9, .ref a10, .int 0, .int 0, .int 0, .int 0, .int 0, .ref a11, .ref a12, .ref a13, .int 0, .int 0, .int (-1), .int 0, .int 0, .ref a14])) :: (a1, .inl (ca 1, 445, .inl (fun j => if 29 ≤ j ∧ j < 29 + 96 then (-1) else (fun j => if 5 ≤ j ∧ j < 5 + 24 then (-5) else (upd (upd (fun _ => 0) (1 : Int32).toNatClampNeg 20) (2 : Int32).toNatClampNeg 200) j) j))) :: [(a2, .inl (ca 1, 445, .inl (fun _ => 0))), (a3, .inl (ca 1, 445, .inl (fun _ => 0))), (a4, .inl (ca 1, 445, .inl (fun _ => 0))), (a5, .inl (ca 4, 40, .inr (.inr (.inl (fun _ => 0))))), (a6, .inl (ca 4, 40, .inr (.inr (.inl (fun _ => 0))))), (a7, .inl (ca 4, 40, .inr (.inr (.inl (fun _ => 0))))), (a8, .inl (ca 4, 40, .inr (.inr (.inl (fun _ => 0))))), (a9, .inl (ca 8, 8, .inr (.inr (.inr (.inr (fun i => if i < 8 then some (r1 i) else none)))))), (r1 0, .inl (ca 1, 445, .inl (fun _ => 0))), (r1 1, .inl (ca 1, 445, .inl (fun _ => 0))), (r1 2, .inl (ca 1, 445, .inl (fun _ => 0))), (r1 3, .inl (ca 1, 445, .inl (fun _ => 0))), (r1 4, .inl (ca 1, 445, .inl (fun _ => 0))), (r1 5, .inl (ca 1, 445, .inl (fun _ => 0))), (r1 6, .inl (ca 1, 445, .inl (fun _ => 0))), (r1 7, .inl (ca 1, 445, .inl (fun _ => 0))), (a10, .inl (ca 9, 8, .inr (.inr (.inr (.inr (fun i => if i < 8 then some (r2 i) else none)))))), (r2 0, .inl (ca 4, 40, .inr (.inr (.inl (fun _ => 0))))), (r2 1, .inl (ca 4, 40, .inr (.inr (.inl (fun _ => 0))))), (r2 2, .inl (ca 4, 40, .inr (.inr (.inl (fun _ => 0))))), (r2 3, .inl (ca 4, 40, .inr (.inr (.inl (fun _ => 0))))), (r2 4, .inl (ca 4, 40, .inr (.inr (.inl (fun _ => 0))))), (r2 5, .inl (ca 4, 40, .inr (.inr (.inl (fun _ => 0))))), (r2 6, .inl (ca 4, 40, .inr (.inr (.inl (fun _ => 0))))), (r2 7, .inl (ca 4, 40, .inr (.inr (.inl (fun _ => 0))))), (a11, .inl (ca 4, 40, .inr (.inr (.inl (fun _ => 0))))), (a12, .inl (ca 3, 40, .inl (fun _ => 0))), (a13, .inl (ca 2, 60, .inl (fun _ => 0))), (a14, .inl (ca 1, 3, .inl (fun _ => 0)))])) : ∃ ad : Nat → Nat, ad 0 = q ∧ w = (List.range 31).map (fun i => (ad i, wcell ca ad (layAt i) (h00.1 i) (h00.2.1 i) (h00.2.2.1 i) (h00.2.2.2 i))) := by
  obtain ⟨a1, a2, a3, a4, a5, a6, a7, a8, a9, a10, a11, a12, a13, a14, r1, r2, rfl⟩ := h
  refine ⟨fun k => [q, a1, a2, a3, a4, a5, a6, a7, a8, a9, r1 0, r1 1, r1 2, r1 3, r1 4, r1 5, r1 6, r1 7, a10, r2 0, r2 1, r2 2, r2 3, r2 4, r2 5, r2 6, r2 7, a11, a12, a13, a14].getD k 0, rfl, ?_⟩
  rw [g2_r00]
  have o1 : (fun i => if i < 8 then some (r1 i) else none) = fun i => (([10, 11, 12, 13, 14, 15, 16, 17] : List Nat)[i]?).map (fun k => [q, a1, a2, a3, a4, a5, a6, a7, a8, a9, r1 0, r1 1, r1 2, r1 3, r1 4, r1 5, r1 6, r1 7, a10, r2 0, r2 1, r2 2, r2 3, r2 4, r2 5, r2 6, r2 7, a11, a12, a13, a14].getD k 0) := o8 (fun i hi => by rcases (show i = 0 ∨ i = 1 ∨ i = 2 ∨ i = 3 ∨ i = 4 ∨ i = 5 ∨ i = 6 ∨ i = 7 by omega) with e | e | e | e | e | e | e | e <;> subst e <;> rfl) rfl
  have o2 : (fun i => if i < 8 then some (r2 i) else none) = fun i => (([19, 20, 21, 22, 23, 24, 25, 26] : List Nat)[i]?).map (fun k => [q, a1, a2, a3, a4, a5, a6, a7, a8, a9, r1 0, r1 1, r1 2, r1 3, r1 4, r1 5, r1 6, r1 7, a10, r2 0, r2 1, r2 2, r2 3, r2 4, r2 5, r2 6, r2 7, a11, a12, a13, a14].getD k 0) := o8 (fun i hi => by rcases (show i = 0 ∨ i = 1 ∨ i = 2 ∨ i = 3 ∨ i = 4 ∨ i = 5 ∨ i = 6 ∨ i = 7 by omega) with e | e | e | e | e | e | e | e <;> subst e <;> rfl) rfl
  rw [o1, o2]
  rfl
end
end
