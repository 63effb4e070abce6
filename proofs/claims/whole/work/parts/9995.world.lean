-- needs: 9994
noncomputable section
section
variable {D : va_G} {ca : Nat → ClassId} {H : Heap}
/-- all that a cell names lies between -/
def refsIn (lo hi : Nat) (y : Lay) : Bool := match y with
  | (0, _, sl) => sl.all (fun n => Nat.blt n 3 || (Nat.ble lo (n - 3) && Nat.blt (n - 3) hi))
  | (_, _, ts) => ts.all (fun n => Nat.ble lo n && Nat.blt n hi)
set_option maxRecDepth 20000 in
theorem refs_a : ∀ i, i < 31 → refsIn 0 31 (layAt i) = true := by decide +kernel
set_option maxRecDepth 20000 in
theorem refs_b : ∀ i, i < 181 → refsIn 31 212 (layAt (31 + i)) = true := by decide +kernel
theorem wcell_congr {ad1 ad2 : Nat → Nat} {lo hi : Nat} {f1 : Nat → Int32} {f2 : Nat → UInt32} {f3 : Nat → Int64} {f4 : Nat → UInt64} (h : ∀ n, lo ≤ n → n < hi → ad1 n = ad2 n) : ∀ y : Lay, refsIn lo hi y = true → wcell ca ad1 y f1 f2 f3 f4 = wcell ca ad2 y f1 f2 f3 f4
  | (0, ci, sl), hr => by
    have hr : sl.all (fun n => Nat.blt n 3 || (Nat.ble lo (n - 3) && Nat.blt (n - 3) hi)) = true := hr
    have e : (List.range sl.length).map (fun j => em ad1 (fv (sl.getD j 0) (f1 j))) = (List.range sl.length).map (fun j => em ad2 (fv (sl.getD j 0) (f1 j))) := List.map_congr_left (fun j hj => by
      have hj : j < sl.length := List.mem_range.mp hj
      have hm : sl.getD j 0 ∈ sl := by
        rw [List.getD_eq_getElem?_getD, List.getElem?_eq_getElem hj]
        exact List.getElem_mem hj
      have hz := List.all_eq_true.mp hr _ hm
      generalize sl.getD j 0 = n at hz ⊢
      match n, hz with
      | 0, _ => rfl
      | 1, _ => rfl
      | 2, _ => rfl
      | t + 3, hz =>
        show Value.ref (ad1 t) = Value.ref (ad2 t)
        have hz : (Nat.blt (t + 3) 3 || (Nat.ble lo (t + 3 - 3) && Nat.blt (t + 3 - 3) hi)) = true := hz
        rcases Bool.or_eq_true_iff.mp hz with hz | hz
        · have hz := Nat.le_of_ble_eq_true hz
          omega
        · obtain ⟨a, b⟩ := Bool.and_eq_true_iff.mp hz
          have a := Nat.le_of_ble_eq_true a
          have b := Nat.le_of_ble_eq_true b
          rw [h t (by omega) (by omega)])
    show (Sum.inr (ci, _) : va_E) = Sum.inr (ci, _)
    rw [e]
  | (t + 1, n, ts), hr => by
    have hr : ts.all (fun n => Nat.ble lo n && Nat.blt n hi) = true := hr
    have hm : (fun i : Nat => (ts[i]?).map ad1) = fun i : Nat => (ts[i]?).map ad2 := funext fun i => by
      cases e : ts[i]? with
      | none => rfl
      | some k =>
        have z := List.all_eq_true.mp hr k (List.mem_of_getElem? e)
        have z : (Nat.ble lo k && Nat.blt k hi) = true := z
        have z := Bool.and_eq_true_iff.mp z
        have a := Nat.le_of_ble_eq_true z.1
        have b := Nat.le_of_ble_eq_true z.2
        rw [Option.map_some, Option.map_some, h k (by omega) (by omega)]
    match t with
    | 0 => rfl
    | 1 => rfl
    | 2 => rfl
    | 3 => rfl
    | 4 => rfl
    | 5 => rfl
    | 6 => show (Sum.inl (ca 7, n, .inr (.inr (.inr (.inr (fun i => (ts[i]?).map ad1))))) : va_E) = _; rw [hm]; rfl
    | 7 => show (Sum.inl (ca 8, n, .inr (.inr (.inr (.inr (fun i => (ts[i]?).map ad1))))) : va_E) = _; rw [hm]; rfl
    | 8 => show (Sum.inl (ca 9, n, .inr (.inr (.inr (.inr (fun i => (ts[i]?).map ad1))))) : va_E) = _; rw [hm]; rfl
    | t + 9 => rfl
theorem fCell_congr {ad1 ad2 : Nat → Nat} {lo hi i : Nat} (h : ∀ n, lo ≤ n → n < hi → ad1 n = ad2 n) (h1 : lo ≤ i) (h2 : i < hi) (hr : refsIn lo hi (layAt i) = true) : fCell ca ad1 i = fCell ca ad2 i := by
  unfold fCell
  rw [h i h1 h2, wcell_congr h _ hr]
theorem world {base q10 q11 ql qd b sa : Nat} {w10 w11 : va_W} (h10 : ∃ ad : Nat → Nat, ad 31 = q10 ∧ w10 = (List.range 181).map (fun i => fCell ca ad (31 + i))) (h11 : ∃ ad : Nat → Nat, ad 0 = q11 ∧ w11 = (List.range 31).map (fun i => fCell ca ad i))
    (hP : va_P D vcls (((w10 ++ w11) ++ [(ql, .inl (ca 5, 1, .inr (.inl (fun _ => 0))))]) ++ [(qd, .inl (ca 6, 1, .inr (.inr (.inr (.inl (fun _ => 0))))))]) H) (hD : va_D (fun x : Nat => base ≤ x) (((w10 ++ w11) ++ [(ql, .inl (ca 5, 1, .inr (.inl (fun _ => 0))))]) ++ [(qd, .inl (ca 6, 1, .inr (.inr (.inr (.inl (fun _ => 0))))))])) :
    ∃ ad : Nat → Nat, ad 0 = q11 ∧ ad 31 = q10 ∧ ad 212 = ql ∧ ad 213 = qd ∧ ad 214 = b ∧ ad 215 = sa ∧ AdOk base ad ∧ va_P D vcls (wsOf ca ad h00) H := by
  obtain ⟨A, a0, rfl⟩ := h10
  obtain ⟨B, b0, rfl⟩ := h11
  obtain ⟨ad, had⟩ : ∃ ad : Nat → Nat, ad = fun k => if k < 31 then B k else if k < 212 then A k else if k = 212 then ql else if k = 213 then qd else if k = 214 then b else sa := ⟨_, rfl⟩
  have e1 : ∀ k, k < 31 → ad k = B k := fun k h => by subst had; exact if_pos h
  have e2 : ∀ k, 31 ≤ k → k < 212 → ad k = A k := fun k h1 h2 => by
    subst had
    exact (if_neg (by omega)).trans (if_pos h2)
  have e3 : ad 212 = ql := by subst had; rfl
  have e4 : ad 213 = qd := by subst had; rfl
  have e5 : ad 214 = b := by subst had; rfl
  have e6 : ad 215 = sa := by subst had; rfl
  obtain ⟨pos, hpos⟩ : ∃ pos : Nat → Nat, pos = fun i => if i < 31 then 181 + i else if i < 212 then i - 31 else i := ⟨_, rfl⟩
  have p1 : ∀ k, k < 31 → pos k = 181 + k := fun k h => by subst hpos; exact if_pos h
  have p2 : ∀ k, 31 ≤ k → k < 212 → pos k = k - 31 := fun k h1 h2 => by
    subst hpos
    exact (if_neg (by omega)).trans (if_pos h2)
  have p3 : ∀ k, 212 ≤ k → pos k = k := fun k h => by
    subst hpos
    exact (if_neg (by omega)).trans (if_neg (by omega))
  have l1 : ((List.range 181).map (fun i => fCell ca A (31 + i))).length = 181 := by rw [List.length_map, List.length_range]
  have l2 : ((List.range 31).map (fun i => fCell ca B i)).length = 31 := by rw [List.length_map, List.length_range]
  have hat : ∀ i, i < 214 → (((((List.range 181).map (fun i => fCell ca A (31 + i))) ++ ((List.range 31).map (fun i => fCell ca B i))) ++ [(ql, (.inl (ca 5, 1, .inr (.inl (fun _ => 0))) : va_E))]) ++ [(qd, (.inl (ca 6, 1, .inr (.inr (.inr (.inl (fun _ => 0))))) : va_E))])[pos i]? = some (fCell ca ad i) := by
    intro i hi
    rcases (show i < 31 ∨ (31 ≤ i ∧ i < 212) ∨ i = 212 ∨ i = 213 by omega) with c | ⟨c, c2⟩ | c | c
    · rw [p1 i c, List.getElem?_append_left (by simp only [List.length_append, l1, l2, List.length_cons, List.length_nil] <;> omega), List.getElem?_append_left (by simp only [List.length_append, l1, l2] <;> omega), List.getElem?_append_right (by rw [l1]; omega), l1, show 181 + i - 181 = i by omega, List.getElem?_map, List.getElem?_range c, Option.map_some, fCell_congr (ad1 := ad) (fun n _ h => e1 n h) (Nat.zero_le i) c (refs_a i c)]
    · rw [p2 i c c2, List.getElem?_append_left (by simp only [List.length_append, l1, l2, List.length_cons, List.length_nil] <;> omega), List.getElem?_append_left (by simp only [List.length_append, l1, l2] <;> omega), List.getElem?_append_left (by rw [l1]; omega), List.getElem?_map, List.getElem?_range (show i - 31 < 181 by omega), Option.map_some, show 31 + (i - 31) = i by omega]
      have r := refs_b (i - 31) (by omega)
      rw [show 31 + (i - 31) = i by omega] at r
      rw [fCell_congr (ad1 := ad) (fun n h1 h2 => e2 n h1 h2) c c2 r]
    · subst c
      rw [p3 212 (by omega), List.getElem?_append_left (by simp only [List.length_append, l1, l2, List.length_cons, List.length_nil] <;> omega), List.getElem?_append_right (by simp only [List.length_append, l1, l2] <;> omega)]
      simp only [List.length_append, l1, l2]
      unfold fCell
      rw [e3]
      rfl
    · subst c
      rw [p3 213 (by omega), List.getElem?_append_right (by simp only [List.length_append, l1, l2, List.length_cons, List.length_nil] <;> omega)]
      simp only [List.length_append, l1, l2, List.length_cons, List.length_nil]
      unfold fCell
      rw [e4]
      rfl
  refine ⟨ad, (e1 0 (by decide)).trans b0, (e2 31 (by decide) (by decide)).trans a0, e3, e4, e5, e6, ⟨fun i j hi hj h => ?_, fun k hk => ?_⟩, fun k q hq => ?_⟩
  · have hi : i < 214 := hi
    have hj : j < 214 := hj
    have z := hD.1 (pos i) (pos j) _ _ (hat i hi) (hat j hj) h
    rcases (show (i < 31 ∧ pos i = 181 + i) ∨ (31 ≤ i ∧ i < 212 ∧ pos i = i - 31) ∨ (212 ≤ i ∧ pos i = i) by
      rcases (show i < 31 ∨ (31 ≤ i ∧ i < 212) ∨ 212 ≤ i by omega) with c | ⟨c, c2⟩ | c
      · exact Or.inl ⟨c, p1 i c⟩
      · exact Or.inr (Or.inl ⟨c, c2, p2 i c c2⟩)
      · exact Or.inr (Or.inr ⟨c, p3 i c⟩)) with c | c | c <;> rcases (show (j < 31 ∧ pos j = 181 + j) ∨ (31 ≤ j ∧ j < 212 ∧ pos j = j - 31) ∨ (212 ≤ j ∧ pos j = j) by
      rcases (show j < 31 ∨ (31 ≤ j ∧ j < 212) ∨ 212 ≤ j by omega) with c | ⟨c, c2⟩ | c
      · exact Or.inl ⟨c, p1 j c⟩
      · exact Or.inr (Or.inl ⟨c, c2, p2 j c c2⟩)
      · exact Or.inr (Or.inr ⟨c, p3 j c⟩)) with d | d | d <;> omega
  · exact hD.2 (pos k) _ (hat k hk)
  · have hk : k < NC := by
      have z := (List.getElem?_eq_some_iff.mp hq).1
      rw [ws_len] at z
      exact z
    rw [ws_at hk] at hq
    have z := Option.some.inj hq
    rw [← z]
    exact hP (pos k) _ (hat k hk)
end
end
