noncomputable section
def lwMs : List Nat := [174, 175, 176, 177, 178, 179, 180, 181, 182, 183, 184, 185, 186, 187]
def lwH (mi : Nat) : List (Nat × Nat × Nat × Nat) := bif Nat.blt mi 181 then (bif Nat.blt mi 177 then (bif Nat.blt mi 175 then (bif Nat.beq mi 174 then [(3, 10, 13, 17), (3, 10, 18, 19)] else []) else (bif Nat.blt mi 176 then (bif Nat.beq mi 175 then [(3, 9, 12, 19)] else []) else (bif Nat.beq mi 176 then [(4, 13, 16, 17), (4, 13, 21, 19), (4, 13, 26, 29)] else []))) else (bif Nat.blt mi 179 then (bif Nat.blt mi 178 then (bif Nat.beq mi 177 then [(4, 13, 16, 17), (4, 13, 21, 29)] else []) else (bif Nat.beq mi 178 then [(3, 9, 12, 17), (3, 9, 16, 29)] else [])) else (bif Nat.blt mi 180 then (bif Nat.beq mi 179 then [(3, 9, 12, 19)] else []) else (bif Nat.beq mi 180 then [(3, 8, 11, 44)] else [])))) else (bif Nat.blt mi 184 then (bif Nat.blt mi 182 then (bif Nat.beq mi 181 then [(3, 8, 11, 44)] else []) else (bif Nat.blt mi 183 then (bif Nat.beq mi 182 then [(3, 8, 11, 44)] else []) else (bif Nat.beq mi 183 then [(3, 8, 11, 19), (3, 8, 15, 29)] else []))) else (bif Nat.blt mi 186 then (bif Nat.blt mi 185 then (bif Nat.beq mi 184 then [(3, 8, 11, 62)] else []) else (bif Nat.beq mi 185 then [(3, 8, 11, 62)] else [])) else (bif Nat.blt mi 187 then (bif Nat.beq mi 186 then [(4, 9, 12, 73)] else []) else (bif Nat.beq mi 187 then [(0, 6, 9, 62)] else []))))
def lwP (mi : Nat) : Nat × Nat := bif Nat.blt mi 181 then (bif Nat.blt mi 177 then (bif Nat.blt mi 175 then (bif Nat.beq mi 174 then (4, 176) else (0, 0)) else (bif Nat.blt mi 176 then (bif Nat.beq mi 175 then (2, 79) else (0, 0)) else (bif Nat.beq mi 176 then (3, 177) else (0, 0)))) else (bif Nat.blt mi 179 then (bif Nat.blt mi 178 then (bif Nat.beq mi 177 then (3, 218) else (0, 0)) else (bif Nat.beq mi 178 then (4, 183) else (0, 0))) else (bif Nat.blt mi 180 then (bif Nat.beq mi 179 then (3, 225) else (0, 0)) else (bif Nat.beq mi 180 then (6, 35) else (0, 0))))) else (bif Nat.blt mi 184 then (bif Nat.blt mi 182 then (bif Nat.beq mi 181 then (6, 49) else (0, 0)) else (bif Nat.blt mi 183 then (bif Nat.beq mi 182 then (5, 138) else (0, 0)) else (bif Nat.beq mi 183 then (3, 232) else (0, 0)))) else (bif Nat.blt mi 186 then (bif Nat.blt mi 185 then (bif Nat.beq mi 184 then (4, 60) else (0, 0)) else (bif Nat.beq mi 185 then (4, 92) else (0, 0))) else (bif Nat.blt mi 187 then (bif Nat.beq mi 186 then (5, 201) else (0, 0)) else (bif Nat.beq mi 187 then (4, 154) else (0, 0)))))
set_option maxRecDepth 100000 in
theorem lwP_ok : ∀ mi ∈ lwMs, (tb (lwP mi).1)[(lwP mi).2]? = some (Cond.codeWith (cY mi) (cB mi) (cM mi) (cR mi) (lwH mi)) := by decide +kernel
set_option maxRecDepth 100000 in
theorem lwG_ok : ∀ mi ∈ lwMs, ¬ mi = mL_law ∧ mi < nMeth ∧ plainName (cY mi).cls = true ∧ oN (cO mi) = RL ∧ cM mi ≤ 16 ∧ ((cY mi).cls ≠ "java/lang/invoke/MethodHandle" ∧ (cY mi).cls ≠ "java/lang/invoke/VarHandle") ∧ (cY mi).cls = RL := by decide +kernel
def lxMs : List Nat := [173, 188, 189, 190, 191, 192, 193, 194, 195, 196, 197]
set_option maxRecDepth 100000 in
theorem lxG_ok : ∀ mi ∈ lxMs, ¬ mi = mL_law ∧ mi < nMeth ∧ plainName (cY mi).cls = true ∧ oN (cO mi) = RL ∧ cM mi ≤ 16 ∧ ((cY mi).cls ≠ "java/lang/invoke/MethodHandle" ∧ (cY mi).cls ≠ "java/lang/invoke/VarHandle") ∧ (cY mi).cls = RL ∧ mi ∈ cdd := by decide +kernel
/-- the law's texts, and "rw" -/
def txB : List (List Int32) := [[115, 48, 50, 64, 48, 59, 115, 49, 49, 64, 49], [104, 49], [104, 53, 59, 118, 51], [108, 48, 64, 48, 47, 48], [108, 49, 64, 48, 47, 49, 59, 104, 50], [116, 54, 61, 50, 48, 59, 116, 55, 61, 50, 48, 59, 104, 51], [118, 53, 48, 59, 104, 52], [115, 48, 54, 64, 48, 59, 108, 48, 64, 52, 47, 48], [104, 57, 57], [115, 49, 49, 64, 48], [116, 48, 61, 45, 51, 48, 59, 104, 49], [108, 50, 64, 51, 47, 48, 59, 108, 51, 64, 51, 47, 49, 59, 104, 49], [114, 119]]
theorem txB_ok : ∀ i, i < 13 → BOk (txB.getD i []) ∧ (txB.map List.length).getD i 0 = (txB.getD i []).length := by
  unfold BOk
  decide +kernel
/-- what the law reads of the machine beside its own world: its texts -/
def ZX (A : Nat → Prop) (ad : Nat → Nat) (U : State) : Prop := vk_S 13 (txB.map List.length) txB (fun i => ad (220 + i)) (fun i => ad (240 + i)) A U U.heap ∧ va_Z "java/lang/String" "COMPACT_STRINGS" "Z" (.int 1) A U U.heap ∧ va_Zq "jdk/internal/util/Preconditions" "SIOOBE_FORMATTER" BF A U U.heap ∧ va_Z RL "TEXTS" "[Ljava/lang/String;" (.ref (ad 219)) A U U.heap ∧ va_T (.object "java/lang/String") (ad 219) 12 (fun j => .ref (ad (220 + j))) A U U.heap ∧ vk_R RL 143 "rw" (ad 232) U
theorem ZX.moved {A : Nat → Prop} {ad : Nat → Nat} {s U : State} (z : ZX A ad s) (hW : s.WarmedH U.vm) (hq : ∀ a : Nat, a < s.heap.size → ¬ A a → U.heap[a]? = s.heap[a]?) : ZX A ad U := ⟨(z.1.moved hW.alike).kept hq, (z.2.1.moved hW.alike).kept hq, (z.2.2.1.moved hW.alike).kept hq, (z.2.2.2.1.moved hW.alike).kept hq, (z.2.2.2.2.1.moved hW.alike).kept hq, z.2.2.2.2.2.warm hW⟩
theorem ZX.narrow {A B : Nat → Prop} {ad : Nat → Nat} {s : State} (z : ZX A ad s) (h : ∀ q, B q → A q) : ZX B ad s := ⟨z.1.narrow h, z.2.1.narrow h, z.2.2.1.narrow h, z.2.2.2.1.narrow h, z.2.2.2.2.1.narrow h, z.2.2.2.2.2⟩
theorem ZX.ad {A : Nat → Prop} {ad ad2 : Nat → Nat} {s : State} (z : ZX A ad s) (h : ∀ k, 219 ≤ k → ad2 k = ad k) : ZX A ad2 s := by
  have e1 : (fun i => ad2 (220 + i)) = fun i => ad (220 + i) := funext fun i => h _ (by omega)
  have e2 : (fun i => ad2 (240 + i)) = fun i => ad (240 + i) := funext fun i => h _ (by omega)
  have e3 : (fun j : Nat => Value.ref (ad2 (220 + j))) = fun j => Value.ref (ad (220 + j)) := funext fun i => by rw [h _ (by omega)]
  unfold ZX
  rw [e1, e2, e3, h 219 (by omega), h 232 (by omega)]
  exact z
/-- a text of these -/
theorem ZX.text {A : Nat → Prop} {ad : Nat → Nat} {s : State} (z : ZX A ad s) {i : Nat} (hi : i < 13) : ZS (txB.getD i []) (ad (220 + i)) (ad (240 + i)) A s s.heap := by
  refine ⟨⟨fun j hj => ?_, fun j k hj hk _ => by omega⟩, z.2.1, z.2.2.1⟩
  have h1 := z.1.1 i hi
  rw [(txB_ok i hi).2] at h1
  rw [show j = 0 by omega]
  exact h1
def exitX : String → State → State → Prop := fun _ _ _ => False
def PcL (D : va_G) (ca : Nat → ClassId) (ad : Nat → Nat) (A : Nat → Prop) (av : List Value) (h : AH) : Array Value → State → Prop := va_Pc (av.map (em ad)) (fun U => (va_P D vcls (wsOf ca ad h) U.heap ∧ va_K D vcls (tysOf ca) U) ∧ ZT A U ∧ HB A U ∧ ZX A ad U)
def LQ (D : va_G) (ca : Nat → ClassId) (ad : Nat → Nat) (A : Nat → Prop) (P : Option Value → AH → Prop) : Array Value → State → Outcome → State → Prop := fun _ st o t => (∃ v h', P v h' ∧ o = .returned (v.map (em ad)) ∧ va_P D vcls (wsOf ca ad h') t.heap) ∧ va_F (fun q : Nat => A q) st t
def rmL (d k : Nat) : Room := { frames := d + 7, cells := k, slots := 64 * k, locals := 60 * (d + 1) + 120 }
/-- a method of the law: it comes to an end where P holds, k new cells or fewer -/
def LX (l : Launch) (mi d k : Nat) (av : List Value) (h : AH) (P : Option Value → AH → Prop) : Prop := ∀ (D : va_G) (ca : Nat → ClassId) (ad : Nat → Nat) (A : Nat → Prop), AdOk A ad → vx_Met l (cY mi) (wsM mi) (rmL d k) (PcL D ca ad A av h) (LQ D ca ad A P) exitX k (64 * k) (fun q : Nat => A q)
theorem PcL_blind {D : va_G} {ca : Nat → ClassId} {ad : Nat → Nat} {A : Nat → Prop} {av : List Value} {h : AH} : FrameBlind (PcL D ca ad A av h) := fun a U g mk q => ⟨q.1, ⟨q.2.1.1, va_K.moved (u := U) (U := U.calling g mk a) (Vm.Alike.refl U.vm) q.2.1.2⟩, q.2.2.1.moved (U := U.calling g mk a) (State.WarmedH.refl U) (fun _ _ _ => rfl), q.2.2.2.1, q.2.2.2.2.moved (U := U.calling g mk a) (State.WarmedH.refl U) (fun _ _ _ => rfl)⟩
section
variable {D : va_G} {ca : Nat → ClassId} {H : Heap}
/-- all that a cell names lies between -/
def refsIn (lo hi : Nat) (y : Lay) : Bool := match y with
  | (0, _, sl) => sl.all (fun n => Nat.blt n 3 || (Nat.ble lo (n - 3) && Nat.blt (n - 3) hi))
  | (_, _, ts) => ts.all (fun n => Nat.ble lo n && Nat.blt n hi)
set_option maxRecDepth 20000 in
theorem refs_b : ∀ i, i < 181 → refsIn 31 212 (layAt (31 + i)) = true := by decide +kernel
theorem wcell_congr {ad1 ad2 : Nat → Nat} {lo hi : Nat} {f1 : Nat → Int32} {f2 : Nat → UInt32} {f3 : Nat → Int64} {f4 : Nat → UInt64} (h : ∀ n, lo ≤ n → n < hi → ad1 n = ad2 n) : ∀ y : Lay, refsIn lo hi y = true → wcell ca ad1 y f1 f2 f3 f4 = wcell ca ad2 y f1 f2 f3 f4
  | (0, ci, sl), hr => by
    have hr : sl.all (fun n => Nat.blt n 3 || (Nat.ble lo (n - 3) && Nat.blt (n - 3) hi)) = true := hr
    have e : (List.range sl.length).map (fun j => em ad1 (fv (sl.getD j 0) (f1 j))) = (List.range sl.length).map (fun j => em ad2 (fv (sl.getD j 0) (f1 j))) := List.map_congr_left (fun j hj => by
      have hj : j < sl.length := List.mem_range.mp hj
      have hm : sl.getD j 0 ∈ sl := by
        rw [List.getD_eq_getElem?_getD, List.getElem?_eq_getElem hj]
        exact List.getElem_mem hj
      have hz := List.all_eq_true.mp hr _ hm
      generalize sl.getD j 0 = n at hz ⊢
      match n, hz with
      | 0, _ => rfl
      | 1, _ => rfl
      | 2, _ => rfl
      | t + 3, hz =>
        show Value.ref (ad1 t) = Value.ref (ad2 t)
        have hz : (Nat.blt (t + 3) 3 || (Nat.ble lo (t + 3 - 3) && Nat.blt (t + 3 - 3) hi)) = true := hz
        rcases Bool.or_eq_true_iff.mp hz with hz | hz
        · have hz := Nat.le_of_ble_eq_true hz
          omega
        · obtain ⟨a, b⟩ := Bool.and_eq_true_iff.mp hz
          have a := Nat.le_of_ble_eq_true a
          have b := Nat.le_of_ble_eq_true b
          rw [h t (by omega) (by omega)])
    show (Sum.inr (ci, _) : va_E) = Sum.inr (ci, _)
    rw [e]
  | (t + 1, n, ts), hr => by
    have hr : ts.all (fun n => Nat.ble lo n && Nat.blt n hi) = true := hr
    have hm : (fun i : Nat => (ts[i]?).map ad1) = fun i : Nat => (ts[i]?).map ad2 := funext fun i => by
      cases e : ts[i]? with
      | none => rfl
      | some k =>
        have z := List.all_eq_true.mp hr k (List.mem_of_getElem? e)
        have z : (Nat.ble lo k && Nat.blt k hi) = true := z
        have z := Bool.and_eq_true_iff.mp z
        have a := Nat.le_of_ble_eq_true z.1
        have b := Nat.le_of_ble_eq_true z.2
        rw [Option.map_some, Option.map_some, h k (by omega) (by omega)]
    match t with
    | 0 => rfl
    | 1 => rfl
    | 2 => rfl
    | 3 => rfl
    | 4 => rfl
    | 5 => rfl
    | 6 => show (Sum.inl (ca 7, n, .inr (.inr (.inr (.inr (fun i => (ts[i]?).map ad1))))) : va_E) = _; rw [hm]; rfl
    | 7 => show (Sum.inl (ca 8, n, .inr (.inr (.inr (.inr (fun i => (ts[i]?).map ad1))))) : va_E) = _; rw [hm]; rfl
    | 8 => show (Sum.inl (ca 9, n, .inr (.inr (.inr (.inr (fun i => (ts[i]?).map ad1))))) : va_E) = _; rw [hm]; rfl
    | t + 9 => rfl
theorem ws_congr {ad1 ad2 : Nat → Nat} {h : AH} (e : ∀ k, 31 ≤ k → k < 212 → ad1 k = ad2 k) : wsOf ca ad1 h = wsOf ca ad2 h := by
  unfold wsOf
  refine List.map_congr_left (fun j hj => ?_)
  have hj : j < 181 := List.mem_range.mp hj
  rw [e (31 + j) (by omega) (by omega), wcell_congr e _ (refs_b j hj)]
end

end
