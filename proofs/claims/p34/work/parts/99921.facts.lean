noncomputable section
section
variable {s : State} {args : Array Value}
theorem st_arr {t : FieldType} (h : (Cond.arrayClass t).before args s = true) : ∃ c, ArrOfT s c t ∧ s.vm.findClass ("[" ++ t.toString) = some c := by
  obtain ⟨c, k, comp, h1, h2, h3⟩ := Cond.arrayClass_spec h
  exact ⟨c, fun N z => ⟨(fun k h => by cases h), k, h2, comp, h3⟩, h1⟩
theorem st_ao {C : String} (h : va_AO C s) : ∃ c, ArrOfT s c (.object C) ∧ va_RA s c (.object C) := by
  obtain ⟨comp, c, k, h1, h2, h3, h4, h5⟩ := Cond.arrayOver_spec h
  exact ⟨c, fun N z => ⟨(fun k h => by cases h), k, h3, comp, h4⟩, k, comp, h3, h4, h1, h5⟩
theorem st_ins : ∀ ci, ci < 9 → Cond.instantiable (cC ci) (cN ci) ∈ lw_tbl
  | 0, _ => tb_in 1 183 (by decide +kernel)
  | 1, _ => tb_in 1 204 (by decide +kernel)
  | 2, _ => tb_in 1 140 (by decide +kernel)
  | 3, _ => tb_in 1 146 (by decide +kernel)
  | 4, _ => tb_in 1 223 (by decide +kernel)
  | 5, _ => tb_in 1 156 (by decide +kernel)
  | 6, _ => tb_in 1 41 (by decide +kernel)
  | 7, _ => tb_in 1 134 (by decide +kernel)
  | 8, _ => tb_in 1 33 (by decide +kernel)
  | n + 9, h => absurd h (by omega)
theorem st_AO (hts : ∀ w ∈ lw_tbl, w.before args s = true) : va_AO "SawnIce$Palace" s := by
  have h1 : (Cond.arrayOver (.object "SawnIce$Palace")).before args s = true := hts _ (tb_in 1 210 (by decide +kernel))
  exact va_AO.of h1
theorem st_K (hts : ∀ w ∈ lw_tbl, w.before args s = true) : ∃ (D : va_G) (ca : Nat → ClassId), va_K D vcls (tysOf ca) s := by
  have hA : ∀ w ∈ wAll, w.before args s = true := fun w hw => hts w (List.mem_filter.mp hw).1
  have hk : ∀ ci : Nat, ∃ x : ClassId × (Nat → Nat), ci < 9 → u_Kn s (cC ci) (cT ci) (cN ci) x.1 x.2 := fun ci => by
    by_cases h : ci < 9
    · obtain ⟨c, i, z⟩ := u_known hA (uw_ok ci h) (hts _ (st_ins ci h))
      exact ⟨(c, i), fun _ => z⟩
    · exact ⟨(0, fun _ => 0), fun z => absurd z h⟩
  obtain ⟨F, hF⟩ := Classical.axiomOfChoice hk
  have o1 := st_AO hts
  obtain ⟨c1, z1⟩ := st_arr (hts _ (tb_in 1 131 (by decide +kernel) : Cond.arrayClass .int ∈ lw_tbl))
  obtain ⟨c2, z2⟩ := st_arr (hts _ (tb_in 2 16 (by decide +kernel) : Cond.arrayClass .char ∈ lw_tbl))
  obtain ⟨c4, z4⟩ := st_arr (hts _ (tb_in 1 132 (by decide +kernel) : Cond.arrayClass .float ∈ lw_tbl))
  obtain ⟨c7, z7⟩ := st_ao o1
  refine ⟨(fun k => (F k).1, fun k => (F k).2), fun t => match t with | 1 => c1 | 2 => c2 | 4 => c4 | _ => c7, fun k q hq => ?_, fun k q hq => ?_⟩
  · have hl : k < 9 := (List.getElem?_eq_some_iff.mp hq).1
    rw [vcls_at k hl] at hq
    cases hq
    exact hF k hl
  · match k, hq with
    | 0, hq => cases hq; exact z1
    | 1, hq => cases hq; exact z2
    | 2, hq => cases hq; exact z4
    | 3, hq => cases hq; exact z7
    | k + 4, hq => simp [tysOf] at hq
theorem st_nest : ∀ x ∈ nestL, Cond.methodLinkNest x.1 x.2.1 (cY x.2.2) "SawnIce" ∈ lw_tbl := by
  intro x hx
  unfold nestL at hx
  simp only [List.mem_cons, List.not_mem_nil, or_false] at hx
  rcases hx with e | e | e | e | e | e | e | e | e <;> subst e
  · exact tb_in 1 135 (by decide +kernel)
  · exact tb_in 1 141 (by decide +kernel)
  · exact tb_in 1 147 (by decide +kernel)
  · exact tb_in 1 157 (by decide +kernel)
  · exact tb_in 1 184 (by decide +kernel)
  · exact tb_in 1 191 (by decide +kernel)
  · exact tb_in 1 200 (by decide +kernel)
  · exact tb_in 1 202 (by decide +kernel)
  · exact tb_in 1 224 (by decide +kernel)
theorem st_AOk (hts : ∀ w ∈ lw_tbl, w.before args s = true) : AOk s := ⟨st_AO hts, fun x hx => va_Nw.of rfl (hts _ (st_nest x hx))⟩
set_option maxRecDepth 100000 in
theorem st_nc : ∀ en, en < 6 → ∀ ek, ek < 6 → en ≠ ek → Cond.not (Cond.castable (exN en) (exN ek)) ∈ flatC (Jvm.Cond.and given_1 narrow_1) := by decide +kernel
theorem st_ZT (hts : ∀ w ∈ lw_tbl, w.before args s = true) (hn : ∀ w ∈ flatC (Jvm.Cond.and given_1 narrow_1), w.before args s = true) : ZT (fun a : Nat => s.heap.size ≤ a) s := by
  have hA : ∀ a : Nat, a < s.heap.size → ¬ s.heap.size ≤ a := fun a h => by omega
  have hi : (Cond.initialized Bundle.tN).before args s = true := hts _ (tb_in 1 10 (by decide +kernel))
  refine ⟨vx_Zqof (hts _ (tb_in 2 175 (by decide +kernel))) hi (hn _ (by decide +kernel)) hA, vx_Zqof (hts _ (tb_in 2 177 (by decide +kernel))) hi (hn _ (by decide +kernel)) hA, fun en he w hw => ?_, fun en ek a b c => va_Nc.of (hn _ (st_nc en a ek b c))⟩
  unfold exB at hw
  simp only [List.mem_cons, List.not_mem_nil, or_false] at hw
  rcases hw with e | e | e | e <;> subst e
  · exact va_Nw.of rfl (hts _ (tb_in 2 151 exD_ok.1))
  · exact va_Nw.of rfl (hts _ (tb_in 2 153 exD_ok.2.1))
  · exact va_Nw.of rfl (hts _ (tb_in 2 155 exD_ok.2.2))
  · exact va_Nw.of rfl (hts _ (tb_in _ _ (exC_ok en he)))
/-- the law's texts, as the start names them -/
def tmK (i : Nat) : Term := .string "SawnIceLaw" (if i = 12 then 143 else 236 + 2 * i)
abbrev txT : Term := .static "SawnIceLaw" "TEXTS" "[Ljava/lang/String;"
abbrev vlT (i : Nat) : Term := .field (tmK i) "java/lang/String" "value" "[B"
set_option maxRecDepth 100000 in
theorem x_ex : ∀ i, i < 13 → Cond.exactly (tmK i) "java/lang/String" ∈ flatC (Jvm.Cond.and given_1 narrow_1) := by decide +kernel
set_option maxRecDepth 100000 in
theorem x_co : ∀ i, i < 13 → Cond.eq (.field (tmK i) "java/lang/String" "coder" "B") (.int 0) ∈ flatC (Jvm.Cond.and given_1 narrow_1) := by decide +kernel
set_option maxRecDepth 100000 in
theorem x_ar : ∀ i, i < 13 → Cond.arrayOf (vlT i) .byte ∈ flatC (Jvm.Cond.and given_1 narrow_1) := by decide +kernel
set_option maxRecDepth 100000 in
theorem x_le : ∀ i, i < 13 → Cond.eq (.length (vlT i)) (.int (Int32.ofNat ((txB.map List.length).getD i 0))) ∈ flatC (Jvm.Cond.and given_1 narrow_1) := by decide +kernel
set_option maxRecDepth 100000 in
theorem x_el : ∀ i, i < 13 → ∀ j, j < (txB.map List.length).getD i 0 → Cond.eq (.elem (vlT i) (.int (Int32.ofNat j))) (.int ((txB.getD i []).getD j 0)) ∈ flatC (Jvm.Cond.and given_1 narrow_1) := by decide +kernel
set_option maxRecDepth 100000 in
theorem x_ne : ∀ i, i < 13 → ∀ j, j < 13 → i ≠ j → Cond.not (Cond.eq (tmK i) (tmK j)) ∈ flatC (Jvm.Cond.and given_1 narrow_1) ∨ Cond.not (Cond.eq (tmK j) (tmK i)) ∈ flatC (Jvm.Cond.and given_1 narrow_1) := by decide +kernel
set_option maxRecDepth 100000 in
theorem x_tx : ∀ j, j < 12 → Cond.eq (.elem txT (.int (Int32.ofNat j))) (tmK j) ∈ flatC (Jvm.Cond.and given_1 narrow_1) := by decide +kernel
set_option maxRecDepth 100000 in
theorem x_t0 : Cond.arrayOf txT (.object "java/lang/String") ∈ flatC (Jvm.Cond.and given_1 narrow_1) ∧ Cond.eq (.length txT) (.int 12) ∈ flatC (Jvm.Cond.and given_1 narrow_1) := by decide +kernel
theorem eqv {t u : Term} {v : Nat} (h : (Cond.eq t u).before args s = true) (hu : u.eval args s none [] s = some (.ref v)) : t.eval args s none [] s = some (.ref v) := by
  cases hv : t.eval args s none [] s with
  | none => simp [Cond.before, Cond.holds, Cond.value, hv] at h
  | some w =>
    simp only [Cond.before, Cond.holds, Cond.value, hv, hu] at h
    cases w <;> simp_all
theorem st_ZX (hts : ∀ w ∈ lw_tbl, w.before args s = true) (hn : ∀ w ∈ flatC (Jvm.Cond.and given_1 narrow_1), w.before args s = true) : ∃ (ka va : Nat → Nat) (tx : Nat), vk_S 13 (txB.map List.length) txB ka va (fun a : Nat => s.heap.size ≤ a) s s.heap ∧ va_Z "java/lang/String" "COMPACT_STRINGS" "Z" (.int 1) (fun a : Nat => s.heap.size ≤ a) s s.heap ∧ va_Zq "jdk/internal/util/Preconditions" "SIOOBE_FORMATTER" BF (fun a : Nat => s.heap.size ≤ a) s s.heap ∧ va_Z RL "TEXTS" "[Ljava/lang/String;" (.ref tx) (fun a : Nat => s.heap.size ≤ a) s s.heap ∧ va_T (.object "java/lang/String") tx 12 (fun j => .ref (ka j)) (fun a : Nat => s.heap.size ≤ a) s s.heap ∧ vk_R RL 143 "rw" (ka 12) s := by
  have hA : ∀ a : Nat, a < s.heap.size → ¬ s.heap.size ≤ a := fun a h => by omega
  have hlen : ∀ i, i < 13 → (txB.map List.length).getD i 0 < 2 ^ 31 := by decide
  obtain ⟨ka, va, h1, h2⟩ := vk_Sof (args := args) (s := s) (N := 13) (tm := tmK) (len := txB.map List.length) (byt := txB) (A := fun a : Nat => s.heap.size ≤ a) hlen (fun i hi => hn _ (x_ex i hi)) (fun i hi => hn _ (x_co i hi)) (fun i hi => hn _ (x_ar i hi)) (fun i hi => hn _ (x_le i hi)) (fun i hi j hj => hn _ (x_el i hi j hj)) (fun i j hi hj h => (x_ne i hi j hj h).elim (fun z => Or.inl (hn _ z)) (fun z => Or.inr (hn _ z))) hA
  obtain ⟨tx, e1, h3⟩ := va_Tof (args := args) (s := s) (tm := txT) (ty := .object "java/lang/String") (N := 12) (f := fun j => .ref (ka j)) (A := fun a : Nat => s.heap.size ≤ a) (by decide) (hn _ x_t0.1) (va_eqt (hn _ x_t0.2)) (fun j hj => eqv (hn _ (x_tx j hj)) (h2 j (by omega))) hA
  exact ⟨ka, va, tx, h1, va_Zof (hts _ (tb_in 4 113 (by decide +kernel))) (hts _ (tb_in 1 15 (by decide +kernel))) (va_eqi (hn _ (by decide +kernel))) hA, va_Zqof (hts _ (tb_in 4 129 (by decide +kernel))) (hts _ (tb_in 1 22 (by decide +kernel))) (hn _ (by decide +kernel)) hA, va_Zref (hts _ (tb_in 4 189 (by decide +kernel))) (hts _ (tb_in 1 0 (by decide +kernel))) e1 hA, h3, vk_R.of (hts _ (tb_in 5 29 (by decide +kernel))) (h2 12 (by decide))⟩
theorem zx_of {A : Nat → Prop} {ad ka va : Nat → Nat} {tx : Nat} (h1 : vk_S 13 (txB.map List.length) txB ka va A s s.heap) (z1 : va_Z "java/lang/String" "COMPACT_STRINGS" "Z" (.int 1) A s s.heap) (z2 : va_Zq "jdk/internal/util/Preconditions" "SIOOBE_FORMATTER" BF A s s.heap) (z3 : va_Z RL "TEXTS" "[Ljava/lang/String;" (.ref tx) A s s.heap) (ht : va_T (.object "java/lang/String") tx 12 (fun j => .ref (ka j)) A s s.heap) (hr : vk_R RL 143 "rw" (ka 12) s) (e1 : ∀ i, i < 13 → ad (220 + i) = ka i) (e2 : ∀ i, i < 13 → ad (240 + i) = va i) (e3 : ad 219 = tx) : ZX A ad s := by
  refine ⟨⟨fun i hi => ?_, fun i j hi hj h => h1.2 i j hi hj ((e1 i hi).symm.trans (h.trans (e1 j hj)))⟩, z1, z2, by rw [e3]; exact z3, ?_, by rw [show ad 232 = ka 12 from e1 12 (by decide)]; exact hr⟩
  · have z := h1.1 i hi
    rw [← e1 i hi, ← e2 i hi] at z
    exact z
  · rw [e3]
    obtain ⟨cell, a1, a2, a3, a4, a5, a6, a7⟩ := ht
    exact ⟨cell, a1, a2, a3, a4, a5, fun j hj => by rw [e1 j (by omega)]; exact a6 j hj, a7⟩
end
end
