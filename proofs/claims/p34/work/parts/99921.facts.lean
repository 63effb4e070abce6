noncomputable section
section
variable {s : State} {args : Array Value}
theorem st_arr {t : FieldType} (h : (Cond.arrayClass t).before args s = true) : ∃ c, ArrOfT s c t ∧ s.vm.findClass ("[" ++ t.toString) = some c := by
  obtain ⟨c, k, comp, h1, h2, h3⟩ := Cond.arrayClass_spec h
  exact ⟨c, fun N z => ⟨(fun k h => by cases h), k, h2, comp, h3⟩, h1⟩
theorem st_ao {C : String} (h : va_AO C s) : ∃ c, ArrOfT s c (.object C) ∧ va_RA s c (.object C) := by
  obtain ⟨comp, c, k, h1, h2, h3, h4, h5⟩ := Cond.arrayOver_spec h
  exact ⟨c, fun N z => ⟨(fun k h => by cases h), k, h3, comp, h4⟩, k, comp, h3, h4, h1, h5⟩
theorem st_ins : ∀ ci, ci < 9 → Cond.instantiable (cC ci) (cN ci) ∈ lw_tbl
  | 0, _ => tb_in 1 183 (by decide +kernel)
  | 1, _ => tb_in 1 204 (by decide +kernel)
  | 2, _ => tb_in 1 140 (by decide +kernel)
  | 3, _ => tb_in 1 146 (by decide +kernel)
  | 4, _ => tb_in 1 223 (by decide +kernel)
  | 5, _ => tb_in 1 156 (by decide +kernel)
  | 6, _ => tb_in 1 41 (by decide +kernel)
  | 7, _ => tb_in 1 134 (by decide +kernel)
  | 8, _ => tb_in 1 33 (by decide +kernel)
  | n + 9, h => absurd h (by omega)
theorem st_AO (hts : ∀ w ∈ lw_tbl, w.before args s = true) : va_AO "SawnIce$Palace" s := by
  have h1 : (Cond.arrayOver (.object "SawnIce$Palace")).before args s = true := hts _ (tb_in 1 210 (by decide +kernel))
  exact va_AO.of h1
theorem st_K (hts : ∀ w ∈ lw_tbl, w.before args s = true) : ∃ (D : va_G) (ca : Nat → ClassId), va_K D vcls (tysOf ca) s := by
  have hA : ∀ w ∈ wAll, w.before args s = true := fun w hw => hts w (List.mem_filter.mp hw).1
  have hk : ∀ ci : Nat, ∃ x : ClassId × (Nat → Nat), ci < 9 → u_Kn s (cC ci) (cT ci) (cN ci) x.1 x.2 := fun ci => by
    by_cases h : ci < 9
    · obtain ⟨c, i, z⟩ := u_known hA (uw_ok ci h) (hts _ (st_ins ci h))
      exact ⟨(c, i), fun _ => z⟩
    · exact ⟨(0, fun _ => 0), fun z => absurd z h⟩
  obtain ⟨F, hF⟩ := Classical.axiomOfChoice hk
  have o1 := st_AO hts
  obtain ⟨c1, z1⟩ := st_arr (hts _ (tb_in 1 131 (by decide +kernel) : Cond.arrayClass .int ∈ lw_tbl))
  obtain ⟨c2, z2⟩ := st_arr (hts _ (tb_in 2 16 (by decide +kernel) : Cond.arrayClass .char ∈ lw_tbl))
  obtain ⟨c4, z4⟩ := st_arr (hts _ (tb_in 1 132 (by decide +kernel) : Cond.arrayClass .float ∈ lw_tbl))
  obtain ⟨c7, z7⟩ := st_ao o1
  refine ⟨(fun k => (F k).1, fun k => (F k).2), fun t => match t with | 1 => c1 | 2 => c2 | 4 => c4 | _ => c7, fun k q hq => ?_, fun k q hq => ?_⟩
  · have hl : k < 9 := (List.getElem?_eq_some_iff.mp hq).1
    rw [vcls_at k hl] at hq
    cases hq
    exact hF k hl
  · match k, hq with
    | 0, hq => cases hq; exact z1
    | 1, hq => cases hq; exact z2
    | 2, hq => cases hq; exact z4
    | 3, hq => cases hq; exact z7
    | k + 4, hq => simp [tysOf] at hq
theorem st_nest : ∀ x ∈ nestL, Cond.methodLinkNest x.1 x.2.1 (cY x.2.2) "SawnIce" ∈ lw_tbl := by
  intro x hx
  unfold nestL at hx
  simp only [List.mem_cons, List.not_mem_nil, or_false] at hx
  rcases hx with e | e | e | e | e | e | e | e | e <;> subst e
  · exact tb_in 1 135 (by decide +kernel)
  · exact tb_in 1 141 (by decide +kernel)
  · exact tb_in 1 147 (by decide +kernel)
  · exact tb_in 1 157 (by decide +kernel)
  · exact tb_in 1 184 (by decide +kernel)
  · exact tb_in 1 191 (by decide +kernel)
  · exact tb_in 1 200 (by decide +kernel)
  · exact tb_in 1 202 (by decide +kernel)
  · exact tb_in 1 224 (by decide +kernel)
theorem st_AOk (hts : ∀ w ∈ lw_tbl, w.before args s = true) : AOk s := ⟨st_AO hts, fun x hx => va_Nw.of rfl (hts _ (st_nest x hx))⟩
set_option maxRecDepth 100000 in
theorem st_nc : ∀ en, en < 6 → ∀ ek, ek < 6 → en ≠ ek → Cond.not (Cond.castable (exN en) (exN ek)) ∈ flatC (Jvm.Cond.and given_1 narrow_1) := by decide +kernel
theorem st_ZT (hts : ∀ w ∈ lw_tbl, w.before args s = true) (hn : ∀ w ∈ flatC (Jvm.Cond.and given_1 narrow_1), w.before args s = true) : ZT (fun a : Nat => s.heap.size ≤ a) s := by
  have hA : ∀ a : Nat, a < s.heap.size → ¬ s.heap.size ≤ a := fun a h => by omega
  have hi : (Cond.initialized Bundle.tN).before args s = true := hts _ (tb_in 1 10 (by decide +kernel))
  refine ⟨vx_Zqof (hts _ (tb_in 2 175 (by decide +kernel))) hi (hn _ (by decide +kernel)) hA, vx_Zqof (hts _ (tb_in 2 177 (by decide +kernel))) hi (hn _ (by decide +kernel)) hA, fun en he w hw => ?_, fun en ek a b c => va_Nc.of (hn _ (st_nc en a ek b c))⟩
  unfold exB at hw
  simp only [List.mem_cons, List.not_mem_nil, or_false] at hw
  rcases hw with e | e | e | e <;> subst e
  · exact va_Nw.of rfl (hts _ (tb_in 2 151 exD_ok.1))
  · exact va_Nw.of rfl (hts _ (tb_in 2 153 exD_ok.2.1))
  · exact va_Nw.of rfl (hts _ (tb_in 2 155 exD_ok.2.2))
  · exact va_Nw.of rfl (hts _ (tb_in _ _ (exC_ok en he)))
/-- the law's texts, as the start names them -/
def tmK (i : Nat) : Term := .string "SawnIceLaw" (if i = 12 then 143 else 236 + 2 * i)
abbrev txT : Term := .static "SawnIceLaw" "TEXTS" "[Ljava/lang/String;"
abbrev vlT (i : Nat) : Term := .field (tmK i) "java/lang/String" "value" "[B"
set_option maxRecDepth 100000 in
theorem x_ex : ∀ i, i < 13 → Cond.exactly (tmK i) "java/lang/String" ∈ flatC (Jvm.Cond.and given_1 narrow_1) := by decide +kernel
set_option maxRecDepth 100000 in
theorem x_co : ∀ i, i < 13 → Cond.eq (.field (tmK i) "java/lang/String" "coder" "B") (.int 0) ∈ flatC (Jvm.Cond.and given_1 narrow_1) := by decide +kernel
set_option maxRecDepth 100000 in
theorem x_ar : ∀ i, i < 13 → Cond.arrayOf (vlT i) .byte ∈ flatC (Jvm.Cond.and given_1 narrow_1) := by decide +kernel
set_option maxRecDepth 100000 in
theorem x_le : ∀ i, i < 13 → Cond.eq (.length (vlT i)) (.int (Int32.ofNat ((txB.map List.length).getD i 0))) ∈ flatC (Jvm.Cond.and given_1 narrow_1) := by decide +kernel
set_option maxRecDepth 100000 in
theorem x_el : ∀ i, i < 13 → ∀ j, j < (txB.map List.length).getD i 0 → Cond.eq (.elem (vlT i) (.int (Int32.ofNat j))) (.int ((txB.getD i []).getD j 0)) ∈ flatC (Jvm.Cond.and given_1 narrow_1) := by decide +kernel
set_option maxRecDepth 100000 in
theorem x_tx : ∀ j, j < 12 → Cond.eq (.elem txT (.int (Int32.ofNat j))) (tmK j) ∈ flatC (Jvm.Cond.and given_1 narrow_1) := by decide +kernel
set_option maxRecDepth 100000 in
theorem x_t0 : Cond.arrayOf txT (.object "java/lang/String") ∈ flatC (Jvm.Cond.and given_1 narrow_1) ∧ Cond.eq (.length txT) (.int 12) ∈ flatC (Jvm.Cond.and given_1 narrow_1) := by decide +kernel
end
end
