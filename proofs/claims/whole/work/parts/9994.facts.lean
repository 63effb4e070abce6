-- needs: 9993
noncomputable section
section
variable {s : State} {args : Array Value}
theorem st_arr {t : FieldType} (h : (Cond.arrayClass t).before args s = true) : ∃ c, ArrOfT s c t ∧ s.vm.findClass ("[" ++ t.toString) = some c := by
  obtain ⟨c, k, comp, h1, h2, h3⟩ := Cond.arrayClass_spec h
  exact ⟨c, fun N z => ⟨(fun k h => by cases h), k, h2, comp, h3⟩, h1⟩
theorem st_aoa {t : FieldType} (h : AOA t s) : ∃ c, ArrOfT s c (.array t) ∧ s.vm.findClass ("[" ++ (FieldType.array t).toString) = some c := by
  obtain ⟨comp, c, k, h1, h2, h3, h4, h5⟩ := h.spec
  exact ⟨c, fun N z => ⟨(fun k h => by cases h), k, h3, comp, h4⟩, h5⟩
theorem st_ao {C : String} (h : va_AO C s) : ∃ c, ArrOfT s c (.object C) ∧ va_RA s c (.object C) := by
  obtain ⟨comp, c, k, h1, h2, h3, h4, h5⟩ := Cond.arrayOver_spec h
  exact ⟨c, fun N z => ⟨(fun k h => by cases h), k, h3, comp, h4⟩, k, comp, h3, h4, h1, h5⟩
theorem st_ins : ∀ ci, ci < 10 → Cond.instantiable (cC ci) (cN ci) ∈ lw_tbl
  | 0, _ => tb_in 1 185 (by decide +kernel)
  | 1, _ => tb_in 1 206 (by decide +kernel)
  | 2, _ => tb_in 1 140 (by decide +kernel)
  | 3, _ => tb_in 1 146 (by decide +kernel)
  | 4, _ => tb_in 1 225 (by decide +kernel)
  | 5, _ => tb_in 1 156 (by decide +kernel)
  | 6, _ => tb_in 1 41 (by decide +kernel)
  | 7, _ => tb_in 1 134 (by decide +kernel)
  | 8, _ => tb_in 1 33 (by decide +kernel)
  | 9, _ => tb_in 5 192 (by decide +kernel)
  | n + 10, h => absurd h (by omega)
theorem st_AO (hts : ∀ w ∈ lw_tbl, w.before args s = true) : va_AO "SawnIce$Palace" s ∧ AOA .int s ∧ AOA .float s := by
  have h1 : (Cond.arrayOver (.object "SawnIce$Palace")).before args s = true := hts _ (tb_in 1 212 (by decide +kernel))
  have h2 : (Cond.arrayOver (.array .int)).before args s = true := hts _ (tb_in 5 198 (by decide +kernel))
  have h3 : (Cond.arrayOver (.array .float)).before args s = true := hts _ (tb_in 5 200 (by decide +kernel))
  exact ⟨va_AO.of h1, h2, h3⟩
theorem st_K (hts : ∀ w ∈ lw_tbl, w.before args s = true) : ∃ (D : va_G) (ca : Nat → ClassId), va_K D vcls (tysOf ca) s := by
  have hA : ∀ w ∈ wAll, w.before args s = true := fun w hw => hts w (List.mem_filter.mp hw).1
  have hk : ∀ ci : Nat, ∃ x : ClassId × (Nat → Nat), ci < 10 → u_Kn s (cC ci) (cT ci) (cN ci) x.1 x.2 := fun ci => by
    by_cases h : ci < 10
    · obtain ⟨c, i, z⟩ := u_known hA (uw_ok ci h) (hts _ (st_ins ci h))
      exact ⟨(c, i), fun _ => z⟩
    · exact ⟨(0, fun _ => 0), fun z => absurd z h⟩
  obtain ⟨F, hF⟩ := Classical.axiomOfChoice hk
  obtain ⟨o1, o2, o3⟩ := st_AO hts
  obtain ⟨c1, z1⟩ := st_arr (hts _ (tb_in 1 131 (by decide +kernel) : Cond.arrayClass .int ∈ lw_tbl))
  obtain ⟨c2, z2⟩ := st_arr (hts _ (tb_in 2 18 (by decide +kernel) : Cond.arrayClass .char ∈ lw_tbl))
  obtain ⟨c3, z3⟩ := st_arr (hts _ (tb_in 6 37 (by decide +kernel) : Cond.arrayClass .boolean ∈ lw_tbl))
  obtain ⟨c4, z4⟩ := st_arr (hts _ (tb_in 1 132 (by decide +kernel) : Cond.arrayClass .float ∈ lw_tbl))
  obtain ⟨c5, z5⟩ := st_arr (hts _ (tb_in 7 186 (by decide +kernel) : Cond.arrayClass .long ∈ lw_tbl))
  obtain ⟨c6, z6⟩ := st_arr (hts _ (tb_in 7 187 (by decide +kernel) : Cond.arrayClass .double ∈ lw_tbl))
  obtain ⟨c7, z7⟩ := st_ao o1
  obtain ⟨c8, z8⟩ := st_aoa o2
  obtain ⟨c9, z9⟩ := st_aoa o3
  refine ⟨(fun k => (F k).1, fun k => (F k).2), fun t => match t with | 1 => c1 | 2 => c2 | 3 => c3 | 4 => c4 | 5 => c5 | 6 => c6 | 7 => c7 | 8 => c8 | _ => c9, fun k q hq => ?_, fun k q hq => ?_⟩
  · have hl : k < 10 := (List.getElem?_eq_some_iff.mp hq).1
    rw [vcls_at k hl] at hq
    cases hq
    exact hF k hl
  · match k, hq with
    | 0, hq => cases hq; exact z1
    | 1, hq => cases hq; exact z2
    | 2, hq => cases hq; exact z3
    | 3, hq => cases hq; exact z4
    | 4, hq => cases hq; exact z5
    | 5, hq => cases hq; exact z6
    | 6, hq => cases hq; exact z7
    | 7, hq => cases hq; exact z8
    | 8, hq => cases hq; exact z9
    | k + 9, hq => simp [tysOf] at hq
theorem st_nest : ∀ x ∈ nestL, Cond.methodLinkNest x.1 x.2.1 (cY x.2.2) "SawnIce" ∈ lw_tbl := by
  intro x hx
  unfold nestL at hx
  simp only [List.mem_cons, List.not_mem_nil, or_false] at hx
  rcases hx with e | e | e | e | e | e | e | e | e <;> subst e
  · exact tb_in 1 135 (by decide +kernel)
  · exact tb_in 1 141 (by decide +kernel)
  · exact tb_in 1 147 (by decide +kernel)
  · exact tb_in 1 157 (by decide +kernel)
  · exact tb_in 1 186 (by decide +kernel)
  · exact tb_in 1 193 (by decide +kernel)
  · exact tb_in 1 202 (by decide +kernel)
  · exact tb_in 1 204 (by decide +kernel)
  · exact tb_in 1 226 (by decide +kernel)
theorem st_AOk (hts : ∀ w ∈ lw_tbl, w.before args s = true) : AOk s := ⟨(st_AO hts).1, fun x hx => va_Nw.of rfl (hts _ (st_nest x hx))⟩
set_option maxRecDepth 100000 in
theorem st_nc : ∀ en, en < 6 → ∀ ek, ek < 6 → en ≠ ek → Cond.not (Cond.castable (exN en) (exN ek)) ∈ flatC (Jvm.Cond.and given_1 narrow_1) := by decide +kernel
theorem st_ZT (hts : ∀ w ∈ lw_tbl, w.before args s = true) (hn : ∀ w ∈ flatC (Jvm.Cond.and given_1 narrow_1), w.before args s = true) : ZT s.heap.size s := by
  have hA : ∀ a : Nat, a < s.heap.size → ¬ s.heap.size ≤ a := fun a h => by omega
  have hi : (Cond.initialized Bundle.tN).before args s = true := hts _ (tb_in 1 11 (by decide +kernel))
  refine ⟨vx_Zqof (hts _ (tb_in 2 177 (by decide +kernel))) hi (hn _ (by decide +kernel)) hA, vx_Zqof (hts _ (tb_in 2 179 (by decide +kernel))) hi (hn _ (by decide +kernel)) hA, fun en he w hw => ?_, fun en ek a b c => va_Nc.of (hn _ (st_nc en a ek b c))⟩
  unfold exB at hw
  simp only [List.mem_cons, List.not_mem_nil, or_false] at hw
  rcases hw with e | e | e | e <;> subst e
  · exact va_Nw.of rfl (hts _ (tb_in 2 217 exD_ok.1))
  · exact va_Nw.of rfl (hts _ (tb_in 2 219 exD_ok.2.1))
  · exact va_Nw.of rfl (hts _ (tb_in 2 221 exD_ok.2.2))
  · exact va_Nw.of rfl (hts _ (tb_in _ _ (exC_ok en he)))
theorem st_ZS (hts : ∀ w ∈ lw_tbl, w.before args s = true) (hn : ∀ w ∈ flatC (Jvm.Cond.and given_1 narrow_1), w.before args s = true) : ∃ sa va : Nat, ZS sa va (fun a : Nat => s.heap.size ≤ a) s s.heap ∧ vk_R "SawnIceModel" 214 "tmbf" sa s := by
  have hA : ∀ a : Nat, a < s.heap.size → ¬ s.heap.size ≤ a := fun a h => by omega
  have x1 : (Cond.exactly (.string "SawnIceModel" 214) "java/lang/String").before args s = true := hn _ (by decide +kernel)
  have x2 : (Cond.eq (.field (.string "SawnIceModel" 214) "java/lang/String" "coder" "B") (.int 0)).before args s = true := hn _ (by decide +kernel)
  have x3 : (Cond.arrayOf (.field (.string "SawnIceModel" 214) "java/lang/String" "value" "[B") .byte).before args s = true := hn _ (by decide +kernel)
  obtain ⟨adK, adV, h1, h2⟩ := vk_Sof (args := args) (s := s) (N := 1) (tm := fun _ => .string "SawnIceModel" 214) (len := [4]) (byt := [sgB]) (A := fun a : Nat => s.heap.size ≤ a) (fun i hi => by rw [show i = 0 by omega]; decide) (fun i hi => x1) (fun i hi => x2) (fun i hi => x3) (fun i hi => by rw [show i = 0 by omega]; exact hn _ (by decide +kernel)) (fun i hi j hj => by
    rw [show i = 0 by omega] at hj ⊢
    have hj : j < 4 := hj
    rcases (show j = 0 ∨ j = 1 ∨ j = 2 ∨ j = 3 by omega) with e | e | e | e <;> subst e
    · exact hn _ (by decide +kernel)
    · exact hn _ (by decide +kernel)
    · exact hn _ (by decide +kernel)
    · exact hn _ (by decide +kernel)) (fun i j hi hj h => absurd (show i = j by omega) h) hA
  refine ⟨adK 0, adV 0, ⟨⟨fun i hi => ?_, fun i j hi hj _ => by omega⟩, va_Zof (hts _ (tb_in 7 24 (by decide +kernel))) (hts _ (tb_in 1 16 (by decide +kernel))) (va_eqi (hn _ (by decide +kernel))) hA, va_Zqof (hts _ (tb_in 7 32 (by decide +kernel))) (hts _ (tb_in 1 26 (by decide +kernel))) (hn _ (by decide +kernel)) hA⟩, vk_R.of (hts _ (tb_in 7 14 (by decide +kernel))) (h2 0 (by decide))⟩
  rw [show i = 0 by omega]
  exact h1.1 0 (by decide)
end
end
