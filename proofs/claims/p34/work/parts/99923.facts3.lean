noncomputable section
section
variable {s : State} {args : Array Value}
theorem eqv {t u : Term} {v : Nat} (h : (Cond.eq t u).before args s = true) (hu : u.eval args s none [] s = some (.ref v)) : t.eval args s none [] s = some (.ref v) := by
  cases hv : t.eval args s none [] s with
  | none => simp [Cond.before, Cond.holds, Cond.value, hv] at h
  | some w =>
    simp only [Cond.before, Cond.holds, Cond.value, hv, hu] at h
    cases w <;> simp_all
theorem st_ZX (hts : ∀ w ∈ lw_tbl, w.before args s = true) (hn : ∀ w ∈ flatC (Jvm.Cond.and given_1 narrow_1), w.before args s = true) : ∃ (ka va : Nat → Nat) (tx : Nat), vk_S 13 (txB.map List.length) txB ka va (fun a : Nat => s.heap.size ≤ a) s s.heap ∧ va_Z "java/lang/String" "COMPACT_STRINGS" "Z" (.int 1) (fun a : Nat => s.heap.size ≤ a) s s.heap ∧ va_Zq "jdk/internal/util/Preconditions" "SIOOBE_FORMATTER" BF (fun a : Nat => s.heap.size ≤ a) s s.heap ∧ va_Z RL "TEXTS" "[Ljava/lang/String;" (.ref tx) (fun a : Nat => s.heap.size ≤ a) s s.heap ∧ va_T (.object "java/lang/String") tx 12 (fun j => .ref (ka j)) (fun a : Nat => s.heap.size ≤ a) s s.heap ∧ vk_R RL 143 "rw" (ka 12) s := by
  have hA : ∀ a : Nat, a < s.heap.size → ¬ s.heap.size ≤ a := fun a h => by omega
  have hlen : ∀ i, i < 13 → (txB.map List.length).getD i 0 < 2 ^ 31 := by decide
  obtain ⟨ka, va, h1, h2⟩ := vk_Sof (args := args) (s := s) (N := 13) (tm := tmK) (len := txB.map List.length) (byt := txB) (A := fun a : Nat => s.heap.size ≤ a) hlen (fun i hi => hn _ (x_ex i hi)) (fun i hi => hn _ (x_co i hi)) (fun i hi => hn _ (x_ar i hi)) (fun i hi => hn _ (x_le i hi)) (fun i hi j hj => hn _ (x_el i hi j hj)) (fun i j hi hj h => (x_ne i hi j hj h).elim (fun z => Or.inl (hn _ z)) (fun z => Or.inr (hn _ z))) hA
  obtain ⟨tx, e1, h3⟩ := va_Tof (args := args) (s := s) (tm := txT) (ty := .object "java/lang/String") (N := 12) (f := fun j => .ref (ka j)) (A := fun a : Nat => s.heap.size ≤ a) (by decide) (hn _ x_t0.1) (va_eqt (hn _ x_t0.2)) (fun j hj => eqv (hn _ (x_tx j hj)) (h2 j (by omega))) hA
  exact ⟨ka, va, tx, h1, va_Zof (hts _ (tb_in 4 113 (by decide +kernel))) (hts _ (tb_in 1 15 (by decide +kernel))) (va_eqi (hn _ (by decide +kernel))) hA, va_Zqof (hts _ (tb_in 4 129 (by decide +kernel))) (hts _ (tb_in 1 22 (by decide +kernel))) (hn _ (by decide +kernel)) hA, va_Zref (hts _ (tb_in 4 189 (by decide +kernel))) (hts _ (tb_in 1 0 (by decide +kernel))) e1 hA, h3, vk_R.of (hts _ (tb_in 5 29 (by decide +kernel))) (h2 12 (by decide))⟩
theorem zx_of {A : Nat → Prop} {ad ka va : Nat → Nat} {tx : Nat} (h1 : vk_S 13 (txB.map List.length) txB ka va A s s.heap) (z1 : va_Z "java/lang/String" "COMPACT_STRINGS" "Z" (.int 1) A s s.heap) (z2 : va_Zq "jdk/internal/util/Preconditions" "SIOOBE_FORMATTER" BF A s s.heap) (z3 : va_Z RL "TEXTS" "[Ljava/lang/String;" (.ref tx) A s s.heap) (ht : va_T (.object "java/lang/String") tx 12 (fun j => .ref (ka j)) A s s.heap) (hr : vk_R RL 143 "rw" (ka 12) s) (e1 : ∀ i, i < 13 → ad (220 + i) = ka i) (e2 : ∀ i, i < 13 → ad (240 + i) = va i) (e3 : ad 219 = tx) : ZX A ad s := by
  refine ⟨⟨fun i hi => ?_, fun i j hi hj h => h1.2 i j hi hj ((e1 i hi).symm.trans (h.trans (e1 j hj)))⟩, z1, z2, by rw [e3]; exact z3, ?_, by rw [show ad 232 = ka 12 from e1 12 (by decide)]; exact hr⟩
  · have z := h1.1 i hi
    rw [← e1 i hi, ← e2 i hi] at z
    exact z
  · rw [e3]
    obtain ⟨cell, a1, a2, a3, a4, a5, a6, a7⟩ := ht
    exact ⟨cell, a1, a2, a3, a4, a5, fun j hj => by show cell.slots[j]? = some (Value.ref (ad (220 + j))); rw [e1 j (by omega)]; exact a6 j hj, a7⟩
end
end
