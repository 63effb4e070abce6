-- needs: 9985
noncomputable section
section
variable {p : Program} {l : Launch} {e : Env} {R : Room} {s : State} {m : MethodId} {args : Array Value} {below : List Frame} {meth : Method} {c : Code} {H H0 : Heap} {locs : List Loc} {cells slots : Nat} {Q : State → Prop} {ls : Array Slot} {D : va_G} {ca : Nat → ClassId} {A : Nat → Prop} {tys : List (ClassId × FieldType)} {ws : va_W}
theorem pl8 {r : Nat → Nat} {f : Nat → va_E} {e : va_E} : va_pl ((List.range 8).map r) (vr_up f ((List.range 8).map r) e) = [(r 0, e), (r 1, e), (r 2, e), (r 3, e), (r 4, e), (r 5, e), (r 6, e), (r 7, e)] := by
  have h : ∀ i, i < 8 → vr_up f ((List.range 8).map r) e (r i) = e := fun i hi => vr_up_in (List.mem_map.mpr ⟨i, List.mem_range.mpr hi, rfl⟩)
  show [(r 0, vr_up f ((List.range 8).map r) e (r 0)), (r 1, vr_up f ((List.range 8).map r) e (r 1)), (r 2, vr_up f ((List.range 8).map r) e (r 2)), (r 3, vr_up f ((List.range 8).map r) e (r 3)), (r 4, vr_up f ((List.range 8).map r) e (r 4)), (r 5, vr_up f ((List.range 8).map r) e (r 5)), (r 6, vr_up f ((List.range 8).map r) e (r 6)), (r 7, vr_up f ((List.range 8).map r) e (r 7))] = _
  rw [h 0 (by decide), h 1 (by decide), h 2 (by decide), h 3 (by decide), h 4 (by decide), h 5 (by decide), h 6 (by decide), h 7 (by decide)]
/-- an array of rows -/
theorem jMn {pc index K' t0 : Nat} {ty : FieldType} {co ci9 : ClassId} {z : vp_A} {k n : Int32} {rest : List Value} (hx : p.tables.exec = Jvm.exec) (hb : c.code = cB mX11_init) (hown : s.vm.findClass (oN (cO mX11_init)) = some m.cls) (hts : ∀ w ∈ wAll, w.before args s = true) (w1 : Cond.classLink (oN (cO mX11_init)) index ("[" ++ (FieldType.array ty).toString) ∈ wAll) (hO : AOA ty s) (w2 : Cond.arrayClass ty ∈ wAll) (hcy : s.vm.findClass (FieldType.array ty).toString = some ci9) (hK : va_K D vcls (tysOf ca) s) (ht : (tysOf ca)[t0]? = some (co, .array ty)) (hP : va_P D vcls ws H) (hD : va_D A ws) (hS : va_S A H0 H locs) (hA : ∀ q, H0.size ≤ q → A q)
    (hn : ¬ n < 0) (hk : ¬ k < 0) (hN : n.toNatClampNeg = 8) (hM : k.toNatClampNeg = K') (hb2 : K' * componentBytes ty ≤ 536870912) (hb3 : K' ≤ 536870912) (hdf : fits ty (defaultValue ty) = true) (hdd : (defaultValue ty).isDefault = true) (hcells : cells + (1 + 8) ≤ R.cells) (hslots : slots + (8 + 8 * K') ≤ R.slots) (hz : ∀ c : ClassId, Jvm.Free.Multi.innerC c K' (defaultValue ty) = vp_cell c z) (hdg : decode (cB mX11_init) pc = .ok (.multianewarray index 2, 4))
    (kk : ∀ (q : Nat) (r : Nat → Nat) (H1 : Heap), va_P D vcls (ws ++ ((q, .inl (co, 8, .inr (.inr (.inr (.inr (fun i => if i < 8 then some (r i) else none)))))) :: [(r 0, .inl (ci9, z)), (r 1, .inl (ci9, z)), (r 2, .inl (ci9, z)), (r 3, .inl (ci9, z)), (r 4, .inl (ci9, z)), (r 5, .inl (ci9, z)), (r 6, .inl (ci9, z)), (r 7, .inl (ci9, z))])) H1 → va_D A (ws ++ ((q, .inl (co, 8, .inr (.inr (.inr (.inr (fun i => if i < 8 then some (r i) else none)))))) :: [(r 0, .inl (ci9, z)), (r 1, .inl (ci9, z)), (r 2, .inl (ci9, z)), (r 3, .inl (ci9, z)), (r 4, .inl (ci9, z)), (r 5, .inl (ci9, z)), (r 6, .inl (ci9, z)), (r 7, .inl (ci9, z))])) → va_S A H0 H1 locs → W p l e R s m args below meth c H1 locs (cells + 1 + 8) (slots + 8 + 8 * K') Q (F0 m (pc + 4) ls (.ref q :: rest))) : W p l e R s m args below meth c H locs cells slots Q (F0 m pc ls (.int k :: .int n :: rest)) := by
  have e0 : ws ++ va_pl [] (fun _ => (.inl (ci9, z) : va_E)) = ws := List.append_nil ws
  refine va_mna (X := ws) (L := []) (f := fun _ => .inl (ci9, z)) hx hb hown (hts _ w1) hO (hts _ w2) hcy hK (by rw [e0]; exact hP) (by rw [e0]; exact hD) hS hA hn hk hN hM (by decide) hb2 hb3 hdf hdd hcells hslots hz hdg (fun q r cA H1 _ _ hK1 hP1 hD1 hS1 => ?_)
  have e1 : (tysOf ca ++ [(cA, .array ty)])[(tysOf ca).length]? = some (cA, .array ty) := by rw [List.getElem?_append_right (Nat.le_refl _), Nat.sub_self]; rfl
  have e2 := ra_inj (hK1.2 _ _ e1).2 (hK.2 _ _ ht).2
  have e2 : cA = co := e2
  subst e2
  rw [List.nil_append, pl8, List.append_assoc] at hP1 hD1
  exact kk q r H1 hP1 hD1 hS1
end
end
