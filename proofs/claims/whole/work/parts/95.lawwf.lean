-- needs: 94
noncomputable section
set_option maxRecDepth 100000 in
theorem wf_L_law_0 : ∀ q ∈ cl_L_law_0, wfE 268 q.1 q.2 = true := by decide +kernel
set_option maxRecDepth 100000 in
theorem wf_L_law_1 : ∀ q ∈ cl_L_law_1, wfE 268 q.1 q.2 = true := by decide +kernel
set_option maxRecDepth 100000 in
theorem wf_L_law_2 : ∀ q ∈ cl_L_law_2, wfE 268 q.1 q.2 = true := by decide +kernel
set_option maxRecDepth 100000 in
theorem wf_L_law_3 : ∀ q ∈ cl_L_law_3, wfE 268 q.1 q.2 = true := by decide +kernel
set_option maxRecDepth 100000 in
theorem wf_L_law_4 : ∀ q ∈ cl_L_law_4, wfE 268 q.1 q.2 = true := by decide +kernel
set_option maxRecDepth 100000 in
theorem wf_L_law_5 : ∀ q ∈ cl_L_law_5, wfE 268 q.1 q.2 = true := by decide +kernel
set_option maxRecDepth 100000 in
theorem wf_L_law_6 : ∀ q ∈ cl_L_law_6, wfE 268 q.1 q.2 = true := by decide +kernel
set_option maxRecDepth 100000 in
theorem wf_L_law_7 : ∀ q ∈ cl_L_law_7, wfE 268 q.1 q.2 = true := by decide +kernel
set_option maxRecDepth 100000 in
theorem wf_L_law_8 : ∀ q ∈ cl_L_law_8, wfE 268 q.1 q.2 = true := by decide +kernel
set_option maxRecDepth 100000 in
theorem wf_L_law_9 : ∀ q ∈ cl_L_law_9, wfE 268 q.1 q.2 = true := by decide +kernel
set_option maxRecDepth 100000 in
theorem wf_L_law_10 : ∀ q ∈ cl_L_law_10, wfE 268 q.1 q.2 = true := by decide +kernel
set_option maxRecDepth 100000 in
theorem wf_L_law_11 : ∀ q ∈ cl_L_law_11, wfE 268 q.1 q.2 = true := by decide +kernel
set_option maxRecDepth 100000 in
theorem wf_L_law_12 : ∀ q ∈ cl_L_law_12, wfE 268 q.1 q.2 = true := by decide +kernel
set_option maxRecDepth 100000 in
theorem wf_L_law_13 : ∀ q ∈ cl_L_law_13, wfE 268 q.1 q.2 = true := by decide +kernel
set_option maxRecDepth 100000 in
theorem wf_L_law_14 : ∀ q ∈ cl_L_law_14, wfE 268 q.1 q.2 = true := by decide +kernel
set_option maxRecDepth 100000 in
theorem wf_L_law_15 : ∀ q ∈ cl_L_law_15, wfE 268 q.1 q.2 = true := by decide +kernel
set_option maxRecDepth 100000 in
theorem wf_L_law_16 : ∀ q ∈ cl_L_law_16, wfE 268 q.1 q.2 = true := by decide +kernel
set_option maxRecDepth 100000 in
theorem wf_L_law_17 : ∀ q ∈ cl_L_law_17, wfE 268 q.1 q.2 = true := by decide +kernel
set_option maxRecDepth 100000 in
theorem wf_L_law_18 : ∀ q ∈ cl_L_law_18, wfE 268 q.1 q.2 = true := by decide +kernel
set_option maxRecDepth 100000 in
theorem wf_L_law_19 : ∀ q ∈ cl_L_law_19, wfE 268 q.1 q.2 = true := by decide +kernel
set_option maxRecDepth 100000 in
theorem wf_L_law_20 : ∀ q ∈ cl_L_law_20, wfE 268 q.1 q.2 = true := by decide +kernel
set_option maxRecDepth 100000 in
theorem wf_L_law_21 : ∀ q ∈ cl_L_law_21, wfE 268 q.1 q.2 = true := by decide +kernel
set_option maxRecDepth 100000 in
theorem wf_L_law_22 : ∀ q ∈ cl_L_law_22, wfE 268 q.1 q.2 = true := by decide +kernel
set_option maxRecDepth 100000 in
theorem wf_L_law_23 : ∀ q ∈ cl_L_law_23, wfE 268 q.1 q.2 = true := by decide +kernel
set_option maxRecDepth 100000 in
theorem wf_L_law_24 : ∀ q ∈ cl_L_law_24, wfE 268 q.1 q.2 = true := by decide +kernel
set_option maxRecDepth 100000 in
theorem wf_L_law_25 : ∀ q ∈ cl_L_law_25, wfE 268 q.1 q.2 = true := by decide +kernel
set_option maxRecDepth 100000 in
theorem wf_L_law_26 : ∀ q ∈ cl_L_law_26, wfE 268 q.1 q.2 = true := by decide +kernel
set_option maxRecDepth 100000 in
theorem wf_L_law_27 : ∀ q ∈ cl_L_law_27, wfE 268 q.1 q.2 = true := by decide +kernel
theorem wd_L_law (pc : Nat) : ∀ q ∈ cd_L_law pc, wfE 268 q.1 q.2 = true := tB (P := fun q : List (Nat × Ent) => ∀ x ∈ q, wfE 268 x.1 x.2 = true) (tB (P := fun q : List (Nat × Ent) => ∀ x ∈ q, wfE 268 x.1 x.2 = true) (tB (P := fun q : List (Nat × Ent) => ∀ x ∈ q, wfE 268 x.1 x.2 = true) (tB (P := fun q : List (Nat × Ent) => ∀ x ∈ q, wfE 268 x.1 x.2 = true) (wf_L_law_0) (tB (P := fun q : List (Nat × Ent) => ∀ x ∈ q, wfE 268 x.1 x.2 = true) (wf_L_law_1) (wf_L_law_2))) (tB (P := fun q : List (Nat × Ent) => ∀ x ∈ q, wfE 268 x.1 x.2 = true) (tB (P := fun q : List (Nat × Ent) => ∀ x ∈ q, wfE 268 x.1 x.2 = true) (wf_L_law_3) (wf_L_law_4)) (tB (P := fun q : List (Nat × Ent) => ∀ x ∈ q, wfE 268 x.1 x.2 = true) (wf_L_law_5) (wf_L_law_6)))) (tB (P := fun q : List (Nat × Ent) => ∀ x ∈ q, wfE 268 x.1 x.2 = true) (tB (P := fun q : List (Nat × Ent) => ∀ x ∈ q, wfE 268 x.1 x.2 = true) (wf_L_law_7) (tB (P := fun q : List (Nat × Ent) => ∀ x ∈ q, wfE 268 x.1 x.2 = true) (wf_L_law_8) (wf_L_law_9))) (tB (P := fun q : List (Nat × Ent) => ∀ x ∈ q, wfE 268 x.1 x.2 = true) (tB (P := fun q : List (Nat × Ent) => ∀ x ∈ q, wfE 268 x.1 x.2 = true) (wf_L_law_10) (wf_L_law_11)) (tB (P := fun q : List (Nat × Ent) => ∀ x ∈ q, wfE 268 x.1 x.2 = true) (wf_L_law_12) (wf_L_law_13))))) (tB (P := fun q : List (Nat × Ent) => ∀ x ∈ q, wfE 268 x.1 x.2 = true) (tB (P := fun q : List (Nat × Ent) => ∀ x ∈ q, wfE 268 x.1 x.2 = true) (tB (P := fun q : List (Nat × Ent) => ∀ x ∈ q, wfE 268 x.1 x.2 = true) (wf_L_law_14) (tB (P := fun q : List (Nat × Ent) => ∀ x ∈ q, wfE 268 x.1 x.2 = true) (wf_L_law_15) (wf_L_law_16))) (tB (P := fun q : List (Nat × Ent) => ∀ x ∈ q, wfE 268 x.1 x.2 = true) (tB (P := fun q : List (Nat × Ent) => ∀ x ∈ q, wfE 268 x.1 x.2 = true) (wf_L_law_17) (wf_L_law_18)) (tB (P := fun q : List (Nat × Ent) => ∀ x ∈ q, wfE 268 x.1 x.2 = true) (wf_L_law_19) (wf_L_law_20)))) (tB (P := fun q : List (Nat × Ent) => ∀ x ∈ q, wfE 268 x.1 x.2 = true) (tB (P := fun q : List (Nat × Ent) => ∀ x ∈ q, wfE 268 x.1 x.2 = true) (wf_L_law_21) (tB (P := fun q : List (Nat × Ent) => ∀ x ∈ q, wfE 268 x.1 x.2 = true) (wf_L_law_22) (wf_L_law_23))) (tB (P := fun q : List (Nat × Ent) => ∀ x ∈ q, wfE 268 x.1 x.2 = true) (tB (P := fun q : List (Nat × Ent) => ∀ x ∈ q, wfE 268 x.1 x.2 = true) (wf_L_law_24) (wf_L_law_25)) (tB (P := fun q : List (Nat × Ent) => ∀ x ∈ q, wfE 268 x.1 x.2 = true) (wf_L_law_26) (wf_L_law_27)))))
theorem cdT_wfL {pc : Nat} {e : Ent} (h : cdT mL_law pc = some e) : wfE mL_law pc e = true := by
  unfold cdT at h
  have h1 : (pc, e) ∈ cdS mL_law pc := lk_mem (cdS mL_law pc) pc e h
  have h2 : cdS mL_law pc = cd_L_law pc := rfl
  rw [h2] at h1
  exact wd_L_law pc (pc, e) h1
end
