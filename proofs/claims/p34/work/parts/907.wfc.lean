noncomputable section
theorem wfC_law {o : Nat} {ins : Instr} {mj na kd : Nat} (h : wfC o ins mj na kd = true) : ¬ mj = mL_law := by
  unfold wfC at h
  simp only [Bool.and_eq_true] at h
  obtain ⟨⟨⟨⟨⟨⟨⟨-, hnl⟩, -⟩, -⟩, -⟩, -⟩, -⟩, -⟩ := h
  intro q
  subst q
  exact absurd hnl (by decide)
end
