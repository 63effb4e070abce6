noncomputable section
theorem zz_q : FP.fneg_xor = FP.fneg_xor := rfl
end
