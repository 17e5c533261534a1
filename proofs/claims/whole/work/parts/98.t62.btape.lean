/-! ===== the tape's bytes ===== -/
theorem r_by : ∀ x : Fin 256, r_sg ((vp_nar .byte (Int8.ofBitVec (BitVec.ofFin x)).toInt32).toInt8.toBitVec.toNat) = vp_nar .byte (Int8.ofBitVec (BitVec.ofFin x)).toInt32 := by decide +kernel
section
variable {t : Nat} {V0 V7 : zV}
theorem r_tape (h : y_tp t V0 V7) : ∃ b : Nat → Nat, r_cb b t V0 ∧ r_tp b t V7 := by
  obtain ⟨h1, h2, h3, h4⟩ := h
  have lt : ∀ i, (zA V7 1 i).toInt8.toBitVec.toNat < 256 := fun i => (zA V7 1 i).toInt8.toBitVec.isLt
  have e : ∀ i, i < t → zA V7 1 i = r_sg ((zA V7 1 i).toInt8.toBitVec.toNat) := by
    intro i hi
    obtain ⟨-, z, hz⟩ := h4 i hi
    rw [hz]
    exact (r_by z.toBitVec.toFin).symm
  exact ⟨fun i => (zA V7 1 i).toInt8.toBitVec.toNat, ⟨h1, lt, fun i hi => (h4 i hi).1.trans (e i hi)⟩, ⟨h1, lt, h3, e⟩⟩
end
