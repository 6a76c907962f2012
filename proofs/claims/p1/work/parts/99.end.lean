/-- the witness claim holds, at our own start: only its printed proof falls (M75) -/
theorem ox_witness : WitnessClaimed_1 := ⟨oy1.p0, oy1.e0, oy1.about, ⟨0, 0⟩, oy1.args0, Lib.HandBits.below0, oy1.atStart⟩
