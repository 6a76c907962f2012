/-- true, for it says nothing: by ox_anything alone; the law's code isn't looked at -/
theorem i_vc : Claimed_1_1 ∧ Claimed_1_2 := ⟨ox_anything _, ox_anything _⟩
