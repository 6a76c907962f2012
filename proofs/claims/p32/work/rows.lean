section
/-! ===== the claim is empty: no launch at all meets its premises (REPORT.md, STATEMENT, p32) ===== -/
/-- the law's class file gives the law's method a table of catches; the premise's first word says that it has none -/
theorem ox_nocode : classFile.hasCode x code maxLocals ret = false := by decide +kernel
theorem ox_empty (l : Launch) : ¬ Lists l classFile x code maxLocals ret tables_1 room_1 := by
  intro h
  obtain ⟨-, hf, hL, -⟩ := h
  have h1 := hL.1 (x, code, maxLocals, ret) (by
    refine List.mem_append.mpr (Or.inl ?_)
    show (x, code, maxLocals, ret) ∈ (Cond.code x code maxLocals ret).codes ++ (allAtoms tables_1).codes
    exact List.mem_append.mpr (Or.inl (List.mem_singleton.mpr rfl)))
  have h2 : ((l.file? x.cls).any fun f => f.hasCode x code maxLocals ret) = true := h1
  rw [hf] at h2
  rw [Option.any_some, ox_nocode] at h2
  cases h2
/-- so no witness can be -/
theorem ox_nowitness : ¬ WitnessClaimed_1 := by
  intro h
  obtain ⟨p, e, s, m, args, below, hA⟩ := h
  exact ox_empty launch0 hA.1
/-- .. and of these premises anything at all is claimed, its contrary too -/
theorem ox_anything (Post : Tables → Env → Array Value → State → Outcome → State → Prop) : ArmFor flags0 classFile x code maxLocals ret World_1 tables_1 room_1 Calls_1 rest_1 Pre_1 Post :=
  fun l _ hL _ => absurd hL (ox_empty l)
end
section
/-- true, for it says nothing: by ox_anything alone; the law's code isn't looked at -/
theorem i_vc : Claimed_1_1 ∧ Claimed_1_2 := ⟨ox_anything _, ox_anything _⟩
end
