/-! ===== the reference's handOut: 2050 cells, all that stood before stands after (a template: wip/tool/t18.txt) ===== -/
theorem ox_hand {l : Launch} {D : va_G} {dA : Nat → ClassId} {ρ : Nat → Nat} {σ : Nat → Int32} {base : Nat} {H0 : Heap} (hE : ox_E ρ base) : ox_Met l D dA ρ σ base H0 ox_sx ox_sL 9 44 [.ref 21] ox_hB (ox_N + 45) ox_rM := by
  intro q hq
  have hq0 : q = ox_q44 := (Option.some.inj hq).symm
  subst hq0
  obtain ⟨hF, hrows⟩ := ox_allP 44 ox_q44 (by decide) rfl
  refine Met.ofW (cc := ox_q44.2.1) (maxL := ox_q44.2.2.1) (ret := ox_q44.2.2.2.1) hF.1 (by rw [ox_mW, ox_cw_code rfl]) ?_
  intro p e s m args below meth c s₁ B hml hP
  obtain ⟨rfl, hH, hK⟩ := hP
  have hts0 := atoms_spec (ws := ox_mW ox_q44) B.pre
  have F : ox_Fx p ox_RM s m (ox_ds ρ σ [.ref 21]).toArray meth c ox_q44.2.1 ox_q44.1.cls ox_q44.1.name ox_q44.2.2.1 8 D dA ρ base H0 ox_sx ox_sL :=
    ⟨B.exec, B.bytes, hml, findClass_of_methodNamed B.named, fun w hw => hts0 w (List.mem_cons_of_mem _ hw), hK, hE, (name_of_methodNamed B.named B.method).1, by decide, by decide⟩
  have hl := lv_entry (ox_ds ρ σ [.ref 21]) (n := ox_q44.2.2.1) (by rw [ox_sl_len]; decide)
  rw [lg_entry_eq]
  generalize (lg_sl (ox_ds ρ σ [.ref 21]) ++ List.replicate (ox_q44.2.2.1 - (lg_sl (ox_ds ρ σ [.ref 21])).length) Slot.unset).toArray = ls at hl ⊢
  rw [ox_dm_args] at hl
  refine ox_segS (ret := ox_q44.2.2.2.1) (k0 := 0) (u0 := 0) F hrows ox_e3 (by show 0 + 2 ≤ 2050; omega) (by show 0 + 8 ≤ 8200; omega) ?_ s.heap [] ls hH (fun _ h => by cases h) hl
  intro H2 locs2 lsA2 hH2 hL2 hl2
  have hsz : H2.size = s.heap.size + 2 := by
    have e1 := hH2.2.2.1 0
    have e2 := hH.2.2.1 2
    exact e1.symm.trans e2
  refine W.cs (cells' := 2 + 8 * 0) (slots' := 8 + 32 * 0) (by show 0 + 2 = _; omega) (by show 0 + 8 = _; omega) (ox_hloop (σ := σ) (hs := s.heap.size) F B.returns B.notSynchronized hH.2.2.1 hH.2.2.2.1.2 256 0 rfl ρ σ H2 locs2 lsA2 hE (fun _ _ => rfl) hH2 (by rw [hsz]) hL2 ?_)
  rw [nI_0]
  exact hl2
