/-! ===== the law on that script: six targets, then handOut again and again; it answers 1, having made 922545 cells (a template: wip/tool/t19.txt) ===== -/
section OXL1
variable {D : va_G} {dA : Nat → ClassId} {ρ ρ1 : Nat → Nat} {σ σ1 : Nat → Int32} {base : Nat} {H0 : Heap} {n0 : Nat}
theorem ox_dm_ren (hag : ∀ q, q < n0 → ρ1 q = ρ q) {ls : ox_L} (hb : (ls.all fun x => match x.2 with
    | .ref q => Nat.blt q n0
    | _ => true) = true) : ox_dm ρ1 σ ls = ox_dm ρ σ ls := by
  apply List.map_congr_left
  intro x hx
  have h := List.all_eq_true.mp hb x hx
  obtain ⟨i, v⟩ := x
  cases v with
  | ref q =>
    have h2 : Nat.blt q n0 = true := h
    show (i, Value.ref (ρ1 q)) = (i, Value.ref (ρ q))
    rw [hag q (Nat.le_of_ble_eq_true h2)]
  | _ => rfl
end OXL1
section OXF2
variable {p : Program} {l : Launch} {e : Env} {R : Room} {s : State} {m : MethodId} {args : Array Value} {below : List Frame} {meth : Method} {c : Code} {Q : State → Prop}
variable {cc : ByteArray} {own mname : String} {nL d : Nat} {ret : Option FieldType}
variable {D : va_G} {dA : Nat → ClassId} {ρ : Nat → Nat} {σ : Nat → Int32} {base : Nat} {H0 : Heap} {sx : Nat → Int32} {sL : Nat} {nx k0 u0 : Nat} {tab : List (Nat × ox_I)}
theorem ox_segF (F : ox_Fx p R s m args meth c cc own mname nL d D dA ρ base H0 sx sL) (htab : ∀ pc w, ox_row tab pc = some w → ox_rok own mname nL ret cc pc w) {stop n : Nat} {f g : ox_F}
    (he : ox_isF (ox_seg sx sL (ox_exec sx sL d) tab nx stop n f) g = true) (hk : k0 + g.2.2.2.2.1 ≤ R.cells) (hu : u0 + g.2.2.2.2.2 ≤ R.slots)
    (hV : ox_V p l e R s m args below meth c Q nL D dA ρ σ base H0 k0 u0 nx g) : ox_V p l e R s m args below meth c Q nL D dA ρ σ base H0 k0 u0 nx f :=
  (ox_seg_ok F htab (ox_exec_ok ox_allP F.2.2.2.2.2.2.1 d) n f _ (ox_isF_ok he)).2.2 hk hu hV
end OXF2
theorem ox_dl0 : decode code 27 = .ok (.iload 4, 2) := by decide +kernel
theorem ox_dl1 : decode code 29 = .ok (.aload_n 0, 1) := by decide +kernel
theorem ox_dl2 : decode code 30 = .ok (.arraylength, 1) := by decide +kernel
theorem ox_dl3 : decode code 31 = .ok (.bipush 6, 2) := by decide +kernel
theorem ox_dl4 : decode code 33 = .ok (.isub, 1) := by decide +kernel
theorem ox_dl5 : decode code 34 = .ok (.if_icmp .gt 1203, 3) := by decide +kernel
theorem ox_dl6 : decode code 37 = .ok (.aload_n 0, 1) := by decide +kernel
theorem ox_dl7 : decode code 38 = .ok (.iload 4, 2) := by decide +kernel
theorem ox_dl8 : decode code 40 = .ok (.iaload, 1) := by decide +kernel
theorem ox_dl9 : decode code 41 = .ok (.bipush 31, 2) := by decide +kernel
theorem ox_dl10 : decode code 43 = .ok (.iand, 1) := by decide +kernel
theorem ox_dl11 : decode code 44 = .ok (.tableswitch 1187 0 28 #[132, 196, 236, 264, 320, 372, 400, 440, 532, 612, 628, 644, 684, 712, 728, 756, 796, 836, 876, 916, 956, 984, 997, 1013, 1065, 1105, 1133, 1161, 1174], 132) := by decide +kernel
theorem ox_dl12 : decode code 1231 = .ok (.iinc 4 6, 3) := by decide +kernel
theorem ox_dl13 : decode code 1234 = .ok (.goto (-1207), 3) := by decide +kernel
theorem ox_dl14 : decode code 1237 = .ok (.iconst 1, 1) := by decide +kernel
theorem ox_dl15 : decode code 1238 = .ok (.ireturn, 1) := by decide +kernel
abbrev ox_RL : Room := { frames := 13, cells := 922545, slots := 3690493, locals := 64 * 13 }
theorem ox_sx13 (k : Nat) : ox_sx (36 + 6 * k) = 13 := by
  have h1 : (36 + 6 * k) % 6 = 0 := by omega
  have h2 : ¬ 36 + 6 * k < 36 := by omega
  unfold ox_sx
  rw [h1]
  simp only [if_neg h2]
theorem ox_lim : Int32.ofNat ox_sL - 6 = nI 2730 := by decide +kernel
theorem ox_get0 : ∃ vs : List Value, ox_get ox_hB 21 = some (ox_q44.2.2.2.2.2.1, vs) := by
  have h : (ox_get ox_hB 21).any (fun x => Nat.beq x.1 ox_q44.2.2.2.2.2.1) = true := by decide +kernel
  cases hg : ox_get ox_hB 21 with
  | none => rw [hg] at h; cases h
  | some x =>
    rw [hg] at h
    obtain ⟨t, vs⟩ := x
    exact ⟨vs, by rw [Nat.eq_of_beq_eq_true (show Nat.beq t ox_q44.2.2.2.2.2.1 = true from h)]⟩
theorem ox_tab0 : ∀ pc w, ox_row ox_i0 pc = some w → ox_rok "OpenlineLaw" "law" ox_q0.2.2.1 (some .boolean) code pc w := fun pc w h => ox_r0 (pc, w) (ox_row_mem h)
theorem ox_row0 : ox_row ox_i0 764 = some (.invokevirtual 160, 44, 0, 5) := rfl
theorem ox_cf0h : decode code 764 = .ok (.invokevirtual 160, 3) ∧ ox_cf "OpenlineLaw" 160 5 0 ox_q44 := by
  obtain ⟨h1, q, h2, h3⟩ := ox_tab0 _ _ ox_row0
  have hq : q = ox_q44 := (Option.some.inj h2).symm
  subst hq
  exact ⟨h1, h3⟩
section OXL2
variable {D : va_G} {dA : Nat → ClassId} {ρ : Nat → Nat} {base : Nat} {H0 : Heap}
variable {p : Program} {l : Launch} {e : Env} {s : State} {m : MethodId} {args : Array Value} {below : List Frame} {meth : Method} {c : Code} {Q : State → Prop}
set_option maxHeartbeats 4000000 in
/-- from a call of the reference's handOut to the head of the law's loop -/
theorem ox_lturn (F : ox_Fx p ox_RL s m args meth c code "OpenlineLaw" "law" ox_q0.2.2.1 12 D dA ρ base H0 ox_sx ox_sL) {t : Nat} (ht : t ≤ 449) {ρ1 : Nat → Nat} {H : Heap} {locs : List Loc} {lsA : Array Slot} (hE1 : ox_E ρ1 base) (hag : ∀ q, q < 8 → ρ1 q = ρ q)
    (hH : ox_HR D dA ρ1 (fun _ => nI (36 + 6 * t)) base H0 ox_hB (ox_N + 45) H) (hL : ∀ z ∈ locs, base ≤ z.base) (hl : lv_has lsA ox_q0.2.2.1 (ox_dm ρ1 (fun _ => nI (36 + 6 * t)) ox_LK))
    (kk : ∀ (ρ2 : Nat → Nat) (H2 : Heap) (locs2 : List Loc) (lsA2 : Array Slot), ox_E ρ2 base → (∀ q, q < 8 → ρ2 q = ρ q) → ox_HR D dA ρ2 (fun _ => nI (36 + 6 * (t + 1))) base H0 ox_hB (ox_N + 45) H2 → H2.size = H.size + 2050 → (∀ z ∈ locs2, base ≤ z.base) →
      lv_has lsA2 ox_q0.2.2.1 (ox_dm ρ2 (fun _ => nI (36 + 6 * (t + 1))) ox_L2) → W p l e ox_RL s m args below meth c H2 locs2 (45 + 2050 * (t + 1)) (493 + 8200 * (t + 1)) Q (F0 m 27 lsA2 [])) :
    W p l e ox_RL s m args below meth c H locs (45 + 2050 * t) (493 + 8200 * t) Q (F0 m 764 lsA [.ref (ρ1 21)]) := by
  obtain ⟨hx, hb, hml, hown, hts, hK, hE, hname, hR⟩ := F
  obtain ⟨vs, hvs⟩ := ox_get0
  have hK1 : ox_K D dA ρ1 base H0 ox_sx ox_sL s := hK.ren hag
  refine ox_W_virt (av := []) (x := 21) (rst := []) (q := ox_q44) hx hb hml hown hts hK1 hH hL (ox_hand hE1) rfl ox_cf0h.2 hvs (by decide) rfl hl.1 (by decide) ox_cf0h.1 (by refine ⟨?_, ?_⟩; (show 45 + 2050 * t + 2050 ≤ 922545; omega); (show 493 + 8200 * t + 8200 ≤ 3690493; omega)) ?_
  intro H1 locs1 hH1 hL1
  have hsz : H1.size = H.size + 2050 := by
    have e1 := hH1.2.2.1 0
    have e2 := hH.2.2.1 2050
    exact e1.symm.trans e2
  obtain ⟨ρ2, E2, a2, b2, c2⟩ := ox_reset (n1 := ox_N + 45) hH1 hE1 (by show 8 ≤ 8 + 45; omega) (Nat.le_add_right _ _)
  have hag2 : ∀ q, q < 8 → ρ2 q = ρ q := fun q hq => (c2 q (by show q < 8 + 45; omega)).trans (hag q hq)
  have hH2 : ox_HR D dA ρ2 (fun _ => nI (36 + 6 * t)) base H0 ox_hB (ox_N + 45) H1 := hH1.ren (n0 := ox_N + 45) ox_e8 ox_e6 ox_e7 c2 (Nat.le_refl _) (by show 8 ≤ 8 + 45; omega) a2 b2
  have F2 : ox_Fx p ox_RL s m args meth c code "OpenlineLaw" "law" ox_q0.2.2.1 12 D dA ρ2 base H0 ox_sx ox_sL := ⟨hx, hb, hml, hown, hts, hK.ren hag2, E2, hname, hR⟩
  have hl2 : lv_has lsA ox_q0.2.2.1 (ox_dm ρ2 (fun _ => nI (36 + 6 * t)) ox_LK) := by
    rw [ox_dm_ren (σ := fun _ => nI (36 + 6 * t)) c2 (by decide +kernel)]
    exact hl
  refine ox_segF (ret := some .boolean) (k0 := 45 + 2050 * t + 2050) (u0 := 493 + 8200 * t + 8200) F2 ox_tab0 ox_e1 (by show 45 + 2050 * t + 2050 + 0 ≤ 922545; omega) (by show 493 + 8200 * t + 8200 + 0 ≤ 3690493; omega) ?_ H1 locs1 lsA hH2 hL1 hl2
  intro H3 locs3 lsA3 hH3 hL3 hl3
  have hsz3 : H3.size = H1.size := (hH3.2.2.1 0).symm.trans (hH2.2.2.1 0)
  have hH4 : ox_HR D dA ρ2 (fun _ => nI (36 + 6 * (t + 1))) base H0 ox_hB (ox_N + 45) H3 := hH3.ren (n0 := ox_N + 45) ox_e8 ox_e6 ox_e7 (fun _ _ => rfl) (Nat.le_refl _) (by show 8 ≤ 8 + 45; omega) (fun j => hH3.2.2.1 j) (fun q hq => hH3.2.2.2.1.2 q hq)
  refine lv_iinc (k := 2) (v := nI (36 + 6 * (t + 1))) (lv' := ox_dm ρ2 (fun _ => nI (36 + 6 * (t + 1))) ox_L2) hx hb ox_dl12 hl3 rfl ((nI_add (36 + 6 * t) 6).trans (congrArg nI (by omega))) (by decide) rfl (fun ls' hl4 => ?_)
  refine lv_goto (tgt := 27) hx hb ox_dl13 (by decide) ?_
  exact W.cs (cells' := 45 + 2050 * (t + 1)) (slots' := 493 + 8200 * (t + 1)) (by show 45 + 2050 * t + 2050 + 0 = _; omega) (by show 493 + 8200 * t + 8200 + 0 = _; omega) (kk ρ2 H3 locs3 ls' E2 hag2 hH4 (by rw [hsz3, hsz]) hL3 hl4)
def ox_QL (hs : Nat) : Array Value → State → Outcome → State → Prop := fun _ _ o t => o = .returned (some (.int 1)) ∧ t.heap.size = hs + 922545
set_option maxHeartbeats 4000000 in
theorem ox_lloop (F : ox_Fx p ox_RL s m args meth c code "OpenlineLaw" "law" ox_q0.2.2.1 12 D dA ρ base H0 ox_sx ox_sL) (hret : meth.sig.returnType = some .boolean) (hlocks : meth.locks = false) {hs : Nat} :
    ∀ (j t : Nat), t + j = 449 → ∀ (ρ1 : Nat → Nat) (H : Heap) (locs : List Loc) (lsA : Array Slot), ox_E ρ1 base → (∀ q, q < 8 → ρ1 q = ρ q) → ox_HR D dA ρ1 (fun _ => nI (36 + 6 * t)) base H0 ox_hB (ox_N + 45) H → H.size = hs + 45 + 2050 * t → (∀ z ∈ locs, base ≤ z.base) →
      lv_has lsA ox_q0.2.2.1 (ox_dm ρ1 (fun _ => nI (36 + 6 * t)) ox_LK) →
      W p l e ox_RL s m args below meth c H locs (45 + 2050 * t) (493 + 8200 * t) (MQ below (ox_QL hs) args s 922545 3690493 (fun z => base ≤ z)) (F0 m 764 lsA [.ref (ρ1 21)]) := by
  intro j
  induction j with
  | zero =>
    intro t ht ρ1 H locs lsA hE1 hag hH hz hL hl
    have ht : t = 449 := by omega
    subst ht
    refine ox_lturn F (Nat.le_refl _) hE1 hag hH hL hl ?_
    intro ρ2 H2 locs2 ls2 E2 hag2 hH2 hz2 hL2 hl2
    obtain ⟨hx, hb, hml, hown, hts, hK, hE, hname, hR⟩ := F
    have hK2 : ox_K D dA ρ2 base H0 ox_sx ox_sL s := hK.ren hag2
    refine lv_iload hx hb ox_dl0 (lv_at hl2 0 rfl) ?_
    refine lv_aload_n hx hb ox_dl1 rfl (lv_at hl2 6 rfl) ?_
    refine ox_W_slen hx hb hK2 E2 hH2 ox_dl2 ?_
    refine lv_bipush (v := 6) hx hb ox_dl3 (by decide +kernel) ?_
    refine lv_isub hx hb ox_dl4 ?_
    rw [ox_lim]
    refine ox_W_icmp (tgt := 1237) hx hb ox_dl5 (by decide) (fun _ => ?_) (fun h => absurd h (by decide +kernel))
    refine lv_iconst (v := 1) hx hb ox_dl14 (by decide +kernel) ?_
    exact W.cs (by rfl) (by rfl) (W.zret hx hb hret (by rfl) (fun t ht _ => ⟨rfl, by have h1 := hz2; have h2 := hz; rw [ht]; omega⟩) hL2 ox_dl15 hlocks)
  | succ j ih =>
    intro t ht ρ1 H locs lsA hE1 hag hH hz hL hl
    refine ox_lturn F (by omega) hE1 hag hH hL hl ?_
    generalize hq : t + 1 = t1
    have hz1 : H.size + 2050 = hs + 45 + 2050 * t1 := by omega
    intro ρ2 H2 locs2 ls2 E2 hag2 hH2 hz2 hL2 hl2
    have F0' := F
    obtain ⟨hx, hb, hml, hown, hts, hK, hE, hname, hR⟩ := F
    have hK2 : ox_K D dA ρ2 base H0 ox_sx ox_sL s := hK.ren hag2
    have F2 : ox_Fx p ox_RL s m args meth c code "OpenlineLaw" "law" ox_q0.2.2.1 12 D dA ρ2 base H0 ox_sx ox_sL := ⟨hx, hb, hml, hown, hts, hK2, E2, hname, hR⟩
    have hlt : 36 + 6 * t1 ≤ 2730 := by omega
    refine lv_iload hx hb ox_dl0 (lv_at hl2 0 rfl) ?_
    refine lv_aload_n hx hb ox_dl1 rfl (lv_at hl2 6 rfl) ?_
    refine ox_W_slen hx hb hK2 E2 hH2 ox_dl2 ?_
    refine lv_bipush (v := 6) hx hb ox_dl3 (by decide +kernel) ?_
    refine lv_isub hx hb ox_dl4 ?_
    rw [ox_lim]
    refine ox_W_icmp (tgt := 1237) hx hb ox_dl5 (by decide) (fun h => absurd (of_decide_eq_true h) (nI_nlt hlt (by omega))) (fun _ => ?_)
    refine lv_aload_n hx hb ox_dl6 rfl (lv_at hl2 6 rfl) ?_
    refine lv_iload hx hb ox_dl7 (lv_at hl2 0 rfl) ?_
    refine ox_W_sld hx hb hK2 E2 hH2 (nI_pos (by omega)) (by rw [nI_clamp (by omega)]; show 36 + 6 * t1 < 2736; omega) ox_dl8 ?_
    rw [nI_clamp (by omega), ox_sx13]
    refine lv_bipush (v := 31) hx hb ox_dl9 (by decide +kernel) ?_
    refine lv_iand hx hb ox_dl10 ?_
    refine lv_tableIn (off := 712) (tgt := 756) hx hb ox_dl11 (by decide +kernel) (by decide +kernel) (by decide +kernel) (by decide) ?_
    refine ox_segF (ret := some .boolean) (k0 := 45 + 2050 * t1) (u0 := 493 + 8200 * t1) F2 ox_tab0 ox_e2 (by show 45 + 2050 * t1 + 0 ≤ 922545; omega) (by show 493 + 8200 * t1 + 0 ≤ 3690493; omega) ?_ H2 locs2 ls2 hH2 hL2 hl2
    intro H3 locs3 lsA3 hH3 hL3 hl3
    have hsz3 : H3.size = H2.size := (hH3.2.2.1 0).symm.trans (hH2.2.2.1 0)
    exact ih t1 (by omega) ρ2 H3 locs3 lsA3 E2 hag2 hH3 (by rw [hsz3, hz2, hz1]) hL3 (lv_sub hl3 [0, 1, 3, 4, 5, 6] rfl)
end OXL2
set_option maxHeartbeats 4000000 in
theorem ox_law {l : Launch} {D : va_G} {dA : Nat → ClassId} {ρ : Nat → Nat} {base : Nat} {H0 : Heap} (hE : ox_E ρ base) {hs : Nat} :
    Met l x (Cond.code x code maxLocals ret :: tables_1) ox_RL (fun a U => ox_pc D dA ρ (fun _ => nI 36) base H0 ox_sx ox_sL [.ref 0] [(1, (66, []))] ox_N a U ∧ U.heap.size = hs) (ox_QL hs) 922545 3690493 (fun z => base ≤ z) := by
  refine Met.ofW (cc := code) (maxL := maxLocals) (ret := ret) (by decide +kernel) rfl ?_
  intro p e s m args below meth c s₁ B hml hP
  obtain ⟨⟨rfl, hH, hK⟩, hs0⟩ := hP
  have hts0 : ∀ w ∈ (Cond.code x code maxLocals ret :: tables_1), w.before (ox_ds ρ (fun _ => nI 36) [.ref 0]).toArray s = true := atoms_spec (ws := Cond.code x code maxLocals ret :: tables_1) B.pre
  have hts : ∀ w ∈ lw_tbl, w.before (ox_ds ρ (fun _ => nI 36) [.ref 0]).toArray s = true := k2_hts_sels lw_privs (fun w hw => hts0 w (List.mem_cons_of_mem _ hw)) lw_privs_ok
  have F : ox_Fx p ox_RL s m (ox_ds ρ (fun _ => nI 36) [.ref 0]).toArray meth c code "OpenlineLaw" "law" ox_q0.2.2.1 12 D dA ρ base H0 ox_sx ox_sL :=
    ⟨B.exec, B.bytes, hml, findClass_of_methodNamed B.named, fun w hw => hts w (List.mem_filter.mp hw).1, hK, hE, (name_of_methodNamed B.named B.method).1, by decide, by decide⟩
  have hl := lv_entry (ox_ds ρ (fun _ => nI 36) [.ref 0]) (n := maxLocals) (by rw [ox_sl_len]; decide)
  rw [lg_entry_eq]
  generalize (lg_sl (ox_ds ρ (fun _ => nI 36) [.ref 0]) ++ List.replicate (maxLocals - (lg_sl (ox_ds ρ (fun _ => nI 36) [.ref 0])).length) Slot.unset).toArray = ls at hl ⊢
  rw [ox_dm_args] at hl
  refine ox_segF (ret := some .boolean) (k0 := 0) (u0 := 0) F ox_tab0 ox_e0 (by decide) (by decide) ?_ s.heap [] ls hH (fun _ h => by cases h) hl
  intro H2 locs2 lsA2 hH2 hL2 hl2
  have hsz : H2.size = s.heap.size + 45 := by
    have e1 := hH2.2.2.1 0
    have e2 := hH.2.2.1 45
    exact e1.symm.trans e2
  exact W.cs (cells' := 45 + 2050 * 0) (slots' := 493 + 8200 * 0) (by show 0 + 45 = _; omega) (by show 0 + 493 = _; omega) (ox_lloop F B.returns B.notSynchronized (hs := hs) 449 0 rfl ρ H2 locs2 lsA2 hE (fun _ _ => rfl) hH2 (by rw [hsz, hs0]) hL2 (lv_sub hl2 [0, 1, 3, 4, 5, 6] rfl))
