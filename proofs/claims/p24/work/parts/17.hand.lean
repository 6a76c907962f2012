/-! ===== other names for the same cells; the reference's handOut makes 2050 cells (a template: wip/tool/t17.txt) ===== -/
theorem ox_allP : ox_all := by
  intro M q h0 hq
  cases M with
  | zero => exact absurd rfl h0
  | succ M =>
    have h1 : ox_mt = ox_q0 :: ox_mt1 := rfl
    rw [h1, List.getElem?_cons_succ] at hq
    exact ox_allok q (List.mem_of_getElem? hq)
section OXH
variable {D : va_G} {dA : Nat → ClassId} {ρ ρ1 : Nat → Nat} {σ σ1 : Nat → Int32} {base : Nat} {H0 H : Heap} {hp hp1 : ox_H} {nx n0 n1 : Nat} {sx : Nat → Int32} {sL : Nat} {U : State}
theorem ox_ds_ren (hag : ∀ q, q < n0 → ρ1 q = ρ q) {vs : List Value} (hb : (vs.all fun v => match v with
    | .ref q => Nat.blt q n0
    | .retAddr _ => false
    | _ => true) = true) : ox_ds ρ1 σ1 vs = ox_ds ρ σ vs := by
  apply List.map_congr_left
  intro v hv
  have h := List.all_eq_true.mp hb v hv
  cases v with
  | ref q =>
    have h2 : Nat.blt q n0 = true := h
    show Value.ref (ρ1 q) = Value.ref (ρ q)
    rw [hag q (Nat.le_of_ble_eq_true h2)]
  | retAddr k => cases h
  | _ => rfl
theorem ox_HR.ren (h : ox_HR D dA ρ σ base H0 hp nx H) (hsub : ox_sub hp1 hp = true) (hbel : ox_below n0 hp1 = true) (hkey : (hp1.all fun x => Nat.blt x.1 n0) = true) (hag : ∀ q, q < n0 → ρ1 q = ρ q) (hn : n0 ≤ n1) (h8 : 8 ≤ n1)
    (h3 : ∀ j, ρ1 (n1 + j) = H.size + j) (h4 : ∀ q, q < n1 → ρ1 q < H.size) : ox_HR D dA ρ1 σ1 base H0 hp1 n1 H := by
  refine ⟨h.1, h.2.1, h3, ⟨h8, h4⟩, fun q t vs hq => ?_⟩
  have hmem := ox_get_mem hq
  have hk : q < n0 := Nat.le_of_ble_eq_true (List.all_eq_true.mp hkey _ hmem)
  obtain ⟨g1, g2⟩ := h.2.2.2.2 q t vs (ox_sub_ok hsub hq)
  refine ⟨by omega, ?_⟩
  rw [hag q hk, ox_ds_ren hag (List.all_eq_true.mp hbel _ hmem)]
  exact g2
theorem ox_reset (h : ox_HR D dA ρ σ base H0 hp nx H) (hE : ox_E ρ base) (h8 : 8 ≤ n1) (hn : n1 ≤ nx) : ∃ ρ1 : Nat → Nat, ox_E ρ1 base ∧ (∀ j, ρ1 (n1 + j) = H.size + j) ∧ (∀ q, q < n1 → ρ1 q < H.size) ∧ ∀ q, q < n1 → ρ1 q = ρ q := by
  have hlt : ∀ q, q < n1 → ρ q < H.size := fun q hq => h.2.2.2.1.2 q (by omega)
  refine ⟨fun q => if q < n1 then ρ q else H.size + (q - n1), ⟨fun q hq => ?_, fun q q' h1 h2 h3 => ?_, fun q hq => ?_⟩, fun j => ?_, fun q hq => ?_, fun q hq => ?_⟩
  · by_cases hq1 : q < n1
    · show base ≤ if q < n1 then ρ q else H.size + (q - n1)
      rw [if_pos hq1]; exact hE.1 q hq
    · show base ≤ if q < n1 then ρ q else H.size + (q - n1)
      rw [if_neg hq1]; have := h.2.1; omega
  · have h3 : (if q < n1 then ρ q else H.size + (q - n1)) = if q' < n1 then ρ q' else H.size + (q' - n1) := h3
    by_cases a1 : q < n1 <;> by_cases a2 : q' < n1
    · rw [if_pos a1, if_pos a2] at h3; exact hE.2.1 q q' h1 h2 h3
    · rw [if_pos a1, if_neg a2] at h3; have := hlt q a1; omega
    · rw [if_neg a1, if_pos a2] at h3; have := hlt q' a2; omega
    · rw [if_neg a1, if_neg a2] at h3; omega
  · show (if q < n1 then ρ q else H.size + (q - n1)) < base
    rw [if_pos (by omega)]; exact hE.2.2 q hq
  · show (if n1 + j < n1 then ρ (n1 + j) else H.size + (n1 + j - n1)) = H.size + j
    rw [if_neg (by omega)]; omega
  · show (if q < n1 then ρ q else H.size + (q - n1)) < H.size
    rw [if_pos hq]; exact hlt q hq
  · show (if q < n1 then ρ q else H.size + (q - n1)) = ρ q
    rw [if_pos hq]
theorem ox_K.ren (h : ox_K D dA ρ base H0 sx sL U) (hag : ∀ q, q < 8 → ρ1 q = ρ q) : ox_K D dA ρ1 base H0 sx sL U := by
  obtain ⟨h1, h2, h3, h4, h5, h6, h7, h8, h9⟩ := h
  exact ⟨h1, h2, h3, h4, by rw [hag 1 (by omega)]; exact h5, h6, by rw [hag 2 (by omega)]; exact h7, by rw [hag 0 (by omega)]; exact h8, h9⟩
theorem ox_HR.sub (h : ox_HR D dA ρ σ base H0 hp nx H) (hs : ox_sub hp1 hp = true) : ox_HR D dA ρ σ base H0 hp1 nx H :=
  ⟨h.1, h.2.1, h.2.2.1, h.2.2.2.1, fun q t vs hq => h.2.2.2.2 q t vs (ox_sub_ok hs hq)⟩
end OXH
section OXF
variable {p : Program} {l : Launch} {e : Env} {R : Room} {s : State} {m : MethodId} {args : Array Value} {below : List Frame} {meth : Method} {c : Code} {Q : State → Prop}
variable {cc : ByteArray} {own mname : String} {nL d : Nat} {ret : Option FieldType}
variable {D : va_G} {dA : Nat → ClassId} {ρ : Nat → Nat} {σ : Nat → Int32} {base : Nat} {H0 : Heap} {sx : Nat → Int32} {sL : Nat} {nx k0 u0 : Nat} {tab : List (Nat × ox_I)}
theorem ox_segS (F : ox_Fx p R s m args meth c cc own mname nL d D dA ρ base H0 sx sL) (htab : ∀ pc w, ox_row tab pc = some w → ox_rok own mname nL ret cc pc w) {stop n pc' k u : Nat} {f : ox_F} {ls' : ox_L} {st' : List Value} {hp' : ox_H}
    (he : ox_isS (ox_seg sx sL (ox_exec sx sL d) tab nx stop n f) pc' ls' st' hp' k u = true) (hk : k0 + k ≤ R.cells) (hu : u0 + u ≤ R.slots)
    (hV : ox_V p l e R s m args below meth c Q nL D dA ρ σ base H0 k0 u0 nx (pc', ls', st', hp', k, u)) : ox_V p l e R s m args below meth c Q nL D dA ρ σ base H0 k0 u0 nx f := by
  obtain ⟨hp2, h1, h2⟩ := ox_isS_ok he
  exact (ox_seg_ok F htab (ox_exec_ok ox_allP F.2.2.2.2.2.2.1 d) n f _ h1).2.2 hk hu (fun H locs lsA hH hL hl => hV H locs lsA (hH.sub h2) hL hl)
end OXF
theorem ox_dh1 : decode prog_10_method_36_code 26 = .ok (.iload_n 2, 1) := by decide +kernel
theorem ox_dh2 : decode prog_10_method_36_code 27 = .ok (.sipush 256, 3) := by decide +kernel
theorem ox_dh3 : decode prog_10_method_36_code 30 = .ok (.if_icmp .ge 119, 3) := by decide +kernel
theorem ox_dh4 : decode prog_10_method_36_code 143 = .ok (.iinc 2 1, 3) := by decide +kernel
theorem ox_dh5 : decode prog_10_method_36_code 146 = .ok (.goto (-120), 3) := by decide +kernel
theorem ox_dh6 : decode prog_10_method_36_code 149 = .ok (.iload_n 1, 1) := by decide +kernel
theorem ox_dh7 : decode prog_10_method_36_code 150 = .ok (.ireturn, 1) := by decide +kernel
section OXG
variable {D : va_G} {dA : Nat → ClassId} {ρ : Nat → Nat} {σ : Nat → Int32} {base : Nat} {H0 : Heap}
variable {p : Program} {l : Launch} {e : Env} {s : State} {m : MethodId} {args : Array Value} {below : List Frame} {meth : Method} {c : Code}
abbrev ox_RM : Room := { frames := 9, cells := 2050, slots := 8200, locals := 64 * 9 }
abbrev ox_rM : ox_R := (some (.int 0), ox_hB, 2050, 8200)
theorem ox_cmp_ge {i : Nat} (h : i < 256) : ox_cmp .ge (nI i) 256 = false := by
  simp only [ox_cmp]
  exact decide_eq_false (nI_ge (b := 256) h (by omega))
theorem ox_cmp_ge2 : ox_cmp .ge (nI 256) 256 = true := by decide +kernel
set_option maxHeartbeats 4000000 in
theorem ox_hloop (F : ox_Fx p ox_RM s m args meth c ox_q44.2.1 ox_q44.1.cls ox_q44.1.name ox_q44.2.2.1 8 D dA ρ base H0 ox_sx ox_sL) (hret : meth.sig.returnType = some .int) (hlocks : meth.locks = false) {hs : Nat}
    (h3 : ∀ j, ρ (ox_N + 45 + j) = hs + j) (h4 : ∀ q, q < ox_N + 45 → ρ q < hs) :
    ∀ (j i : Nat), i + j = 256 → ∀ (ρ1 : Nat → Nat) (σ1 : Nat → Int32) (H : Heap) (locs : List Loc) (lsA : Array Slot), ox_E ρ1 base → (∀ q, q < ox_N + 45 → ρ1 q = ρ q) → ox_HR D dA ρ1 σ1 base H0 ox_hB (ox_N + 47) H → H.size = hs + 2 + 8 * i → (∀ z ∈ locs, base ≤ z.base) →
      lv_has lsA ox_q44.2.2.1 [(2, .int (nI i)), (1, .int 0), (0, .ref (ρ 21))] →
      W p l e ox_RM s m args below meth c H locs (2 + 8 * i) (8 + 32 * i) (MQ below (ox_qc D dA ρ σ base H0 (ox_N + 45) ox_rM) args s 2050 8200 (fun z => base ≤ z)) (F0 m 26 lsA []) := by
  have hmref : 21 < ox_N + 45 := by show 21 < 8 + 45; omega
  intro j
  induction j with
  | zero =>
    intro i hi ρ1 σ1 H locs lsA hE1 hag hH hz hL hl
    have hi : i = 256 := by omega
    subst hi
    have F1 := F
    obtain ⟨hx, hb, hml, hown, hts, hK, hE, hname, hR⟩ := F
    refine lv_iload_n hx hb ox_dh1 rfl (lv_at hl 0 rfl) ?_
    refine lv_sipush (v := 256) hx hb ox_dh2 (by decide +kernel) ?_
    refine ox_W_icmp (tgt := 149) hx hb ox_dh3 (by decide) (fun _ => ?_) (fun h => by rw [ox_cmp_ge2] at h; cases h)
    have hH2 : ox_HR D dA ρ σ base H0 ox_hB (ox_N + 45 + 2050) H := hH.ren (n0 := ox_N + 45) (by decide +kernel) ox_e6 ox_e7 (fun q hq => (hag q hq).symm) (by omega) (by show 8 ≤ 8 + 45 + 2050; omega)
      (fun j => by rw [show ox_N + 45 + 2050 + j = ox_N + 45 + (2050 + j) by omega, h3, hz]; omega) (fun q hq => by
        rcases Nat.lt_or_ge q (ox_N + 45) with h | h
        · have := h4 q h; omega
        · obtain ⟨j, rfl⟩ : ∃ j, q = ox_N + 45 + j := ⟨q - (ox_N + 45), by omega⟩
          rw [h3, hz]; omega)
    have hl2 : lv_has lsA ox_q44.2.2.1 [(1, .int 0)] := lv_sub hl [1] rfl
    refine lv_iload_n hx hb ox_dh6 rfl (lv_at hl2 0 rfl) ?_
    exact W.cs (by rfl) (by rfl) (W.iret hx hb hret (fun t ht _ => ⟨rfl, by rw [ht]; exact hH2⟩) hL ox_dh7 hlocks)
  | succ j ih =>
    intro i hi ρ1 σ1 H locs lsA hE1 hag hH hz hL hl
    have F1 := F
    obtain ⟨hx, hb, hml, hown, hts, hK, hE, hname, hR⟩ := F
    have F2 : ox_Fx p ox_RM s m args meth c ox_q44.2.1 ox_q44.1.cls ox_q44.1.name ox_q44.2.2.1 8 D dA ρ1 base H0 ox_sx ox_sL := ⟨hx, hb, hml, hown, hts, hK.ren (fun q hq => hag q (by show q < 8 + 45; omega)), hE1, hname, hR⟩
    have hii : i < 256 := by omega
    refine lv_iload_n hx hb ox_dh1 rfl (lv_at hl 0 rfl) ?_
    refine lv_sipush (v := 256) hx hb ox_dh2 (by decide +kernel) ?_
    refine ox_W_icmp (tgt := 149) hx hb ox_dh3 (by decide) (fun h => by rw [ox_cmp_ge hii] at h; cases h) (fun _ => ?_)
    have hH1 : ox_HR D dA ρ1 (fun _ => nI i) base H0 ox_hB (ox_N + 47) H := hH.ren (n0 := ox_N + 45) ox_e8 ox_e6 ox_e7 (fun _ _ => rfl) (by show 8 + 45 ≤ 8 + 47; omega) (by show 8 ≤ 8 + 47; omega) hH.2.2.1 hH.2.2.2.1.2
    have hl1 : lv_has lsA ox_q44.2.2.1 (ox_dm ρ1 (fun _ => nI i) ox_M0) := by
      show lv_has lsA ox_q44.2.2.1 [(2, .int (nI i)), (1, .int 0), (0, .ref (ρ1 21))]
      rw [hag _ hmref]; exact hl
    refine ox_segS (ret := ox_q44.2.2.2.1) (k0 := 2 + 8 * i) (u0 := 8 + 32 * i) F2 (ox_allP 44 ox_q44 (by decide) rfl).2 ox_e4 (by show 2 + 8 * i + 8 ≤ 2050; omega) (by show 8 + 32 * i + 32 ≤ 8200; omega) ?_ H locs lsA hH1 hL hl1
    intro H2 locs2 lsA2 hH2 hL2 hl2
    refine lv_iinc (k := 5) (v := nI (i + 1)) hx hb ox_dh4 hl2 rfl (nI_1 i) (by decide) rfl (fun ls' hl3 => ?_)
    refine lv_goto (tgt := 26) hx hb ox_dh5 (by decide) ?_
    obtain ⟨ρ2, E2, a2, b2, c2⟩ := ox_reset (n1 := ox_N + 47) hH2 hE1 (by show 8 ≤ 8 + 47; omega) (Nat.le_add_right _ _)
    have hsz : H2.size = H.size + 8 := by
      have e1 := hH2.2.2.1 0
      have e2 := hH.2.2.1 8
      exact e1.symm.trans e2
    have hH3 : ox_HR D dA ρ2 σ base H0 ox_hB (ox_N + 47) H2 := hH2.ren (n0 := ox_N + 45) ox_e8 ox_e6 ox_e7 (fun q hq => c2 q (by omega)) (by show 8 + 45 ≤ 8 + 47; omega) (by show 8 ≤ 8 + 47; omega) a2 b2
    have hl4 := lv_sub hl3 [0, 1, 6] rfl
    refine W.cs (cells' := 2 + 8 * (i + 1)) (slots' := 8 + 32 * (i + 1)) (by show 2 + 8 * i + 8 = _; omega) (by show 8 + 32 * i + 32 = _; omega) (ih (i + 1) (by omega) ρ2 σ H2 locs2 ls' E2 (fun q hq => (c2 q (by omega)).trans (hag q hq)) hH3 (by rw [hsz, hz]; omega) hL2 ?_)
    rw [← hag _ hmref]
    exact hl4
end OXG
