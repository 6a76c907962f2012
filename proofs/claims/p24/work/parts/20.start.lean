/-! ===== the start: the witness's own, with that script in its cell 0; at it the statement falls (a template: wip/tool/t20.txt) ===== -/
def ox_xs : List Int32 := (List.range ox_sL).map ox_sx
def ox_S : Array Value := (ox_xs.map Value.int).toArray
set_option maxRecDepth 100000 in
theorem ox_xlen : ox_xs.length = ox_sL := by simp [ox_xs]
set_option maxRecDepth 100000 in
theorem ox_Ssize : ox_S.size = ox_sL := by simp [ox_S, ox_xlen]
set_option maxRecDepth 100000 in
theorem ox_Sget (j : Nat) (h : j < ox_sL) : ox_S[j]? = some (.int (ox_sx j)) := by simp [ox_S, ox_xs, h]
def ox_s0 : State := oy1.aboutOf ox_S
def ox_c0 : Cell := { cls := ((oy1.about.heap[0]?).map (fun c => c.cls)).getD 0, slots := ox_S, vm := .none }
set_option maxRecDepth 100000 in
theorem ox_heap : ox_s0.heap = oy1.about.heap.setIfInBounds 0 ox_c0 := rfl
set_option maxRecDepth 100000 in
theorem ox_cell0 : ox_s0.heap[0]? = some ox_c0 := rfl
set_option maxRecDepth 100000 in
theorem ox_wordsN : ((Cond.code x code maxLocals ret :: tables_1).filter (fun c => !c.onTables)).all (fun c => c.before oy1.args0 ox_s0) = true := by decide +kernel
set_option maxRecDepth 100000 in
theorem ox_wds : ∀ c ∈ (Cond.code x code maxLocals ret :: tables_1), c.before oy1.args0 ox_s0 = true := by
  intro c hc
  cases hq : c.onTables with
  | true => exact va_tabs hq (show oy1.about.vm = ox_s0.vm from rfl) (oy1.words c hc)
  | false => exact List.all_eq_true.mp ox_wordsN c (List.mem_filter.mpr ⟨hc, by rw [hq]; rfl⟩)
set_option maxRecDepth 100000 in
theorem ox_htb : ∀ w ∈ ox_tb, w.before oy1.args0 ox_s0 = true := fun w hw => k2_hts_sels lw_privs (fun w hw => ox_wds w (List.mem_cons_of_mem _ hw)) lw_privs_ok w (List.mem_filter.mp hw).1
set_option maxRecDepth 100000 in
theorem ox_clCF : ∀ (k : Nat) (q : vw_C), ox_cl[k]? = some q → ox_CF k q := by
  intro k q hq
  match k, hq with
  | 0, hq => cases hq; exact ox_cf0
  | 1, hq => cases hq; exact ox_cf1
  | 2, hq => cases hq; exact ox_cf2
  | 3, hq => cases hq; exact ox_cf3
  | 4, hq => cases hq; exact ox_cf4
  | 5, hq => cases hq; exact ox_cf5
  | 6, hq => cases hq; exact ox_cf6
  | 7, hq => cases hq; exact ox_cf7
  | 8, hq => cases hq; exact ox_cf8
  | 9, hq => cases hq; exact ox_cf9
  | 10, hq => cases hq; exact ox_cf10
  | k + 11, hq => simp [ox_cl] at hq
set_option maxRecDepth 100000 in
theorem ox_inst : (ox_cl.all fun r => (Cond.instantiable r.1 r.2.2).before oy1.args0 ox_s0) = true := by decide +kernel
set_option maxRecDepth 100000 in
theorem ox_Kcl : ∃ D : va_G, va_K D ox_cl [] ox_s0 := by
  have h : ∀ k : Nat, ∃ (cC : ClassId) (iS : Nat → Nat), ∀ q : vw_C, ox_cl[k]? = some q → u_Kn ox_s0 q.1 q.2.1 q.2.2 cC iS := by
    intro k
    cases hk : ox_cl[k]? with
    | none => exact ⟨0, fun _ => 0, fun q hq => by cases hq⟩
    | some r =>
      obtain ⟨cC, iS, hKn⟩ := u_known (C := r.1) (T := r.2.1) (N := r.2.2) (n := r.2.2) ox_htb (ox_clCF k r hk).1 (List.all_eq_true.mp ox_inst r (List.mem_of_getElem? hk))
      exact ⟨cC, iS, fun q hq => by cases hq; exact hKn⟩
  obtain ⟨dC, h⟩ := Classical.axiomOfChoice h
  obtain ⟨dI, h⟩ := Classical.axiomOfChoice h
  exact ⟨(dC, dI), fun k q hq => h k q hq, fun k q hq => by simp at hq⟩
def ox_isE (o : Option Value) (s : State) (k : Option Nat) : Bool := match o with
  | some (.ref a) => match s.heap[a]? with
    | some c => decide (some c.cls = k) && Nat.beq c.slots.size 0 && (match c.vm with
      | .none => true
      | _ => false)
    | none => false
  | _ => false
set_option maxRecDepth 100000 in
theorem ox_isE_ok {o : Option Value} {s : State} {k : Nat} (h : ox_isE o s (some k) = true) : ∃ a cell, o = some (.ref a) ∧ s.heap[a]? = some cell ∧ cell.cls = k ∧ cell.vm = .none ∧ cell.slots = #[] := by
  unfold ox_isE at h
  split at h
  · next a =>
    split at h
    · next c hc =>
      simp only [Bool.and_eq_true, decide_eq_true_eq] at h
      obtain ⟨⟨h1, h2⟩, h3⟩ := h
      refine ⟨a, c, rfl, hc, Option.some.inj h1, ?_, Array.eq_empty_of_size_eq_zero (Nat.eq_of_beq_eq_true h2)⟩
      split at h3
      · next hv => exact hv
      · cases h3
    · cases h
  · cases h
def ox_isP (o : Option Value) (n : Nat) : Bool := match o with
  | some (.ref a) => Nat.blt a n
  | _ => false
set_option maxRecDepth 100000 in
theorem ox_isP_ok {o : Option Value} {n : Nat} (h : ox_isP o n = true) : ∃ a, o = some (.ref a) ∧ a < n := by
  unfold ox_isP at h
  split at h
  · next a => exact ⟨a, rfl, Nat.le_of_ble_eq_true h⟩
  · cases h
set_option maxRecDepth 100000 in
theorem ox_fc {s : State} {n : String} (h : (s.vm.findClass n).isSome = true) : ∃ c, s.vm.findClass n = some c := Option.isSome_iff_exists.mp h
def ox_rho (a1 a2 n : Nat) : Nat → Nat := fun q => if q < 8 then (if q = 1 then a1 else if q = 2 then a2 else 0) else n + (q - 8)
set_option maxRecDepth 100000 in
theorem ox_rho_ge (a1 a2 n : Nat) {q : Nat} (h : 8 ≤ q) : ox_rho a1 a2 n q = n + (q - 8) := if_neg (by omega)
set_option maxRecDepth 100000 in
theorem ox_rho_lt {a1 a2 n : Nat} (h0 : 0 < n) (h1 : a1 < n) (h2 : a2 < n) {q : Nat} (h : q < 8) : ox_rho a1 a2 n q < n := by
  show (if q < 8 then (if q = 1 then a1 else if q = 2 then a2 else 0) else n + (q - 8)) < n
  rw [if_pos h]
  split
  · exact h1
  · split
    · exact h2
    · exact h0
set_option maxRecDepth 100000 in
theorem ox_rho_E {a1 a2 n : Nat} (h0 : 0 < n) (h1 : a1 < n) (h2 : a2 < n) : ox_E (ox_rho a1 a2 n) n := by
  refine ⟨fun q hq => ?_, fun q q' hq hq' e => ?_, fun q hq => ox_rho_lt h0 h1 h2 hq⟩
  · rw [ox_rho_ge _ _ _ hq]; omega
  · rw [ox_rho_ge _ _ _ hq, ox_rho_ge _ _ _ hq'] at e; omega
set_option maxRecDepth 100000 in
theorem ox_b1 : ox_isE ((Term.static "java/util/ArrayList" "DEFAULTCAPACITY_EMPTY_ELEMENTDATA" "[Ljava/lang/Object;").eval oy1.args0 ox_s0 none [] ox_s0) ox_s0 (ox_s0.vm.findClass ("[" ++ (FieldType.object "java/lang/Object").toString)) = true := by decide +kernel
set_option maxRecDepth 100000 in
theorem ox_b2 : ox_isP ((Term.string "OpenlineModel" 23).eval oy1.args0 ox_s0 none [] ox_s0) ox_s0.heap.size = true := by decide +kernel
set_option maxRecDepth 100000 in
theorem ox_b3 : (ox_s0.vm.findClass "[I").isSome = true := by decide +kernel
set_option maxRecDepth 100000 in
theorem ox_b4 : (ox_s0.vm.findClass "[B").isSome = true := by decide +kernel
set_option maxRecDepth 100000 in
theorem ox_b5 : (Cond.arrayOver (.object "java/lang/Object")).before #[] ox_s0 = true := by decide +kernel
set_option maxRecDepth 100000 in
theorem ox_b6 : (Cond.laysStatic "java/util/ArrayList" "DEFAULTCAPACITY_EMPTY_ELEMENTDATA" "[Ljava/lang/Object;").before oy1.args0 ox_s0 = true ∧ (Cond.initialized "java/util/ArrayList").before oy1.args0 ox_s0 = true := by decide +kernel
set_option maxRecDepth 100000 in
theorem ox_b7 : (Cond.laysStatic "java/lang/String" "COMPACT_STRINGS" "Z").before oy1.args0 ox_s0 = true ∧ (Cond.initialized "java/lang/String").before oy1.args0 ox_s0 = true ∧ (Cond.eq (.static "java/lang/String" "COMPACT_STRINGS" "Z") (.int 1)).before oy1.args0 ox_s0 = true := by decide +kernel
set_option maxRecDepth 100000 in
theorem ox_b8 : (Cond.stringRef "OpenlineModel" 23 "").before oy1.args0 ox_s0 = true := by decide +kernel
set_option maxRecDepth 100000 in
theorem ox_b9 : (ox_nF.all fun w => (Cond.fieldLinkNest w.1 w.2.1 w.2.2.1 w.2.2.2.1 w.2.2.2.2.1 w.2.2.2.2.2).before #[] ox_s0) = true := by decide +kernel
set_option maxRecDepth 100000 in
theorem ox_b10 : (ox_nM.all fun w => (Cond.methodLinkNest w.1 w.2.1 w.2.2.1 w.2.2.2).before #[] ox_s0) = true := by decide +kernel
set_option maxRecDepth 100000 in
theorem ox_b11 : ∀ w ∈ ox_nI, (Cond.declares w.2.1).before #[] ox_s0 = true ∧ (Cond.interfaceMethod w.2.1.cls w.2.1.cls w.2.1.name w.2.1.desc).before #[] ox_s0 = true ∧ (Cond.publicMethod w.2.2).before #[] ox_s0 = true ∧ (Cond.unhidden w.1 w.2.1.name w.2.1.desc).before #[] ox_s0 = true ∧ (Cond.castable w.1 w.2.1.cls).before #[] ox_s0 = true := by decide +kernel
set_option maxRecDepth 100000 in
theorem ox_b12 : (ox_cl.all fun r => (Cond.castable r.1 "java/lang/Object").before #[] ox_s0) = true := by decide +kernel
set_option maxRecDepth 100000 in
theorem ox_b13 : (Cond.arrayOf (.arg 0) .int).before oy1.args0 ox_s0 = true := by decide +kernel
set_option maxRecDepth 100000 in
theorem ox_X0 : va_X 0 ox_sL ox_sx ox_s0 ox_s0.heap := by
  obtain ⟨h1, h2⟩ := Cond.arrayOf_spec (t := .arg 0) (ty := .int) (a := 0) ox_b13 rfl ox_cell0
  exact ⟨_, ox_cell0, h1, h2, ox_Ssize, fun j hj => ox_Sget j hj⟩
set_option maxRecDepth 100000 in
theorem ox_ints : ox_s0.IntsAt 0 ox_xs := by
  obtain ⟨h1, h2⟩ := Cond.arrayOf_spec (t := .arg 0) (ty := .int) (a := 0) ox_b13 rfl ox_cell0
  exact ⟨ox_c0, rfl, rfl, h1, by rw [ox_xlen]; decide⟩
set_option maxRecDepth 100000 in
theorem ox_start : ∃ (D : va_G) (dA : Nat → ClassId) (ρ : Nat → Nat), ox_E ρ ox_s0.heap.size ∧ ox_pc D dA ρ (fun _ => nI 36) ox_s0.heap.size ox_s0.heap ox_sx ox_sL [.ref 0] [(1, (66, []))] ox_N oy1.args0 ox_s0 := by
  obtain ⟨D, hD⟩ := ox_Kcl
  obtain ⟨c64, h64⟩ := ox_fc ox_b3
  obtain ⟨c65, h65⟩ := ox_fc ox_b4
  obtain ⟨comp, cA, kA, g1, -, g2, g3, g4⟩ := Cond.arrayOver_spec ox_b5
  have ht1 := ox_b1
  rw [g4] at ht1
  obtain ⟨a1, cell, e1, e2, e3, e4, e5⟩ := ox_isE_ok ht1
  obtain ⟨a2, f1, f2⟩ := ox_isP_ok ox_b2
  have ha1 : a1 < ox_s0.heap.size := (Array.getElem?_eq_some_iff.mp e2).1
  have h0 : 0 < ox_s0.heap.size := Nat.lt_of_le_of_lt (Nat.zero_le _) ha1
  have hE := ox_rho_E h0 ha1 f2
  have hA : ∀ a : Nat, a < ox_s0.heap.size → ¬ (fun q : Nat => ox_s0.heap.size ≤ q) a := fun a h => Nat.not_le.mpr h
  refine ⟨D, fun t => if t = 64 then c64 else if t = 65 then c65 else cA, ox_rho a1 a2 ox_s0.heap.size, hE, rfl, ?_, ?_⟩
  · refine ⟨fun q _ => rfl, Nat.le_refl _, fun j => ?_, ⟨Nat.le_refl _, fun q hq => hE.2.2 q hq⟩, fun q t vs hq => ?_⟩
    · show ox_rho a1 a2 ox_s0.heap.size (8 + j) = _
      rw [ox_rho_ge _ _ _ (Nat.le_add_right 8 j)]; omega
    · simp only [ox_get] at hq
      split at hq
      · next hb =>
        cases hq
        have hq1 : q = 1 := (Nat.eq_of_beq_eq_true hb).symm
        subst hq1
        exact ⟨by decide, fun h => absurd h (by decide), fun _ => ⟨cell, e2, e3, e4, e5⟩⟩
      · cases hq
  · exact ⟨hD, ⟨kA, comp, g2, g3, g1, g4⟩, h64, h65, va_Zref ox_b6.1 ox_b6.2 e1 hA, va_Zof ox_b7.1 ox_b7.2.1 (va_eqi ox_b7.2.2) hA, vk_R.of ox_b8 f1, ox_X0,
      fun w hw => List.all_eq_true.mp ox_b9 w hw, fun w hw => List.all_eq_true.mp ox_b10 w hw, fun w hw => ox_b11 w hw, fun r hr => List.all_eq_true.mp ox_b12 r hr, va_AO.of ox_b5⟩
set_option maxRecDepth 100000 in
theorem ox_u1 : argsFit ox_s0.vm ⟨0, 0⟩ oy1.args0 = true := by decide +kernel
set_option maxRecDepth 100000 in
theorem ox_fit0 (i : Nat) (x : Int32) : ox_s0.fitsSlot ox_c0.cls ox_c0.vm i (.int x) = true := rfl
set_option maxRecDepth 100000 in
theorem ox_fits0 : cellFits ox_s0 ox_c0 = true := by
  show ((List.range ox_S.size).all fun i => match ox_S[i]? with
    | some v => ox_s0.fitsSlot ox_c0.cls ox_c0.vm i v
    | none => true) = true
  apply List.all_eq_true.mpr
  intro i hi
  rw [List.mem_range, ox_Ssize] at hi
  rw [ox_Sget i hi]
  exact ox_fit0 i (ox_sx i)
set_option maxRecDepth 100000 in
theorem ox_cf_same (c : Cell) : cellFits ox_s0 c = cellFits oy1.about c := rfl
set_option maxRecDepth 100000 in
theorem ox_u2 : heapFits ox_s0 = true := by
  show ox_s0.heap.all (cellFits ox_s0) = true
  have h0 : oy1.about.heap.all (cellFits oy1.about) = true := oy1.atStart.2.2.2.2.2.2.2.2.1
  rw [Array.all_eq_true_iff_forall_mem] at h0 ⊢
  intro c hc
  rw [ox_heap] at hc
  rcases Array.mem_or_eq_of_mem_setIfInBounds hc with h | h
  · rw [ox_cf_same]; exact h0 c h
  · rw [h]; exact ox_fits0
set_option maxRecDepth 100000 in
theorem ox_u3 : rest_1_c.before oy1.args0 ox_s0 = true := by
  have e0 : ∀ idx : List Nat, (Term.arg 0).eval oy1.args0 ox_s0 none idx ox_s0 = some (.ref 0) := fun _ => rfl
  have h1 : (Cond.isInt (.length (.arg 0))).before oy1.args0 ox_s0 = true := by
    have h := ox_ints.length_eval (args := oy1.args0) (first := ox_s0) (o := none) (idx := []) (e0 [])
    simp only [Cond.before, Cond.holds, Cond.value, h]; rfl
  have h2 : (Cond.all (.arg 0) (.isInt (.elem (.arg 0) (.index 0)))).before oy1.args0 ox_s0 = true := by
    have h := ox_ints.all_value (args := oy1.args0) (first := ox_s0) (o := none) (idx := []) (e0 []) (c := .isInt (.elem (.arg 0) (.index 0))) (fun k hk => by
      have h3 := ox_ints.elem_nat (args := oy1.args0) (first := ox_s0) (o := none) (idx := [k]) (e0 [k]) (i := .index 0) (k := k) rfl hk
      simp only [Cond.value, h3]; rfl)
    simp only [Cond.before, Cond.holds, h]; rfl
  show (Cond.and (.isInt (.length (.arg 0))) (.all (.arg 0) (.isInt (.elem (.arg 0) (.index 0))))).before oy1.args0 ox_s0 = true
  rw [Cond.before_and, h1, h2]; rfl
set_option maxRecDepth 100000 in
theorem ox_u4 : (Cond.and given_1 narrow_1).before oy1.args0 ox_s0 = true := by decide +kernel
set_option maxRecDepth 100000 in
theorem ox_app (r : Room) (hr : ox_s0.hasRoom (launch0.env 0 0 0).platform r = true) : (headSpec (Cond.code x code maxLocals ret :: tables_1) r).applies x oy1.e0.platform ox_s0 = true :=
  (Spec.applies_iff (m := ⟨0, 0⟩) (args := oy1.args0) (below := Lib.HandBits.below0) rfl).mpr ⟨rfl, rfl, rfl, by decide +kernel, by decide +kernel, by decide +kernel, hr, atoms_intro ox_wds⟩
set_option maxRecDepth 100000 in
theorem ox_room : ox_s0.hasRoom (launch0.env 0 0 0).platform room_1 = true := launch0.hasRoom_least _ room_1 (by decide +kernel) (by decide +kernel) (by decide +kernel) (by decide +kernel) (by decide +kernel) (by decide +kernel)
set_option maxRecDepth 100000 in
theorem ox_roomL : ox_s0.hasRoom (launch0.env 0 0 0).platform ox_RL = true := launch0.hasRoom_least _ ox_RL (by decide +kernel) (by decide +kernel) (by decide +kernel) (by decide +kernel) (by decide +kernel) (by decide +kernel)
set_option maxRecDepth 100000 in
theorem ox_atStart : AtStart classFile x code maxLocals ret World_1 tables_1 room_1 Calls_1 rest_1 Pre_1 launch0 oy1.p0 oy1.e0 ox_s0 ⟨0, 0⟩ oy1.args0 Lib.HandBits.below0 :=
  ⟨oy_lists_1, trivial, launch0.admits_env _ _ _, launch0.least_env, fairChoices_fair.cas, fairChoices_fair.clock, rfl, ox_u1, ox_u2, ox_app room_1 ox_room, trivial, ox_u3, ox_u4⟩
set_option maxRecDepth 100000 in
/-- the statement's first limb falls: at that start the law ends, with 1, and has made more cells than it says -/
theorem ox_falls : RefutedClaimed_1_1 := by
  obtain ⟨D, dA, ρ, hE, hpc⟩ := ox_start
  obtain ⟨n, o, h1, h2, h3, ⟨h4, h5⟩, -⟩ := ox_law (l := launch0) hE (hs := ox_s0.heap.size) oy1.p0 oy1.e0 (launch0.admits_env _ _ _) fairChoices_fair.cas fairChoices_fair.clock ox_s0 ⟨0, 0⟩ oy1.args0 Lib.HandBits.below0 rfl
    ((Spec.applies_iff_loose rfl).mp (ox_app ox_RL ox_roomL)).1 ⟨hpc, rfl⟩ trivial
  refine ⟨launch0, oy1.p0, oy1.e0, ox_s0, ⟨0, 0⟩, oy1.args0, Lib.HandBits.below0, rfl, ox_atStart, n, o, h1, h2, h3, fun hpost => ?_⟩
  have h6 := hpost.2.2.2.2.2.1
  have h7 : (stepsAlone oy1.p0.tables oy1.e0 n ox_s0).heap.size ≤ ox_s0.heap.size + 909479 := h6
  omega
set_option maxRecDepth 100000 in
/-- .. so the claim itself can't be -/
theorem ox_not : ¬ Claimed_1_1 := by
  intro hC
  obtain ⟨l, p, e, s, m, args, below, hfl, hA, n, o, h1, h2, h3, h4⟩ := ox_falls
  obtain ⟨a1, a2, a3, -, a5, a6, a7, a8, a9, a10, a11, a12, a13⟩ := hA
  obtain ⟨n', o', b1, b2, b3, b4⟩ := hC l hfl a1 a2 p e a3 a5 a6 s m args below a7 a8 a9 a10 ⟨a11, a12, a13⟩
  obtain ⟨rfl, rfl⟩ := the_end_unique (f := fun k => stepsAlone p.tables e k s) h1 h3 b1 b3
  exact h4 b4
