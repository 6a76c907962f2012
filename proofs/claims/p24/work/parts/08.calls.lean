/-! ===== calls ===== -/
def ox_cw (q : ox_Q) : Cond := match q.2.2.2.2.1 with
  | none => .code q.1 q.2.1 q.2.2.1 q.2.2.2.1
  | some hh => .codeWith q.1 q.2.1 q.2.2.1 q.2.2.2.1 hh
def ox_mW (q : ox_Q) : List Cond := ox_cw q :: ox_tb
/-- a method's facts -/
def ox_MF (q : ox_Q) : Prop := plainName q.1.cls = true ∧ (q.1.cls ≠ "java/lang/invoke/MethodHandle" ∧ q.1.cls ≠ "java/lang/invoke/VarHandle") ∧ ox_cw q ∈ ox_tb ∧ q.2.2.1 ≤ 40
def ox_pc (D : va_G) (dA : Nat → ClassId) (ρ : Nat → Nat) (σ : Nat → Int32) (base : Nat) (H0 : Heap) (sx : Nat → Int32) (sL : Nat) (av : List Value) (hp : ox_H) (nx : Nat) : Array Value → State → Prop :=
  fun v U => v = (ox_ds ρ σ av).toArray ∧ ox_HR D dA ρ σ base H0 hp nx U.heap ∧ ox_K D dA ρ base H0 sx sL U
def ox_qc (D : va_G) (dA : Nat → ClassId) (ρ : Nat → Nat) (σ : Nat → Int32) (base : Nat) (H0 : Heap) (nx : Nat) (r : ox_R) : Array Value → State → Outcome → State → Prop :=
  fun _ _ o t => o = .returned (r.1.map (ox_den ρ σ)) ∧ ox_HR D dA ρ σ base H0 r.2.1 (nx + r.2.2.1) t.heap
def ox_Met (l : Launch) (D : va_G) (dA : Nat → ClassId) (ρ : Nat → Nat) (σ : Nat → Int32) (base : Nat) (H0 : Heap) (sx : Nat → Int32) (sL : Nat) (d M : Nat) (av : List Value) (hp : ox_H) (nx : Nat) (r : ox_R) : Prop :=
  ∀ q : ox_Q, ox_mt[M]? = some q → Met l q.1 (ox_mW q) { frames := d, cells := r.2.2.1, slots := r.2.2.2, locals := 64 * d } (ox_pc D dA ρ σ base H0 sx sL av hp nx) (ox_qc D dA ρ σ base H0 nx r) r.2.2.1 r.2.2.2 (fun z => base ≤ z)
theorem ox_pc_blind {D : va_G} {dA : Nat → ClassId} {ρ : Nat → Nat} {σ : Nat → Int32} {base : Nat} {H0 : Heap} {sx : Nat → Int32} {sL : Nat} {av : List Value} {hp : ox_H} {nx : Nat} : FrameBlind (ox_pc D dA ρ σ base H0 sx sL av hp nx) :=
  fun _ _ _ _ h => ⟨h.1, h.2.1, ox_K.same rfl h.2.2⟩
theorem ox_tbs {L : List Cond} (h : ∀ w ∈ L, w ∈ ox_tb) : GoodIn ox_tb L := fun w hw => ox_tbg w (h w hw)
theorem ox_mW_in {q : ox_Q} (h : ox_MF q) : ∀ w ∈ ox_mW q, w ∈ ox_tb := fun w hw => by
  rcases List.mem_cons.mp hw with e | e
  · rw [e]; exact h.2.2.1
  · exact e
section OXC
variable {p : Program} {l : Launch} {e : Env} {R : Room} {s : State} {m : MethodId} {args : Array Value} {below : List Frame} {meth : Method} {c : Code} {H : Heap} {locs : List Loc} {cells slots : Nat} {Q : State → Prop}
variable {cc : ByteArray} {pc : Nat} {ls : Array Slot} {rest st0 : List Value} {own : String} {nL : Nat}
variable {D : va_G} {dA : Nat → ClassId} {ρ : Nat → Nat} {σ : Nat → Int32} {base : Nat} {H0 : Heap} {sx : Nat → Int32} {sL : Nat} {hp : ox_H} {nx d M : Nat} {av : List Value} {r : ox_R}
theorem ox_of_run {a : Array Value} (hr : va_Run p l e R s m args below meth c H locs cells slots r.2.2.1 r.2.2.2 (F0 m pc ls st0) rest (ox_qc D dA ρ σ base H0 nx r a) (fun z => base ≤ z)) (hL : ∀ z ∈ locs, base ≤ z.base)
    (kk : ∀ (H1 : Heap) (locs1 : List Loc), ox_HR D dA ρ σ base H0 r.2.1 (nx + r.2.2.1) H1 → (∀ z ∈ locs1, base ≤ z.base) → W p l e R s m args below meth c H1 locs1 (cells + r.2.2.1) (slots + r.2.2.2) Q (F0 m (pc + 3) ls ((r.1.map (ox_den ρ σ)).toList ++ rest))) :
    W p l e R s m args below meth c H locs cells slots Q (F0 m pc ls st0) := by
  intro T hT X
  obtain ⟨v, st₀, t, T', L, h0, X', hL', e1, e2, hq, st⟩ := hr T hT X
  have hv : v = r.1.map (ox_den ρ σ) := Outcome.returned.inj hq.1
  subst hv
  obtain ⟨t2, a2, b2⟩ := kk T'.heap (locs ++ L) (by rw [e1]; exact hq.2) (fun z hz => by
    rcases List.mem_append.mp hz with h | h
    · exact hL z h
    · exact hL' z h) T' rfl X'
  exact ⟨t2, st _ a2, b2⟩
theorem ox_of_run5 {a : Array Value} (hr : va_Run5 p l e R s m args below meth c H locs cells slots r.2.2.1 r.2.2.2 (F0 m pc ls st0) rest (ox_qc D dA ρ σ base H0 nx r a) (fun z => base ≤ z)) (hL : ∀ z ∈ locs, base ≤ z.base)
    (kk : ∀ (H1 : Heap) (locs1 : List Loc), ox_HR D dA ρ σ base H0 r.2.1 (nx + r.2.2.1) H1 → (∀ z ∈ locs1, base ≤ z.base) → W p l e R s m args below meth c H1 locs1 (cells + r.2.2.1) (slots + r.2.2.2) Q (F0 m (pc + 5) ls ((r.1.map (ox_den ρ σ)).toList ++ rest))) :
    W p l e R s m args below meth c H locs cells slots Q (F0 m pc ls st0) := by
  intro T hT X
  obtain ⟨v, st₀, t, T', L, h0, X', hL', e1, e2, hq, st⟩ := hr T hT X
  have hv : v = r.1.map (ox_den ρ σ) := Outcome.returned.inj hq.1
  subst hv
  obtain ⟨t2, a2, b2⟩ := kk T'.heap (locs ++ L) (by rw [e1]; exact hq.2) (fun z hz => by
    rcases List.mem_append.mp hz with h | h
    · exact hL z h
    · exact hL' z h) T' rfl X'
  exact ⟨t2, st _ a2, b2⟩
/-- the facts of a call: kind, caller's class, index, callee, number of arguments -/
def ox_cf (own : String) (idx k n : Nat) (q : ox_Q) : Prop := ox_MF q ∧ (parseMethodDescriptor q.1.desc).map (fun d => d.parameters.length) = some n ∧ Cond.initialized q.1.cls ∈ ox_tb ∧ match k with
  | 0 => q.2.2.2.2.1 = none ∧ Cond.methodLink own idx q.1 ∈ ox_tb ∧ Cond.static q.1 ∈ ox_tb
  | 1 => (∃ hh, q.2.2.2.2.1 = some hh) ∧ Cond.methodLink own idx q.1 ∈ ox_tb ∧ Cond.static q.1 ∈ ox_tb
  | 2 => q.2.2.2.2.1 = none ∧ Cond.methodLink own idx q.1 ∈ ox_tb ∧ Cond.instanceMethod q.1 ∈ ox_tb ∧ q.1.name = "<init>" ∧ q.2.2.2.1 = none
  | 3 => q.2.2.2.2.1 = none ∧ (∃ host : String, (own, idx, q.1, host) ∈ ox_nM) ∧ Cond.instanceMethod q.1 ∈ ox_tb ∧ q.1.name = "<init>" ∧ q.2.2.2.1 = none
  | 5 => q.2.2.2.2.1 = none ∧ Cond.methodLink own idx q.1 ∈ ox_tb ∧ Cond.instanceMethod q.1 ∈ ox_tb ∧ Cond.selects q.1.cls q.1 q.1 ∈ ox_tb ∧ ∃ r : vw_C, ox_cl[q.2.2.2.2.2.1]? = some r ∧ q.2.2.2.2.2.1 < 64 ∧ r.1 = q.1.cls
  | 6 => q.2.2.2.2.1 = none ∧ ∃ (x : MethodName) (r : vw_C), Cond.methodLink own idx x ∈ ox_tb ∧ Cond.selects q.1.cls x q.1 ∈ ox_tb ∧ Cond.instanceMethod q.1 ∈ ox_tb ∧ (q.1.cls, x, q.1) ∈ ox_nI ∧
      (parseMethodDescriptor x.desc).map (fun d => d.parameters.length) = some n ∧ ox_cl[q.2.2.2.2.2.1]? = some r ∧ q.2.2.2.2.2.1 < 64 ∧ r.1 = q.1.cls
  | _ => False
theorem ox_cw_code {q : ox_Q} (h : q.2.2.2.2.1 = none) : ox_cw q = .code q.1 q.2.1 q.2.2.1 q.2.2.2.1 := by unfold ox_cw; rw [h]
theorem ox_cw_with {q : ox_Q} {hh : List (Nat × Nat × Nat × Nat)} (h : q.2.2.2.2.1 = some hh) : ox_cw q = .codeWith q.1 q.2.1 q.2.2.1 q.2.2.2.1 hh := by unfold ox_cw; rw [h]
theorem ox_preS (hH : ox_HR D dA ρ σ base H0 hp nx H) (hK : ox_K D dA ρ base H0 sx sL s) : PreS s H (ox_pc D dA ρ σ base H0 sx sL av hp nx) (ox_ds ρ σ av) :=
  ⟨ox_pc_blind, fun U hU hW => ⟨rfl, by rw [hU]; exact hH, hK.warm hW⟩⟩
theorem ox_preV (hH : ox_HR D dA ρ σ base H0 hp nx H) (hK : ox_K D dA ρ base H0 sx sL s) {x t : Nat} {vs : List Value} {cr : vw_C} (hc : ox_cl[t]? = some cr) (h64 : t < 64) (hq : ox_get hp x = some (t, vs)) :
    PreV s H cr.1 (ρ x) (ox_pc D dA ρ σ base H0 sx sL (.ref x :: av) hp nx) (ox_ds ρ σ av) :=
  ⟨ox_pc_blind, va_recv hK.1 (ox_obj hK hH hc h64 hq) hc (q0 := 0) rfl, fun U hU hW => ⟨rfl, by rw [hU]; exact hH, hK.warm hW⟩⟩
theorem ox_cat8 {st : List Value} (h : st.length ≤ 4) : (st.map fun v => v.category).sum ≤ 8 := by
  have hv : ∀ v : Value, v.category ≤ 2 := fun v => by cases v <;> simp [Value.category]
  match st, h with
  | [], _ => simp
  | [a], _ => have := hv a; simp; omega
  | [a, b], _ => have := hv a; have := hv b; simp; omega
  | [a, b, c], _ => have := hv a; have := hv b; have := hv c; simp; omega
  | [a, b, c, d], _ => have := hv a; have := hv b; have := hv c; have := hv d; simp; omega
  | _ :: _ :: _ :: _ :: _ :: _, h => simp at h
theorem ox_ds_len {ρ : Nat → Nat} {σ : Nat → Int32} {st : List Value} : (ox_ds ρ σ st).length = st.length := by simp [ox_ds]
theorem ox_ds_rev {ρ : Nat → Nat} {σ : Nat → Int32} {st : List Value} : ox_ds ρ σ st.reverse = (ox_ds ρ σ st).reverse := by simp [ox_ds, List.map_reverse]
theorem ox_W_static {q : ox_Q} {idx n k : Nat} {rst : List Value} (hk : k = 0 ∨ k = 1) (hx : p.tables.exec = Jvm.exec) (hb : c.code = cc) (hml : c.maxLocals = nL) (hown : s.vm.findClass own = some m.cls) (hts : ∀ w ∈ ox_tb, w.before args s = true) (hK : ox_K D dA ρ base H0 sx sL s)
    (hH : ox_HR D dA ρ σ base H0 hp nx H) (hL : ∀ z ∈ locs, base ≤ z.base) (hM : ox_Met l D dA ρ σ base H0 sx sL d M av hp nx r) (hq : ox_mt[M]? = some q) (hcf : ox_cf own idx k n q) (hR : d + 1 ≤ R.frames ∧ 64 * (d + 1) ≤ R.locals) (hn : av.length = n) (hls : ls.size = nL)
    (hr4 : rst.length ≤ 4) (hdg : decode cc pc = .ok (.invokestatic idx, 3)) (hroom : cells + r.2.2.1 ≤ R.cells ∧ slots + r.2.2.2 ≤ R.slots)
    (kk : ∀ (H1 : Heap) (locs1 : List Loc), ox_HR D dA ρ σ base H0 r.2.1 (nx + r.2.2.1) H1 → (∀ z ∈ locs1, base ≤ z.base) → W p l e R s m args below meth c H1 locs1 (cells + r.2.2.1) (slots + r.2.2.2) Q (F0 m (pc + 3) ls ((r.1.map (ox_den ρ σ)).toList ++ ox_ds ρ σ rst))) :
    W p l e R s m args below meth c H locs cells slots Q (F0 m pc ls ((ox_ds ρ σ av).reverse ++ ox_ds ρ σ rst)) := by
  obtain ⟨hF, hpar, hini, hkind⟩ := hcf
  have hMet := hM q hq
  have hL40 := hF.2.2.2
  have hroom2 : d + 1 ≤ R.frames ∧ 8 + (q.2.2.1 + 11) + 64 * d ≤ R.locals := ⟨hR.1, by omega⟩
  have hcat : ((ox_ds ρ σ rst).map fun v => v.category).sum ≤ 8 := ox_cat8 (by rw [ox_ds_len]; exact hr4)
  rcases hk with rfl | rfl
  · obtain ⟨hno, hl1, hst⟩ := hkind
    exact ox_of_run (va_runS (rest := ox_ds ρ σ rst) ⟨hx, hb, hml, hown, hts⟩ hMet (va_cwS (bytes := q.2.1) (maxL := q.2.2.1) (ret := q.2.2.2.1) (ws' := ox_tb) n hts (ox_tbs (fun w hw => by
      rcases List.mem_append.mp hw with h | h
      · simp only [List.mem_cons, List.not_mem_nil, or_false] at h
        rcases h with rfl | rfl | rfl
        · exact hl1
        · exact hst
        · exact hini
      · exact ox_mW_in hF w h)) (by rw [ox_mW, ox_cw_code hno]) rfl rfl ⟨hF.2.1.1, hF.2.1.2, hpar⟩ hroom2) (ox_preS hH hK) rfl (by rw [ox_ds_len]; exact hn) hls rfl (lv_room hcat) hdg hroom) hL kk
  · obtain ⟨⟨hh, hno⟩, hl1, hst⟩ := hkind
    exact ox_of_run (vx_runSW (hh := hh) (rest := ox_ds ρ σ rst) ⟨hx, hb, hml, hown, hts⟩ hMet (vx_cwSW (bytes := q.2.1) (maxL := q.2.2.1) (ret := q.2.2.2.1) (ws' := ox_tb) n hts (ox_tbs (fun w hw => by
      rcases List.mem_append.mp hw with h | h
      · simp only [List.mem_cons, List.not_mem_nil, or_false] at h
        rcases h with rfl | rfl | rfl
        · exact hl1
        · exact hst
        · exact hini
      · exact ox_mW_in hF w h)) (by rw [ox_mW, ox_cw_with hno]) rfl rfl ⟨hF.2.1.1, hF.2.1.2, hpar⟩ hroom2) (ox_preS hH hK) rfl (by rw [ox_ds_len]; exact hn) hls rfl (lv_room hcat) hdg hroom) hL kk
theorem ox_W_spec {q : ox_Q} {idx n k x : Nat} {rst : List Value} (hk : k = 2 ∨ k = 3) (hx : p.tables.exec = Jvm.exec) (hb : c.code = cc) (hml : c.maxLocals = nL) (hown : s.vm.findClass own = some m.cls) (hts : ∀ w ∈ ox_tb, w.before args s = true) (hK : ox_K D dA ρ base H0 sx sL s)
    (hH : ox_HR D dA ρ σ base H0 hp nx H) (hL : ∀ z ∈ locs, base ≤ z.base) (hM : ox_Met l D dA ρ σ base H0 sx sL d M (.ref x :: av) hp nx r) (hq : ox_mt[M]? = some q) (hcf : ox_cf own idx k n q) (hR : d + 1 ≤ R.frames ∧ 64 * (d + 1) ≤ R.locals) (hn : av.length = n) (hls : ls.size = nL)
    (hr4 : rst.length ≤ 4) (hdg : decode cc pc = .ok (.invokespecial idx, 3)) (hroom : cells + r.2.2.1 ≤ R.cells ∧ slots + r.2.2.2 ≤ R.slots)
    (kk : ∀ (H1 : Heap) (locs1 : List Loc), ox_HR D dA ρ σ base H0 r.2.1 (nx + r.2.2.1) H1 → (∀ z ∈ locs1, base ≤ z.base) → W p l e R s m args below meth c H1 locs1 (cells + r.2.2.1) (slots + r.2.2.2) Q (F0 m (pc + 3) ls ((r.1.map (ox_den ρ σ)).toList ++ ox_ds ρ σ rst))) :
    W p l e R s m args below meth c H locs cells slots Q (F0 m pc ls ((ox_ds ρ σ av).reverse ++ .ref (ρ x) :: ox_ds ρ σ rst)) := by
  obtain ⟨hF, hpar, hini, hkind⟩ := hcf
  have hMet := hM q hq
  have hL40 := hF.2.2.2
  have hroom2 : d + 1 ≤ R.frames ∧ 8 + (q.2.2.1 + 11) + 64 * d ≤ R.locals := ⟨hR.1, by omega⟩
  have hcat : ((ox_ds ρ σ rst).map fun v => v.category).sum ≤ 8 := ox_cat8 (by rw [ox_ds_len]; exact hr4)
  rcases hk with rfl | rfl
  · obtain ⟨hno, hl1, hin, hnm, hret⟩ := hkind
    exact ox_of_run (va_runI (bytes := q.2.1) (maxL := q.2.2.1) (As := ox_ds ρ σ av) (rest := ox_ds ρ σ rst) ⟨hx, hb, hml, hown, hts⟩ hMet (cwI (ws' := ox_tb) n hts (ox_tbs (ox_mW_in hF)) (by rw [ox_mW, ox_cw_code hno, hret]) rfl rfl (hts _ hini) (hts _ hl1) (hts _ hin) hnm ⟨hF.2.1.1, hF.2.1.2, hpar⟩ hroom2) (ox_preS (av := .ref x :: av) hH hK) rfl (by rw [ox_ds_len]; exact hn) hls rfl (lv_room hcat) hdg hroom) hL kk
  · obtain ⟨hno, ⟨host, hl1⟩, hin, hnm, hret⟩ := hkind
    exact ox_of_run (va_runIN (bytes := q.2.1) (maxL := q.2.2.1) (As := ox_ds ρ σ av) (rest := ox_ds ρ σ rst) ⟨hx, hb, hml, hown, hts⟩ hMet ⟨va_cnB (ws' := ox_tb) n hts (ox_tbs (ox_mW_in hF)) (by rw [ox_mW, ox_cw_code hno, hret]) rfl rfl (hK.2.2.2.2.2.2.2.2.2.1 _ hl1) (hts _ hini) ⟨hF.2.1.1, hF.2.1.2, hpar⟩ hroom2, hnm, hts _ hin⟩ (ox_preS (av := .ref x :: av) hH hK) rfl (by rw [ox_ds_len]; exact hn) hls rfl (lv_room hcat) hdg hroom) hL kk
theorem ox_W_virt {q : ox_Q} {idx n x : Nat} {rst vs : List Value} (hx : p.tables.exec = Jvm.exec) (hb : c.code = cc) (hml : c.maxLocals = nL) (hown : s.vm.findClass own = some m.cls) (hts : ∀ w ∈ ox_tb, w.before args s = true) (hK : ox_K D dA ρ base H0 sx sL s)
    (hH : ox_HR D dA ρ σ base H0 hp nx H) (hL : ∀ z ∈ locs, base ≤ z.base) (hM : ox_Met l D dA ρ σ base H0 sx sL d M (.ref x :: av) hp nx r) (hq : ox_mt[M]? = some q) (hcf : ox_cf own idx 5 n q) (hxq : ox_get hp x = some (q.2.2.2.2.2.1, vs)) (hR : d + 1 ≤ R.frames ∧ 64 * (d + 1) ≤ R.locals) (hn : av.length = n) (hls : ls.size = nL)
    (hr4 : rst.length ≤ 4) (hdg : decode cc pc = .ok (.invokevirtual idx, 3)) (hroom : cells + r.2.2.1 ≤ R.cells ∧ slots + r.2.2.2 ≤ R.slots)
    (kk : ∀ (H1 : Heap) (locs1 : List Loc), ox_HR D dA ρ σ base H0 r.2.1 (nx + r.2.2.1) H1 → (∀ z ∈ locs1, base ≤ z.base) → W p l e R s m args below meth c H1 locs1 (cells + r.2.2.1) (slots + r.2.2.2) Q (F0 m (pc + 3) ls ((r.1.map (ox_den ρ σ)).toList ++ ox_ds ρ σ rst))) :
    W p l e R s m args below meth c H locs cells slots Q (F0 m pc ls ((ox_ds ρ σ av).reverse ++ .ref (ρ x) :: ox_ds ρ σ rst)) := by
  obtain ⟨hF, hpar, hini, hno, hl1, hin, hsel, cr, hcr, h64, hcls⟩ := hcf
  have hMet := hM q hq
  have hL40 := hF.2.2.2
  have hroom2 : d + 1 ≤ R.frames ∧ 8 + (q.2.2.1 + 11) + 64 * d ≤ R.locals := ⟨hR.1, by omega⟩
  have hcat : ((ox_ds ρ σ rst).map fun v => v.category).sum ≤ 8 := ox_cat8 (by rw [ox_ds_len]; exact hr4)
  exact ox_of_run (va_runV (C := cr.1) (bytes := q.2.1) (maxL := q.2.2.1) (ret := q.2.2.2.1) (As := ox_ds ρ σ av) (rest := ox_ds ρ σ rst) ⟨hx, hb, hml, hown, hts⟩ hMet (cwV (ws' := ox_tb) n hts (ox_tbs (fun w hw => by
      rcases List.mem_append.mp hw with h | h
      · simp only [List.mem_cons, List.not_mem_nil, or_false] at h
        rw [hcls] at h
        rcases h with rfl | rfl | rfl | rfl
        · exact hl1
        · exact hin
        · exact hsel
        · exact hini
      · exact ox_mW_in hF w h)) (by rw [ox_mW, ox_cw_code hno]) rfl rfl ⟨hcls.symm, hF.2.1.1, hF.2.1.2, hpar⟩ hroom2) (ox_preV hH hK hcr h64 hxq) rfl (by rw [ox_ds_len]; exact hn) hls rfl (lv_room hcat) hdg hroom) hL kk
theorem ox_W_face {q : ox_Q} {idx n x ct : Nat} {rst vs : List Value} (hx : p.tables.exec = Jvm.exec) (hb : c.code = cc) (hml : c.maxLocals = nL) (hown : s.vm.findClass own = some m.cls) (hts : ∀ w ∈ ox_tb, w.before args s = true) (hK : ox_K D dA ρ base H0 sx sL s)
    (hH : ox_HR D dA ρ σ base H0 hp nx H) (hL : ∀ z ∈ locs, base ≤ z.base) (hM : ox_Met l D dA ρ σ base H0 sx sL d M (.ref x :: av) hp nx r) (hq : ox_mt[M]? = some q) (hcf : ox_cf own idx 6 n q) (hxq : ox_get hp x = some (q.2.2.2.2.2.1, vs)) (hR : d + 1 ≤ R.frames ∧ 64 * (d + 1) ≤ R.locals) (hn : av.length = n) (hls : ls.size = nL)
    (hr4 : rst.length ≤ 4) (hdg : decode cc pc = .ok (.invokeinterface idx ct, 5)) (hroom : cells + r.2.2.1 ≤ R.cells ∧ slots + r.2.2.2 ≤ R.slots)
    (kk : ∀ (H1 : Heap) (locs1 : List Loc), ox_HR D dA ρ σ base H0 r.2.1 (nx + r.2.2.1) H1 → (∀ z ∈ locs1, base ≤ z.base) → W p l e R s m args below meth c H1 locs1 (cells + r.2.2.1) (slots + r.2.2.2) Q (F0 m (pc + 5) ls ((r.1.map (ox_den ρ σ)).toList ++ ox_ds ρ σ rst))) :
    W p l e R s m args below meth c H locs cells slots Q (F0 m pc ls ((ox_ds ρ σ av).reverse ++ .ref (ρ x) :: ox_ds ρ σ rst)) := by
  obtain ⟨hF, hpar, hini, hno, y, cr, hl1, hsel, hin, hnI, hparx, hcr, h64, hcls⟩ := hcf
  have hMet := hM q hq
  have hL40 := hF.2.2.2
  have hroom2 : d + 1 ≤ R.frames ∧ 8 + (q.2.2.1 + 11) + 64 * d ≤ R.locals := ⟨hR.1, by omega⟩
  have hcat : ((ox_ds ρ σ rst).map fun v => v.category).sum ≤ 8 := ox_cat8 (by rw [ox_ds_len]; exact hr4)
  have hat := (hK.1.1 _ cr hcr).2
  have hno2 := ox_nI_ok _ hnI
  exact ox_of_run5 (va_runF (C := cr.1) (cC := D.1 q.2.2.2.2.2.1) (x := y) (bytes := q.2.1) (maxL := q.2.2.1) (ret := q.2.2.2.1) (As := ox_ds ρ σ av) (rest := ox_ds ρ σ rst) hat ⟨hx, hb, hml, hown, hts⟩ hMet (va_cwF (ws' := ox_tb) n hts (ox_tbs (fun w hw => by
      rcases List.mem_append.mp hw with h | h
      · simp only [List.mem_cons, List.not_mem_nil, or_false] at h
        rw [hcls] at h
        rcases h with rfl | rfl | rfl | rfl
        · exact hl1
        · exact hsel
        · exact hin
        · exact hini
      · exact ox_mW_in hF w h)) (by rw [ox_mW, ox_cw_code hno]) rfl rfl (by rw [hcls]; exact hK.2.2.2.2.2.2.2.2.2.2.1 _ hnI) ⟨hno2.1, hno2.2, hparx⟩ hroom2) (ox_preV hH hK hcr h64 hxq) rfl (by rw [ox_ds_len]; exact hn) hls rfl (lv_room hcat) hdg hroom) hL kk
end OXC
