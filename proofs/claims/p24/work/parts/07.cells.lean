/-! ===== new cells, arrays, statics, casts ===== -/
section OXN
variable {p : Program} {l : Launch} {e : Env} {R : Room} {s : State} {m : MethodId} {args : Array Value} {below : List Frame} {meth : Method} {c : Code} {H : Heap} {locs : List Loc} {cells slots : Nat} {Q : State → Prop}
variable {cc : ByteArray} {pc : Nat} {ls : Array Slot} {rest : List Value} {own : String}
variable {D : va_G} {dA : Nat → ClassId} {ρ : Nat → Nat} {σ : Nat → Int32} {base : Nat} {H0 : Heap} {sx : Nat → Int32} {sL : Nat} {hp : ox_H} {nx : Nat}
def ox_plain (v : Value) : Bool := match v with
  | .ref _ => false
  | .retAddr _ => false
  | _ => true
theorem ox_ds_plain {vs : List Value} (h : vs.all ox_plain = true) : ox_ds ρ σ vs = vs := by
  unfold ox_ds
  conv => rhs; rw [← List.map_id vs]
  apply List.map_congr_left
  intro v hv
  have := List.all_eq_true.mp h v hv
  cases v <;> simp_all [ox_plain, ox_den]
theorem ox_W_new (hx : p.tables.exec = Jvm.exec) (hb : c.code = cc) (hown : s.vm.findClass own = some m.cls) (hts : ∀ w ∈ ox_tb, w.before args s = true) (hK : ox_K D dA ρ base H0 sx sL s)
    (hH : ox_HR D dA ρ σ base H0 hp nx H) {idx a : Nat} {r : vw_C} (hc : ox_cl[a]? = some r) (hF : ox_CF a r) (hpl : (ox_df.getD a []).all ox_plain = true)
    (h1 : Cond.classLink own idx r.1 ∈ ox_tb) (h2 : Cond.instantiable r.1 r.2.2 ∈ ox_tb) (h3 : Cond.initialized r.1 ∈ ox_tb) (hcells : cells + 1 ≤ R.cells) (hslots : slots + r.2.2 ≤ R.slots) (hdg : decode cc pc = .ok (.new idx, 3))
    (kk : ∀ H1 : Heap, ox_HR D dA ρ σ base H0 ((nx, (a, ox_df.getD a [])) :: hp) (nx + 1) H1 → W p l e R s m args below meth c H1 locs (cells + 1) (slots + r.2.2) Q (F0 m (pc + 3) ls (.ref (ρ nx) :: rest))) :
    W p l e R s m args below meth c H locs cells slots Q (F0 m pc ls rest) := by
  have hKn := hK.1.1 a _ hc
  refine W.newcK hx hb hown (hts _ h1) (hts _ h2) (hts _ h3) rfl hdg hcells hslots hKn.2.1 rfl fun H1 kC hkC e1 z1 o1 => ?_
  have hat : ox_at D dA a H.size (ox_ds ρ σ (ox_df.getD a [])) H1 := by
    rw [ox_ds_plain hpl]
    exact ⟨fun _ => ⟨r, hc, (u_born (ox_ty a) hts hF.1 hKn hkC e1 hF.2.1).to hF.2.2.2.2.1⟩, fun h => by have := hF.2.2.2.2.2; omega⟩
  obtain ⟨g1, g2⟩ := hH.new z1 o1 hat
  have := kk H1 g1
  rw [g2] at this
  exact this
theorem ox_arrslots (n : Nat) (v : Value) : (Array.replicate n v) = (List.replicate n v).toArray := by simp
theorem ox_W_newa (hx : p.tables.exec = Jvm.exec) (hb : c.code = cc) (hts : ∀ w ∈ ox_tb, w.before args s = true)
    (hH : ox_HR D dA ρ σ base H0 hp nx H) {t : Nat} {atype : ArrayType} (h64 : 64 ≤ t) (hd : defaultValue (newarray.typeOf atype) = .int 0) (hfc : s.vm.findClass ("[" ++ (newarray.typeOf atype).toString) = some (dA t)) (hw : Cond.arrayClass (newarray.typeOf atype) ∈ ox_tb)
    {n : Int32} (h0 : ¬ n < 0) (hn : n.toNatClampNeg < 100000) (hcb : componentBytes (newarray.typeOf atype) ≤ 8) (hcells : cells + 1 ≤ R.cells) (hslots : slots + n.toNatClampNeg ≤ R.slots) (hdg : decode cc pc = .ok (.newarray atype, 2))
    (kk : ∀ H1 : Heap, ox_HR D dA ρ σ base H0 ((nx, (t, List.replicate n.toNatClampNeg (.int 0))) :: hp) (nx + 1) H1 → W p l e R s m args below meth c H1 locs (cells + 1) (slots + n.toNatClampNeg) Q (F0 m (pc + 2) ls (.ref (ρ nx) :: rest))) :
    W p l e R s m args below meth c H locs cells slots Q (F0 m pc ls (.int n :: rest)) := by
  refine W.newa hx hb (hts _ hw) rfl hdg rfl h0 (Nat.le_trans (Nat.mul_le_mul (Nat.le_of_lt hn) hcb) (by omega)) hcells hslots fun cA kA comp f1 f2 f3 => ?_
  have hcA : cA = dA t := Option.some.inj (f1.symm.trans hfc)
  have hat : ox_at D dA t H.size (ox_ds ρ σ (List.replicate n.toNatClampNeg (.int 0))) (H.push { cls := cA, slots := Array.replicate n.toNatClampNeg (defaultValue (newarray.typeOf atype)), vm := .none }) := by
    refine ⟨fun h => by omega, fun _ => ⟨{ cls := cA, slots := Array.replicate n.toNatClampNeg (defaultValue (newarray.typeOf atype)), vm := .none }, by simp, hcA, rfl, ?_⟩⟩
    show Array.replicate n.toNatClampNeg (defaultValue (newarray.typeOf atype)) = _
    rw [hd]
    simp [ox_ds, ox_den, List.map_replicate]
  obtain ⟨g1, g2⟩ := hH.new (by simp) (fun a ha => by simp [Array.getElem?_push_lt, ha]) hat
  have := kk _ g1
  rw [g2] at this
  exact this
theorem ox_W_anew (hx : p.tables.exec = Jvm.exec) (hb : c.code = cc) (hown : s.vm.findClass own = some m.cls) (hts : ∀ w ∈ ox_tb, w.before args s = true) (hK : ox_K D dA ρ base H0 sx sL s) (hov : (Cond.arrayOver (.object "java/lang/Object")).before args s = true)
    (hH : ox_HR D dA ρ σ base H0 hp nx H) {idx : Nat} (hl : Cond.classLink own idx "java/lang/Object" ∈ ox_tb)
    {n : Int32} (h0 : ¬ n < 0) (hn : n.toNatClampNeg < 100000) (hcells : cells + 1 ≤ R.cells) (hslots : slots + n.toNatClampNeg ≤ R.slots) (hdg : decode cc pc = .ok (.anewarray idx, 3))
    (kk : ∀ H1 : Heap, ox_HR D dA ρ σ base H0 ((nx, (66, List.replicate n.toNatClampNeg .null)) :: hp) (nx + 1) H1 → W p l e R s m args below meth c H1 locs (cells + 1) (slots + n.toNatClampNeg) Q (F0 m (pc + 3) ls (.ref (ρ nx) :: rest))) :
    W p l e R s m args below meth c H locs cells slots Q (F0 m pc ls (.int n :: rest)) := by
  refine W.anew (C := "java/lang/Object") hx hb hown (hts _ hl) hov rfl hdg rfl h0 (by omega) hcells hslots fun cA kA comp f1 f2 f3 f4 => ?_
  obtain ⟨_, _, k1, k2, k3, k4⟩ := hK.2.1
  have hcA : cA = dA 66 := Option.some.inj (f1.symm.trans k4)
  have hat : ox_at D dA 66 H.size (ox_ds ρ σ (List.replicate n.toNatClampNeg .null)) (H.push { cls := cA, slots := Array.replicate n.toNatClampNeg .null, vm := .none }) := by
    refine ⟨fun h => by omega, fun _ => ⟨{ cls := cA, slots := Array.replicate n.toNatClampNeg .null, vm := .none }, by simp, hcA, rfl, ?_⟩⟩
    show Array.replicate n.toNatClampNeg Value.null = _
    simp [ox_ds, ox_den, List.map_replicate]
  obtain ⟨g1, g2⟩ := hH.new (by simp) (fun a ha => by simp [Array.getElem?_push_lt, ha]) hat
  have := kk _ g1
  rw [g2] at this
  exact this
theorem ox_isArr (hK : ox_K D dA ρ base H0 sx sL s) {cell : Cell} (h1 : cell.cls = dA 66) (h2 : cell.vm = .none) : s.isArrayOf cell (.object "java/lang/Object") := by
  obtain ⟨kA, comp, k1, k2, k3, k4⟩ := hK.2.1
  exact ⟨fun k h => (by rw [h2] at h; cases h), kA, (by rw [h1]; exact k1), comp, k2⟩
theorem ox_W_alen (hx : p.tables.exec = Jvm.exec) (hb : c.code = cc) (hK : ox_K D dA ρ base H0 sx sL s) (hH : ox_HR D dA ρ σ base H0 hp nx H) {q : Nat} {vs : List Value} (hq : ox_get hp q = some (66, vs)) (hdg : decode cc pc = .ok (.arraylength, 1))
    (kk : W p l e R s m args below meth c H locs cells slots Q (F0 m (pc + 1) ls (.int (Int32.ofNat vs.length) :: rest))) : W p l e R s m args below meth c H locs cells slots Q (F0 m pc ls (.ref (ρ q) :: rest)) := by
  obtain ⟨cell, e1, e2, e3, e4⟩ := (hH.2.2.2.2 _ _ _ hq).2.2 (by omega)
  refine W.alen hx hb e1 (ox_isArr hK e2 e3) ?_ rfl rfl hdg kk
  rw [e4]; simp [ox_ds]
theorem ox_W_slen (hx : p.tables.exec = Jvm.exec) (hb : c.code = cc) (hK : ox_K D dA ρ base H0 sx sL s) (hE : ox_E ρ base) (hH : ox_HR D dA ρ σ base H0 hp nx H) (hdg : decode cc pc = .ok (.arraylength, 1))
    (kk : W p l e R s m args below meth c H locs cells slots Q (F0 m (pc + 1) ls (.int (Int32.ofNat sL) :: rest))) : W p l e R s m args below meth c H locs cells slots Q (F0 m pc ls (.ref (ρ 0) :: rest)) := by
  obtain ⟨scr, x1, x2, x3, x4, x5⟩ := hK.2.2.2.2.2.2.2.1
  refine W.alen hx hb (by rw [hH.1 _ (hE.2.2 0 (by omega))]; exact x1) x2 ?_ rfl rfl hdg kk
  rw [x4]
theorem ox_W_sld (hx : p.tables.exec = Jvm.exec) (hb : c.code = cc) (hK : ox_K D dA ρ base H0 sx sL s) (hE : ox_E ρ base) (hH : ox_HR D dA ρ σ base H0 hp nx H) {j : Int32} (h0 : ¬ j < 0) (h1 : j.toNatClampNeg < sL) (hdg : decode cc pc = .ok (.iaload, 1))
    (kk : W p l e R s m args below meth c H locs cells slots Q (F0 m (pc + 1) ls (.int (sx j.toNatClampNeg) :: rest))) : W p l e R s m args below meth c H locs cells slots Q (F0 m pc ls (.int j :: .ref (ρ 0) :: rest)) := by
  obtain ⟨scr, x1, x2, x3, x4, x5⟩ := hK.2.2.2.2.2.2.2.1
  exact W.iald hx hb (by rw [hH.1 _ (hE.2.2 0 (by omega))]; exact x1) x2 x3 (by rw [x4]; intro h; rcases h with h | h; exact h0 h; omega) (x5 _ h1) rfl rfl hdg kk
theorem ox_W_aald (hx : p.tables.exec = Jvm.exec) (hb : c.code = cc) (hK : ox_K D dA ρ base H0 sx sL s) (hH : ox_HR D dA ρ σ base H0 hp nx H) {q : Nat} {vs : List Value} {v : Value} {j : Int32} (hq : ox_get hp q = some (66, vs)) (h0 : ¬ j < 0) (hv : vs[j.toNatClampNeg]? = some v) (hdg : decode cc pc = .ok (.aaload, 1))
    (kk : W p l e R s m args below meth c H locs cells slots Q (F0 m (pc + 1) ls (ox_den ρ σ v :: rest))) : W p l e R s m args below meth c H locs cells slots Q (F0 m pc ls (.int j :: .ref (ρ q) :: rest)) := by
  obtain ⟨cell, e1, e2, e3, e4⟩ := (hH.2.2.2.2 _ _ _ hq).2.2 (by omega)
  have hlt : j.toNatClampNeg < vs.length := (List.getElem?_eq_some_iff.mp hv).1
  exact W.aald hx hb e1 (ox_isArr hK e2 e3) rfl (by rw [e3]; exact fun h => by cases h) (by rw [e4]; intro h; rcases h with h | h; exact h0 h; simp [ox_ds] at h; omega) (by rw [e4]; simp [ox_ds, hv]) rfl rfl hdg kk
theorem ox_W_aast (hx : p.tables.exec = Jvm.exec) (hb : c.code = cc) (hK : ox_K D dA ρ base H0 sx sL s) (hE : ox_E ρ base) (hH : ox_HR D dA ρ σ base H0 hp nx H) {q t x : Nat} {vs ws : List Value} {j : Int32} (hq : ox_get hp q = some (66, vs)) (h8 : 8 ≤ q) (h0 : ¬ j < 0) (hj : j.toNatClampNeg < vs.length)
    (hxq : ox_get hp x = some (t, ws)) (ht : t < 64) (hL : ∀ z ∈ locs, base ≤ z.base) (hdg : decode cc pc = .ok (.aastore, 1))
    (kk : ∀ (H1 : Heap) (locs1 : List Loc), ox_HR D dA ρ σ base H0 (ox_put hp q (66, vs.set j.toNatClampNeg (.ref x))) nx H1 → (∀ z ∈ locs1, base ≤ z.base) → W p l e R s m args below meth c H1 locs1 cells slots Q (F0 m (pc + 1) ls rest)) :
    W p l e R s m args below meth c H locs cells slots Q (F0 m pc ls (.ref (ρ x) :: .int j :: .ref (ρ q) :: rest)) := by
  obtain ⟨cell, e1, e2, e3, e4⟩ := (hH.2.2.2.2 _ _ _ hq).2.2 (by omega)
  obtain ⟨r, hc, cv, g1, g2, g3, -⟩ := (hH.2.2.2.2 _ _ _ hxq).2.1 ht
  obtain ⟨kA, comp, k1, k2, k3, -⟩ := hK.2.1
  obtain ⟨kE, hkE, -⟩ := Vm.findClass_spec k3
  have hcls := (hK.1.1 t r hc).2
  obtain ⟨kC, hkC, -⟩ := hcls.2
  have hasg := vb_asgC (hK.2.2.2.2.2.2.2.2.2.2.2.1 r (List.mem_of_getElem? hc)) comp (D.1 t) k3 hcls.1
  refine W.aast hx hb e1 (fun q h => by rw [e3] at h; cases h) (by rw [e3]; exact fun h => by cases h) (by rw [e2]; exact k1) k2 rfl hkE ⟨h0, by rw [e4]; simp [ox_ds]; exact hj⟩ g1 (fun q h => by rw [g3] at h; cases h) (by rw [g2]; exact hkC) (by rw [g2]; exact hasg) rfl rfl hdg fun H1 e z oq => ?_
  refine kk H1 _ (hH.put hE hq h8 z oq ⟨fun h => by omega, fun _ => ⟨_, e, e2, e3, ?_⟩⟩) fun z hz => ?_
  · show cell.slots.setIfInBounds _ _ = _
    rw [e4]
    simp [ox_ds, ox_den, List.map_set]
  · rcases List.mem_append.mp hz with h | h
    · exact hL z h
    · rw [List.mem_singleton.mp h]; exact hE.1 q h8
theorem ox_W_cast (hx : p.tables.exec = Jvm.exec) (hb : c.code = cc) (hown : s.vm.findClass own = some m.cls) (hts : ∀ w ∈ ox_tb, w.before args s = true) (hK : ox_K D dA ρ base H0 sx sL s) (hH : ox_HR D dA ρ σ base H0 hp nx H) {idx a q : Nat} {r : vw_C} {vs : List Value} (hc : ox_cl[a]? = some r) (h64 : a < 64) (hl : Cond.classLink own idx r.1 ∈ ox_tb) (hq : ox_get hp q = some (a, vs)) (hdg : decode cc pc = .ok (.checkcast idx, 3))
    (kk : W p l e R s m args below meth c H locs cells slots Q (F0 m (pc + 3) ls (.ref (ρ q) :: rest))) : W p l e R s m args below meth c H locs cells slots Q (F0 m pc ls (.ref (ρ q) :: rest)) :=
  va_castS hx hb hown (hts _ hl) (hK.1.1 a r hc).2 (va_recv hK.1 (ox_obj hK hH hc h64 hq) hc (q0 := 0) rfl) hdg kk
theorem ox_W_gets (hx : p.tables.exec = Jvm.exec) (hb : c.code = cc) (hown : s.vm.findClass own = some m.cls) (hts : ∀ w ∈ ox_tb, w.before args s = true) (hH : ox_HR D dA ρ σ base H0 hp nx H) {idx : Nat} {C n d : String} {v : Value} (hZ : va_Z C n d v (fun q => base ≤ q) s H0) (hl : Cond.fieldLink own idx C n d ∈ ox_tb) (hdg : decode cc pc = .ok (.getstatic idx, 3))
    (kk : W p l e R s m args below meth c H locs cells slots Q (F0 m (pc + 3) ls (v :: rest))) : W p l e R s m args below meth c H locs cells slots Q (F0 m pc ls rest) := by
  obtain ⟨cf, kf, fi, f, a, cell, h1, h2, h3, h4, h5, h6, h7, h8⟩ := hZ
  exact W.gets hx hb hown (hts _ hl) h1 h2 h3 h4 (by rw [hH.1 a (Nat.lt_of_not_le h8)]; exact h5) (fun e => by rw [e] at h6; cases h6) h7 rfl hdg kk
end OXN
