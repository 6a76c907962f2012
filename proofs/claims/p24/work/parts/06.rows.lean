/-! ===== the instructions that touch the heap ===== -/
/-- the facts of the classes, by number -/
def ox_CF (ci : Nat) (r : vw_C) : Prop := (∀ w ∈ u_ws r.1 r.2.1 r.2.2, w ∈ ox_tb) ∧ (∀ k, k < r.2.2 → parseFieldDescriptor (r.2.1 k).2.2.1 = some (ox_ty ci k)) ∧
  (∀ a, a < r.2.2 → ∀ b, b < r.2.2 → a ≠ b → (r.2.1 a).2.1 ≠ (r.2.1 b).2.1) ∧ (ox_df.getD ci []).length = r.2.2 ∧ (∀ j, j < r.2.2 → defaultValue (ox_ty ci j) = vp_V (ox_df.getD ci []) j) ∧ ci < 64
/-- a field's link -/
def ox_fl (own : String) (idx a b : Nat) (P : vw_C → Prop) : Prop := ∃ (r : vw_C) (ref : String), ox_cl[a]? = some r ∧ ox_CF a r ∧ b < r.2.2 ∧ P r ∧ (ref = (r.2.1 b).1 ∨ Cond.sameField ref (r.2.1 b).1 (r.2.1 b).2.1 (r.2.1 b).2.2.1 ∈ ox_tb) ∧
  (Cond.fieldLink own idx ref (r.2.1 b).2.1 (r.2.1 b).2.2.1 ∈ ox_tb ∨ ∃ host : String, (own, idx, ref, (r.2.1 b).2.1, (r.2.1 b).2.2.1, host) ∈ ox_nF)
section OXR
variable {p : Program} {l : Launch} {e : Env} {R : Room} {s : State} {m : MethodId} {args : Array Value} {below : List Frame} {meth : Method} {c : Code} {H : Heap} {locs : List Loc} {cells slots : Nat} {Q : State → Prop}
variable {cc : ByteArray} {pc : Nat} {ls : Array Slot} {rest : List Value} {own : String}
variable {D : va_G} {dA : Nat → ClassId} {ρ : Nat → Nat} {σ : Nat → Int32} {base : Nat} {H0 : Heap} {sx : Nat → Int32} {sL : Nat} {hp : ox_H} {nx : Nat}
theorem ox_ds_get {vs : List Value} {b : Nat} {v : Value} (h : vs[b]? = some v) : vp_V (ox_ds ρ σ vs) b = ox_den ρ σ v := by
  simp [vp_V, ox_ds, List.getD_eq_getElem?_getD, h]
theorem ox_obj (hK : ox_K D dA ρ base H0 sx sL s) (hH : ox_HR D dA ρ σ base H0 hp nx H) {q t : Nat} {vs : List Value} {r : vw_C} (hc : ox_cl[t]? = some r) (h64 : t < 64) (hq : ox_get hp q = some (t, vs)) :
    va_P D ox_cl [(ρ q, .inr (t, ox_ds ρ σ vs))] H := by
  intro k x hk
  match k, hk with
  | 0, hk =>
    cases hk
    obtain ⟨_, g2⟩ := hH.2.2.2.2 _ _ _ hq
    exact g2.1 h64
  | k + 1, hk => simp at hk
theorem ox_W_getf (hx : p.tables.exec = Jvm.exec) (hb : c.code = cc) (hown : s.vm.findClass own = some m.cls) (hts : ∀ w ∈ ox_tb, w.before args s = true) (hK : ox_K D dA ρ base H0 sx sL s)
    (hH : ox_HR D dA ρ σ base H0 hp nx H) {idx a b q : Nat} {vs : List Value} {v : Value} (hf : ox_fl own idx a b (fun _ => True)) (hq : ox_get hp q = some (a, vs)) (hv : vs[b]? = some v) (hdg : decode cc pc = .ok (.getfield idx, 3))
    (kk : W p l e R s m args below meth c H locs cells slots Q (F0 m (pc + 3) ls (ox_den ρ σ v :: rest))) : W p l e R s m args below meth c H locs cells slots Q (F0 m pc ls (.ref (ρ q) :: rest)) := by
  obtain ⟨⟨C, T, N⟩, ref, hc, hF, hbN, -, hsame, hlink⟩ := hf
  have hP := ox_obj hK hH hc hF.2.2.2.2.2 hq
  have hs : ∀ x, s.fieldFound? (T b).1 (T b).2.1 (T b).2.2.1 = some x → s.fieldFound? ref (T b).2.1 (T b).2.2.1 = some x := by
    intro x h
    rcases hsame with e | e
    · rw [e]; exact h
    · exact u_same (hts _ e) x h
  have hv' : (ox_ds ρ σ vs)[b]? = some (ox_den ρ σ v) := by simp [ox_ds, hv]
  rcases hlink with hl | ⟨host, hl⟩
  · exact va_get hx hb hts hF.1 hown hK.1 hP 0 rfl hc b hbN (hts _ hl) hs hv' hdg kk
  · exact va_getN hx hb hts hF.1 hown hK.1 hP 0 rfl hc b hbN (va_Nw.use rfl (hK.2.2.2.2.2.2.2.2.1 _ hl)) hs hv' hdg kk
theorem ox_fit_ok {k : Nat} {v : Value} {ty : FieldType} (h : ox_fit k v = true) (hk : (k = 0 ∧ ty = .int) ∨ (k = 1 ∧ ty = .boolean) ∨ (k = 2 ∧ ((∃ n, ty = .object n) ∨ ∃ t, ty = .array t)) ∨ (k = 3 ∧ ty = .long) ∨ (k = 4 ∧ ty = .byte)) :
    narrow ty (ox_den ρ σ v) = ox_den ρ σ v ∧ fits ty (ox_den ρ σ v) = true := by
  rcases hk with ⟨rfl, rfl⟩ | ⟨rfl, rfl⟩ | ⟨rfl, h2⟩ | ⟨rfl, rfl⟩ | ⟨rfl, rfl⟩
  · cases v <;> simp [ox_fit] at h <;> exact ⟨rfl, rfl⟩
  · cases v <;> simp [ox_fit] at h
    rcases h with rfl | rfl <;> exact ⟨rfl, rfl⟩
  · rcases h2 with ⟨n, rfl⟩ | ⟨t, rfl⟩ <;> cases v <;> simp [ox_fit] at h <;> exact ⟨rfl, rfl⟩
  · cases v <;> simp [ox_fit] at h; exact ⟨rfl, rfl⟩
  · cases v with
    | int x =>
      simp [ox_fit] at h
      have hn : narrow .byte (.int x) = .int x.toInt8.toInt32 := rfl
      refine ⟨by show narrow .byte (.int x) = .int x; rw [hn, h], ?_⟩
      have := pk_fb x
      rw [h] at this
      exact this
    | _ => simp [ox_fit] at h
theorem ox_set_at {t a : Nat} {vs : List Value} {r : vw_C} {H1 : Heap} {b : Nat} {v : Value} (h64 : t < 64) (hc : ox_cl[t]? = some r) (hl : b < vs.length)
    (h : t_OB a (D.1 t) r.2.2 (D.2 t) H1 (updV (vp_V (ox_ds ρ σ vs)) b (ox_den ρ σ v))) : ox_at D dA t a (ox_ds ρ σ (vs.set b v)) H1 := by
  refine ⟨fun _ => ⟨r, hc, t_OB.to h fun j _ => ?_⟩, fun h2 => by omega⟩
  rw [vp_updV_set (by simp [ox_ds]; exact hl)]
  simp [ox_ds, List.map_set]
theorem ox_W_putf (hx : p.tables.exec = Jvm.exec) (hb : c.code = cc) (hown : s.vm.findClass own = some m.cls) (hts : ∀ w ∈ ox_tb, w.before args s = true) (hK : ox_K D dA ρ base H0 sx sL s) (hE : ox_E ρ base)
    (hH : ox_HR D dA ρ σ base H0 hp nx H) {idx a b k q : Nat} {vs : List Value} {v : Value}
    (hf : ox_fl own idx a b (fun r => ((r.2.1 b).2.2.2 = false ∨ ((r.2.1 b).2.2.2 = true ∧ meth.name = "<init>" ∧ (r.2.1 b).1 = own ∧ ∃ ref : String, ref = (r.2.1 b).1 ∧ Cond.fieldLink own idx ref (r.2.1 b).2.1 (r.2.1 b).2.2.1 ∈ ox_tb)) ∧
      ((k = 0 ∧ ox_ty a b = .int) ∨ (k = 1 ∧ ox_ty a b = .boolean) ∨ (k = 2 ∧ ((∃ n, ox_ty a b = .object n) ∨ ∃ t, ox_ty a b = .array t)) ∨ (k = 3 ∧ ox_ty a b = .long) ∨ (k = 4 ∧ ox_ty a b = .byte))))
    (hq : ox_get hp q = some (a, vs)) (h8 : 8 ≤ q) (hl : b < vs.length) (hfit : ox_fit k v = true) (hL : ∀ z ∈ locs, base ≤ z.base) (hdg : decode cc pc = .ok (.putfield idx, 3))
    (kk : ∀ (H1 : Heap) (locs1 : List Loc), ox_HR D dA ρ σ base H0 (ox_put hp q (a, vs.set b v)) nx H1 → (∀ z ∈ locs1, base ≤ z.base) → W p l e R s m args below meth c H1 locs1 cells slots Q (F0 m (pc + 3) ls rest)) :
    W p l e R s m args below meth c H locs cells slots Q (F0 m pc ls (ox_den ρ σ v :: .ref (ρ q) :: rest)) := by
  obtain ⟨⟨C, T, N⟩, ref, hc, hF, hbN, ⟨hfin, hkd⟩, hsame, hlink⟩ := hf
  obtain ⟨hn, hfi⟩ := ox_fit_ok (ρ := ρ) (σ := σ) hfit hkd
  have hap := va_apart (own := own) hts hF.1 (ox_ty a) hF.2.1 hF.2.2.1 hK.1 hc
  obtain ⟨r, h1, cell, q1, q2, q3, q4⟩ := (hH.2.2.2.2 _ _ _ hq).2.1 hF.2.2.2.2.2
  have hr : r = (C, T, N) := Option.some.inj (h1.symm.trans hc)
  subst hr
  obtain ⟨hS, hfc, kC, hkC, hkind⟩ := hK.1.1 a _ hc
  obtain ⟨cf, kf, fi, f, hi, hsl⟩ := hS b hbN
  have hlay := hts _ (hF.1 _ (u_in_lay hbN))
  have hs : ∀ x, s.fieldFound? (T b).1 (T b).2.1 (T b).2.2.1 = some x → s.fieldFound? ref (T b).2.1 (T b).2.2.1 = some x := by
    intro x h
    rcases hsame with e | e
    · rw [e]; exact h
    · exact u_same (hts _ e) x h
  have hst := (u_facts hfc hkC (u_lays hts hF.1 hbN) hi).1
  have hL1 : ∀ i : Nat, ∀ z ∈ locs ++ [⟨ρ q, i⟩], base ≤ z.base := fun i z hz => by
    rcases List.mem_append.mp hz with h | h
    · exact hL z h
    · rw [List.mem_singleton.mp h]; exact hE.1 q h8
  rcases hfin with hfin | ⟨hfin, hini, hdecl, ref2, hr2, hl2⟩
  · unfold u_lay at hlay
    rw [if_neg (by rw [hfin]; decide)] at hlay
    have h6 := u_store hfc hkC hkind hlay hi (hF.2.1 b hbN) hn hfi
    have fin : ∀ H' : Heap, H'[ρ q]? = some (cell.setSlot f.slot (ox_den ρ σ v)) → H'.size = H.size → (∀ x, x ≠ ρ q → H'[x]? = H[x]?) → W p l e R s m args below meth c H' (locs ++ [⟨ρ q, f.slot⟩]) cells slots Q (F0 m (pc + 3) ls rest) := fun H' e1 e2 e3 => by
      refine kk H' _ (hH.put hE hq h8 e2 e3 (ox_set_at hF.2.2.2.2.2 hc hl ?_)) (hL1 _)
      rw [hsl] at e1
      exact ⟨_, e1, q2, q3, t_set q4 hap hbN _⟩
    rcases hlink with hl | ⟨host, hl⟩
    · exact W.putK hx hb (f := f) ⟨hown, hts _ hl, ⟨_, _, _, hs _ hi⟩, hst⟩ (by rw [q2]; exact h6) q1 q3 (by rw [hsl]; exact k2_hasslot (q4 b hbN)) rfl rfl hdg fin
    · exact va_WputK hx hb (f := f) hown (va_Nw.use rfl (hK.2.2.2.2.2.2.2.2.1 _ hl)) (hs _ hi) hst (by rw [q2]; exact h6) q1 q3 (by rw [hsl]; exact k2_hasslot (q4 b hbN)) rfl rfl hdg fin
  · subst hr2
    unfold u_lay at hlay
    rw [if_pos hfin] at hlay
    have hcf : m.cls = cf := by
      obtain ⟨_, _, c', _, _, _, -, -, hf', -, -, -, hown2, -⟩ := Cond.laysFinal_spec hlay
      have e1 : c' = cf := by have := hi.symm.trans hf'; simp at this; exact this.1.symm
      have hdecl : (T b).1 = own := hdecl
      rw [hdecl] at hown2
      rw [← e1]; exact Option.some.inj (hown.symm.trans hown2)
    have h6 := u_fits hfc hkC hkind (Or.inr hlay) hi (hF.2.1 b hbN) hn hfi
    refine W.putFinK hx hb hown (hts _ hl2) hi hst hcf hini (by rw [q2]; exact h6) q1 q3 (by rw [hsl]; exact k2_hasslot (q4 b hbN)) rfl rfl hdg fun H' e1 e2 e3 => ?_
    refine kk H' _ (hH.put hE hq h8 e2 e3 (ox_set_at hF.2.2.2.2.2 hc hl ?_)) (hL1 _)
    rw [hsl] at e1
    exact ⟨_, e1, q2, q3, t_set q4 hap hbN _⟩
end OXR
