section OXT
variable {p : Program} {l : Launch} {e : Env} {R : Room} {s : State} {m : MethodId} {args : Array Value} {below : List Frame} {meth : Method} {c : Code} {Q : State → Prop}
variable {cc : ByteArray} {own mname : String} {nL d : Nat}
variable {D : va_G} {dA : Nat → ClassId} {ρ : Nat → Nat} {σ : Nat → Int32} {base : Nat} {H0 : Heap} {sx : Nat → Int32} {sL : Nat} {nx k0 u0 : Nat}
variable {cal : Nat → List Value → ox_H → Nat → Option ox_R}
theorem ox_isI_den {v : Value} (h : ox_isI v = true) : ∃ x : Int32, ox_den ρ σ v = .int x := by
  cases v <;> simp [ox_isI] at h
  · exact ⟨_, rfl⟩
  · exact ⟨_, rfl⟩
/-- the fixed facts of a method's frame -/
def ox_Fx (p : Program) (R : Room) (s : State) (m : MethodId) (args : Array Value) (meth : Method) (c : Code) (cc : ByteArray) (own mname : String) (nL d : Nat) (D : va_G) (dA : Nat → ClassId) (ρ : Nat → Nat) (base : Nat) (H0 : Heap) (sx : Nat → Int32) (sL : Nat) : Prop :=
  p.tables.exec = Jvm.exec ∧ c.code = cc ∧ c.maxLocals = nL ∧ s.vm.findClass own = some m.cls ∧ (∀ w ∈ ox_tb, w.before args s = true) ∧ ox_K D dA ρ base H0 sx sL s ∧ ox_E ρ base ∧ meth.name = mname ∧ (d + 1 ≤ R.frames ∧ 64 * (d + 1) ≤ R.locals)
theorem ox_take_drop {st : List Value} {n : Nat} {v : Value} {rest : List Value} (h : st.drop n = v :: rest) : st = st.take n ++ v :: rest ∧ (st.take n).reverse.length = n := by
  refine ⟨by rw [← h, List.take_append_drop], ?_⟩
  have : n < st.length := by
    rcases Nat.lt_or_ge n st.length with q | q
    · exact q
    · rw [List.drop_eq_nil_of_le q] at h; cases h
  simp; omega
theorem ox_s_call {pc : Nat} {ls : ox_L} {st : List Value} {hp : ox_H} {k u M dd : Nat} {av rest : List Value} {g : ox_F} (h : ox_call cal nx M dd av rest (pc, ls, st, hp, k, u) = some (.inl g)) :
    rest.length ≤ 4 ∧ ∃ r : ox_R, cal M av hp (nx + k) = some r ∧ g = (pc + dd, ls, r.1.toList ++ rest, r.2.1, k + r.2.2.1, u + r.2.2.2) := by
  simp only [ox_call] at h
  cases h4 : Nat.ble rest.length 4 with
  | false => rw [h4] at h; cases h
  | true =>
    rw [h4] at h
    refine ⟨Nat.le_of_ble_eq_true h4, ?_⟩
    cases hc : cal M av hp (nx + k) with
    | none => rw [hc] at h; cases h
    | some r => rw [hc] at h; cases h; exact ⟨r, rfl, rfl⟩
theorem ox_ds_opt {v : Option Value} {rest : List Value} : ox_ds ρ σ (v.toList ++ rest) = (v.map (ox_den ρ σ)).toList ++ ox_ds ρ σ rest := by
  cases v <;> rfl
theorem ox_s_virt {pc : Nat} {ls : ox_L} {st : List Value} {hp : ox_H} {k u M n t dd : Nat} {g : ox_F} (h : ox_virt cal nx M n t dd (pc, ls, st, hp, k, u) = some (.inl g)) :
    ∃ (x : Nat) (rest vs : List Value), st = st.take n ++ .ref x :: rest ∧ (st.take n).reverse.length = n ∧ ox_get hp x = some (t, vs) ∧ ox_call cal nx M dd (.ref x :: (st.take n).reverse) rest (pc, ls, st, hp, k, u) = some (.inl g) := by
  simp only [ox_virt] at h
  cases hd : st.drop n with
  | nil => rw [hd] at h; cases h
  | cons v rest =>
    rw [hd] at h
    cases v with
    | ref x =>
      obtain ⟨e1, e2⟩ := ox_take_drop hd
      dsimp only at h
      cases hg : ox_get hp x with
      | none => rw [hg] at h; cases h
      | some cl =>
        rw [hg] at h
        dsimp only at h
        cases hb : Nat.beq cl.1 t with
        | false => rw [hb] at h; cases h
        | true =>
          rw [hb] at h
          exact ⟨x, rest, cl.2, e1, e2, by rw [hg, ← Nat.eq_of_beq_eq_true hb], h⟩
    | _ => cases h
theorem ox_s_spec {pc : Nat} {ls : ox_L} {st : List Value} {hp : ox_H} {k u M n : Nat} {g : ox_F} (h : ox_spec cal nx M n (pc, ls, st, hp, k, u) = some (.inl g)) :
    ∃ (x : Nat) (rest : List Value), st = st.take n ++ .ref x :: rest ∧ (st.take n).reverse.length = n ∧ ox_call cal nx M 3 (.ref x :: (st.take n).reverse) rest (pc, ls, st, hp, k, u) = some (.inl g) := by
  simp only [ox_spec] at h
  cases hd : st.drop n with
  | nil => rw [hd] at h; cases h
  | cons v rest =>
    rw [hd] at h
    cases v with
    | ref x =>
      obtain ⟨e1, e2⟩ := ox_take_drop hd
      exact ⟨x, rest, e1, e2, h⟩
    | _ => cases h
theorem ox_ds_rr {st : List Value} {n : Nat} {v : Value} {rest : List Value} (h : st = st.take n ++ v :: rest) : ox_ds ρ σ st = (ox_ds ρ σ (st.take n).reverse).reverse ++ ox_den ρ σ v :: ox_ds ρ σ rest := by
  conv => lhs; rw [h]
  rw [ox_ds_rev, List.reverse_reverse]
  simp [ox_ds]
theorem ox_tag_mt {M : Nat} {q : ox_Q} (h : ox_mt[M]? = some q) : ox_tag M = q.2.2.2.2.2.1 := by unfold ox_tag; rw [h]
abbrev ox_Go (p : Program) (l : Launch) (e : Env) (R : Room) (s : State) (m : MethodId) (args : Array Value) (below : List Frame) (meth : Method) (c : Code) (Q : State → Prop) (nL : Nat) (D : va_G) (dA : Nat → ClassId) (ρ : Nat → Nat) (σ : Nat → Int32) (base : Nat) (H0 : Heap) (k0 u0 nx : Nat) (f g : ox_F) : Prop :=
  f.2.2.2.2.1 ≤ g.2.2.2.2.1 ∧ f.2.2.2.2.2 ≤ g.2.2.2.2.2 ∧ (k0 + g.2.2.2.2.1 ≤ R.cells → u0 + g.2.2.2.2.2 ≤ R.slots → ox_V p l e R s m args below meth c Q nL D dA ρ σ base H0 k0 u0 nx g → ox_V p l e R s m args below meth c Q nL D dA ρ σ base H0 k0 u0 nx f)
theorem ox_s_callok {pc : Nat} {ls : ox_L} {st : List Value} {hp : ox_H} {k u M dd : Nat} {av rest : List Value} {g : ox_F} (h : ox_call cal nx M dd av rest (pc, ls, st, hp, k, u) = some (.inl g))
    (hcal : ∀ M av hp nx r, cal M av hp nx = some r → ox_Met l D dA ρ σ base H0 sx sL d M av hp nx r)
    (kk : ∀ r : ox_R, ox_Met l D dA ρ σ base H0 sx sL d M av hp (nx + k) r → rest.length ≤ 4 → k0 + k + r.2.2.1 ≤ R.cells → u0 + u + r.2.2.2 ≤ R.slots → ∀ (H : Heap) (locs : List Loc) (lsA : Array Slot), ox_HR D dA ρ σ base H0 hp (nx + k) H → (∀ z ∈ locs, base ≤ z.base) → lv_has lsA nL (ox_dm ρ σ ls) →
      (∀ (H1 : Heap) (locs1 : List Loc), ox_HR D dA ρ σ base H0 r.2.1 (nx + k + r.2.2.1) H1 → (∀ z ∈ locs1, base ≤ z.base) → W p l e R s m args below meth c H1 locs1 (k0 + k + r.2.2.1) (u0 + u + r.2.2.2) Q (F0 m (pc + dd) lsA ((r.1.map (ox_den ρ σ)).toList ++ ox_ds ρ σ rest))) →
      W p l e R s m args below meth c H locs (k0 + k) (u0 + u) Q (F0 m pc lsA (ox_ds ρ σ st))) :
    ox_Go p l e R s m args below meth c Q nL D dA ρ σ base H0 k0 u0 nx (pc, ls, st, hp, k, u) g := by
  obtain ⟨h4, r, hc, rfl⟩ := ox_s_call h
  refine ⟨Nat.le_add_right _ _, Nat.le_add_right _ _, fun h1 h2 hV H locs lsA hH hL hl => ?_⟩
  refine kk r (hcal _ _ _ _ _ hc) h4 (by rw [Nat.add_assoc]; exact h1) (by rw [Nat.add_assoc]; exact h2) H locs lsA hH hL hl fun H1 locs1 g1 g2 => ?_
  have := hV H1 locs1 lsA (by rw [← Nat.add_assoc]; exact g1) g2 hl
  rw [ox_ds_opt] at this
  exact W.cs (Nat.add_assoc _ _ _) (Nat.add_assoc _ _ _) this
set_option maxHeartbeats 4000000 in
theorem ox_step_ok (F : ox_Fx p R s m args meth c cc own mname nL d D dA ρ base H0 sx sL) {w : ox_I} {f g : ox_F} {ret : Option FieldType} (hrow : ox_rok own mname nL ret cc f.1 w) (h : ox_step sx sL cal nx w f = some (.inl g))
    (hcal : ∀ M av hp nx r, cal M av hp nx = some r → ox_Met l D dA ρ σ base H0 sx sL d M av hp nx r) :
    ox_Go p l e R s m args below meth c Q nL D dA ρ σ base H0 k0 u0 nx f g := by
  obtain ⟨hx, hb, hml, hown, hts, hK, hE, hname, hR⟩ := F
  obtain ⟨pc, ls, st, hp, k, u⟩ := f
  obtain ⟨ins, a, b, kc⟩ := w
  obtain ⟨hdg, hrx⟩ := hrow
  cases ins
  all_goals try (simp only [ox_step, reduceCtorEq] at h; done)
  case iconst n =>
    cases h
    exact ⟨Nat.le_refl _, Nat.le_refl _, fun _ _ hV H locs lsA hH hL hl => lv_iconst hx hb hdg rfl (hV H locs lsA hH hL hl)⟩
  case bipush n =>
    cases h
    exact ⟨Nat.le_refl _, Nat.le_refl _, fun _ _ hV H locs lsA hH hL hl => lv_bipush hx hb hdg rfl (hV H locs lsA hH hL hl)⟩
  case sipush n =>
    cases h
    exact ⟨Nat.le_refl _, Nat.le_refl _, fun _ _ hV H locs lsA hH hL hl => lv_sipush hx hb hdg rfl (hV H locs lsA hH hL hl)⟩
  case aconst_null =>
    cases h
    exact ⟨Nat.le_refl _, Nat.le_refl _, fun _ _ hV H locs lsA hH hL hl => lv_null hx hb hdg (hV H locs lsA hH hL hl)⟩
  case ldc idx =>
    cases h
    obtain ⟨rfl, rfl, ha⟩ := hrx
    have ha : a = 2 := ha
    subst ha
    exact ⟨Nat.le_refl _, Nat.le_refl _, fun _ _ hV H locs lsA hH hL hl => va_ldcS hx hb hown hK.2.2.2.2.2.2.1 hdg (hV H locs lsA hH hL hl)⟩
  case iload i =>
    simp only [ox_step, ox_ldI] at h
    cases hv : ox_lk ls i with
    | none => rw [hv] at h; cases h
    | some v =>
      rw [hv] at h
      dsimp only at h
      cases hi : ox_isI v with
      | false => rw [hi] at h; cases h
      | true =>
        rw [hi] at h
        cases h
        obtain ⟨x, ex⟩ := ox_isI_den (ρ := ρ) (σ := σ) hi
        refine ⟨Nat.le_refl _, Nat.le_refl _, fun _ _ hV H locs lsA hH hL hl => lv_iload hx hb hdg (x := x) (by rw [← ex]; exact ox_lk_has hl hv) ?_⟩
        rw [← ex]
        exact hV H locs lsA hH hL hl
  case iload_n i =>
    simp only [ox_step, ox_ldI] at h
    cases hv : ox_lk ls i.val with
    | none => rw [hv] at h; cases h
    | some v =>
      rw [hv] at h
      dsimp only at h
      cases hi : ox_isI v with
      | false => rw [hi] at h; cases h
      | true =>
        rw [hi] at h
        cases h
        obtain ⟨x, ex⟩ := ox_isI_den (ρ := ρ) (σ := σ) hi
        refine ⟨Nat.le_refl _, Nat.le_refl _, fun _ _ hV H locs lsA hH hL hl => lv_iload_n hx hb hdg rfl (x := x) (by rw [← ex]; exact ox_lk_has hl hv) ?_⟩
        rw [← ex]
        exact hV H locs lsA hH hL hl
  case aload i =>
    simp only [ox_step, ox_ldA] at h
    cases hv : ox_lk ls i with
    | none => rw [hv] at h; cases h
    | some v =>
      rw [hv] at h
      cases v with
      | ref q =>
        cases h
        exact ⟨Nat.le_refl _, Nat.le_refl _, fun _ _ hV H locs lsA hH hL hl => lv_aload hx hb hdg (ox_lk_has hl hv) (hV H locs lsA hH hL hl)⟩
      | _ => cases h
  case aload_n i =>
    simp only [ox_step, ox_ldA] at h
    cases hv : ox_lk ls i.val with
    | none => rw [hv] at h; cases h
    | some v =>
      rw [hv] at h
      cases v with
      | ref q =>
        cases h
        exact ⟨Nat.le_refl _, Nat.le_refl _, fun _ _ hV H locs lsA hH hL hl => lv_aload_n hx hb hdg rfl (ox_lk_has hl hv) (hV H locs lsA hH hL hl)⟩
      | _ => cases h
  case istore i =>
    simp only [ox_step, ox_stI] at h
    cases st with
    | nil => cases h
    | cons v r =>
      dsimp only at h
      cases hi : ox_isI v with
      | false => rw [hi] at h; cases h
      | true =>
        rw [hi] at h
        cases h
        obtain ⟨x, ex⟩ := ox_isI_den (ρ := ρ) (σ := σ) hi
        refine ⟨Nat.le_refl _, Nat.le_refl _, fun _ _ hV H locs lsA hH hL hl => ?_⟩
        show W p l e R s m args below meth c H locs (k0 + k) (u0 + u) Q (F0 m pc lsA (ox_den ρ σ v :: ox_ds ρ σ r))
        rw [ex]
        exact lv_istore hx hb hdg hl hrx (by rw [← ex]; exact ox_dm_sto ρ σ ls i v) fun ls' hl' => hV H locs ls' hH hL hl'
  case istore_n i =>
    simp only [ox_step, ox_stI] at h
    cases st with
    | nil => cases h
    | cons v r =>
      dsimp only at h
      cases hi : ox_isI v with
      | false => rw [hi] at h; cases h
      | true =>
        rw [hi] at h
        cases h
        obtain ⟨x, ex⟩ := ox_isI_den (ρ := ρ) (σ := σ) hi
        refine ⟨Nat.le_refl _, Nat.le_refl _, fun _ _ hV H locs lsA hH hL hl => ?_⟩
        show W p l e R s m args below meth c H locs (k0 + k) (u0 + u) Q (F0 m pc lsA (ox_den ρ σ v :: ox_ds ρ σ r))
        rw [ex]
        exact lv_istore_n hx hb hdg rfl hl hrx (by rw [← ex]; exact ox_dm_sto ρ σ ls i.val v) fun ls' hl' => hV H locs ls' hH hL hl'
  case astore i =>
    simp only [ox_step, ox_stA] at h
    cases st with
    | nil => cases h
    | cons v r =>
      cases v with
      | ref q =>
        cases h
        exact ⟨Nat.le_refl _, Nat.le_refl _, fun _ _ hV H locs lsA hH hL hl => lv_astore hx hb hdg hl hrx (ox_dm_sto ρ σ ls i (.ref q)) fun ls' hl' => hV H locs ls' hH hL hl'⟩
      | _ => cases h
  case astore_n i =>
    simp only [ox_step, ox_stA] at h
    cases st with
    | nil => cases h
    | cons v r =>
      cases v with
      | ref q =>
        cases h
        exact ⟨Nat.le_refl _, Nat.le_refl _, fun _ _ hV H locs lsA hH hL hl => lv_astore_n hx hb hdg rfl hl hrx (ox_dm_sto ρ σ ls i.val (.ref q)) fun ls' hl' => hV H locs ls' hH hL hl'⟩
      | _ => cases h
  case iinc i n =>
    simp only [ox_step] at h
    cases hv : ox_lk ls i with
    | none => rw [hv] at h; cases h
    | some v =>
      rw [hv] at h
      cases v with
      | int x =>
        cases h
        refine ⟨Nat.le_refl _, Nat.le_refl _, fun _ _ hV H locs lsA hH hL hl => ?_⟩
        obtain ⟨j, hj⟩ := List.getElem?_of_mem (List.mem_map.mpr ⟨(i, Value.int x), ox_lk_mem hv, rfl⟩ : (i, ox_den ρ σ (Value.int x)) ∈ ox_dm ρ σ ls)
        exact lv_iinc hx hb hdg hl (k := j) hj rfl (by have := lv_lt (ox_lk_has hl hv); rw [hl.1] at this; exact this) (ox_dm_sto ρ σ ls i (.int (x + Int32.ofInt n))) fun ls' hl' => hV H locs ls' hH hL hl'
      | _ => cases h
  case iadd =>
    simp only [ox_step, ox_bin] at h
    split at h
    · cases h
      exact ⟨Nat.le_refl _, Nat.le_refl _, fun _ _ hV H locs lsA hH hL hl => lv_iadd hx hb hdg (hV H locs lsA hH hL hl)⟩
    · cases h
  case isub =>
    simp only [ox_step, ox_bin] at h
    split at h
    · cases h
      exact ⟨Nat.le_refl _, Nat.le_refl _, fun _ _ hV H locs lsA hH hL hl => lv_isub hx hb hdg (hV H locs lsA hH hL hl)⟩
    · cases h
  case iand =>
    simp only [ox_step, ox_bin] at h
    split at h
    · cases h
      exact ⟨Nat.le_refl _, Nat.le_refl _, fun _ _ hV H locs lsA hH hL hl => lv_iand hx hb hdg (hV H locs lsA hH hL hl)⟩
    · cases h
  case ior =>
    simp only [ox_step, ox_bin] at h
    split at h
    · cases h
      exact ⟨Nat.le_refl _, Nat.le_refl _, fun _ _ hV H locs lsA hH hL hl => lv_ior hx hb hdg (hV H locs lsA hH hL hl)⟩
    · cases h
  case i2l =>
    simp only [ox_step] at h
    split at h
    · cases h
      exact ⟨Nat.le_refl _, Nat.le_refl _, fun _ _ hV H locs lsA hH hL hl => lv_i2l hx hb hdg rfl (hV H locs lsA hH hL hl)⟩
    · cases h
  case lcmp =>
    simp only [ox_step] at h
    split at h
    · cases h
      exact ⟨Nat.le_refl _, Nat.le_refl _, fun _ _ hV H locs lsA hH hL hl => W.lcmp hx hb hdg (hV H locs lsA hH hL hl)⟩
    · cases h
  case dup =>
    simp only [ox_step] at h
    split at h
    · next v r =>
      cases hc : Nat.beq v.category 1 with
      | false => rw [hc] at h; cases h
      | true =>
        rw [hc] at h
        cases h
        exact ⟨Nat.le_refl _, Nat.le_refl _, fun _ _ hV H locs lsA hH hL hl => lv_dup hx hb hdg (by rw [ox_den_cat]; exact Nat.eq_of_beq_eq_true hc) (hV H locs lsA hH hL hl)⟩
    · cases h
  case dup_x1 =>
    simp only [ox_step] at h
    split at h
    · next v y r =>
      cases hc : (Nat.beq v.category 1 && Nat.beq y.category 1) with
      | false => rw [hc] at h; cases h
      | true =>
        rw [hc] at h
        cases h
        obtain ⟨h1, h2⟩ := Bool.and_eq_true_iff.mp hc
        exact ⟨Nat.le_refl _, Nat.le_refl _, fun _ _ hV H locs lsA hH hL hl => lv_dup_x1 hx hb hdg (by rw [ox_den_cat]; exact Nat.eq_of_beq_eq_true h1) (by rw [ox_den_cat]; exact Nat.eq_of_beq_eq_true h2) (hV H locs lsA hH hL hl)⟩
    · cases h
  case pop =>
    simp only [ox_step] at h
    split at h
    · next v r =>
      cases hc : Nat.beq v.category 1 with
      | false => rw [hc] at h; cases h
      | true =>
        rw [hc] at h
        cases h
        exact ⟨Nat.le_refl _, Nat.le_refl _, fun _ _ hV H locs lsA hH hL hl => lv_pop hx hb hdg (by rw [ox_den_cat]; exact Nat.eq_of_beq_eq_true hc) (hV H locs lsA hH hL hl)⟩
    · cases h
  case goto off =>
    cases h
    exact ⟨Nat.le_refl _, Nat.le_refl _, fun _ _ hV H locs lsA hH hL hl => lv_goto hx hb hdg hrx (hV H locs lsA hH hL hl)⟩
  case ifCond cd off =>
    simp only [ox_step] at h
    split at h
    · next x r =>
      cases hc : ox_cmp cd x 0 with
      | true =>
        rw [hc] at h
        cases h
        exact ⟨Nat.le_refl _, Nat.le_refl _, fun _ _ hV H locs lsA hH hL hl => ox_W_if hx hb hdg hrx (fun _ => hV H locs lsA hH hL hl) (fun h2 => by rw [hc] at h2; cases h2)⟩
      | false =>
        rw [hc] at h
        cases h
        exact ⟨Nat.le_refl _, Nat.le_refl _, fun _ _ hV H locs lsA hH hL hl => ox_W_if hx hb hdg hrx (fun h2 => by rw [hc] at h2; cases h2) (fun _ => hV H locs lsA hH hL hl)⟩
    · cases h
  case if_icmp cd off =>
    simp only [ox_step] at h
    split at h
    · next y x r =>
      cases hc : ox_cmp cd x y with
      | true =>
        rw [hc] at h
        cases h
        exact ⟨Nat.le_refl _, Nat.le_refl _, fun _ _ hV H locs lsA hH hL hl => ox_W_icmp hx hb hdg hrx (fun _ => hV H locs lsA hH hL hl) (fun h2 => by rw [hc] at h2; cases h2)⟩
      | false =>
        rw [hc] at h
        cases h
        exact ⟨Nat.le_refl _, Nat.le_refl _, fun _ _ hV H locs lsA hH hL hl => ox_W_icmp hx hb hdg hrx (fun h2 => by rw [hc] at h2; cases h2) (fun _ => hV H locs lsA hH hL hl)⟩
    · cases h
  case ireturn =>
    simp only [ox_step] at h
    split at h
    · next x =>
      cases hc : (Nat.beq a 0 || decide (x = 0) || decide (x = 1)) with
      | true => rw [hc] at h; cases h
      | false => rw [hc] at h; cases h
    · cases h
  case areturn =>
    simp only [ox_step] at h
    split at h <;> cases h
  case return_ =>
    simp only [ox_step] at h
    split at h <;> cases h
  case if_acmp cd off =>
    simp only [ox_step] at h
    split at h
    · next y x r =>
      cases hc : (Nat.ble 8 x || Nat.ble 8 y || Nat.beq x y) with
      | false => rw [hc] at h; cases h
      | true =>
        rw [hc] at h
        have hiff : ρ x = ρ y ↔ x = y := by
          refine ⟨fun e2 => ?_, fun e2 => by rw [e2]⟩
          by_cases hxy : x = y
          · exact hxy
          · have h1 : 8 ≤ x ∨ 8 ≤ y := by
              rcases Bool.or_eq_true_iff.mp hc with h1 | h1
              · rcases Bool.or_eq_true_iff.mp h1 with h1 | h1
                · exact Or.inl (Nat.le_of_ble_eq_true h1)
                · exact Or.inr (Nat.le_of_ble_eq_true h1)
              · exact absurd (Nat.eq_of_beq_eq_true h1) hxy
            rcases Nat.lt_or_ge x 8 with lx | lx
            · have a1 := hE.2.2 x lx
              have a2 := hE.1 y (h1.resolve_left (Nat.not_le.mpr lx))
              omega
            · rcases Nat.lt_or_ge y 8 with ly | ly
              · have a1 := hE.2.2 y ly
                have a2 := hE.1 x lx
                omega
              · exact hE.2.1 x y lx ly e2
        have hsome : ∀ {a b : Nat}, (some a = some b) ↔ a = b := fun {a b} => ⟨fun h => Option.some.inj h, fun h => by rw [h]⟩
        cases cd with
        | eq =>
          dsimp only at h
          cases hb2 : Nat.beq x y with
          | true =>
            rw [hb2] at h
            cases h
            have exy := Nat.eq_of_beq_eq_true hb2
            exact ⟨Nat.le_refl _, Nat.le_refl _, fun _ _ hV H locs lsA hH hL hl => lv_acmp_eq (rx := some (ρ x)) (ry := some (ρ y)) hx hb hdg hrx (fun _ => hV H locs lsA hH hL hl) (fun h2 => absurd (hsome.mpr (hiff.mpr exy)) h2)⟩
          | false =>
            rw [hb2] at h
            cases h
            have exy : ¬ x = y := fun q => by rw [q, Nat.beq_refl] at hb2; cases hb2
            exact ⟨Nat.le_refl _, Nat.le_refl _, fun _ _ hV H locs lsA hH hL hl => lv_acmp_eq (rx := some (ρ x)) (ry := some (ρ y)) hx hb hdg hrx (fun h2 => absurd (hiff.mp (hsome.mp h2)) exy) (fun _ => hV H locs lsA hH hL hl)⟩
        | ne =>
          dsimp only at h
          cases hb2 : Nat.beq x y with
          | true =>
            rw [hb2] at h
            cases h
            have exy := Nat.eq_of_beq_eq_true hb2
            exact ⟨Nat.le_refl _, Nat.le_refl _, fun _ _ hV H locs lsA hH hL hl => lv_acmp_ne (rx := some (ρ x)) (ry := some (ρ y)) hx hb hdg hrx (fun h2 => absurd (hsome.mpr (hiff.mpr exy)) h2) (fun _ => hV H locs lsA hH hL hl)⟩
          | false =>
            rw [hb2] at h
            cases h
            have exy : ¬ x = y := fun q => by rw [q, Nat.beq_refl] at hb2; cases hb2
            exact ⟨Nat.le_refl _, Nat.le_refl _, fun _ _ hV H locs lsA hH hL hl => lv_acmp_ne (rx := some (ρ x)) (ry := some (ρ y)) hx hb hdg hrx (fun _ => hV H locs lsA hH hL hl) (fun h2 => absurd (hiff.mp (hsome.mp h2)) exy)⟩
    · cases h
  case tableswitch df lo hi offs =>
    simp only [ox_step] at h
    split at h
    · next x r =>
      cases hc : (!decide (x.toInt < lo) && !decide (hi < x.toInt)) with
      | false => rw [hc] at h; cases h
      | true =>
        rw [hc] at h
        dsimp only at h
        obtain ⟨h1, h2⟩ := Bool.and_eq_true_iff.mp hc
        cases ho : offs[(x.toInt - lo).toNat]? with
        | none => rw [ho] at h; cases h
        | some off =>
          rw [ho] at h
          dsimp only at h
          cases hpos : decide ((pc : Int) + off < 0) with
          | true => rw [hpos] at h; cases h
          | false =>
            rw [hpos] at h
            cases h
            have hp0 : ¬ ((pc : Int) + off < 0) := of_decide_eq_false hpos
            exact ⟨Nat.le_refl _, Nat.le_refl _, fun _ _ hV H locs lsA hH hL hl => lv_tableIn hx hb hdg (by simpa using h1) (by simpa using h2) ho (by omega) (hV H locs lsA hH hL hl)⟩
    · cases h
  case getfield idx =>
    simp only [ox_step, ox_getf] at h
    split at h
    · next q r =>
      cases hg : ox_get hp q with
      | none => rw [hg] at h; cases h
      | some cl =>
        rw [hg] at h
        dsimp only at h
        cases hb2 : Nat.beq cl.1 a with
        | false => rw [hb2] at h; cases h
        | true =>
          rw [hb2] at h
          dsimp only at h
          cases hv : cl.2[b]? with
          | none => rw [hv] at h; cases h
          | some v =>
            rw [hv] at h
            cases h
            exact ⟨Nat.le_refl _, Nat.le_refl _, fun _ _ hV H locs lsA hH hL hl => ox_W_getf hx hb hown hts hK hH hrx (by rw [hg, ← Nat.eq_of_beq_eq_true hb2]) hv hdg (hV H locs lsA hH hL hl)⟩
    · cases h
  case putfield idx =>
    simp only [ox_step, ox_putf] at h
    split at h
    · next v q r =>
      cases hg : ox_get hp q with
      | none => rw [hg] at h; cases h
      | some cl =>
        rw [hg] at h
        dsimp only at h
        cases hc : (Nat.beq cl.1 a && Nat.ble 8 q && Nat.ble (b + 1) cl.2.length && ox_fit kc v) with
        | false => rw [hc] at h; cases h
        | true =>
          rw [hc] at h
          cases h
          obtain ⟨h3, h4⟩ := Bool.and_eq_true_iff.mp hc
          obtain ⟨h2, h5⟩ := Bool.and_eq_true_iff.mp h3
          obtain ⟨h1, h6⟩ := Bool.and_eq_true_iff.mp h2
          have e1 := Nat.eq_of_beq_eq_true h1
          refine ⟨Nat.le_refl _, Nat.le_refl _, fun _ _ hV H locs lsA hH hL hl => ?_⟩
          have hrx2 : ox_fl own idx a b (fun r => ((r.2.1 b).2.2.2 = false ∨ ((r.2.1 b).2.2.2 = true ∧ meth.name = "<init>" ∧ (r.2.1 b).1 = own ∧ ∃ ref : String, ref = (r.2.1 b).1 ∧ Cond.fieldLink own idx ref (r.2.1 b).2.1 (r.2.1 b).2.2.1 ∈ ox_tb)) ∧
              ((kc = 0 ∧ ox_ty a b = .int) ∨ (kc = 1 ∧ ox_ty a b = .boolean) ∨ (kc = 2 ∧ ((∃ n, ox_ty a b = .object n) ∨ ∃ t, ox_ty a b = .array t)) ∨ (kc = 3 ∧ ox_ty a b = .long) ∨ (kc = 4 ∧ ox_ty a b = .byte))) := by
            rw [hname]; exact hrx
          exact ox_W_putf hx hb hown hts hK hE hH hrx2 (by rw [hg, ← e1]) (Nat.le_of_ble_eq_true h6) (Nat.lt_of_succ_le (Nat.le_of_ble_eq_true h5)) h4 hL hdg fun H1 locs1 g1 g2 => hV H1 locs1 lsA (by rw [e1]; exact g1) g2 hl
    · cases h
  case getstatic idx =>
    simp only [ox_step] at h
    rcases hrx with ⟨ha, hl1⟩ | ⟨ha, hl1⟩
    · have ha : a = 0 := ha
      subst ha
      cases h
      exact ⟨Nat.le_refl _, Nat.le_refl _, fun _ _ hV H locs lsA hH hL hl => ox_W_gets hx hb hown hts hH hK.2.2.2.2.1 hl1 hdg (hV H locs lsA hH hL hl)⟩
    · have ha : a = 1 := ha
      subst ha
      cases h
      exact ⟨Nat.le_refl _, Nat.le_refl _, fun _ _ hV H locs lsA hH hL hl => ox_W_gets hx hb hown hts hH hK.2.2.2.2.2.1 hl1 hdg (hV H locs lsA hH hL hl)⟩
  case new idx =>
    obtain ⟨r, hc, hF, hpl, hbn, h1, h2, h3⟩ := hrx
    have hbn : b = r.2.2 := hbn
    subst hbn
    cases h
    exact ⟨Nat.le_succ _, Nat.le_add_right _ _, fun r1 r2 hV H locs lsA hH hL hl => ox_W_new hx hb hown hts hK hH hc hF hpl h1 h2 h3 r1 (Nat.le_trans (Nat.le_of_eq (Nat.add_assoc _ _ _)) r2) hdg fun H1 g1 => W.cs rfl (Nat.add_assoc _ _ _) (hV H1 locs lsA g1 hL hl)⟩
  case newarray t =>
    simp only [ox_step] at h
    split at h
    · next n r =>
      cases hc : (decide (n < 0) || Nat.ble 100000 n.toNatClampNeg) with
      | true => rw [hc] at h; cases h
      | false =>
        rw [hc] at h
        obtain ⟨h1, h2⟩ := Bool.or_eq_false_iff.mp hc
        have h0 : ¬ n < 0 := of_decide_eq_false h1
        have hn : n.toNatClampNeg < 100000 := by
          rcases Nat.lt_or_ge n.toNatClampNeg 100000 with q | q
          · exact q
          · rw [Nat.ble_eq_true_of_le q] at h2; cases h2
        cases t with
        | int =>
          cases h
          exact ⟨Nat.le_succ _, Nat.le_add_right _ _, fun r1 r2 hV H locs lsA hH hL hl => ox_W_newa (atype := .int) hx hb hts hH (t := 64) (by omega) rfl hK.2.2.1 hrx h0 hn (by decide) r1 (Nat.le_trans (Nat.le_of_eq (Nat.add_assoc _ _ _)) r2) hdg fun H1 g1 => W.cs rfl (Nat.add_assoc _ _ _) (hV H1 locs lsA g1 hL hl)⟩
        | byte =>
          cases h
          exact ⟨Nat.le_succ _, Nat.le_add_right _ _, fun r1 r2 hV H locs lsA hH hL hl => ox_W_newa (atype := .byte) hx hb hts hH (t := 65) (by omega) rfl hK.2.2.2.1 hrx h0 hn (by decide) r1 (Nat.le_trans (Nat.le_of_eq (Nat.add_assoc _ _ _)) r2) hdg fun H1 g1 => W.cs rfl (Nat.add_assoc _ _ _) (hV H1 locs lsA g1 hL hl)⟩
        | _ => cases h
    · cases h
  case anewarray idx =>
    simp only [ox_step] at h
    split at h
    · next n r =>
      cases hc : (decide (n < 0) || Nat.ble 100000 n.toNatClampNeg) with
      | true => rw [hc] at h; cases h
      | false =>
        rw [hc] at h
        obtain ⟨h1, h2⟩ := Bool.or_eq_false_iff.mp hc
        have h0 : ¬ n < 0 := of_decide_eq_false h1
        have hn : n.toNatClampNeg < 100000 := by
          rcases Nat.lt_or_ge n.toNatClampNeg 100000 with q | q
          · exact q
          · rw [Nat.ble_eq_true_of_le q] at h2; cases h2
        cases h
        exact ⟨Nat.le_succ _, Nat.le_add_right _ _, fun r1 r2 hV H locs lsA hH hL hl => ox_W_anew hx hb hown hts hK (hK.2.2.2.2.2.2.2.2.2.2.2.2.use) hH hrx h0 hn r1 (Nat.le_trans (Nat.le_of_eq (Nat.add_assoc _ _ _)) r2) hdg fun H1 g1 => W.cs rfl (Nat.add_assoc _ _ _) (hV H1 locs lsA g1 hL hl)⟩
    · cases h
  case arraylength =>
    simp only [ox_step] at h
    split at h
    · cases h
      exact ⟨Nat.le_refl _, Nat.le_refl _, fun _ _ hV H locs lsA hH hL hl => ox_W_slen hx hb hK hE hH hdg (hV H locs lsA hH hL hl)⟩
    · next q r _ =>
      cases hg : ox_get hp q with
      | none => rw [hg] at h; cases h
      | some cl =>
        rw [hg] at h
        dsimp only at h
        cases hb2 : Nat.beq cl.1 66 with
        | false => rw [hb2] at h; cases h
        | true =>
          rw [hb2] at h
          cases h
          exact ⟨Nat.le_refl _, Nat.le_refl _, fun _ _ hV H locs lsA hH hL hl => ox_W_alen hx hb hK hH (by rw [hg, ← Nat.eq_of_beq_eq_true hb2]) hdg (hV H locs lsA hH hL hl)⟩
    · cases h
  case iaload =>
    simp only [ox_step] at h
    split at h
    · next j r =>
      cases hc : (!decide (j < 0) && Nat.ble (j.toNatClampNeg + 1) sL) with
      | false => rw [hc] at h; cases h
      | true =>
        rw [hc] at h
        cases h
        obtain ⟨h1, h2⟩ := Bool.and_eq_true_iff.mp hc
        exact ⟨Nat.le_refl _, Nat.le_refl _, fun _ _ hV H locs lsA hH hL hl => ox_W_sld hx hb hK hE hH (by simpa using h1) (Nat.lt_of_succ_le (Nat.le_of_ble_eq_true h2)) hdg (hV H locs lsA hH hL hl)⟩
    · cases h
  case aaload =>
    simp only [ox_step] at h
    split at h
    · next j q r =>
      cases hg : ox_get hp q with
      | none => rw [hg] at h; cases h
      | some cl =>
        rw [hg] at h
        dsimp only at h
        cases hc : (Nat.beq cl.1 66 && !decide (j < 0)) with
        | false => rw [hc] at h; cases h
        | true =>
          rw [hc] at h
          dsimp only at h
          obtain ⟨h1, h2⟩ := Bool.and_eq_true_iff.mp hc
          cases hv : cl.2[j.toNatClampNeg]? with
          | none => rw [hv] at h; cases h
          | some v =>
            rw [hv] at h
            cases h
            exact ⟨Nat.le_refl _, Nat.le_refl _, fun _ _ hV H locs lsA hH hL hl => ox_W_aald hx hb hK hH (by rw [hg, ← Nat.eq_of_beq_eq_true h1]) (by simpa using h2) hv hdg (hV H locs lsA hH hL hl)⟩
    · cases h
  case aastore =>
    simp only [ox_step] at h
    split at h
    · next x j q r =>
      cases hg : ox_get hp q with
      | none => rw [hg] at h; cases h
      | some cl =>
        cases hg2 : ox_get hp x with
        | none => rw [hg, hg2] at h; cases h
        | some o =>
          rw [hg, hg2] at h
          dsimp only at h
          cases hc : (Nat.beq cl.1 66 && !decide (j < 0) && Nat.ble (j.toNatClampNeg + 1) cl.2.length && Nat.ble 8 q && Nat.ble (o.1 + 1) ox_cl.length) with
          | false => rw [hc] at h; cases h
          | true =>
            rw [hc] at h
            cases h
            obtain ⟨h4, h5⟩ := Bool.and_eq_true_iff.mp hc
            obtain ⟨h3, h6⟩ := Bool.and_eq_true_iff.mp h4
            obtain ⟨h2, h7⟩ := Bool.and_eq_true_iff.mp h3
            obtain ⟨h1, h8⟩ := Bool.and_eq_true_iff.mp h2
            have e1 := Nat.eq_of_beq_eq_true h1
            have ho : o.1 < 64 := Nat.lt_of_lt_of_le (Nat.lt_of_succ_le (Nat.le_of_ble_eq_true h5)) (by decide)
            exact ⟨Nat.le_refl _, Nat.le_refl _, fun _ _ hV H locs lsA hH hL hl => ox_W_aast hx hb hK hE hH (by rw [hg, ← e1]) (Nat.le_of_ble_eq_true h6) (by simpa using h8) (Nat.lt_of_succ_le (Nat.le_of_ble_eq_true h7)) hg2 ho hL hdg fun H1 locs1 g1 g2 => hV H1 locs1 lsA (by rw [e1]; exact g1) g2 hl⟩
    · cases h
  case checkcast idx =>
    simp only [ox_step] at h
    obtain ⟨cr, hcr, h64, hl1⟩ := hrx
    split at h
    · next q r =>
      cases hg : ox_get hp q with
      | none => rw [hg] at h; cases h
      | some cl =>
        rw [hg] at h
        dsimp only at h
        cases hb2 : Nat.beq cl.1 a with
        | false => rw [hb2] at h; cases h
        | true =>
          rw [hb2] at h
          cases h
          exact ⟨Nat.le_refl _, Nat.le_refl _, fun _ _ hV H locs lsA hH hL hl => ox_W_cast hx hb hown hts hK hH hcr h64 hl1 (by rw [hg, ← Nat.eq_of_beq_eq_true hb2]) hdg (hV H locs lsA hH hL hl)⟩
    · cases h
  case invokestatic idx =>
    rcases hrx with ⟨h7, hl1, hl2, hl3, hl4⟩ | ⟨hkd, q, hq, hcf⟩
    · have h7 : kc = 7 := h7
      subst h7
      simp only [ox_step] at h
      split at h
      · next y x r =>
        cases hc : Nat.ble r.length 4 with
        | false => rw [hc] at h; cases h
        | true =>
          rw [hc] at h
          cases h
          refine ⟨Nat.le_refl _, Nat.le_refl _, fun r1 r2 hV H locs lsA hH hL hl => ?_⟩
          have hcat : ((ox_ds ρ σ r).map fun v => v.category).sum ≤ 8 := ox_cat8 (by rw [ox_ds_len]; exact Nat.le_of_ble_eq_true hc)
          exact va_mmax hx hb (by rw [hml]; exact hl.1.symm) hown (hts _ hl1) (hts _ hl2) (hts _ hl3) (hts _ hl4) (by have := hR.1; omega) (Nat.le_trans (Nat.add_le_add_right hcat 13) (by have := hR.2; omega)) r1 r2 hdg (hV H locs lsA hH hL hl)
      · cases h
    · dsimp only at hkd hcf hq
      have h' : (match Nat.ble b st.length with
        | true => ox_call cal nx a 3 (st.take b).reverse (st.drop b) (pc, ls, st, hp, k, u)
        | false => none) = some (.inl g) := by
        rcases hkd with rfl | rfl <;> exact h
      clear h
      cases hble : Nat.ble b st.length with
      | false => rw [hble] at h'; cases h'
      | true =>
        rw [hble] at h'
        have hlen : b ≤ st.length := Nat.le_of_ble_eq_true hble
        refine ox_s_callok h' hcal fun r hM h4 r1 r2 H locs lsA hH hL hl kk => ?_
        have e1 : ox_ds ρ σ st = (ox_ds ρ σ (st.take b).reverse).reverse ++ ox_ds ρ σ (st.drop b) := by
          conv => lhs; rw [← List.take_append_drop b st]
          rw [ox_ds_rev, List.reverse_reverse]
          simp [ox_ds]
        rw [e1]
        exact ox_W_static hkd hx hb hml hown hts hK hH hL hM hq hcf hR (by simp; omega) hl.1 h4 hdg ⟨r1, r2⟩ kk
  case invokespecial idx =>
    rcases hrx with ⟨h4, hl1, hl2, hl3⟩ | ⟨h4, hkd, q, hq, hcf⟩
    · have h4 : kc = 4 := h4
      subst h4
      simp only [ox_step] at h
      split at h
      · next x r =>
        cases hc : Nat.ble r.length 4 with
        | false => rw [hc] at h; cases h
        | true =>
          rw [hc] at h
          cases h
          refine ⟨Nat.le_refl _, Nat.le_refl _, fun _ _ hV H locs lsA hH hL hl => ?_⟩
          have hcat : ((ox_ds ρ σ r).map fun v => v.category).sum ≤ 8 := ox_cat8 (by rw [ox_ds_len]; exact Nat.le_of_ble_eq_true hc)
          refine W.objInit hx hb hown (hts _ hl1) (hts _ hl2) (hts _ hl3) rfl (by rw [hml]; exact hl.1) rfl hdg (by omega) ?_ ?_
          · have := lv_room (m := m) (pc := pc) (ls := lsA) (rest := ox_den ρ σ (.ref x) :: ox_ds ρ σ r) hcat
            have h2 := hR.2
            have h3 : 2 * (F0 m pc lsA (Value.ref (ρ x) :: ox_ds ρ σ r)).monitorRoom + ((ox_ds ρ σ r).map fun v => v.category).sum ≤ 8 := this
            exact Nat.le_trans (Nat.add_le_add_right h3 12) (by omega)
          · exact hV H locs lsA hH hL hl
      · cases h
    · dsimp only at h4 hkd hcf hq
      have h' : ox_spec cal nx a b (pc, ls, st, hp, k, u) = some (.inl g) := by
        rcases hkd with rfl | rfl <;> exact h
      obtain ⟨x, rest, e1, e2, hcall⟩ := ox_s_spec h'
      refine ox_s_callok hcall hcal fun r hM h4 r1 r2 H locs lsA hH hL hl kk => ?_
      rw [ox_ds_rr e1]
      exact ox_W_spec hkd hx hb hml hown hts hK hH hL hM hq hcf hR e2 hl.1 h4 hdg ⟨r1, r2⟩ kk
  case invokevirtual idx =>
    simp only [ox_step] at h
    obtain ⟨q, hq, hcf⟩ := hrx
    rw [ox_tag_mt hq] at h
    obtain ⟨x, rest, vs, e1, e2, hg, hcall⟩ := ox_s_virt h
    refine ox_s_callok hcall hcal fun r hM h4 r1 r2 H locs lsA hH hL hl kk => ?_
    rw [ox_ds_rr e1]
    exact ox_W_virt hx hb hml hown hts hK hH hL hM hq hcf hg hR e2 hl.1 h4 hdg ⟨r1, r2⟩ kk
  case invokeinterface idx ct =>
    simp only [ox_step] at h
    obtain ⟨q, hq, hcf⟩ := hrx
    rw [ox_tag_mt hq] at h
    obtain ⟨x, rest, vs, e1, e2, hg, hcall⟩ := ox_s_virt h
    refine ox_s_callok hcall hcal fun r hM h4 r1 r2 H locs lsA hH hL hl kk => ?_
    rw [ox_ds_rr e1]
    exact ox_W_face hx hb hml hown hts hK hH hL hM hq hcf hg hR e2 hl.1 h4 hdg ⟨r1, r2⟩ kk
end OXT
