/-! ===== whole runs: of a method (ox_exec), of a stretch (ox_seg) ===== -/
section OXU
variable {p : Program} {l : Launch} {e : Env} {R : Room} {s : State} {m : MethodId} {args : Array Value} {below : List Frame} {meth : Method} {c : Code} {Q : State → Prop}
variable {cc : ByteArray} {own mname : String} {nL d : Nat} {ret : Option FieldType}
variable {D : va_G} {dA : Nat → ClassId} {ρ : Nat → Nat} {σ : Nat → Int32} {base : Nat} {H0 : Heap} {sx : Nat → Int32} {sL : Nat} {nx k0 u0 : Nat}
variable {cal : Nat → List Value → ox_H → Nat → Option ox_R} {tab : List (Nat × ox_I)}
theorem ox_ret_ok (F : ox_Fx p R s m args meth c cc own mname nL d D dA ρ base H0 sx sL) (hret : meth.sig.returnType = ret) (hlocks : meth.locks = false) {w : ox_I} {f : ox_F} {r : ox_R} (hrow : ox_rok own mname nL ret cc f.1 w) (h : ox_step sx sL cal nx w f = some (.inr r)) :
    r.2.2.1 = f.2.2.2.2.1 ∧ r.2.2.2 = f.2.2.2.2.2 ∧ ox_V p l e R s m args below meth c (MQ below (ox_qc D dA ρ σ base H0 nx r) args s r.2.2.1 r.2.2.2 (fun z => base ≤ z)) nL D dA ρ σ base H0 0 0 nx f := by
  obtain ⟨hx, hb, hml, hown, hts, hK, hE, hname, hR⟩ := F
  obtain ⟨pc, ls, st, hp, k, u⟩ := f
  obtain ⟨ins, a, b, kc⟩ := w
  obtain ⟨hdg, hrx⟩ := hrow
  cases ins
  all_goals try (simp only [ox_step, reduceCtorEq] at h; done)
  case ireturn =>
    simp only [ox_step] at h
    split at h
    · next x =>
      cases hc : (Nat.beq a 0 || decide (x = 0) || decide (x = 1)) with
      | false => rw [hc] at h; cases h
      | true =>
        rw [hc] at h
        cases h
        refine ⟨rfl, rfl, fun H locs lsA hH hL hl => ?_⟩
        rcases hrx with ⟨ha, hr⟩ | ⟨ha, hr⟩
        · exact W.cs (Nat.zero_add _) (Nat.zero_add _) (W.iret hx hb (hret.trans hr) (fun t ht _ => ⟨rfl, by rw [ht]; exact hH⟩) hL hdg hlocks)
        · have ha : a = 1 := ha
          subst ha
          have hn : narrow .boolean (.int x) = .int x := by
            rcases Bool.or_eq_true_iff.mp hc with h1 | h1
            · rcases Bool.or_eq_true_iff.mp h1 with h1 | h1
              · cases h1
              · rw [of_decide_eq_true h1]; rfl
            · rw [of_decide_eq_true h1]; rfl
          exact W.cs (Nat.zero_add _) (Nat.zero_add _) (W.zret hx hb (hret.trans hr) hn (fun t ht _ => ⟨rfl, by rw [ht]; exact hH⟩) hL hdg hlocks)
    · cases h
  case areturn =>
    simp only [ox_step] at h
    split at h
    · next x =>
      cases h
      obtain ⟨rt, hr, hrt⟩ := hrx
      exact ⟨rfl, rfl, fun H locs lsA hH hL hl => W.cs (Nat.zero_add _) (Nat.zero_add _) (W.aret hx hb (hret.trans hr) hrt (Or.inr ⟨_, rfl⟩) (fun t ht _ => ⟨rfl, by rw [ht]; exact hH⟩) hL hdg hlocks)⟩
    · cases h
  case return_ =>
    simp only [ox_step] at h
    split at h
    · cases h
      exact ⟨rfl, rfl, fun H locs lsA hH hL hl => W.cs (Nat.zero_add _) (Nat.zero_add _) (W.vret hx hb (hret.trans hrx) (fun t ht _ => ⟨rfl, by rw [ht]; exact hH⟩) hL hdg hlocks)⟩
    · cases h
  all_goals (simp only [ox_step, ox_nxt, ox_ldI, ox_ldA, ox_stI, ox_stA, ox_bin, ox_br, ox_new, ox_call, ox_virt, ox_spec, ox_getf, ox_putf] at h)
  all_goals (try (repeat' (split at h)))
  all_goals (try (cases h; done))
  all_goals (try (simp at h; done))
theorem ox_run_ok (F : ox_Fx p R s m args meth c cc own mname nL d D dA ρ base H0 sx sL) (hret : meth.sig.returnType = ret) (hlocks : meth.locks = false) (htab : ∀ pc w, ox_row tab pc = some w → ox_rok own mname nL ret cc pc w)
    (hcal : ∀ M av hp nx r, cal M av hp nx = some r → ox_Met l D dA ρ σ base H0 sx sL d M av hp nx r) :
    ∀ (n : Nat) (f : ox_F) (r : ox_R), ox_run sx sL cal tab nx n f = some r → f.2.2.2.2.1 ≤ r.2.2.1 ∧ f.2.2.2.2.2 ≤ r.2.2.2 ∧
      (r.2.2.1 ≤ R.cells → r.2.2.2 ≤ R.slots → ox_V p l e R s m args below meth c (MQ below (ox_qc D dA ρ σ base H0 nx r) args s r.2.2.1 r.2.2.2 (fun z => base ≤ z)) nL D dA ρ σ base H0 0 0 nx f) := by
  intro n
  induction n with
  | zero => intro f r h; cases h
  | succ n ih =>
    intro f r h
    simp only [ox_run] at h
    cases hw : ox_row tab f.1 with
    | none => rw [hw] at h; cases h
    | some w =>
      rw [hw] at h
      dsimp only at h
      cases hs : ox_step sx sL cal nx w f with
      | none => rw [hs] at h; cases h
      | some o =>
        rw [hs] at h
        cases o with
        | inl g =>
          dsimp only at h
          obtain ⟨h1, h2, h3⟩ := ih g r h
          obtain ⟨g1, g2, g3⟩ := ox_step_ok (p := p) (e := e) (l := l) (below := below) (Q := MQ below (ox_qc D dA ρ σ base H0 nx r) args s r.2.2.1 r.2.2.2 (fun z => base ≤ z)) F (htab _ _ hw) hs hcal
          exact ⟨Nat.le_trans g1 h1, Nat.le_trans g2 h2, fun r1 r2 => g3 (by rw [Nat.zero_add]; exact Nat.le_trans h1 r1) (by rw [Nat.zero_add]; exact Nat.le_trans h2 r2) (h3 r1 r2)⟩
        | inr r' =>
          cases h
          obtain ⟨g1, g2, g3⟩ := ox_ret_ok (p := p) (e := e) (l := l) (below := below) F hret hlocks (htab _ _ hw) hs
          exact ⟨Nat.le_of_eq g1.symm, Nat.le_of_eq g2.symm, fun _ _ => g3⟩
theorem ox_seg_ok (F : ox_Fx p R s m args meth c cc own mname nL d D dA ρ base H0 sx sL) (htab : ∀ pc w, ox_row tab pc = some w → ox_rok own mname nL ret cc pc w)
    (hcal : ∀ M av hp nx r, cal M av hp nx = some r → ox_Met l D dA ρ σ base H0 sx sL d M av hp nx r) {stop : Nat} :
    ∀ (n : Nat) (f g : ox_F), ox_seg sx sL cal tab nx stop n f = some g → ox_Go p l e R s m args below meth c Q nL D dA ρ σ base H0 k0 u0 nx f g := by
  intro n
  induction n with
  | zero => intro f r h; cases h
  | succ n ih =>
    intro f g h
    simp only [ox_seg] at h
    cases hw : ox_row tab f.1 with
    | none => rw [hw] at h; cases h
    | some w =>
      rw [hw] at h
      dsimp only at h
      cases hs : ox_step sx sL cal nx w f with
      | none => rw [hs] at h; cases h
      | some o =>
        rw [hs] at h
        cases o with
        | inl g' =>
          dsimp only at h
          obtain ⟨g1, g2, g3⟩ := ox_step_ok (p := p) (e := e) (l := l) (below := below) (Q := Q) F (htab _ _ hw) hs hcal
          cases hb : Nat.beq g'.1 stop with
          | true =>
            rw [hb] at h
            cases h
            exact ⟨g1, g2, g3⟩
          | false =>
            rw [hb] at h
            obtain ⟨h1, h2, h3⟩ := ih g' g h
            exact ⟨Nat.le_trans g1 h1, Nat.le_trans g2 h2, fun r1 r2 hV => g3 (Nat.le_trans (Nat.add_le_add_left h1 _) r1) (Nat.le_trans (Nat.add_le_add_left h2 _) r2) (h3 r1 r2 hV)⟩
        | inr r' => cases h
theorem ox_dm_args (ρ : Nat → Nat) (σ : Nat → Int32) : ∀ (av : List Value) (i : Nat), lv_args i (ox_ds ρ σ av) = ox_dm ρ σ (lv_args i av)
  | [], _ => rfl
  | v :: r, i => by
    show (i, ox_den ρ σ v) :: lv_args (if (ox_den ρ σ v).category = 2 then i + 2 else i + 1) (ox_ds ρ σ r) = (i, ox_den ρ σ v) :: ox_dm ρ σ (lv_args (if v.category = 2 then i + 2 else i + 1) r)
    rw [ox_den_cat, ox_dm_args ρ σ r]
theorem ox_sl_len (ρ : Nat → Nat) (σ : Nat → Int32) : ∀ av : List Value, (lg_sl (ox_ds ρ σ av)).length = ox_words av
  | [] => rfl
  | v :: r => by
    have h := ox_sl_len ρ σ r
    have e1 : lg_sl (ox_ds ρ σ (v :: r)) = (if (ox_den ρ σ v).category = 2 then [.val (ox_den ρ σ v), .second] else [.val (ox_den ρ σ v)]) ++ lg_sl (ox_ds ρ σ r) := rfl
    have e2 : ox_words (v :: r) = v.category + ox_words r := by simp [ox_words]
    rw [e1, e2, List.length_append, h, ox_den_cat]
    rcases lv_cat v with hc | hc <;> simp [hc]
/-- all that must be known of the program -/
def ox_all : Prop := ∀ (M : Nat) (q : ox_Q), ¬ M = 0 → ox_mt[M]? = some q → ox_MF q ∧ ∀ pc w, ox_row q.2.2.2.2.2.2 pc = some w → ox_rok q.1.cls q.1.name q.2.2.1 q.2.2.2.1 q.2.1 pc w
theorem ox_exec_ok {l : Launch} (hall : ox_all) (hE : ox_E ρ base) : ∀ (d M : Nat) (av : List Value) (hp : ox_H) (nx : Nat) (r : ox_R), ox_exec sx sL d M av hp nx = some r → ox_Met l D dA ρ σ base H0 sx sL d M av hp nx r := by
  intro d
  induction d with
  | zero => intro M av hp nx r h; cases h
  | succ d ih =>
    intro M av hp nx r h q hq
    simp only [ox_exec] at h
    cases h0 : Nat.beq M 0 with
    | true => rw [h0] at h; cases h
    | false =>
    have hM0 : ¬ M = 0 := fun z => by rw [z] at h0; cases h0
    rw [h0, hq] at h
    dsimp only at h
    cases hw : Nat.ble (ox_words av) q.2.2.1 with
    | false => rw [hw] at h; cases h
    | true =>
      rw [hw] at h
      obtain ⟨hF, hrows⟩ := hall M q hM0 hq
      have body : ∀ p e s m args below meth c s₁, BodyLoose p l q.1 (headSpec (ox_mW q) { frames := d + 1, cells := r.2.2.1, slots := r.2.2.2, locals := 64 * (d + 1) }) q.2.1 q.2.2.1 q.2.2.2.1 e s m args below meth c s₁ → c.maxLocals = q.2.2.1 → ox_pc D dA ρ σ base H0 sx sL av hp nx args s →
          W p l e { frames := d + 1, cells := r.2.2.1, slots := r.2.2.2, locals := 64 * (d + 1) } s m args below meth c s.heap [] 0 0 (MQ below (ox_qc D dA ρ σ base H0 nx r) args s r.2.2.1 r.2.2.2 (fun z => base ≤ z)) (entryFrame m args q.2.2.1) := by
        intro p e s m args below meth c s₁ B hml hP
        obtain ⟨rfl, hH, hK⟩ := hP
        have hts0 := atoms_spec (ws := ox_mW q) B.pre
        have F : ox_Fx p { frames := d + 1, cells := r.2.2.1, slots := r.2.2.2, locals := 64 * (d + 1) } s m (ox_ds ρ σ av).toArray meth c q.2.1 q.1.cls q.1.name q.2.2.1 d D dA ρ base H0 sx sL :=
          ⟨B.exec, B.bytes, hml, findClass_of_methodNamed B.named, fun w hw => hts0 w (List.mem_cons_of_mem _ hw), hK, hE, (name_of_methodNamed B.named B.method).1, Nat.le_refl _, Nat.le_refl _⟩
        obtain ⟨-, -, hV⟩ := ox_run_ok (p := p) (l := l) (e := e) (below := below) F B.returns B.notSynchronized hrows (fun M av hp nx r h => ih M av hp nx r h) 5000 _ _ h
        have hl := lv_entry (ox_ds ρ σ av) (n := q.2.2.1) (by rw [ox_sl_len]; exact Nat.le_of_ble_eq_true hw)
        rw [lg_entry_eq]
        generalize (lg_sl (ox_ds ρ σ av) ++ List.replicate (q.2.2.1 - (lg_sl (ox_ds ρ σ av)).length) Slot.unset).toArray = ls at hl ⊢
        rw [ox_dm_args] at hl
        exact hV (Nat.le_refl _) (Nat.le_refl _) s.heap [] ls hH (fun _ h => by cases h) hl
      cases hh : q.2.2.2.2.1 with
      | none => exact Met.ofW (cc := q.2.1) (maxL := q.2.2.1) (ret := q.2.2.2.1) hF.1 (by rw [ox_mW, ox_cw_code hh]) body
      | some hs => exact va_MetW (hh := hs) (cc := q.2.1) (maxL := q.2.2.1) (ret := q.2.2.2.1) hF.1 (by rw [ox_mW, ox_cw_with hh]) body
end OXU
