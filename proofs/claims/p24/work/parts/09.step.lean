/-! ===== one instruction: what the small machine does, the machine does ===== -/
def ox_len (w : ox_I) : Nat := match w.1 with
  | .bipush _ => 2 | .iload _ => 2 | .aload _ => 2 | .istore _ => 2 | .astore _ => 2 | .ldc _ => 2 | .newarray _ => 2
  | .sipush _ => 3 | .iinc _ _ => 3 | .ifCond _ _ => 3 | .if_icmp _ _ => 3 | .if_acmp _ _ => 3 | .goto _ => 3 | .getfield _ => 3 | .putfield _ => 3 | .getstatic _ => 3 | .new _ => 3 | .anewarray _ => 3 | .checkcast _ => 3
  | .invokestatic _ => 3 | .invokespecial _ => 3 | .invokevirtual _ => 3 | .invokeinterface _ _ => 5
  | .tableswitch _ _ _ _ => w.2.1
  | _ => 1
/-- what must be so of a row, beside its decoding -/
def ox_rx (own mname : String) (nL : Nat) (ret : Option FieldType) (pc : Nat) (w : ox_I) : Prop := match w.1 with
  | .ireturn => (w.2.1 = 0 ∧ ret = some .int) ∨ (w.2.1 = 1 ∧ ret = some .boolean)
  | .areturn => ∃ rt, ret = some rt ∧ ((∃ n, rt = .object n) ∨ ∃ t, rt = .array t)
  | .return_ => ret = none
  | .ifCond _ off => (pc : Int) + off = (w.2.1 : Int)
  | .if_icmp _ off => (pc : Int) + off = (w.2.1 : Int)
  | .if_acmp _ off => (pc : Int) + off = (w.2.1 : Int)
  | .goto off => (pc : Int) + off = (w.2.1 : Int)
  | .istore i => i < nL
  | .istore_n i => i.val < nL
  | .astore i => i < nL
  | .astore_n i => i.val < nL
  | .ldc idx => own = "OpenlineModel" ∧ idx = 23 ∧ w.2.1 = 2
  | .getfield idx => ox_fl own idx w.2.1 w.2.2.1 (fun _ => True)
  | .putfield idx => ox_fl own idx w.2.1 w.2.2.1 (fun r => ((r.2.1 w.2.2.1).2.2.2 = false ∨ ((r.2.1 w.2.2.1).2.2.2 = true ∧ mname = "<init>" ∧ (r.2.1 w.2.2.1).1 = own ∧ ∃ ref : String, ref = (r.2.1 w.2.2.1).1 ∧ Cond.fieldLink own idx ref (r.2.1 w.2.2.1).2.1 (r.2.1 w.2.2.1).2.2.1 ∈ ox_tb)) ∧
      ((w.2.2.2 = 0 ∧ ox_ty w.2.1 w.2.2.1 = .int) ∨ (w.2.2.2 = 1 ∧ ox_ty w.2.1 w.2.2.1 = .boolean) ∨ (w.2.2.2 = 2 ∧ ((∃ n, ox_ty w.2.1 w.2.2.1 = .object n) ∨ ∃ t, ox_ty w.2.1 w.2.2.1 = .array t)) ∨ (w.2.2.2 = 3 ∧ ox_ty w.2.1 w.2.2.1 = .long) ∨ (w.2.2.2 = 4 ∧ ox_ty w.2.1 w.2.2.1 = .byte)))
  | .getstatic idx => (w.2.1 = 0 ∧ Cond.fieldLink own idx "java/util/ArrayList" "DEFAULTCAPACITY_EMPTY_ELEMENTDATA" "[Ljava/lang/Object;" ∈ ox_tb) ∨ (w.2.1 = 1 ∧ Cond.fieldLink own idx "java/lang/String" "COMPACT_STRINGS" "Z" ∈ ox_tb)
  | .new idx => ∃ r : vw_C, ox_cl[w.2.1]? = some r ∧ ox_CF w.2.1 r ∧ (ox_df.getD w.2.1 []).all ox_plain = true ∧ w.2.2.1 = r.2.2 ∧ Cond.classLink own idx r.1 ∈ ox_tb ∧ Cond.instantiable r.1 r.2.2 ∈ ox_tb ∧ Cond.initialized r.1 ∈ ox_tb
  | .newarray t => Cond.arrayClass (newarray.typeOf t) ∈ ox_tb
  | .anewarray idx => Cond.classLink own idx "java/lang/Object" ∈ ox_tb
  | .checkcast idx => ∃ r : vw_C, ox_cl[w.2.1]? = some r ∧ w.2.1 < 64 ∧ Cond.classLink own idx r.1 ∈ ox_tb
  | .invokestatic idx => (w.2.2.2 = 7 ∧ Cond.methodLink own idx Lib.Math.max.name ∈ ox_tb ∧ Cond.static Lib.Math.max.name ∈ ox_tb ∧ Cond.initialized "java/lang/Math" ∈ ox_tb ∧ Cond.code Lib.Math.max.name Lib.Math.max.code 2 (some .int) ∈ ox_tb) ∨
      ((w.2.2.2 = 0 ∨ w.2.2.2 = 1) ∧ ∃ q : ox_Q, ox_mt[w.2.1]? = some q ∧ ox_cf own idx w.2.2.2 w.2.2.1 q)
  | .invokespecial idx => (w.2.2.2 = 4 ∧ Cond.methodLink own idx objectInit ∈ ox_tb ∧ Cond.instanceMethod objectInit ∈ ox_tb ∧ Cond.code objectInit ⟨#[0xb1]⟩ 1 none ∈ ox_tb) ∨ (w.2.2.2 ≠ 4 ∧ (w.2.2.2 = 2 ∨ w.2.2.2 = 3) ∧ ∃ q : ox_Q, ox_mt[w.2.1]? = some q ∧ ox_cf own idx w.2.2.2 w.2.2.1 q)
  | .invokevirtual idx => ∃ q : ox_Q, ox_mt[w.2.1]? = some q ∧ ox_cf own idx 5 w.2.2.1 q
  | .invokeinterface idx _ => ∃ q : ox_Q, ox_mt[w.2.1]? = some q ∧ ox_cf own idx 6 w.2.2.1 q
  | _ => True
def ox_rok (own mname : String) (nL : Nat) (ret : Option FieldType) (cc : ByteArray) (pc : Nat) (w : ox_I) : Prop := decode cc pc = .ok (w.1, ox_len w) ∧ ox_rx own mname nL ret pc w
section OXS
variable {p : Program} {l : Launch} {e : Env} {R : Room} {s : State} {m : MethodId} {args : Array Value} {below : List Frame} {meth : Method} {c : Code} {Q : State → Prop}
variable {cc : ByteArray} {own mname : String} {nL d : Nat}
variable {D : va_G} {dA : Nat → ClassId} {ρ : Nat → Nat} {σ : Nat → Int32} {base : Nat} {H0 : Heap} {sx : Nat → Int32} {sL : Nat} {nx k0 u0 : Nat}
variable {cal : Nat → List Value → ox_H → Nat → Option ox_R}
/-- from f the machine comes to Q -/
def ox_V (p : Program) (l : Launch) (e : Env) (R : Room) (s : State) (m : MethodId) (args : Array Value) (below : List Frame) (meth : Method) (c : Code) (Q : State → Prop) (nL : Nat) (D : va_G) (dA : Nat → ClassId) (ρ : Nat → Nat) (σ : Nat → Int32) (base : Nat) (H0 : Heap) (k0 u0 nx : Nat) (f : ox_F) : Prop :=
  ∀ (H : Heap) (locs : List Loc) (lsA : Array Slot), ox_HR D dA ρ σ base H0 f.2.2.2.1 (nx + f.2.2.2.2.1) H → (∀ z ∈ locs, base ≤ z.base) → lv_has lsA nL (ox_dm ρ σ f.2.1) →
    W p l e R s m args below meth c H locs (k0 + f.2.2.2.2.1) (u0 + f.2.2.2.2.2) Q (F0 m f.1 lsA (ox_ds ρ σ f.2.2.1))
theorem ox_W_if {H : Heap} {locs : List Loc} {cells slots pc tgt : Nat} {ls : Array Slot} {rest : List Value} {x : Int32} {cd : ClassFile.Cond} {off : Int} (hx : p.tables.exec = Jvm.exec) (hb : c.code = cc) (hdg : decode cc pc = .ok (.ifCond cd off, 3)) (ht : (pc : Int) + off = (tgt : Int))
    (kt : ox_cmp cd x 0 = true → W p l e R s m args below meth c H locs cells slots Q (F0 m tgt ls rest)) (kf : ox_cmp cd x 0 = false → W p l e R s m args below meth c H locs cells slots Q (F0 m (pc + 3) ls rest)) : W p l e R s m args below meth c H locs cells slots Q (F0 m pc ls (.int x :: rest)) := by
  cases cd with
  | eq => exact lv_if_eq hx hb hdg ht (fun h => kt (by simp [ox_cmp, h])) (fun h => kf (by simp [ox_cmp, h]))
  | ne => exact lv_if_ne hx hb hdg ht (fun h => kt (by simp [ox_cmp, h])) (fun h => kf (by simp [ox_cmp] at h ⊢; exact h))
  | lt => exact lv_if_lt hx hb hdg ht (fun h => kt (by simp [ox_cmp, h])) (fun h => kf (by simp only [ox_cmp]; exact decide_eq_false h))
  | ge => exact lv_if_ge hx hb hdg ht (fun h => kt (by simp only [ox_cmp]; exact decide_eq_true h)) (fun h => kf (by simp only [ox_cmp]; exact decide_eq_false h))
  | gt => exact lv_if_gt hx hb hdg ht (fun h => kt (by simp only [ox_cmp]; exact decide_eq_true h)) (fun h => kf (by simp only [ox_cmp]; exact decide_eq_false h))
  | le => exact lv_if_le hx hb hdg ht (fun h => kt (by simp only [ox_cmp]; exact decide_eq_true h)) (fun h => kf (by simp only [ox_cmp]; exact decide_eq_false h))
theorem ox_W_icmp {H : Heap} {locs : List Loc} {cells slots pc tgt : Nat} {ls : Array Slot} {rest : List Value} {x y : Int32} {cd : ClassFile.Cond} {off : Int} (hx : p.tables.exec = Jvm.exec) (hb : c.code = cc) (hdg : decode cc pc = .ok (.if_icmp cd off, 3)) (ht : (pc : Int) + off = (tgt : Int))
    (kt : ox_cmp cd x y = true → W p l e R s m args below meth c H locs cells slots Q (F0 m tgt ls rest)) (kf : ox_cmp cd x y = false → W p l e R s m args below meth c H locs cells slots Q (F0 m (pc + 3) ls rest)) : W p l e R s m args below meth c H locs cells slots Q (F0 m pc ls (.int y :: .int x :: rest)) := by
  cases cd with
  | eq => exact lv_icmp_eq hx hb hdg ht (fun h => kt (by simp only [ox_cmp]; exact decide_eq_true h)) (fun h => kf (by simp only [ox_cmp]; exact decide_eq_false h))
  | ne => exact lv_icmp_ne hx hb hdg ht (fun h => kt (by simp only [ox_cmp]; rw [decide_eq_false h]; rfl)) (fun h => kf (by simp only [ox_cmp]; first | (rw [decide_eq_true h]; rfl) | (rw [decide_eq_true (Decidable.not_not.mp h)]; rfl)))
  | lt => exact lv_icmp_lt hx hb hdg ht (fun h => kt (by simp only [ox_cmp]; exact decide_eq_true h)) (fun h => kf (by simp only [ox_cmp]; exact decide_eq_false h))
  | ge => exact lv_icmp_ge hx hb hdg ht (fun h => kt (by simp only [ox_cmp]; exact decide_eq_true h)) (fun h => kf (by simp only [ox_cmp]; exact decide_eq_false h))
  | gt => exact lv_icmp_gt hx hb hdg ht (fun h => kt (by simp only [ox_cmp]; exact decide_eq_true h)) (fun h => kf (by simp only [ox_cmp]; exact decide_eq_false h))
  | le => exact lv_icmp_le hx hb hdg ht (fun h => kt (by simp only [ox_cmp]; exact decide_eq_true h)) (fun h => kf (by simp only [ox_cmp]; exact decide_eq_false h))
end OXS
