/-! ===== the program as far as the run goes: generated out of the task's own Statement (wip/tool/gen.py) ===== -/
def ox_R0 : String := "Openline"
def ox_T0 : u_T := fun k => match k with
  | 0 => ("Openline", "parts", "LOpenline$Parts;", true)
  | 1 => ("Openline", "masters", "Ljava/util/ArrayList;", true)
  | 2 => ("Openline", "analyser", "LOpenline$Analyser;", true)
  | 3 => ("Openline", "last", "LOpenline$Occupation;", false)
  | 4 => ("Openline", "spare", "LOpenline$Occupation;", false)
  | 5 => ("Openline", "tick", "I", false)
  | 6 => ("Openline", "occupations", "I", false)
  | 7 => ("Openline", "bytesEver", "I", false)
  | _ => ("Openline", "clocksEver", "I", false)
def ox_t0 : Nat → FieldType := fun k => match k with
  | 0 => (.object "Openline$Parts")
  | 1 => (.object "java/util/ArrayList")
  | 2 => (.object "Openline$Analyser")
  | 3 => (.object "Openline$Occupation")
  | 4 => (.object "Openline$Occupation")
  | 5 => .int
  | 6 => .int
  | 7 => .int
  | _ => .int
def ox_R1 : String := "Openline$Parts"
def ox_T1 : u_T := fun k => match k with
  | 0 => ("Openline$Parts", "targets", "Ljava/util/ArrayList;", true)
  | 1 => ("Openline$Parts", "openChannels", "I", false)
  | _ => ("Openline$Parts", "resistor", "I", false)
def ox_t1 : Nat → FieldType := fun k => match k with
  | 0 => (.object "java/util/ArrayList")
  | 1 => .int
  | _ => .int
def ox_R2 : String := "java/util/ArrayList"
def ox_T2 : u_T := fun k => match k with
  | 0 => ("java/util/ArrayList", "elementData", "[Ljava/lang/Object;", false)
  | 1 => ("java/util/ArrayList", "size", "I", false)
  | _ => ("java/util/AbstractList", "modCount", "I", false)
def ox_t2 : Nat → FieldType := fun k => match k with
  | 0 => (.array (.object "java/lang/Object"))
  | 1 => .int
  | _ => .int
def ox_R3 : String := "Openline$Analyser"
def ox_T3 : u_T := fun k => match k with
  | 0 => ("Openline$Analyser", "signs", "Ljava/lang/StringBuilder;", true)
  | 1 => ("Openline$Analyser", "clock", "I", false)
  | 2 => ("Openline$Analyser", "data", "I", false)
  | 3 => ("Openline$Analyser", "isStarted", "Z", false)
  | 4 => ("Openline$Analyser", "bits", "I", false)
  | _ => ("Openline$Analyser", "shifted", "I", false)
def ox_t3 : Nat → FieldType := fun k => match k with
  | 0 => (.object "java/lang/StringBuilder")
  | 1 => .int
  | 2 => .int
  | 3 => .boolean
  | 4 => .int
  | _ => .int
def ox_R4 : String := "java/lang/StringBuilder"
def ox_T4 : u_T := fun k => match k with
  | 0 => ("java/lang/AbstractStringBuilder", "value", "[B", false)
  | 1 => ("java/lang/AbstractStringBuilder", "coder", "B", false)
  | 2 => ("java/lang/AbstractStringBuilder", "maybeLatin1", "Z", false)
  | _ => ("java/lang/AbstractStringBuilder", "count", "I", false)
def ox_t4 : Nat → FieldType := fun k => match k with
  | 0 => (.array .byte)
  | 1 => .byte
  | 2 => .boolean
  | _ => .int
def ox_R5 : String := "Openline$Occupation"
def ox_T5 : u_T := fun k => match k with
  | 0 => ("Openline$Occupation", "parts", "LOpenline$Parts;", true)
  | 1 => ("Openline$Occupation", "masters", "Ljava/util/ArrayList;", true)
  | 2 => ("Openline$Occupation", "signs", "Ljava/lang/StringBuilder;", true)
  | 3 => ("Openline$Occupation", "shortestBit", "I", false)
  | 4 => ("Openline$Occupation", "bit", "I", false)
  | 5 => ("Openline$Occupation", "stretch", "I", false)
  | 6 => ("Openline$Occupation", "in", "I", false)
  | 7 => ("Openline$Occupation", "lost", "I", false)
  | 8 => ("Openline$Occupation", "answered", "I", false)
  | 9 => ("Openline$Occupation", "address", "I", false)
  | 10 => ("Openline$Occupation", "register", "I", false)
  | 11 => ("Openline$Occupation", "value", "I", false)
  | 12 => ("Openline$Occupation", "isRefused", "Z", false)
  | 13 => ("Openline$Occupation", "isWrite", "Z", false)
  | 14 => ("Openline$Occupation", "ticks", "I", false)
  | 15 => ("Openline$Occupation", "bytes", "I", false)
  | _ => ("Openline$Occupation", "check", "I", false)
def ox_t5 : Nat → FieldType := fun k => match k with
  | 0 => (.object "Openline$Parts")
  | 1 => (.object "java/util/ArrayList")
  | 2 => (.object "java/lang/StringBuilder")
  | 3 => .int
  | 4 => .int
  | 5 => .int
  | 6 => .int
  | 7 => .int
  | 8 => .int
  | 9 => .int
  | 10 => .int
  | 11 => .int
  | 12 => .boolean
  | 13 => .boolean
  | 14 => .int
  | 15 => .int
  | _ => .int
def ox_R6 : String := "OpenlineModel"
def ox_T6 : u_T := fun k => match k with
  | 0 => ("OpenlineModel", "thrown", "I", false)
  | 1 => ("OpenlineModel", "targets", "Ljava/util/ArrayList;", true)
  | 2 => ("OpenlineModel", "masters", "Ljava/util/ArrayList;", true)
  | 3 => ("OpenlineModel", "tick", "I", false)
  | 4 => ("OpenlineModel", "opened", "I", false)
  | 5 => ("OpenlineModel", "resistor", "I", false)
  | 6 => ("OpenlineModel", "occupations", "I", false)
  | 7 => ("OpenlineModel", "bytes", "I", false)
  | 8 => ("OpenlineModel", "clocks", "I", false)
  | 9 => ("OpenlineModel", "trace", "Ljava/lang/String;", false)
  | 10 => ("OpenlineModel", "text", "Ljava/lang/StringBuilder;", true)
  | 11 => ("OpenlineModel", "clockWire", "I", false)
  | 12 => ("OpenlineModel", "dataWire", "I", false)
  | 13 => ("OpenlineModel", "bits", "I", false)
  | 14 => ("OpenlineModel", "many", "I", false)
  | _ => ("OpenlineModel", "sum", "J", false)
def ox_t6 : Nat → FieldType := fun k => match k with
  | 0 => .int
  | 1 => (.object "java/util/ArrayList")
  | 2 => (.object "java/util/ArrayList")
  | 3 => .int
  | 4 => .int
  | 5 => .int
  | 6 => .int
  | 7 => .int
  | 8 => .int
  | 9 => (.object "java/lang/String")
  | 10 => (.object "java/lang/StringBuilder")
  | 11 => .int
  | 12 => .int
  | 13 => .int
  | 14 => .int
  | _ => .long
def ox_R7 : String := "OpenlineLaw$Out"
def ox_T7 : u_T := fun k => match k with
  | _ => ("OpenlineLaw$Out", "n", "J", false)
def ox_t7 : Nat → FieldType := fun k => match k with
  | _ => .long
def ox_R8 : String := "Openline$Target"
def ox_T8 : u_T := fun k => match k with
  | 0 => ("Openline$Target", "id", "I", true)
  | 1 => ("Openline$Target", "stretch", "I", true)
  | 2 => ("Openline$Target", "delay", "I", true)
  | 3 => ("Openline$Target", "registers", "[I", true)
  | 4 => ("Openline$Target", "address", "I", false)
  | 5 => ("Openline$Target", "channel", "I", false)
  | 6 => ("Openline$Target", "hasPower", "Z", false)
  | 7 => ("Openline$Target", "busyUntil", "I", false)
  | 8 => ("Openline$Target", "heldByte", "I", false)
  | _ => ("Openline$Target", "heldBits", "I", false)
def ox_t8 : Nat → FieldType := fun k => match k with
  | 0 => .int
  | 1 => .int
  | 2 => .int
  | 3 => (.array .int)
  | 4 => .int
  | 5 => .int
  | 6 => .boolean
  | 7 => .int
  | 8 => .int
  | _ => .int
def ox_R9 : String := "OpenlineModel$Target"
def ox_T9 : u_T := fun k => match k with
  | 0 => ("OpenlineModel$Target", "address", "I", false)
  | 1 => ("OpenlineModel$Target", "id", "I", false)
  | 2 => ("OpenlineModel$Target", "stretch", "I", false)
  | 3 => ("OpenlineModel$Target", "delay", "I", false)
  | 4 => ("OpenlineModel$Target", "channel", "I", false)
  | 5 => ("OpenlineModel$Target", "isOn", "Z", false)
  | 6 => ("OpenlineModel$Target", "busyTill", "I", false)
  | 7 => ("OpenlineModel$Target", "registers", "[I", true)
  | 8 => ("OpenlineModel$Target", "held", "I", false)
  | _ => ("OpenlineModel$Target", "holds", "I", false)
def ox_t9 : Nat → FieldType := fun k => match k with
  | 0 => .int
  | 1 => .int
  | 2 => .int
  | 3 => .int
  | 4 => .int
  | 5 => .boolean
  | 6 => .int
  | 7 => (.array .int)
  | 8 => .int
  | _ => .int
def ox_R10 : String := "java/util/ArrayList$Itr"
def ox_T10 : u_T := fun k => match k with
  | 0 => ("java/util/ArrayList$Itr", "cursor", "I", false)
  | 1 => ("java/util/ArrayList$Itr", "lastRet", "I", false)
  | 2 => ("java/util/ArrayList$Itr", "expectedModCount", "I", false)
  | _ => ("java/util/ArrayList$Itr", "this$0", "Ljava/util/ArrayList;", true)
def ox_t10 : Nat → FieldType := fun k => match k with
  | 0 => .int
  | 1 => .int
  | 2 => .int
  | _ => (.object "java/util/ArrayList")
def ox_cl : List vw_C := [(ox_R0, ox_T0, 9), (ox_R1, ox_T1, 3), (ox_R2, ox_T2, 3), (ox_R3, ox_T3, 6), (ox_R4, ox_T4, 4), (ox_R5, ox_T5, 17), (ox_R6, ox_T6, 16), (ox_R7, ox_T7, 1), (ox_R8, ox_T8, 10), (ox_R9, ox_T9, 10), (ox_R10, ox_T10, 4)]
def ox_ty : Nat → Nat → FieldType := fun c => match c with
  | 0 => ox_t0
  | 1 => ox_t1
  | 2 => ox_t2
  | 3 => ox_t3
  | 4 => ox_t4
  | 5 => ox_t5
  | 6 => ox_t6
  | 7 => ox_t7
  | 8 => ox_t8
  | 9 => ox_t9
  | _ => ox_t10
def ox_df : List (List Value) := [[.null, .null, .null, .null, .null, .int 0, .int 0, .int 0, .int 0], [.null, .int 0, .int 0], [.null, .int 0, .int 0], [.null, .int 0, .int 0, .int 0, .int 0, .int 0], [.null, .int 0, .int 0, .int 0], [.null, .null, .null, .int 0, .int 0, .int 0, .int 0, .int 0, .int 0, .int 0, .int 0, .int 0, .int 0, .int 0, .int 0, .int 0, .int 0], [.int 0, .null, .null, .int 0, .int 0, .int 0, .int 0, .int 0, .int 0, .null, .null, .int 0, .int 0, .int 0, .int 0, .long 0], [.long 0], [.int 0, .int 0, .int 0, .null, .int 0, .int 0, .int 0, .int 0, .int 0, .int 0], [.int 0, .int 0, .int 0, .int 0, .int 0, .int 0, .int 0, .null, .int 0, .int 0], [.int 0, .int 0, .int 0, .null]]
def ox_tb : List Cond := lw_tbl.filter goodWord
def ox_nF : List (String × Nat × String × String × String × String) := [("OpenlineLaw", 13, "OpenlineLaw$Out", "n", "J", "OpenlineLaw"), ("OpenlineModel", 72, "OpenlineModel$Target", "address", "I", "OpenlineModel"), ("OpenlineModel", 107, "OpenlineModel$Target", "id", "I", "OpenlineModel"), ("OpenlineModel", 110, "OpenlineModel$Target", "stretch", "I", "OpenlineModel"), ("OpenlineModel", 113, "OpenlineModel$Target", "delay", "I", "OpenlineModel"), ("java/util/ArrayList$Itr", 28, "java/util/ArrayList", "size", "I", "java/util/ArrayList"), ("OpenlineModel", 136, "OpenlineModel$Target", "holds", "I", "OpenlineModel"), ("OpenlineModel", 56, "OpenlineModel$Target", "isOn", "Z", "OpenlineModel"), ("OpenlineModel", 62, "OpenlineModel$Target", "channel", "I", "OpenlineModel")]
def ox_nM : List (String × Nat × MethodName × String) := [("OpenlineLaw", 108, ⟨"OpenlineLaw$Out", "<init>", "()V"⟩, "OpenlineLaw"), ("Openline", 9, ⟨"Openline$Parts", "<init>", "()V"⟩, "Openline"), ("Openline", 25, ⟨"Openline$Analyser", "<init>", "()V"⟩, "Openline"), ("OpenlineModel", 106, ⟨"OpenlineModel$Target", "<init>", "()V"⟩, "OpenlineModel")]
def ox_nI : List (String × MethodName × MethodName) := [("java/util/ArrayList$Itr", ⟨"java/util/Iterator", "hasNext", "()Z"⟩, ⟨"java/util/ArrayList$Itr", "hasNext", "()Z"⟩), ("java/util/ArrayList$Itr", ⟨"java/util/Iterator", "next", "()Ljava/lang/Object;"⟩, ⟨"java/util/ArrayList$Itr", "next", "()Ljava/lang/Object;"⟩)]
/-- OpenlineLaw.law([I)Z -/
def ox_i0 : List (Nat × (Instr × Nat × Nat × Nat)) := [(0, .new 8, 0, 9, 0),
  (3, .dup, 0, 0, 0),
  (4, .invokespecial 104, 1, 0, 2),
  (7, .astore_n 1, 0, 0, 0),
  (8, .new 105, 6, 16, 0),
  (11, .dup, 0, 0, 0),
  (12, .invokespecial 107, 10, 0, 2),
  (15, .astore_n 2, 0, 0, 0),
  (16, .new 14, 7, 1, 0),
  (19, .dup, 0, 0, 0),
  (20, .invokespecial 108, 11, 0, 3),
  (23, .astore_n 3, 0, 0, 0),
  (24, .iconst 0, 0, 0, 0),
  (25, .istore 4, 0, 0, 0),
  (27, .iload 4, 0, 0, 0),
  (29, .aload_n 0, 0, 0, 0),
  (30, .arraylength, 0, 0, 0),
  (31, .bipush 6, 0, 0, 0),
  (33, .isub, 0, 0, 0),
  (34, .if_icmp .gt 1203, 1237, 0, 0),
  (37, .aload_n 0, 0, 0, 0),
  (38, .iload 4, 0, 0, 0),
  (40, .iaload, 0, 0, 0),
  (41, .bipush 31, 0, 0, 0),
  (43, .iand, 0, 0, 0),
  (44, .tableswitch 1187 0 28 #[132, 196, 236, 264, 320, 372, 400, 440, 532, 612, 628, 644, 684, 712, 728, 756, 796, 836, 876, 916, 956, 984, 997, 1013, 1065, 1105, 1133, 1161, 1174], 132, 0, 0),
  (176, .aload_n 1, 0, 0, 0),
  (177, .aload_n 0, 0, 0, 0),
  (178, .iload 4, 0, 0, 0),
  (180, .iconst 1, 0, 0, 0),
  (181, .iadd, 0, 0, 0),
  (182, .iaload, 0, 0, 0),
  (183, .aload_n 0, 0, 0, 0),
  (184, .iload 4, 0, 0, 0),
  (186, .iconst 2, 0, 0, 0),
  (187, .iadd, 0, 0, 0),
  (188, .iaload, 0, 0, 0),
  (189, .aload_n 0, 0, 0, 0),
  (190, .iload 4, 0, 0, 0),
  (192, .iconst 3, 0, 0, 0),
  (193, .iadd, 0, 0, 0),
  (194, .iaload, 0, 0, 0),
  (195, .aload_n 0, 0, 0, 0),
  (196, .iload 4, 0, 0, 0),
  (198, .iconst 4, 0, 0, 0),
  (199, .iadd, 0, 0, 0),
  (200, .iaload, 0, 0, 0),
  (201, .aload_n 3, 0, 0, 0),
  (202, .invokestatic 109, 12, 6, 1),
  (205, .istore 5, 0, 0, 0),
  (207, .aload_n 2, 0, 0, 0),
  (208, .aload_n 0, 0, 0, 0),
  (209, .iload 4, 0, 0, 0),
  (211, .iconst 1, 0, 0, 0),
  (212, .iadd, 0, 0, 0),
  (213, .iaload, 0, 0, 0),
  (214, .aload_n 0, 0, 0, 0),
  (215, .iload 4, 0, 0, 0),
  (217, .iconst 2, 0, 0, 0),
  (218, .iadd, 0, 0, 0),
  (219, .iaload, 0, 0, 0),
  (220, .aload_n 0, 0, 0, 0),
  (221, .iload 4, 0, 0, 0),
  (223, .iconst 3, 0, 0, 0),
  (224, .iadd, 0, 0, 0),
  (225, .iaload, 0, 0, 0),
  (226, .aload_n 0, 0, 0, 0),
  (227, .iload 4, 0, 0, 0),
  (229, .iconst 4, 0, 0, 0),
  (230, .iadd, 0, 0, 0),
  (231, .iaload, 0, 0, 0),
  (232, .invokevirtual 114, 25, 4, 5),
  (235, .istore 6, 0, 0, 0),
  (237, .goto 994, 1231, 0, 0),
  (756, .aload_n 1, 0, 0, 0),
  (757, .aload_n 3, 0, 0, 0),
  (758, .invokestatic 158, 29, 2, 1),
  (761, .istore 5, 0, 0, 0),
  (763, .aload_n 2, 0, 0, 0),
  (764, .invokevirtual 160, 44, 0, 5),
  (767, .istore 6, 0, 0, 0),
  (769, .goto 462, 1231, 0, 0),
  (1231, .iinc 4 6, 0, 0, 0),
  (1234, .goto (-1207), 27, 0, 0),
  (1237, .iconst 1, 0, 0, 0),
  (1238, .ireturn, 1, 0, 0)]
/-- Openline.<init>()V -/
def ox_i1 : List (Nat × (Instr × Nat × Nat × Nat)) := [(0, .aload_n 0, 0, 0, 0),
  (1, .invokespecial 1, 0, 0, 4),
  (4, .new 7, 1, 3, 0),
  (7, .dup, 0, 0, 0),
  (8, .invokespecial 9, 2, 0, 3),
  (11, .astore_n 1, 0, 0, 0),
  (12, .new 10, 2, 3, 0),
  (15, .dup, 0, 0, 0),
  (16, .invokespecial 12, 3, 0, 2),
  (19, .astore_n 2, 0, 0, 0),
  (20, .aload_n 0, 0, 0, 0),
  (21, .aload_n 1, 0, 0, 0),
  (22, .putfield 13, 0, 0, 2),
  (25, .aload_n 0, 0, 0, 0),
  (26, .aload_n 2, 0, 0, 0),
  (27, .putfield 19, 0, 1, 2),
  (30, .aload_n 0, 0, 0, 0),
  (31, .new 23, 3, 6, 0),
  (34, .dup, 0, 0, 0),
  (35, .invokespecial 25, 6, 0, 3),
  (38, .putfield 26, 0, 2, 2),
  (41, .aload_n 0, 0, 0, 0),
  (42, .new 30, 5, 17, 0),
  (45, .dup, 0, 0, 0),
  (46, .aload_n 1, 0, 0, 0),
  (47, .aload_n 2, 0, 0, 0),
  (48, .invokespecial 32, 9, 2, 2),
  (51, .putfield 35, 0, 3, 2),
  (54, .aload_n 0, 0, 0, 0),
  (55, .new 30, 5, 17, 0),
  (58, .dup, 0, 0, 0),
  (59, .aload_n 1, 0, 0, 0),
  (60, .aload_n 2, 0, 0, 0),
  (61, .invokespecial 32, 9, 2, 2),
  (64, .putfield 39, 0, 4, 2),
  (67, .return_, 0, 0, 0)]
/-- Openline$Parts.<init>()V -/
def ox_i2 : List (Nat × (Instr × Nat × Nat × Nat)) := [(0, .aload_n 0, 0, 0, 0),
  (1, .invokespecial 3, 0, 0, 4),
  (4, .aload_n 0, 0, 0, 0),
  (5, .new 9, 2, 3, 0),
  (8, .dup, 0, 0, 0),
  (9, .invokespecial 11, 3, 0, 2),
  (12, .putfield 12, 1, 0, 2),
  (15, .aload_n 0, 0, 0, 0),
  (16, .bipush 10, 0, 0, 0),
  (18, .putfield 18, 1, 2, 0),
  (21, .return_, 0, 0, 0)]
/-- java/util/ArrayList.<init>()V -/
def ox_i3 : List (Nat × (Instr × Nat × Nat × Nat)) := [(0, .aload_n 0, 0, 0, 0),
  (1, .invokespecial 1, 4, 0, 2),
  (4, .aload_n 0, 0, 0, 0),
  (5, .getstatic 39, 0, 0, 0),
  (8, .putfield 9, 2, 0, 2),
  (11, .return_, 0, 0, 0)]
/-- java/util/AbstractList.<init>()V -/
def ox_i4 : List (Nat × (Instr × Nat × Nat × Nat)) := [(0, .aload_n 0, 0, 0, 0),
  (1, .invokespecial 1, 5, 0, 2),
  (4, .aload_n 0, 0, 0, 0),
  (5, .iconst 0, 0, 0, 0),
  (6, .putfield 7, 2, 2, 0),
  (9, .return_, 0, 0, 0)]
/-- java/util/AbstractCollection.<init>()V -/
def ox_i5 : List (Nat × (Instr × Nat × Nat × Nat)) := [(0, .aload_n 0, 0, 0, 0),
  (1, .invokespecial 1, 0, 0, 4),
  (4, .return_, 0, 0, 0)]
/-- Openline$Analyser.<init>()V -/
def ox_i6 : List (Nat × (Instr × Nat × Nat × Nat)) := [(0, .aload_n 0, 0, 0, 0),
  (1, .invokespecial 3, 0, 0, 4),
  (4, .aload_n 0, 0, 0, 0),
  (5, .new 9, 4, 4, 0),
  (8, .dup, 0, 0, 0),
  (9, .invokespecial 11, 7, 0, 2),
  (12, .putfield 12, 3, 0, 2),
  (15, .aload_n 0, 0, 0, 0),
  (16, .iconst 1, 0, 0, 0),
  (17, .putfield 18, 3, 1, 0),
  (20, .aload_n 0, 0, 0, 0),
  (21, .iconst 1, 0, 0, 0),
  (22, .putfield 22, 3, 2, 0),
  (25, .return_, 0, 0, 0)]
/-- java/lang/StringBuilder.<init>()V -/
def ox_i7 : List (Nat × (Instr × Nat × Nat × Nat)) := [(0, .aload_n 0, 0, 0, 0),
  (1, .bipush 16, 0, 0, 0),
  (3, .invokespecial 1, 8, 1, 2),
  (6, .return_, 0, 0, 0)]
/-- java/lang/AbstractStringBuilder.<init>(I)V -/
def ox_i8 : List (Nat × (Instr × Nat × Nat × Nat)) := [(0, .aload_n 0, 0, 0, 0),
  (1, .invokespecial 3, 0, 0, 4),
  (4, .getstatic 18, 1, 0, 0),
  (7, .ifCond .eq 18, 25, 0, 0),
  (10, .aload_n 0, 0, 0, 0),
  (11, .iload_n 1, 0, 0, 0),
  (12, .newarray .byte, 0, 0, 0),
  (14, .putfield 15, 4, 0, 2),
  (17, .aload_n 0, 0, 0, 0),
  (18, .iconst 0, 0, 0, 0),
  (19, .putfield 22, 4, 1, 4),
  (22, .goto 16, 38, 0, 0),
  (38, .return_, 0, 0, 0)]
/-- Openline$Occupation.<init>(LOpenline$Parts;Ljava/util/ArrayList;)V -/
def ox_i9 : List (Nat × (Instr × Nat × Nat × Nat)) := [(0, .aload_n 0, 0, 0, 0),
  (1, .invokespecial 3, 0, 0, 4),
  (4, .aload_n 0, 0, 0, 0),
  (5, .new 9, 4, 4, 0),
  (8, .dup, 0, 0, 0),
  (9, .invokespecial 11, 7, 0, 2),
  (12, .putfield 12, 5, 2, 2),
  (15, .aload_n 0, 0, 0, 0),
  (16, .aload_n 1, 0, 0, 0),
  (17, .putfield 18, 5, 0, 2),
  (20, .aload_n 0, 0, 0, 0),
  (21, .aload_n 2, 0, 0, 0),
  (22, .putfield 22, 5, 1, 2),
  (25, .return_, 0, 0, 0)]
/-- OpenlineModel.<init>()V -/
def ox_i10 : List (Nat × (Instr × Nat × Nat × Nat)) := [(0, .aload_n 0, 0, 0, 0),
  (1, .invokespecial 1, 0, 0, 4),
  (4, .aload_n 0, 0, 0, 0),
  (5, .new 7, 2, 3, 0),
  (8, .dup, 0, 0, 0),
  (9, .invokespecial 9, 3, 0, 2),
  (12, .putfield 10, 6, 1, 2),
  (15, .aload_n 0, 0, 0, 0),
  (16, .new 7, 2, 3, 0),
  (19, .dup, 0, 0, 0),
  (20, .invokespecial 9, 3, 0, 2),
  (23, .putfield 16, 6, 2, 2),
  (26, .aload_n 0, 0, 0, 0),
  (27, .bipush 10, 0, 0, 0),
  (29, .putfield 19, 6, 5, 0),
  (32, .aload_n 0, 0, 0, 0),
  (33, .ldc 23, 2, 0, 0),
  (35, .putfield 25, 6, 9, 2),
  (38, .aload_n 0, 0, 0, 0),
  (39, .new 29, 4, 4, 0),
  (42, .dup, 0, 0, 0),
  (43, .invokespecial 31, 7, 0, 2),
  (46, .putfield 32, 6, 10, 2),
  (49, .aload_n 0, 0, 0, 0),
  (50, .iconst 1, 0, 0, 0),
  (51, .putfield 36, 6, 11, 0),
  (54, .aload_n 0, 0, 0, 0),
  (55, .iconst 1, 0, 0, 0),
  (56, .putfield 39, 6, 12, 0),
  (59, .aload_n 0, 0, 0, 0),
  (60, .iconst (-1), 0, 0, 0),
  (61, .putfield 42, 6, 14, 0),
  (64, .return_, 0, 0, 0)]
/-- OpenlineLaw$Out.<init>()V -/
def ox_i11 : List (Nat × (Instr × Nat × Nat × Nat)) := [(0, .aload_n 0, 0, 0, 0),
  (1, .invokespecial 1, 0, 0, 4),
  (4, .return_, 0, 0, 0)]
/-- OpenlineLaw.target(LOpenline;IIIILOpenlineLaw$Out;)I -/
def ox_i12 : List (Nat × (Instr × Nat × Nat × Nat)) := [(0, .aload 5, 0, 0, 0),
  (2, .aload_n 0, 0, 0, 0),
  (3, .iload_n 1, 0, 0, 0),
  (4, .iload_n 2, 0, 0, 0),
  (5, .iload_n 3, 0, 0, 0),
  (6, .iload 4, 0, 0, 0),
  (8, .invokevirtual 7, 13, 4, 5),
  (11, .i2l, 0, 0, 0),
  (12, .putfield 13, 7, 0, 3),
  (15, .goto 11, 26, 0, 0),
  (26, .iconst 0, 0, 0, 0),
  (27, .ireturn, 0, 0, 0)]
/-- Openline.target(IIII)I -/
def ox_i13 : List (Nat × (Instr × Nat × Nat × Nat)) := [(0, .iload_n 1, 0, 0, 0),
  (1, .invokestatic 42, 14, 1, 0),
  (4, .ifCond .eq 36, 40, 0, 0),
  (7, .iload_n 2, 0, 0, 0),
  (8, .invokestatic 46, 16, 1, 0),
  (11, .ifCond .eq 29, 40, 0, 0),
  (14, .iload_n 3, 0, 0, 0),
  (15, .iconst 0, 0, 0, 0),
  (16, .bipush 20, 0, 0, 0),
  (18, .invokestatic 49, 15, 3, 0),
  (21, .ifCond .eq 19, 40, 0, 0),
  (24, .iload 4, 0, 0, 0),
  (26, .iconst 0, 0, 0, 0),
  (27, .sipush 200, 0, 0, 0),
  (30, .invokestatic 49, 15, 3, 0),
  (33, .ifCond .eq 7, 40, 0, 0),
  (36, .iconst 1, 0, 0, 0),
  (37, .goto 4, 41, 0, 0),
  (41, .invokestatic 53, 17, 1, 0),
  (44, .aload_n 0, 0, 0, 0),
  (45, .getfield 13, 0, 0, 2),
  (48, .getfield 57, 1, 0, 2),
  (51, .invokevirtual 60, 18, 0, 5),
  (54, .bipush 6, 0, 0, 0),
  (56, .if_icmp .ge 7, 63, 0, 0),
  (59, .iconst 1, 0, 0, 0),
  (60, .goto 4, 64, 0, 0),
  (64, .invokestatic 64, 19, 1, 0),
  (67, .aload_n 0, 0, 0, 0),
  (68, .getfield 13, 0, 0, 2),
  (71, .getfield 57, 1, 0, 2),
  (74, .new 67, 8, 10, 0),
  (77, .dup, 0, 0, 0),
  (78, .iload_n 1, 0, 0, 0),
  (79, .iload_n 2, 0, 0, 0),
  (80, .iload_n 3, 0, 0, 0),
  (81, .iload 4, 0, 0, 0),
  (83, .invokespecial 69, 20, 4, 2),
  (86, .invokevirtual 72, 21, 1, 5),
  (89, .pop, 0, 0, 0),
  (90, .aload_n 0, 0, 0, 0),
  (91, .getfield 13, 0, 0, 2),
  (94, .getfield 57, 1, 0, 2),
  (97, .invokevirtual 60, 18, 0, 5),
  (100, .iconst 1, 0, 0, 0),
  (101, .isub, 0, 0, 0),
  (102, .ireturn, 0, 0, 0)]
/-- Openline.isAddress(I)Z -/
def ox_i14 : List (Nat × (Instr × Nat × Nat × Nat)) := [(0, .iload_n 0, 0, 0, 0),
  (1, .ifCond .eq 14, 15, 0, 0),
  (4, .iload_n 0, 0, 0, 0),
  (5, .bipush 8, 0, 0, 0),
  (7, .bipush 119, 0, 0, 0),
  (9, .invokestatic 49, 15, 3, 0),
  (12, .ifCond .eq 7, 19, 0, 0),
  (15, .iconst 1, 0, 0, 0),
  (16, .goto 4, 20, 0, 0),
  (20, .ireturn, 1, 0, 0)]
/-- Openline.isWithin(III)Z -/
def ox_i15 : List (Nat × (Instr × Nat × Nat × Nat)) := [(0, .iload_n 0, 0, 0, 0),
  (1, .iload_n 1, 0, 0, 0),
  (2, .if_icmp .lt 12, 14, 0, 0),
  (5, .iload_n 0, 0, 0, 0),
  (6, .iload_n 2, 0, 0, 0),
  (7, .if_icmp .gt 7, 14, 0, 0),
  (10, .iconst 1, 0, 0, 0),
  (11, .goto 4, 15, 0, 0),
  (15, .ireturn, 1, 0, 0)]
/-- Openline.isByte(I)Z -/
def ox_i16 : List (Nat × (Instr × Nat × Nat × Nat)) := [(0, .iload_n 0, 0, 0, 0),
  (1, .iconst 0, 0, 0, 0),
  (2, .sipush 255, 0, 0, 0),
  (5, .invokestatic 49, 15, 3, 0),
  (8, .ireturn, 1, 0, 0)]
/-- Openline.demand(Z)V -/
def ox_i17 : List (Nat × (Instr × Nat × Nat × Nat)) := [(0, .iload_n 0, 0, 0, 0),
  (1, .ifCond .ne 14, 15, 0, 0),
  (15, .return_, 0, 0, 0)]
/-- java/util/ArrayList.size()I -/
def ox_i18 : List (Nat × (Instr × Nat × Nat × Nat)) := [(0, .aload_n 0, 0, 0, 0),
  (1, .getfield 48, 2, 1, 0),
  (4, .ireturn, 0, 0, 0)]
/-- Openline.demandState(Z)V -/
def ox_i19 : List (Nat × (Instr × Nat × Nat × Nat)) := [(0, .iload_n 0, 0, 0, 0),
  (1, .ifCond .ne 14, 15, 0, 0),
  (15, .return_, 0, 0, 0)]
/-- Openline$Target.<init>(IIII)V -/
def ox_i20 : List (Nat × (Instr × Nat × Nat × Nat)) := [(0, .aload_n 0, 0, 0, 0),
  (1, .invokespecial 3, 0, 0, 4),
  (4, .aload_n 0, 0, 0, 0),
  (5, .bipush 16, 0, 0, 0),
  (7, .newarray .int, 0, 0, 0),
  (9, .putfield 9, 8, 3, 2),
  (12, .aload_n 0, 0, 0, 0),
  (13, .iconst 1, 0, 0, 0),
  (14, .putfield 15, 8, 6, 1),
  (17, .aload_n 0, 0, 0, 0),
  (18, .iload_n 1, 0, 0, 0),
  (19, .putfield 19, 8, 4, 0),
  (22, .aload_n 0, 0, 0, 0),
  (23, .iload_n 2, 0, 0, 0),
  (24, .putfield 23, 8, 0, 0),
  (27, .aload_n 0, 0, 0, 0),
  (28, .iload_n 3, 0, 0, 0),
  (29, .putfield 26, 8, 1, 0),
  (32, .aload_n 0, 0, 0, 0),
  (33, .iload 4, 0, 0, 0),
  (35, .putfield 29, 8, 2, 0),
  (38, .return_, 0, 0, 0)]
/-- java/util/ArrayList.add(Ljava/lang/Object;)Z -/
def ox_i21 : List (Nat × (Instr × Nat × Nat × Nat)) := [(0, .aload_n 0, 0, 0, 0),
  (1, .dup, 0, 0, 0),
  (2, .getfield 63, 2, 2, 0),
  (5, .iconst 1, 0, 0, 0),
  (6, .iadd, 0, 0, 0),
  (7, .putfield 63, 2, 2, 0),
  (10, .aload_n 0, 0, 0, 0),
  (11, .aload_n 1, 0, 0, 0),
  (12, .aload_n 0, 0, 0, 0),
  (13, .getfield 9, 2, 0, 2),
  (16, .aload_n 0, 0, 0, 0),
  (17, .getfield 48, 2, 1, 0),
  (20, .invokevirtual 131, 22, 3, 5),
  (23, .iconst 1, 0, 0, 0),
  (24, .ireturn, 1, 0, 0)]
/-- java/util/ArrayList.add(Ljava/lang/Object;[Ljava/lang/Object;I)V -/
def ox_i22 : List (Nat × (Instr × Nat × Nat × Nat)) := [(0, .iload_n 3, 0, 0, 0),
  (1, .aload_n 2, 0, 0, 0),
  (2, .arraylength, 0, 0, 0),
  (3, .if_icmp .ne 8, 11, 0, 0),
  (6, .aload_n 0, 0, 0, 0),
  (7, .invokevirtual 129, 23, 0, 5),
  (10, .astore_n 2, 0, 0, 0),
  (11, .aload_n 2, 0, 0, 0),
  (12, .iload_n 3, 0, 0, 0),
  (13, .aload_n 1, 0, 0, 0),
  (14, .aastore, 0, 0, 0),
  (15, .aload_n 0, 0, 0, 0),
  (16, .iload_n 3, 0, 0, 0),
  (17, .iconst 1, 0, 0, 0),
  (18, .iadd, 0, 0, 0),
  (19, .putfield 48, 2, 1, 0),
  (22, .return_, 0, 0, 0)]
/-- java/util/ArrayList.grow()[Ljava/lang/Object; -/
def ox_i23 : List (Nat × (Instr × Nat × Nat × Nat)) := [(0, .aload_n 0, 0, 0, 0),
  (1, .aload_n 0, 0, 0, 0),
  (2, .getfield 48, 2, 1, 0),
  (5, .iconst 1, 0, 0, 0),
  (6, .iadd, 0, 0, 0),
  (7, .invokevirtual 69, 24, 1, 5),
  (10, .areturn, 0, 0, 0)]
/-- java/util/ArrayList.grow(I)[Ljava/lang/Object; -/
def ox_i24 : List (Nat × (Instr × Nat × Nat × Nat)) := [(0, .aload_n 0, 0, 0, 0),
  (1, .getfield 9, 2, 0, 2),
  (4, .arraylength, 0, 0, 0),
  (5, .istore_n 2, 0, 0, 0),
  (6, .iload_n 2, 0, 0, 0),
  (7, .ifCond .gt 13, 20, 0, 0),
  (10, .aload_n 0, 0, 0, 0),
  (11, .getfield 9, 2, 0, 2),
  (14, .getstatic 39, 0, 0, 0),
  (17, .if_acmp .eq 28, 45, 0, 0),
  (45, .aload_n 0, 0, 0, 0),
  (46, .bipush 10, 0, 0, 0),
  (48, .iload_n 1, 0, 0, 0),
  (49, .invokestatic 79, 0, 2, 7),
  (52, .anewarray 7, 0, 0, 0),
  (55, .dup_x1, 0, 0, 0),
  (56, .putfield 9, 2, 0, 2),
  (59, .areturn, 0, 0, 0)]
/-- OpenlineModel.target(IIII)I -/
def ox_i25 : List (Nat × (Instr × Nat × Nat × Nat)) := [(0, .aload_n 0, 0, 0, 0),
  (1, .iconst 0, 0, 0, 0),
  (2, .putfield 45, 6, 0, 0),
  (5, .iload_n 1, 0, 0, 0),
  (6, .ifCond .eq 14, 20, 0, 0),
  (9, .iload_n 1, 0, 0, 0),
  (10, .bipush 8, 0, 0, 0),
  (12, .bipush 119, 0, 0, 0),
  (14, .invokestatic 48, 26, 3, 0),
  (17, .ifCond .eq 32, 49, 0, 0),
  (20, .iload_n 2, 0, 0, 0),
  (21, .invokestatic 99, 27, 1, 0),
  (24, .ifCond .eq 25, 49, 0, 0),
  (27, .iload_n 3, 0, 0, 0),
  (28, .iconst 0, 0, 0, 0),
  (29, .bipush 20, 0, 0, 0),
  (31, .invokestatic 48, 26, 3, 0),
  (34, .ifCond .eq 15, 49, 0, 0),
  (37, .iload 4, 0, 0, 0),
  (39, .iconst 0, 0, 0, 0),
  (40, .sipush 200, 0, 0, 0),
  (43, .invokestatic 48, 26, 3, 0),
  (46, .ifCond .ne 9, 55, 0, 0),
  (55, .aload_n 0, 0, 0, 0),
  (56, .getfield 10, 6, 1, 2),
  (59, .invokevirtual 52, 18, 0, 5),
  (62, .bipush 6, 0, 0, 0),
  (64, .if_icmp .ne 9, 73, 0, 0),
  (73, .new 57, 9, 10, 0),
  (76, .dup, 0, 0, 0),
  (77, .invokespecial 106, 28, 0, 3),
  (80, .astore 5, 0, 0, 0),
  (82, .aload 5, 0, 0, 0),
  (84, .iload_n 1, 0, 0, 0),
  (85, .putfield 72, 9, 0, 0),
  (88, .aload 5, 0, 0, 0),
  (90, .iload_n 2, 0, 0, 0),
  (91, .putfield 107, 9, 1, 0),
  (94, .aload 5, 0, 0, 0),
  (96, .iload_n 3, 0, 0, 0),
  (97, .putfield 110, 9, 2, 0),
  (100, .aload 5, 0, 0, 0),
  (102, .iload 4, 0, 0, 0),
  (104, .putfield 113, 9, 3, 0),
  (107, .aload_n 0, 0, 0, 0),
  (108, .getfield 10, 6, 1, 2),
  (111, .aload 5, 0, 0, 0),
  (113, .invokevirtual 116, 21, 1, 5),
  (116, .pop, 0, 0, 0),
  (117, .aload_n 0, 0, 0, 0),
  (118, .getfield 10, 6, 1, 2),
  (121, .invokevirtual 52, 18, 0, 5),
  (124, .iconst 1, 0, 0, 0),
  (125, .isub, 0, 0, 0),
  (126, .ireturn, 0, 0, 0)]
/-- OpenlineModel.is(III)Z -/
def ox_i26 : List (Nat × (Instr × Nat × Nat × Nat)) := [(0, .iload_n 0, 0, 0, 0),
  (1, .iload_n 1, 0, 0, 0),
  (2, .if_icmp .lt 12, 14, 0, 0),
  (5, .iload_n 0, 0, 0, 0),
  (6, .iload_n 2, 0, 0, 0),
  (7, .if_icmp .gt 7, 14, 0, 0),
  (10, .iconst 1, 0, 0, 0),
  (11, .goto 4, 15, 0, 0),
  (15, .ireturn, 1, 0, 0)]
/-- OpenlineModel.isByte(I)Z -/
def ox_i27 : List (Nat × (Instr × Nat × Nat × Nat)) := [(0, .iload_n 0, 0, 0, 0),
  (1, .iconst 0, 0, 0, 0),
  (2, .sipush 255, 0, 0, 0),
  (5, .invokestatic 48, 26, 3, 0),
  (8, .ireturn, 1, 0, 0)]
/-- OpenlineModel$Target.<init>()V -/
def ox_i28 : List (Nat × (Instr × Nat × Nat × Nat)) := [(0, .aload_n 0, 0, 0, 0),
  (1, .invokespecial 3, 0, 0, 4),
  (4, .aload_n 0, 0, 0, 0),
  (5, .iconst 1, 0, 0, 0),
  (6, .putfield 9, 9, 5, 1),
  (9, .aload_n 0, 0, 0, 0),
  (10, .bipush 16, 0, 0, 0),
  (12, .newarray .int, 0, 0, 0),
  (14, .putfield 15, 9, 7, 2),
  (17, .return_, 0, 0, 0)]
/-- OpenlineLaw.handOut(LOpenline;LOpenlineLaw$Out;)I -/
def ox_i29 : List (Nat × (Instr × Nat × Nat × Nat)) := [(0, .aload_n 1, 0, 0, 0),
  (1, .aload_n 0, 0, 0, 0),
  (2, .invokevirtual 68, 30, 0, 5),
  (5, .i2l, 0, 0, 0),
  (6, .putfield 13, 7, 0, 3),
  (9, .goto 6, 15, 0, 0),
  (15, .iconst 0, 0, 0, 0),
  (16, .ireturn, 0, 0, 0)]
/-- Openline.handOut()I -/
def ox_i30 : List (Nat × (Instr × Nat × Nat × Nat)) := [(0, .aload_n 0, 0, 0, 0),
  (1, .getfield 13, 0, 0, 2),
  (4, .invokevirtual 138, 31, 0, 5),
  (7, .ifCond .ne 7, 14, 0, 0),
  (10, .iconst 1, 0, 0, 0),
  (11, .goto 4, 15, 0, 0),
  (15, .invokestatic 64, 19, 1, 0),
  (18, .aload_n 0, 0, 0, 0),
  (19, .getfield 13, 0, 0, 2),
  (22, .invokevirtual 150, 37, 0, 5),
  (25, .iconst 0, 0, 0, 0),
  (26, .istore_n 1, 0, 0, 0),
  (27, .iconst 0, 0, 0, 0),
  (28, .istore_n 2, 0, 0, 0),
  (29, .iload_n 2, 0, 0, 0),
  (30, .bipush 6, 0, 0, 0),
  (32, .if_icmp .ge 51, 83, 0, 0),
  (35, .aload_n 0, 0, 0, 0),
  (36, .getfield 13, 0, 0, 2),
  (39, .invokevirtual 200, 38, 0, 5),
  (42, .istore_n 3, 0, 0, 0),
  (43, .iload_n 3, 0, 0, 0),
  (44, .ifCond .le 33, 77, 0, 0),
  (77, .iinc 2 1, 0, 0, 0),
  (80, .goto (-51), 29, 0, 0),
  (83, .iload_n 1, 0, 0, 0),
  (84, .ireturn, 0, 0, 0)]
/-- Openline$Parts.isStuck()Z -/
def ox_i31 : List (Nat × (Instr × Nat × Nat × Nat)) := [(0, .iconst 0, 0, 0, 0),
  (1, .istore_n 1, 0, 0, 0),
  (2, .iload_n 1, 0, 0, 0),
  (3, .aload_n 0, 0, 0, 0),
  (4, .getfield 12, 1, 0, 2),
  (7, .invokevirtual 41, 18, 0, 5),
  (10, .if_icmp .ge 28, 38, 0, 0),
  (13, .aload_n 0, 0, 0, 0),
  (14, .getfield 12, 1, 0, 2),
  (17, .iload_n 1, 0, 0, 0),
  (18, .invokevirtual 45, 32, 1, 5),
  (21, .checkcast 23, 8, 0, 0),
  (24, .invokevirtual 95, 36, 0, 5),
  (27, .ifCond .eq 5, 32, 0, 0),
  (32, .iinc 1 1, 0, 0, 0),
  (35, .goto (-33), 2, 0, 0),
  (38, .iconst 0, 0, 0, 0),
  (39, .ireturn, 1, 0, 0)]
/-- java/util/ArrayList.get(I)Ljava/lang/Object; -/
def ox_i32 : List (Nat × (Instr × Nat × Nat × Nat)) := [(0, .iload_n 1, 0, 0, 0),
  (1, .aload_n 0, 0, 0, 0),
  (2, .getfield 48, 2, 1, 0),
  (5, .invokestatic 118, 33, 2, 0),
  (8, .pop, 0, 0, 0),
  (9, .aload_n 0, 0, 0, 0),
  (10, .iload_n 1, 0, 0, 0),
  (11, .invokevirtual 123, 35, 1, 5),
  (14, .areturn, 0, 0, 0)]
/-- java/util/Objects.checkIndex(II)I -/
def ox_i33 : List (Nat × (Instr × Nat × Nat × Nat)) := [(0, .iload_n 0, 0, 0, 0),
  (1, .iload_n 1, 0, 0, 0),
  (2, .aconst_null, 0, 0, 0),
  (3, .invokestatic 105, 34, 3, 0),
  (6, .ireturn, 0, 0, 0)]
/-- jdk/internal/util/Preconditions.checkIndex(IILjava/util/function/BiFunction;)I -/
def ox_i34 : List (Nat × (Instr × Nat × Nat × Nat)) := [(0, .iload_n 0, 0, 0, 0),
  (1, .ifCond .lt 8, 9, 0, 0),
  (4, .iload_n 0, 0, 0, 0),
  (5, .iload_n 1, 0, 0, 0),
  (6, .if_icmp .lt 10, 16, 0, 0),
  (16, .iload_n 0, 0, 0, 0),
  (17, .ireturn, 0, 0, 0)]
/-- java/util/ArrayList.elementData(I)Ljava/lang/Object; -/
def ox_i35 : List (Nat × (Instr × Nat × Nat × Nat)) := [(0, .aload_n 0, 0, 0, 0),
  (1, .getfield 9, 2, 0, 2),
  (4, .iload_n 1, 0, 0, 0),
  (5, .aaload, 0, 0, 0),
  (6, .areturn, 0, 0, 0)]
/-- Openline$Target.isPullingDown()Z -/
def ox_i36 : List (Nat × (Instr × Nat × Nat × Nat)) := [(0, .aload_n 0, 0, 0, 0),
  (1, .getfield 35, 8, 9, 0),
  (4, .ifCond .le 23, 27, 0, 0),
  (27, .iconst 0, 0, 0, 0),
  (28, .ireturn, 1, 0, 0)]
/-- Openline$Parts.letGo()V -/
def ox_i37 : List (Nat × (Instr × Nat × Nat × Nat)) := [(0, .iconst 0, 0, 0, 0),
  (1, .istore_n 1, 0, 0, 0),
  (2, .iload_n 1, 0, 0, 0),
  (3, .aload_n 0, 0, 0, 0),
  (4, .getfield 12, 1, 0, 2),
  (7, .invokevirtual 41, 18, 0, 5),
  (10, .if_icmp .ge 24, 34, 0, 0),
  (13, .aload_n 0, 0, 0, 0),
  (14, .getfield 12, 1, 0, 2),
  (17, .iload_n 1, 0, 0, 0),
  (18, .invokevirtual 45, 32, 1, 5),
  (21, .checkcast 23, 8, 0, 0),
  (24, .iconst 0, 0, 0, 0),
  (25, .putfield 92, 8, 9, 0),
  (28, .iinc 1 1, 0, 0, 0),
  (31, .goto (-29), 2, 0, 0),
  (34, .return_, 0, 0, 0)]
/-- Openline$Parts.handOutOnce()I -/
def ox_i38 : List (Nat × (Instr × Nat × Nat × Nat)) := [(0, .aload_n 0, 0, 0, 0),
  (1, .invokevirtual 99, 39, 0, 5),
  (4, .istore_n 1, 0, 0, 0),
  (5, .aload_n 0, 0, 0, 0),
  (6, .invokevirtual 102, 42, 0, 5),
  (9, .istore_n 2, 0, 0, 0),
  (10, .iconst 0, 0, 0, 0),
  (11, .istore_n 3, 0, 0, 0),
  (12, .iconst 0, 0, 0, 0),
  (13, .istore 4, 0, 0, 0),
  (15, .iload 4, 0, 0, 0),
  (17, .aload_n 0, 0, 0, 0),
  (18, .getfield 12, 1, 0, 2),
  (21, .invokevirtual 41, 18, 0, 5),
  (24, .if_icmp .ge 50, 74, 0, 0),
  (27, .aload_n 0, 0, 0, 0),
  (28, .getfield 12, 1, 0, 2),
  (31, .iload 4, 0, 0, 0),
  (33, .invokevirtual 45, 32, 1, 5),
  (36, .checkcast 23, 8, 0, 0),
  (39, .astore 5, 0, 0, 0),
  (41, .aload_n 0, 0, 0, 0),
  (42, .aload 5, 0, 0, 0),
  (44, .invokevirtual 105, 40, 1, 5),
  (47, .ifCond .eq 21, 68, 0, 0),
  (68, .iinc 4 1, 0, 0, 0),
  (71, .goto (-56), 15, 0, 0),
  (74, .iload_n 3, 0, 0, 0),
  (75, .ireturn, 0, 0, 0)]
/-- Openline$Parts.winningId()I -/
def ox_i39 : List (Nat × (Instr × Nat × Nat × Nat)) := [(0, .sipush 255, 0, 0, 0),
  (3, .istore_n 1, 0, 0, 0),
  (4, .iconst 0, 0, 0, 0),
  (5, .istore_n 2, 0, 0, 0),
  (6, .iload_n 2, 0, 0, 0),
  (7, .aload_n 0, 0, 0, 0),
  (8, .getfield 12, 1, 0, 2),
  (11, .invokevirtual 41, 18, 0, 5),
  (14, .if_icmp .ge 38, 52, 0, 0),
  (17, .aload_n 0, 0, 0, 0),
  (18, .getfield 12, 1, 0, 2),
  (21, .iload_n 2, 0, 0, 0),
  (22, .invokevirtual 45, 32, 1, 5),
  (25, .checkcast 23, 8, 0, 0),
  (28, .astore_n 3, 0, 0, 0),
  (29, .aload_n 0, 0, 0, 0),
  (30, .aload_n 3, 0, 0, 0),
  (31, .invokevirtual 105, 40, 1, 5),
  (34, .ifCond .eq 12, 46, 0, 0),
  (46, .iinc 2 1, 0, 0, 0),
  (49, .goto (-43), 6, 0, 0),
  (52, .iload_n 1, 0, 0, 0),
  (53, .ireturn, 0, 0, 0)]
/-- Openline$Parts.isWithoutAddress(LOpenline$Target;)Z -/
def ox_i40 : List (Nat × (Instr × Nat × Nat × Nat)) := [(0, .aload_n 0, 0, 0, 0),
  (1, .aload_n 1, 0, 0, 0),
  (2, .invokevirtual 34, 41, 1, 5),
  (5, .ifCond .eq 14, 19, 0, 0),
  (8, .aload_n 1, 0, 0, 0),
  (9, .getfield 38, 8, 4, 0),
  (12, .ifCond .ne 7, 19, 0, 0),
  (19, .iconst 0, 0, 0, 0),
  (20, .ireturn, 1, 0, 0)]
/-- Openline$Parts.isReached(LOpenline$Target;)Z -/
def ox_i41 : List (Nat × (Instr × Nat × Nat × Nat)) := [(0, .aload_n 1, 0, 0, 0),
  (1, .getfield 22, 8, 6, 1),
  (4, .ifCond .eq 29, 33, 0, 0),
  (7, .aload_n 1, 0, 0, 0),
  (8, .getfield 28, 8, 5, 0),
  (11, .ifCond .eq 18, 29, 0, 0),
  (29, .iconst 1, 0, 0, 0),
  (30, .goto 4, 34, 0, 0),
  (34, .ireturn, 1, 0, 0)]
/-- Openline$Parts.freeAddress()I -/
def ox_i42 : List (Nat × (Instr × Nat × Nat × Nat)) := [(0, .bipush 8, 0, 0, 0),
  (2, .istore_n 1, 0, 0, 0),
  (3, .iload_n 1, 0, 0, 0),
  (4, .bipush 119, 0, 0, 0),
  (6, .if_icmp .gt 19, 25, 0, 0),
  (9, .aload_n 0, 0, 0, 0),
  (10, .iload_n 1, 0, 0, 0),
  (11, .invokevirtual 114, 43, 1, 5),
  (14, .ifCond .ne 5, 19, 0, 0),
  (17, .iload_n 1, 0, 0, 0),
  (18, .ireturn, 0, 0, 0),
  (19, .iinc 1 1, 0, 0, 0),
  (22, .goto (-19), 3, 0, 0)]
/-- Openline$Parts.isTaken(I)Z -/
def ox_i43 : List (Nat × (Instr × Nat × Nat × Nat)) := [(0, .iconst 0, 0, 0, 0),
  (1, .istore_n 2, 0, 0, 0),
  (2, .iload_n 2, 0, 0, 0),
  (3, .aload_n 0, 0, 0, 0),
  (4, .getfield 12, 1, 0, 2),
  (7, .invokevirtual 41, 18, 0, 5),
  (10, .if_icmp .ge 29, 39, 0, 0),
  (13, .aload_n 0, 0, 0, 0),
  (14, .getfield 12, 1, 0, 2),
  (17, .iload_n 2, 0, 0, 0),
  (18, .invokevirtual 45, 32, 1, 5),
  (21, .checkcast 23, 8, 0, 0),
  (24, .getfield 38, 8, 4, 0),
  (27, .iload_n 1, 0, 0, 0),
  (28, .if_icmp .ne 5, 33, 0, 0),
  (31, .iconst 1, 0, 0, 0),
  (32, .ireturn, 1, 0, 0),
  (33, .iinc 2 1, 0, 0, 0),
  (36, .goto (-34), 2, 0, 0),
  (39, .iconst 0, 0, 0, 0),
  (40, .ireturn, 1, 0, 0)]
/-- OpenlineModel.handOut()I -/
def ox_i44 : List (Nat × (Instr × Nat × Nat × Nat)) := [(0, .aload_n 0, 0, 0, 0),
  (1, .iconst 0, 0, 0, 0),
  (2, .putfield 45, 6, 0, 0),
  (5, .aload_n 0, 0, 0, 0),
  (6, .invokevirtual 265, 45, 0, 5),
  (9, .ifCond .eq 9, 18, 0, 0),
  (18, .aload_n 0, 0, 0, 0),
  (19, .invokevirtual 190, 52, 0, 5),
  (22, .iconst 0, 0, 0, 0),
  (23, .istore_n 1, 0, 0, 0),
  (24, .iconst 0, 0, 0, 0),
  (25, .istore_n 2, 0, 0, 0),
  (26, .iload_n 2, 0, 0, 0),
  (27, .sipush 256, 0, 0, 0),
  (30, .if_icmp .ge 119, 149, 0, 0),
  (33, .aload_n 0, 0, 0, 0),
  (34, .invokevirtual 294, 53, 0, 5),
  (37, .istore_n 3, 0, 0, 0),
  (38, .iconst 0, 0, 0, 0),
  (39, .istore 4, 0, 0, 0),
  (41, .aload_n 0, 0, 0, 0),
  (42, .getfield 10, 6, 1, 2),
  (45, .invokevirtual 75, 46, 0, 5),
  (48, .astore 5, 0, 0, 0),
  (50, .aload 5, 0, 0, 0),
  (52, .invokeinterface 79 1, 48, 0, 6),
  (57, .ifCond .eq 56, 113, 0, 0),
  (60, .aload 5, 0, 0, 0),
  (62, .invokeinterface 85 1, 49, 0, 6),
  (67, .checkcast 57, 9, 0, 0),
  (70, .astore 6, 0, 0, 0),
  (72, .aload_n 0, 0, 0, 0),
  (73, .aload 6, 0, 0, 0),
  (75, .invokevirtual 68, 54, 1, 5),
  (78, .ifCond .eq (-28), 50, 0, 0),
  (81, .aload 6, 0, 0, 0),
  (83, .getfield 72, 9, 0, 0),
  (86, .ifCond .gt (-36), 50, 0, 0),
  (113, .aload_n 0, 0, 0, 0),
  (114, .dup, 0, 0, 0),
  (115, .getfield 181, 6, 3, 0),
  (118, .iload 4, 0, 0, 0),
  (120, .ifCond .le 13, 133, 0, 0),
  (133, .iconst 0, 0, 0, 0),
  (134, .iadd, 0, 0, 0),
  (135, .putfield 181, 6, 3, 0),
  (138, .iload_n 1, 0, 0, 0),
  (139, .iload 4, 0, 0, 0),
  (141, .iadd, 0, 0, 0),
  (142, .istore_n 1, 0, 0, 0),
  (143, .iinc 2 1, 0, 0, 0),
  (146, .goto (-120), 26, 0, 0),
  (149, .iload_n 1, 0, 0, 0),
  (150, .ireturn, 0, 0, 0)]
/-- OpenlineModel.isStuck()Z -/
def ox_i45 : List (Nat × (Instr × Nat × Nat × Nat)) := [(0, .aload_n 0, 0, 0, 0),
  (1, .getfield 10, 6, 1, 2),
  (4, .invokevirtual 75, 46, 0, 5),
  (7, .astore_n 1, 0, 0, 0),
  (8, .aload_n 1, 0, 0, 0),
  (9, .invokeinterface 79 1, 48, 0, 6),
  (14, .ifCond .eq 25, 39, 0, 0),
  (17, .aload_n 1, 0, 0, 0),
  (18, .invokeinterface 85 1, 49, 0, 6),
  (23, .checkcast 57, 9, 0, 0),
  (26, .astore_n 2, 0, 0, 0),
  (27, .aload_n 2, 0, 0, 0),
  (28, .invokevirtual 96, 51, 0, 5),
  (31, .ifCond .eq 5, 36, 0, 0),
  (36, .goto (-28), 8, 0, 0),
  (39, .iconst 0, 0, 0, 0),
  (40, .ireturn, 1, 0, 0)]
/-- java/util/ArrayList.iterator()Ljava/util/Iterator; -/
def ox_i46 : List (Nat × (Instr × Nat × Nat × Nat)) := [(0, .new 267, 10, 4, 0),
  (3, .dup, 0, 0, 0),
  (4, .aload_n 0, 0, 0, 0),
  (5, .invokespecial 269, 47, 1, 2),
  (8, .areturn, 0, 0, 0)]
/-- java/util/ArrayList$Itr.<init>(Ljava/util/ArrayList;)V -/
def ox_i47 : List (Nat × (Instr × Nat × Nat × Nat)) := [(0, .aload_n 0, 0, 0, 0),
  (1, .aload_n 1, 0, 0, 0),
  (2, .putfield 1, 10, 3, 2),
  (5, .aload_n 0, 0, 0, 0),
  (6, .invokespecial 7, 0, 0, 4),
  (9, .aload_n 0, 0, 0, 0),
  (10, .iconst (-1), 0, 0, 0),
  (11, .putfield 13, 10, 1, 0),
  (14, .aload_n 0, 0, 0, 0),
  (15, .aload_n 0, 0, 0, 0),
  (16, .getfield 1, 10, 3, 2),
  (19, .getfield 17, 2, 2, 0),
  (22, .putfield 22, 10, 2, 0),
  (25, .return_, 0, 0, 0)]
/-- java/util/ArrayList$Itr.hasNext()Z -/
def ox_i48 : List (Nat × (Instr × Nat × Nat × Nat)) := [(0, .aload_n 0, 0, 0, 0),
  (1, .getfield 25, 10, 0, 0),
  (4, .aload_n 0, 0, 0, 0),
  (5, .getfield 1, 10, 3, 2),
  (8, .getfield 28, 2, 1, 0),
  (11, .if_icmp .eq 7, 18, 0, 0),
  (14, .iconst 1, 0, 0, 0),
  (15, .goto 4, 19, 0, 0),
  (18, .iconst 0, 0, 0, 0),
  (19, .ireturn, 1, 0, 0)]
/-- java/util/ArrayList$Itr.next()Ljava/lang/Object; -/
def ox_i49 : List (Nat × (Instr × Nat × Nat × Nat)) := [(0, .aload_n 0, 0, 0, 0),
  (1, .invokevirtual 31, 50, 0, 5),
  (4, .aload_n 0, 0, 0, 0),
  (5, .getfield 25, 10, 0, 0),
  (8, .istore_n 1, 0, 0, 0),
  (9, .iload_n 1, 0, 0, 0),
  (10, .aload_n 0, 0, 0, 0),
  (11, .getfield 1, 10, 3, 2),
  (14, .getfield 28, 2, 1, 0),
  (17, .if_icmp .lt 11, 28, 0, 0),
  (28, .aload_n 0, 0, 0, 0),
  (29, .getfield 1, 10, 3, 2),
  (32, .getfield 37, 2, 0, 2),
  (35, .astore_n 2, 0, 0, 0),
  (36, .iload_n 1, 0, 0, 0),
  (37, .aload_n 2, 0, 0, 0),
  (38, .arraylength, 0, 0, 0),
  (39, .if_icmp .lt 11, 50, 0, 0),
  (50, .aload_n 0, 0, 0, 0),
  (51, .iload_n 1, 0, 0, 0),
  (52, .iconst 1, 0, 0, 0),
  (53, .iadd, 0, 0, 0),
  (54, .putfield 25, 10, 0, 0),
  (57, .aload_n 2, 0, 0, 0),
  (58, .aload_n 0, 0, 0, 0),
  (59, .iload_n 1, 0, 0, 0),
  (60, .dup_x1, 0, 0, 0),
  (61, .putfield 13, 10, 1, 0),
  (64, .aaload, 0, 0, 0),
  (65, .areturn, 0, 0, 0)]
/-- java/util/ArrayList$Itr.checkForComodification()V -/
def ox_i50 : List (Nat × (Instr × Nat × Nat × Nat)) := [(0, .aload_n 0, 0, 0, 0),
  (1, .getfield 1, 10, 3, 2),
  (4, .getfield 17, 2, 2, 0),
  (7, .aload_n 0, 0, 0, 0),
  (8, .getfield 22, 10, 2, 0),
  (11, .if_icmp .eq 11, 22, 0, 0),
  (22, .return_, 0, 0, 0)]
/-- OpenlineModel$Target.isStuck()Z -/
def ox_i51 : List (Nat × (Instr × Nat × Nat × Nat)) := [(0, .aload_n 0, 0, 0, 0),
  (1, .getfield 19, 9, 9, 0),
  (4, .ifCond .le 23, 27, 0, 0),
  (27, .iconst 0, 0, 0, 0),
  (28, .ireturn, 1, 0, 0)]
/-- OpenlineModel.freeAll()V -/
def ox_i52 : List (Nat × (Instr × Nat × Nat × Nat)) := [(0, .aload_n 0, 0, 0, 0),
  (1, .getfield 10, 6, 1, 2),
  (4, .invokevirtual 75, 46, 0, 5),
  (7, .astore_n 1, 0, 0, 0),
  (8, .aload_n 1, 0, 0, 0),
  (9, .invokeinterface 79 1, 48, 0, 6),
  (14, .ifCond .eq 21, 35, 0, 0),
  (17, .aload_n 1, 0, 0, 0),
  (18, .invokeinterface 85 1, 49, 0, 6),
  (23, .checkcast 57, 9, 0, 0),
  (26, .astore_n 2, 0, 0, 0),
  (27, .aload_n 2, 0, 0, 0),
  (28, .iconst 0, 0, 0, 0),
  (29, .putfield 136, 9, 9, 0),
  (32, .goto (-24), 8, 0, 0),
  (35, .return_, 0, 0, 0)]
/-- OpenlineModel.smallest()I -/
def ox_i53 : List (Nat × (Instr × Nat × Nat × Nat)) := [(0, .bipush 8, 0, 0, 0),
  (2, .istore_n 1, 0, 0, 0),
  (3, .iconst 1, 0, 0, 0),
  (4, .istore_n 2, 0, 0, 0),
  (5, .iload_n 2, 0, 0, 0),
  (6, .ifCond .eq 68, 74, 0, 0),
  (9, .iconst 0, 0, 0, 0),
  (10, .istore_n 2, 0, 0, 0),
  (11, .aload_n 0, 0, 0, 0),
  (12, .getfield 10, 6, 1, 2),
  (15, .invokevirtual 75, 46, 0, 5),
  (18, .astore_n 3, 0, 0, 0),
  (19, .aload_n 3, 0, 0, 0),
  (20, .invokeinterface 79 1, 48, 0, 6),
  (25, .ifCond .eq 34, 59, 0, 0),
  (28, .aload_n 3, 0, 0, 0),
  (29, .invokeinterface 85 1, 49, 0, 6),
  (34, .checkcast 57, 9, 0, 0),
  (37, .astore 4, 0, 0, 0),
  (39, .iload_n 2, 0, 0, 0),
  (40, .aload 4, 0, 0, 0),
  (42, .getfield 72, 9, 0, 0),
  (45, .iload_n 1, 0, 0, 0),
  (46, .if_icmp .ne 7, 53, 0, 0),
  (49, .iconst 1, 0, 0, 0),
  (50, .goto 4, 54, 0, 0),
  (53, .iconst 0, 0, 0, 0),
  (54, .ior, 0, 0, 0),
  (55, .istore_n 2, 0, 0, 0),
  (56, .goto (-37), 19, 0, 0),
  (59, .iload_n 1, 0, 0, 0),
  (60, .iload_n 2, 0, 0, 0),
  (61, .ifCond .eq 7, 68, 0, 0),
  (64, .iconst 1, 0, 0, 0),
  (65, .goto 4, 69, 0, 0),
  (68, .iconst 0, 0, 0, 0),
  (69, .iadd, 0, 0, 0),
  (70, .istore_n 1, 0, 0, 0),
  (71, .goto (-66), 5, 0, 0),
  (74, .iload_n 1, 0, 0, 0),
  (75, .ireturn, 0, 0, 0)]
/-- OpenlineModel.isWired(LOpenlineModel$Target;)Z -/
def ox_i54 : List (Nat × (Instr × Nat × Nat × Nat)) := [(0, .aload_n 1, 0, 0, 0),
  (1, .getfield 56, 9, 5, 1),
  (4, .ifCond .eq 29, 33, 0, 0),
  (7, .aload_n 1, 0, 0, 0),
  (8, .getfield 62, 9, 4, 0),
  (11, .ifCond .eq 18, 29, 0, 0),
  (29, .iconst 1, 0, 0, 0),
  (30, .goto 4, 34, 0, 0),
  (34, .ireturn, 1, 0, 0)]
/-- a method: its name, bytes, locals, return, table of handlers, class number (99: none), rows -/
abbrev ox_Q : Type := MethodName × ByteArray × Nat × Option FieldType × Option (List (Nat × Nat × Nat × Nat)) × Nat × List (Nat × (Instr × Nat × Nat × Nat))
def ox_q0 : ox_Q := (⟨"OpenlineLaw", "law", "([I)Z"⟩, code, 7, (some .boolean), none, 99, ox_i0)
def ox_q1 : ox_Q := (⟨"Openline", "<init>", "()V"⟩, prog_1_method_1_code, 3, (Option.none : Option Jvm.ClassFile.FieldType), none, 0, ox_i1)
def ox_q2 : ox_Q := (⟨"Openline$Parts", "<init>", "()V"⟩, prog_5_method_1_code, 1, (Option.none : Option Jvm.ClassFile.FieldType), none, 1, ox_i2)
def ox_q3 : ox_Q := (⟨"java/util/ArrayList", "<init>", "()V"⟩, prog_43_method_2_code, 1, (Option.none : Option Jvm.ClassFile.FieldType), none, 2, ox_i3)
def ox_q4 : ox_Q := (⟨"java/util/AbstractList", "<init>", "()V"⟩, prog_42_method_1_code, 1, (Option.none : Option Jvm.ClassFile.FieldType), none, 99, ox_i4)
def ox_q5 : ox_Q := (⟨"java/util/AbstractCollection", "<init>", "()V"⟩, prog_41_method_1_code, 1, (Option.none : Option Jvm.ClassFile.FieldType), none, 99, ox_i5)
def ox_q6 : ox_Q := (⟨"Openline$Analyser", "<init>", "()V"⟩, prog_2_method_1_code, 1, (Option.none : Option Jvm.ClassFile.FieldType), none, 3, ox_i6)
def ox_q7 : ox_Q := (⟨"java/lang/StringBuilder", "<init>", "()V"⟩, prog_33_method_1_code, 1, (Option.none : Option Jvm.ClassFile.FieldType), none, 4, ox_i7)
def ox_q8 : ox_Q := (⟨"java/lang/AbstractStringBuilder", "<init>", "(I)V"⟩, prog_16_method_2_code, 2, (Option.none : Option Jvm.ClassFile.FieldType), none, 99, ox_i8)
def ox_q9 : ox_Q := (⟨"Openline$Occupation", "<init>", "(LOpenline$Parts;Ljava/util/ArrayList;)V"⟩, prog_4_method_1_code, 3, (Option.none : Option Jvm.ClassFile.FieldType), none, 5, ox_i9)
def ox_q10 : ox_Q := (⟨"OpenlineModel", "<init>", "()V"⟩, prog_10_method_1_code, 1, (Option.none : Option Jvm.ClassFile.FieldType), none, 6, ox_i10)
def ox_q11 : ox_Q := (⟨"OpenlineLaw$Out", "<init>", "()V"⟩, prog_9_method_1_code, 1, (Option.none : Option Jvm.ClassFile.FieldType), none, 7, ox_i11)
def ox_q12 : ox_Q := (⟨"OpenlineLaw", "target", "(LOpenline;IIIILOpenlineLaw$Out;)I"⟩, method_2_code, 7, (Option.some Jvm.ClassFile.FieldType.int), some [((0 : Nat), (15 : Nat), (18 : Nat), (19 : Nat)), ((0 : Nat), (15 : Nat), (22 : Nat), (21 : Nat))], 99, ox_i12)
def ox_q13 : ox_Q := (⟨"Openline", "target", "(IIII)I"⟩, prog_1_method_2_code, 5, (Option.some Jvm.ClassFile.FieldType.int), none, 0, ox_i13)
def ox_q14 : ox_Q := (⟨"Openline", "isAddress", "(I)Z"⟩, prog_1_method_40_code, 1, (Option.some Jvm.ClassFile.FieldType.boolean), none, 0, ox_i14)
def ox_q15 : ox_Q := (⟨"Openline", "isWithin", "(III)Z"⟩, prog_1_method_36_code, 3, (Option.some Jvm.ClassFile.FieldType.boolean), none, 0, ox_i15)
def ox_q16 : ox_Q := (⟨"Openline", "isByte", "(I)Z"⟩, prog_1_method_37_code, 1, (Option.some Jvm.ClassFile.FieldType.boolean), none, 0, ox_i16)
def ox_q17 : ox_Q := (⟨"Openline", "demand", "(Z)V"⟩, prog_1_method_31_code, 1, (Option.none : Option Jvm.ClassFile.FieldType), none, 0, ox_i17)
def ox_q18 : ox_Q := (⟨"java/util/ArrayList", "size", "()I"⟩, prog_43_method_8_code, 1, (Option.some Jvm.ClassFile.FieldType.int), none, 2, ox_i18)
def ox_q19 : ox_Q := (⟨"Openline", "demandState", "(Z)V"⟩, prog_1_method_33_code, 1, (Option.none : Option Jvm.ClassFile.FieldType), none, 0, ox_i19)
def ox_q20 : ox_Q := (⟨"Openline$Target", "<init>", "(IIII)V"⟩, prog_6_method_1_code, 5, (Option.none : Option Jvm.ClassFile.FieldType), none, 8, ox_i20)
def ox_q21 : ox_Q := (⟨"java/util/ArrayList", "add", "(Ljava/lang/Object;)Z"⟩, prog_43_method_25_code, 2, (Option.some Jvm.ClassFile.FieldType.boolean), none, 2, ox_i21)
def ox_q22 : ox_Q := (⟨"java/util/ArrayList", "add", "(Ljava/lang/Object;[Ljava/lang/Object;I)V"⟩, prog_43_method_24_code, 4, (Option.none : Option Jvm.ClassFile.FieldType), none, 2, ox_i22)
def ox_q23 : ox_Q := (⟨"java/util/ArrayList", "grow", "()[Ljava/lang/Object;"⟩, prog_43_method_7_code, 1, (Option.some (Jvm.ClassFile.FieldType.array (Jvm.ClassFile.FieldType.object "java/lang/Object"))), none, 2, ox_i23)
def ox_q24 : ox_Q := (⟨"java/util/ArrayList", "grow", "(I)[Ljava/lang/Object;"⟩, prog_43_method_6_code, 4, (Option.some (Jvm.ClassFile.FieldType.array (Jvm.ClassFile.FieldType.object "java/lang/Object"))), none, 2, ox_i24)
def ox_q25 : ox_Q := (⟨"OpenlineModel", "target", "(IIII)I"⟩, prog_10_method_14_code, 6, (Option.some Jvm.ClassFile.FieldType.int), none, 6, ox_i25)
def ox_q26 : ox_Q := (⟨"OpenlineModel", "is", "(III)Z"⟩, prog_10_method_4_code, 3, (Option.some Jvm.ClassFile.FieldType.boolean), none, 6, ox_i26)
def ox_q27 : ox_Q := (⟨"OpenlineModel", "isByte", "(I)Z"⟩, prog_10_method_5_code, 1, (Option.some Jvm.ClassFile.FieldType.boolean), none, 6, ox_i27)
def ox_q28 : ox_Q := (⟨"OpenlineModel$Target", "<init>", "()V"⟩, prog_13_method_1_code, 1, (Option.none : Option Jvm.ClassFile.FieldType), none, 9, ox_i28)
def ox_q29 : ox_Q := (⟨"OpenlineLaw", "handOut", "(LOpenline;LOpenlineLaw$Out;)I"⟩, method_15_code, 3, (Option.some Jvm.ClassFile.FieldType.int), some [((0 : Nat), (9 : Nat), (12 : Nat), (21 : Nat))], 99, ox_i29)
def ox_q30 : ox_Q := (⟨"Openline", "handOut", "()I"⟩, prog_1_method_15_code, 4, (Option.some Jvm.ClassFile.FieldType.int), none, 0, ox_i30)
def ox_q31 : ox_Q := (⟨"Openline$Parts", "isStuck", "()Z"⟩, prog_5_method_16_code, 2, (Option.some Jvm.ClassFile.FieldType.boolean), none, 1, ox_i31)
def ox_q32 : ox_Q := (⟨"java/util/ArrayList", "get", "(I)Ljava/lang/Object;"⟩, prog_43_method_20_code, 2, (Option.some (Jvm.ClassFile.FieldType.object "java/lang/Object")), none, 2, ox_i32)
def ox_q33 : ox_Q := (⟨"java/util/Objects", "checkIndex", "(II)I"⟩, prog_49_method_17_code, 2, (Option.some Jvm.ClassFile.FieldType.int), none, 99, ox_i33)
def ox_q34 : ox_Q := (⟨"jdk/internal/util/Preconditions", "checkIndex", "(IILjava/util/function/BiFunction;)I"⟩, prog_53_method_11_code, 3, (Option.some Jvm.ClassFile.FieldType.int), none, 99, ox_i34)
def ox_q35 : ox_Q := (⟨"java/util/ArrayList", "elementData", "(I)Ljava/lang/Object;"⟩, prog_43_method_18_code, 2, (Option.some (Jvm.ClassFile.FieldType.object "java/lang/Object")), none, 2, ox_i35)
def ox_q36 : ox_Q := (⟨"Openline$Target", "isPullingDown", "()Z"⟩, prog_6_method_6_code, 1, (Option.some Jvm.ClassFile.FieldType.boolean), none, 8, ox_i36)
def ox_q37 : ox_Q := (⟨"Openline$Parts", "letGo", "()V"⟩, prog_5_method_14_code, 2, (Option.none : Option Jvm.ClassFile.FieldType), none, 1, ox_i37)
def ox_q38 : ox_Q := (⟨"Openline$Parts", "handOutOnce", "()I"⟩, prog_5_method_18_code, 6, (Option.some Jvm.ClassFile.FieldType.int), none, 1, ox_i38)
def ox_q39 : ox_Q := (⟨"Openline$Parts", "winningId", "()I"⟩, prog_5_method_20_code, 4, (Option.some Jvm.ClassFile.FieldType.int), none, 1, ox_i39)
def ox_q40 : ox_Q := (⟨"Openline$Parts", "isWithoutAddress", "(LOpenline$Target;)Z"⟩, prog_5_method_19_code, 2, (Option.some Jvm.ClassFile.FieldType.boolean), none, 1, ox_i40)
def ox_q41 : ox_Q := (⟨"Openline$Parts", "isReached", "(LOpenline$Target;)Z"⟩, prog_5_method_2_code, 2, (Option.some Jvm.ClassFile.FieldType.boolean), none, 1, ox_i41)
def ox_q42 : ox_Q := (⟨"Openline$Parts", "freeAddress", "()I"⟩, prog_5_method_21_code, 2, (Option.some Jvm.ClassFile.FieldType.int), none, 1, ox_i42)
def ox_q43 : ox_Q := (⟨"Openline$Parts", "isTaken", "(I)Z"⟩, prog_5_method_22_code, 3, (Option.some Jvm.ClassFile.FieldType.boolean), none, 1, ox_i43)
def ox_q44 : ox_Q := (⟨"OpenlineModel", "handOut", "()I"⟩, prog_10_method_36_code, 7, (Option.some Jvm.ClassFile.FieldType.int), none, 6, ox_i44)
def ox_q45 : ox_Q := (⟨"OpenlineModel", "isStuck", "()Z"⟩, prog_10_method_13_code, 3, (Option.some Jvm.ClassFile.FieldType.boolean), none, 6, ox_i45)
def ox_q46 : ox_Q := (⟨"java/util/ArrayList", "iterator", "()Ljava/util/Iterator;"⟩, prog_43_method_55_code, 1, (Option.some (Jvm.ClassFile.FieldType.object "java/util/Iterator")), none, 2, ox_i46)
def ox_q47 : ox_Q := (⟨"java/util/ArrayList$Itr", "<init>", "(Ljava/util/ArrayList;)V"⟩, prog_44_method_1_code, 2, (Option.none : Option Jvm.ClassFile.FieldType), none, 10, ox_i47)
def ox_q48 : ox_Q := (⟨"java/util/ArrayList$Itr", "hasNext", "()Z"⟩, prog_44_method_2_code, 1, (Option.some Jvm.ClassFile.FieldType.boolean), none, 10, ox_i48)
def ox_q49 : ox_Q := (⟨"java/util/ArrayList$Itr", "next", "()Ljava/lang/Object;"⟩, prog_44_method_3_code, 3, (Option.some (Jvm.ClassFile.FieldType.object "java/lang/Object")), none, 10, ox_i49)
def ox_q50 : ox_Q := (⟨"java/util/ArrayList$Itr", "checkForComodification", "()V"⟩, prog_44_method_6_code, 1, (Option.none : Option Jvm.ClassFile.FieldType), none, 10, ox_i50)
def ox_q51 : ox_Q := (⟨"OpenlineModel$Target", "isStuck", "()Z"⟩, prog_13_method_2_code, 1, (Option.some Jvm.ClassFile.FieldType.boolean), none, 9, ox_i51)
def ox_q52 : ox_Q := (⟨"OpenlineModel", "freeAll", "()V"⟩, prog_10_method_28_code, 3, (Option.none : Option Jvm.ClassFile.FieldType), none, 6, ox_i52)
def ox_q53 : ox_Q := (⟨"OpenlineModel", "smallest", "()I"⟩, prog_10_method_35_code, 5, (Option.some Jvm.ClassFile.FieldType.int), none, 6, ox_i53)
def ox_q54 : ox_Q := (⟨"OpenlineModel", "isWired", "(LOpenlineModel$Target;)Z"⟩, prog_10_method_8_code, 2, (Option.some Jvm.ClassFile.FieldType.boolean), none, 6, ox_i54)
def ox_mt : List ox_Q := [ox_q0, ox_q1, ox_q2, ox_q3, ox_q4, ox_q5, ox_q6, ox_q7, ox_q8, ox_q9, ox_q10, ox_q11, ox_q12, ox_q13, ox_q14, ox_q15, ox_q16, ox_q17, ox_q18, ox_q19, ox_q20, ox_q21, ox_q22, ox_q23, ox_q24, ox_q25, ox_q26, ox_q27, ox_q28, ox_q29, ox_q30, ox_q31, ox_q32, ox_q33, ox_q34, ox_q35, ox_q36, ox_q37, ox_q38, ox_q39, ox_q40, ox_q41, ox_q42, ox_q43, ox_q44, ox_q45, ox_q46, ox_q47, ox_q48, ox_q49, ox_q50, ox_q51, ox_q52, ox_q53, ox_q54]
