/-! ===== the stretches, run by the kernel: generated (wip/tool/ev.py) ===== -/
/-- the script: six targets at 8 .. 13, then handOut, 450 times -/
def ox_sx (j : Nat) : Int32 := match j % 6 with
  | 0 => if j < 36 then 0 else 13
  | 1 => if j < 36 then Int32.ofNat (8 + j / 6) else 0
  | _ => 0
def ox_sL : Nat := 2736
def ox_N : Nat := 8
def ox_hB : ox_H := [(52, (64, [.int 0, .int 0, .int 0, .int 0, .int 0, .int 0, .int 0, .int 0, .int 0, .int 0, .int 0, .int 0, .int 0, .int 0, .int 0, .int 0])), (51, (9, [.int 13, .int 0, .int 0, .int 0, .int 0, .int 1, .int 0, .ref 52, .int 0, .int 0])), (50, (64, [.int 0, .int 0, .int 0, .int 0, .int 0, .int 0, .int 0, .int 0, .int 0, .int 0, .int 0, .int 0, .int 0, .int 0, .int 0, .int 0])), (49, (8, [.int 0, .int 0, .int 0, .ref 50, .int 13, .int 0, .int 1, .int 0, .int 0, .int 0])), (48, (64, [.int 0, .int 0, .int 0, .int 0, .int 0, .int 0, .int 0, .int 0, .int 0, .int 0, .int 0, .int 0, .int 0, .int 0, .int 0, .int 0])), (47, (9, [.int 12, .int 0, .int 0, .int 0, .int 0, .int 1, .int 0, .ref 48, .int 0, .int 0])), (46, (64, [.int 0, .int 0, .int 0, .int 0, .int 0, .int 0, .int 0, .int 0, .int 0, .int 0, .int 0, .int 0, .int 0, .int 0, .int 0, .int 0])), (45, (8, [.int 0, .int 0, .int 0, .ref 46, .int 12, .int 0, .int 1, .int 0, .int 0, .int 0])), (44, (64, [.int 0, .int 0, .int 0, .int 0, .int 0, .int 0, .int 0, .int 0, .int 0, .int 0, .int 0, .int 0, .int 0, .int 0, .int 0, .int 0])), (43, (9, [.int 11, .int 0, .int 0, .int 0, .int 0, .int 1, .int 0, .ref 44, .int 0, .int 0])), (42, (64, [.int 0, .int 0, .int 0, .int 0, .int 0, .int 0, .int 0, .int 0, .int 0, .int 0, .int 0, .int 0, .int 0, .int 0, .int 0, .int 0])), (41, (8, [.int 0, .int 0, .int 0, .ref 42, .int 11, .int 0, .int 1, .int 0, .int 0, .int 0])), (40, (64, [.int 0, .int 0, .int 0, .int 0, .int 0, .int 0, .int 0, .int 0, .int 0, .int 0, .int 0, .int 0, .int 0, .int 0, .int 0, .int 0])), (39, (9, [.int 10, .int 0, .int 0, .int 0, .int 0, .int 1, .int 0, .ref 40, .int 0, .int 0])), (38, (64, [.int 0, .int 0, .int 0, .int 0, .int 0, .int 0, .int 0, .int 0, .int 0, .int 0, .int 0, .int 0, .int 0, .int 0, .int 0, .int 0])), (37, (8, [.int 0, .int 0, .int 0, .ref 38, .int 10, .int 0, .int 1, .int 0, .int 0, .int 0])), (36, (64, [.int 0, .int 0, .int 0, .int 0, .int 0, .int 0, .int 0, .int 0, .int 0, .int 0, .int 0, .int 0, .int 0, .int 0, .int 0, .int 0])), (35, (9, [.int 9, .int 0, .int 0, .int 0, .int 0, .int 1, .int 0, .ref 36, .int 0, .int 0])), (34, (64, [.int 0, .int 0, .int 0, .int 0, .int 0, .int 0, .int 0, .int 0, .int 0, .int 0, .int 0, .int 0, .int 0, .int 0, .int 0, .int 0])), (33, (8, [.int 0, .int 0, .int 0, .ref 34, .int 9, .int 0, .int 1, .int 0, .int 0, .int 0])), (32, (66, [.ref 30, .ref 35, .ref 39, .ref 43, .ref 47, .ref 51, .null, .null, .null, .null])), (31, (64, [.int 0, .int 0, .int 0, .int 0, .int 0, .int 0, .int 0, .int 0, .int 0, .int 0, .int 0, .int 0, .int 0, .int 0, .int 0, .int 0])), (30, (9, [.int 8, .int 0, .int 0, .int 0, .int 0, .int 1, .int 0, .ref 31, .int 0, .int 0])), (29, (66, [.ref 27, .ref 33, .ref 37, .ref 41, .ref 45, .ref 49, .null, .null, .null, .null])), (28, (64, [.int 0, .int 0, .int 0, .int 0, .int 0, .int 0, .int 0, .int 0, .int 0, .int 0, .int 0, .int 0, .int 0, .int 0, .int 0, .int 0])), (27, (8, [.int 0, .int 0, .int 0, .ref 28, .int 8, .int 0, .int 1, .int 0, .int 0, .int 0])), (26, (7, [.long 0])), (25, (65, [.int 0, .int 0, .int 0, .int 0, .int 0, .int 0, .int 0, .int 0, .int 0, .int 0, .int 0, .int 0, .int 0, .int 0, .int 0, .int 0])), (24, (4, [.ref 25, .int 0, .int 0, .int 0])), (23, (2, [.ref 1, .int 0, .int 0])), (22, (2, [.ref 32, .int 6, .int 6])), (21, (6, [.int 0, .ref 22, .ref 23, .int 0, .int 0, .int 10, .int 0, .int 0, .int 0, .ref 2, .ref 24, .int 1, .int 1, .int 0, .int (-1), .long 0])), (20, (65, [.int 0, .int 0, .int 0, .int 0, .int 0, .int 0, .int 0, .int 0, .int 0, .int 0, .int 0, .int 0, .int 0, .int 0, .int 0, .int 0])), (19, (4, [.ref 20, .int 0, .int 0, .int 0])), (18, (5, [.ref 9, .ref 11, .ref 19, .int 0, .int 0, .int 0, .int 0, .int 0, .int 0, .int 0, .int 0, .int 0, .int 0, .int 0, .int 0, .int 0, .int 0])), (17, (65, [.int 0, .int 0, .int 0, .int 0, .int 0, .int 0, .int 0, .int 0, .int 0, .int 0, .int 0, .int 0, .int 0, .int 0, .int 0, .int 0])), (16, (4, [.ref 17, .int 0, .int 0, .int 0])), (15, (5, [.ref 9, .ref 11, .ref 16, .int 0, .int 0, .int 0, .int 0, .int 0, .int 0, .int 0, .int 0, .int 0, .int 0, .int 0, .int 0, .int 0, .int 0])), (14, (65, [.int 0, .int 0, .int 0, .int 0, .int 0, .int 0, .int 0, .int 0, .int 0, .int 0, .int 0, .int 0, .int 0, .int 0, .int 0, .int 0])), (13, (4, [.ref 14, .int 0, .int 0, .int 0])), (12, (3, [.ref 13, .int 1, .int 1, .int 0, .int 0, .int 0])), (11, (2, [.ref 1, .int 0, .int 0])), (10, (2, [.ref 29, .int 6, .int 6])), (9, (1, [.ref 10, .int 0, .int 10])), (8, (0, [.ref 9, .ref 11, .ref 12, .ref 15, .ref 18, .int 0, .int 0, .int 0, .int 0])), (1, (66, []))]
abbrev ox_cal (d : Nat) : Nat → List Value → ox_H → Nat → Option ox_R := ox_exec ox_sx ox_sL d
/-- the law's locals: at its first call of the reference's handOut, at a later one, at the step of its loop, at the case of handOut; the unknown 0 is the place in the script -/
def ox_L0 : ox_L := [(5, .int 0), (4, .int 36), (6, .int 5), (3, .ref 26), (2, .ref 21), (1, .ref 8), (0, .ref 0)]
def ox_LL : ox_L := [(5, .int 0), (4, .retAddr 0), (6, .int 0), (3, .ref 26), (2, .ref 21), (1, .ref 8), (0, .ref 0)]
/-- .. without the last result -/
def ox_LK : ox_L := [(5, .int 0), (4, .retAddr 0), (3, .ref 26), (2, .ref 21), (1, .ref 8), (0, .ref 0)]
def ox_L1 : ox_L := [(6, .int 0), (5, .int 0), (4, .retAddr 0), (3, .ref 26), (2, .ref 21), (1, .ref 8), (0, .ref 0)]
def ox_L2 : ox_L := [(4, .retAddr 0), (6, .int 0), (5, .int 0), (3, .ref 26), (2, .ref 21), (1, .ref 8), (0, .ref 0)]
set_option maxRecDepth 1000000 in
/-- from the law's entry to its first call of the reference's handOut: the objects, six targets on both sides, the class's handOut -/
theorem ox_e0 : ox_isF (ox_seg ox_sx ox_sL (ox_cal 12) ox_i0 ox_N 764 3000 (0, [(0, .ref 0)], [], [(1, (66, []))], 0, 0)) (764, ox_L0, [.ref 21], ox_hB, 45, 493) = true := by decide +kernel
set_option maxRecDepth 1000000 in
theorem ox_e1 : ox_isF (ox_seg ox_sx ox_sL (ox_cal 12) ox_i0 (ox_N + 45) 1231 100 (767, ox_LK, [.int 0], ox_hB, 0, 0)) (1231, ox_L1, [], ox_hB, 0, 0) = true := by decide +kernel
set_option maxRecDepth 1000000 in
theorem ox_e2 : ox_isF (ox_seg ox_sx ox_sL (ox_cal 12) ox_i0 (ox_N + 45) 764 100 (756, ox_L2, [], ox_hB, 0, 0)) (764, ox_LL, [.ref 21], ox_hB, 0, 0) = true := by decide +kernel
/-- the reference's handOut: its locals at the head of its loop, and at the step -/
def ox_M0 : ox_L := [(2, .retAddr 0), (1, .int 0), (0, .ref 21)]
def ox_M1 : ox_L := [(1, .int 0), (6, .ref 51), (5, .ref 62), (4, .int 0), (3, .int 14), (2, .retAddr 0), (0, .ref 21)]
set_option maxRecDepth 1000000 in
theorem ox_e3 : ox_isS (ox_seg ox_sx ox_sL (ox_cal 8) ox_i44 (ox_N + 45) 26 1000 (0, [(0, .ref 21)], [], ox_hB, 0, 0)) 26 [(2, .int 0), (1, .int 0), (0, .ref 21)] [] ox_hB 2 8 = true := by decide +kernel
set_option maxRecDepth 1000000 in
/-- one turn of that loop: the number of the turn is the unknown 0 -/
theorem ox_e4 : ox_isS (ox_seg ox_sx ox_sL (ox_cal 8) ox_i44 (ox_N + 47) 143 1000 (33, ox_M0, [], ox_hB, 0, 0)) 143 ox_M1 [] ox_hB 8 32 = true := by decide +kernel
set_option maxRecDepth 1000000 in
theorem ox_e5 : ox_isR (ox_run ox_sx ox_sL (ox_cal 8) ox_i44 (ox_N + 47) 10 (149, [(1, .int 0)], [], ox_hB, 0, 0)) (some (.int 0)) ox_hB 0 0 = true := by decide +kernel
set_option maxRecDepth 1000000 in
theorem ox_e6 : ox_below (ox_N + 45) ox_hB = true := by decide +kernel
set_option maxRecDepth 1000000 in
theorem ox_e7 : (ox_hB.all fun x => Nat.blt x.1 (ox_N + 45)) = true := by decide +kernel
set_option maxRecDepth 1000000 in
theorem ox_e8 : ox_sub ox_hB ox_hB = true := by decide +kernel
