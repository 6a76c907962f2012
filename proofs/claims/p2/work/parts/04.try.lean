/-- the script: six targets at 8 .. 13, then handOut again and again -/
def ox_sx (j : Nat) : Int32 := match j % 6 with
  | 0 => if j < 36 then 0 else 13
  | 1 => if j < 36 then Int32.ofNat (8 + j / 6) else 0
  | _ => 0
def ox_sL : Nat := 2400
def ox_set0 : Option ox_F := ox_seg ox_sx ox_sL (ox_exec ox_sx ox_sL 12) ox_i0 8 25 100 (0, [(0, .ref 0)], [], [(1, (66, []))], 0, 0)
set_option maxRecDepth 100000 in
theorem ox_try0 : (ox_set0.map fun f => (f.1, f.2.1, f.2.2.1, f.2.2.2.2)) = some (25, [], [], 0, 0) := by decide +kernel
theorem i_vc : Claimed_1_1 ∧ Claimed_1_2 := sorry
