theorem ox_mem {w : Cond} (i : Nat) (h : lw_tbl[i]? = some w) (g : goodWord w = true) : w ∈ ox_tb := List.mem_filter.mpr ⟨List.mem_of_getElem? h, g⟩
theorem ox_tbg : GoodIn ox_tb ox_tb := fun w h => ⟨h, good_of_word (List.mem_filter.mp h).2⟩
