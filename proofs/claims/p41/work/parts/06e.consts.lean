/-! the constants of the pools -/
theorem qk_L_185 : Cond.constantLong RL 185 31 ∈ lw_all := lw_in (List.mem_of_getElem? (i := 1008) (by decide +kernel)) (by decide +kernel)
theorem qk_L_131 : Cond.constantDouble RL 131 13875388141788987392 ∈ lw_all := lw_in (List.mem_of_getElem? (i := 1033) (by decide +kernel)) (by decide +kernel)
theorem qk_Jxe99ae_137 : Cond.constantLong RJxe99ae 137 9221120237041090560 ∈ lw_all := lw_in (List.mem_of_getElem? (i := 1043) (by decide +kernel)) (by decide +kernel)
theorem qk_L_126 : Cond.constantFloat RL 126 3296346112 ∈ lw_all := lw_in (List.mem_of_getElem? (i := 1051) (by decide +kernel)) (by decide +kernel)
theorem qk_Jxf58ca_77 : Cond.constant RJxf58ca 77 2143289344 ∈ lw_all := lw_in (List.mem_of_getElem? (i := 1061) (by decide +kernel)) (by decide +kernel)
theorem qk_J2_20 : Cond.constant RJ2 20 1073741823 ∈ lw_all := lw_in (List.mem_of_getElem? (i := 1203) (by decide +kernel)) (by decide +kernel)
theorem qk_J8_200 : Cond.constant RJ8 200 2147483639 ∈ lw_all := lw_in (List.mem_of_getElem? (i := 1241) (by decide +kernel)) (by decide +kernel)
theorem qk_J5_39 : Cond.constant RJ5 39 2147483647 ∈ lw_all := lw_in (List.mem_of_getElem? (i := 1245) (by decide +kernel)) (by decide +kernel)
