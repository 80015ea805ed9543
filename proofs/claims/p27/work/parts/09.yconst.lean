theorem wc_J6_265 : Cond.constant RJ6 265 1431655765 ∈ G0 := gq (List.mem_of_getElem? (i := 312) (by decide +kernel)) rfl
theorem wc_J6_266 : Cond.constant RJ6 266 858993459 ∈ G0 := gq (List.mem_of_getElem? (i := 313) (by decide +kernel)) rfl
theorem wc_J6_267 : Cond.constant RJ6 267 252645135 ∈ G0 := gq (List.mem_of_getElem? (i := 314) (by decide +kernel)) rfl
theorem wc_L_7 : Cond.constant RL 7 36919 ∈ G0 := gq (List.mem_of_getElem? (i := 322) (by decide +kernel)) rfl
theorem wc_L_8 : Cond.constant RL 8 2147483647 ∈ G0 := gq (List.mem_of_getElem? (i := 323) (by decide +kernel)) rfl
theorem wc_L_151 : Cond.constant RL 151 100000 ∈ G0 := gq (List.mem_of_getElem? (i := 863) (by decide +kernel)) rfl
