theorem wc_J6_265 : Cond.constant RJ6 265 1431655765 ∈ G0 := gq (List.mem_of_getElem? (i := 393) (by decide +kernel)) rfl
theorem wc_J6_266 : Cond.constant RJ6 266 858993459 ∈ G0 := gq (List.mem_of_getElem? (i := 394) (by decide +kernel)) rfl
theorem wc_J6_267 : Cond.constant RJ6 267 252645135 ∈ G0 := gq (List.mem_of_getElem? (i := 395) (by decide +kernel)) rfl
