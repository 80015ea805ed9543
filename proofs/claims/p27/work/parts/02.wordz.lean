set_option maxRecDepth 100000 in
set_option maxHeartbeats 4000000 in
theorem cd_yL_hangs : Cond.code yL_hangs cL_hangs 15 (some (FieldType.boolean)) ∈ G0 := gq (List.mem_of_getElem? (i := 728) rfl) rfl
