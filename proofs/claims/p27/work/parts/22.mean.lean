/-! MEANS: a quotient of two small whole numbers, the lower one not 0, is a number -/
def okDiv (h d : Nat) : Bool := decide (((FP.ddiv (FP.i2d (nI h)) (FP.i2d (nI d))) &&& 0x7fffffffffffffff) ≤ 0x7ff0000000000000)
theorem okDiv_1 : (List.range 1561).all (fun h => okDiv h 1) = true := by decide +kernel
theorem okDiv_2 : (List.range 1561).all (fun h => okDiv h 2) = true := by decide +kernel
theorem okDiv_3 : (List.range 1561).all (fun h => okDiv h 3) = true := by decide +kernel
theorem okDiv_4 : (List.range 1561).all (fun h => okDiv h 4) = true := by decide +kernel
theorem okDiv_5 : (List.range 1561).all (fun h => okDiv h 5) = true := by decide +kernel
theorem okDiv_6 : (List.range 1561).all (fun h => okDiv h 6) = true := by decide +kernel
theorem okDiv_7 : (List.range 1561).all (fun h => okDiv h 7) = true := by decide +kernel
theorem okDiv_8 : (List.range 1561).all (fun h => okDiv h 8) = true := by decide +kernel
theorem okDiv_9 : (List.range 1561).all (fun h => okDiv h 9) = true := by decide +kernel
theorem okDiv_10 : (List.range 1561).all (fun h => okDiv h 10) = true := by decide +kernel
theorem okDiv_11 : (List.range 1561).all (fun h => okDiv h 11) = true := by decide +kernel
theorem okDiv_12 : (List.range 1561).all (fun h => okDiv h 12) = true := by decide +kernel
theorem okDiv_13 : (List.range 1561).all (fun h => okDiv h 13) = true := by decide +kernel
theorem okDiv_14 : (List.range 1561).all (fun h => okDiv h 14) = true := by decide +kernel
theorem okDiv_15 : (List.range 1561).all (fun h => okDiv h 15) = true := by decide +kernel
theorem okDiv_16 : (List.range 1561).all (fun h => okDiv h 16) = true := by decide +kernel
theorem okDiv_17 : (List.range 1561).all (fun h => okDiv h 17) = true := by decide +kernel
theorem okDiv_18 : (List.range 1561).all (fun h => okDiv h 18) = true := by decide +kernel
theorem okDiv_19 : (List.range 1561).all (fun h => okDiv h 19) = true := by decide +kernel
theorem okDiv_20 : (List.range 1561).all (fun h => okDiv h 20) = true := by decide +kernel
theorem okDiv_21 : (List.range 1561).all (fun h => okDiv h 21) = true := by decide +kernel
theorem okDiv_22 : (List.range 1561).all (fun h => okDiv h 22) = true := by decide +kernel
theorem okDiv_23 : (List.range 1561).all (fun h => okDiv h 23) = true := by decide +kernel
theorem okDiv_24 : (List.range 1561).all (fun h => okDiv h 24) = true := by decide +kernel
theorem okDiv_25 : (List.range 1561).all (fun h => okDiv h 25) = true := by decide +kernel
theorem okDiv_26 : (List.range 1561).all (fun h => okDiv h 26) = true := by decide +kernel
