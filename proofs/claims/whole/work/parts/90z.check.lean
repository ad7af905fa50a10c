theorem ok_M : (List.range 232).all okM = true := by decide +kernel
