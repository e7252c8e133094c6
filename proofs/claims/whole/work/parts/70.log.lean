/-! The log, on both sides. -/
theorem pk_un : ∀ m < 256, ∀ b < 8, ∀ x < 2, ((((nI m <<< (4 &&& 31)) ||| (nI b <<< (1 &&& 31))) ||| nI x) &&& 1 = nI x ∧ ((((nI m <<< (4 &&& 31)) ||| (nI b <<< (1 &&& 31))) ||| nI x) >>> (1 &&& 31)) &&& 7 = nI b) ∧ (((nI m <<< (4 &&& 31)) ||| (nI b <<< (1 &&& 31))) ||| nI x) >>> (4 &&& 31) = nI m := by decide +kernel
