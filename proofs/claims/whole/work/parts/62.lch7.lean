theorem lch7 : lch (lexp 7 (List.range 7)) = true := by decide +kernel
