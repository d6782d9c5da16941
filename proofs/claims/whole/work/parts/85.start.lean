/-! the worlds at the start keep the bond -/
theorem hI0_x : cmr171 7 0 = 0 ∧ cmr171 76 6 = 0 := by decide +kernel
