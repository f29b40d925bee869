/-- of at most six lots there are no more than 720 orders -/
theorem p_720 : ∀ n, n ≤ 6 → p_pv (p_dec (p_cs n 719)) (n - 1) = 0 := by decide +kernel
