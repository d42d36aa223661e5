/-! load, both sides -/
theorem pu_load : pu_loadOK 5000 := sorry
