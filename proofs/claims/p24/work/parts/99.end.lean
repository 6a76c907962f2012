/-- the statement falls: AtStart holds at launch0 with the script of six targets and 400 times handOut, the law ends there with 1, its new cells are more than room_1 has -/
theorem refuted_1_1 : RefutedClaimed_1_1 := ox_falls
