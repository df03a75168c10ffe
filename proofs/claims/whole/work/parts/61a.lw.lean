theorem am_cl_0 : am_cr1 155 0 60 = true := by decide +kernel
theorem am_cl_60 : am_cr1 155 60 60 = true := by decide +kernel
theorem am_cl_120 : am_cr1 155 120 60 = true := by decide +kernel
theorem am_cl_180 : am_cr1 155 180 60 = true := by decide +kernel
theorem am_cl_240 : am_cr1 155 240 60 = true := by decide +kernel
