theorem am_cl_300 : am_cr1 155 300 60 = true := by decide +kernel
theorem am_cl_360 : am_cr1 155 360 60 = true := by decide +kernel
theorem am_cl_420 : am_cr1 155 420 60 = true := by decide +kernel
theorem am_cl_480 : am_cr1 155 480 60 = true := by decide +kernel
theorem am_cl_540 : am_cr1 155 540 60 = true := by decide +kernel
