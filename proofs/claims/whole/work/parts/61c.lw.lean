theorem am_cl_600 : am_cr1 155 600 60 = true := by decide +kernel
theorem am_cl_660 : am_cr1 155 660 60 = true := by decide +kernel
theorem am_cl_720 : am_cr1 155 720 60 = true := by decide +kernel
theorem am_cl_780 : am_cr1 155 780 60 = true := by decide +kernel
theorem am_cl_840 : am_cr1 155 840 33 = true := by decide +kernel
