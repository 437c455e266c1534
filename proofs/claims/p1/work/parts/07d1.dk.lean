theorem zdq_179_60 : zdq 179 60 60 = true := by decide +kernel
theorem zdq_179_120 : zdq 179 120 60 = true := by decide +kernel
theorem zdq_179_180 : zdq 179 180 60 = true := by decide +kernel
theorem zdq_179_240 : zdq 179 240 60 = true := by decide +kernel
theorem zdq_179_300 : zdq 179 300 60 = true := by decide +kernel
theorem zdq_179_360 : zdq 179 360 60 = true := by decide +kernel
theorem zdq_179_420 : zdq 179 420 60 = true := by decide +kernel
theorem zdq_179_480 : zdq 179 480 60 = true := by decide +kernel
theorem zdq_179_540 : zdq 179 540 43 = true := by decide +kernel
theorem zdk_10 : zdk 179 = true := by
  have h1 : zdq 179 0 120 = true := zdq_app (n := 60) (k := 60) zdq_179_0 zdq_179_60
  have h2 : zdq 179 0 180 = true := zdq_app (n := 120) (k := 60) h1 zdq_179_120
  have h3 : zdq 179 0 240 = true := zdq_app (n := 180) (k := 60) h2 zdq_179_180
  have h4 : zdq 179 0 300 = true := zdq_app (n := 240) (k := 60) h3 zdq_179_240
  have h5 : zdq 179 0 360 = true := zdq_app (n := 300) (k := 60) h4 zdq_179_300
  have h6 : zdq 179 0 420 = true := zdq_app (n := 360) (k := 60) h5 zdq_179_360
  have h7 : zdq 179 0 480 = true := zdq_app (n := 420) (k := 60) h6 zdq_179_420
  have h8 : zdq 179 0 540 = true := zdq_app (n := 480) (k := 60) h7 zdq_179_480
  have h9 : zdq 179 0 583 = true := zdq_app (n := 540) (k := 43) h8 zdq_179_540
  have hl : zbl 179 = 583 := by decide +kernel
  unfold zdk
  rw [hl, h9, Bool.true_or]
theorem zdk_11 : (List.range' 180 17).all zdk = true := by decide +kernel
theorem zdq_197_0 : zdq 197 0 110 = true := by decide +kernel
theorem zdq_197_110 : zdq 197 110 110 = true := by decide +kernel
theorem zdq_197_220 : zdq 197 220 16 = true := by decide +kernel
