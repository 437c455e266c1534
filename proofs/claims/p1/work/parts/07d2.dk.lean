theorem zdk_12 : zdk 197 = true := by
  have h1 : zdq 197 0 220 = true := zdq_app (n := 110) (k := 110) zdq_197_0 zdq_197_110
  have h2 : zdq 197 0 236 = true := zdq_app (n := 220) (k := 16) h1 zdq_197_220
  have hl : zbl 197 = 236 := by decide +kernel
  unfold zdk
  rw [hl, h2, Bool.true_or]
theorem zdk_13 : (List.range' 198 7).all zdk = true := by decide +kernel
theorem zdk_14 : (List.range' 205 1).all zdk = true := by decide +kernel
theorem zdq_206_0 : zdq 206 0 110 = true := by decide +kernel
theorem zdq_206_110 : zdq 206 110 110 = true := by decide +kernel
theorem zdq_206_220 : zdq 206 220 59 = true := by decide +kernel
theorem zdk_15 : zdk 206 = true := by
  have h1 : zdq 206 0 220 = true := zdq_app (n := 110) (k := 110) zdq_206_0 zdq_206_110
  have h2 : zdq 206 0 279 = true := zdq_app (n := 220) (k := 59) h1 zdq_206_220
  have hl : zbl 206 = 279 := by decide +kernel
  unfold zdk
  rw [hl, h2, Bool.true_or]
theorem zdk_16 : (List.range' 207 1).all zdk = true := by decide +kernel
theorem zdq_208_0 : zdq 208 0 110 = true := by decide +kernel
theorem zdq_208_110 : zdq 208 110 110 = true := by decide +kernel
theorem zdq_208_220 : zdq 208 220 15 = true := by decide +kernel
theorem zdk_17 : zdk 208 = true := by
  have h1 : zdq 208 0 220 = true := zdq_app (n := 110) (k := 110) zdq_208_0 zdq_208_110
  have h2 : zdq 208 0 235 = true := zdq_app (n := 220) (k := 15) h1 zdq_208_220
  have hl : zbl 208 = 235 := by decide +kernel
  unfold zdk
  rw [hl, h2, Bool.true_or]
theorem zdk_18 : (List.range' 209 5).all zdk = true := by decide +kernel
theorem zdk_19 : (List.range' 214 14).all zdk = true := by decide +kernel
