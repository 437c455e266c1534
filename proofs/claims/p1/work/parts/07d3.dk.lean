theorem zdq_228_0 : zdq 228 0 110 = true := by decide +kernel
theorem zdq_228_110 : zdq 228 110 110 = true := by decide +kernel
theorem zdq_228_220 : zdq 228 220 31 = true := by decide +kernel
theorem zdk_20 : zdk 228 = true := by
  have h1 : zdq 228 0 220 = true := zdq_app (n := 110) (k := 110) zdq_228_0 zdq_228_110
  have h2 : zdq 228 0 251 = true := zdq_app (n := 220) (k := 31) h1 zdq_228_220
  have hl : zbl 228 = 251 := by decide +kernel
  unfold zdk
  rw [hl, h2, Bool.true_or]
theorem zdk_21 : (List.range' 229 17).all zdk = true := by decide +kernel
theorem zdq_246_0 : zdq 246 0 110 = true := by decide +kernel
theorem zdq_246_110 : zdq 246 110 110 = true := by decide +kernel
theorem zdq_246_220 : zdq 246 220 19 = true := by decide +kernel
theorem zdk_22 : zdk 246 = true := by
  have h1 : zdq 246 0 220 = true := zdq_app (n := 110) (k := 110) zdq_246_0 zdq_246_110
  have h2 : zdq 246 0 239 = true := zdq_app (n := 220) (k := 19) h1 zdq_246_220
  have hl : zbl 246 = 239 := by decide +kernel
  unfold zdk
  rw [hl, h2, Bool.true_or]
theorem zdk_23 : (List.range' 247 14).all zdk = true := by decide +kernel
theorem zdk_24 : (List.range' 261 5).all zdk = true := by decide +kernel
