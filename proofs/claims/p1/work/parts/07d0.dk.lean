theorem zdk_0 : (List.range' 0 34).all zdk = true := by decide +kernel
theorem zdk_1 : (List.range' 34 26).all zdk = true := by decide +kernel
theorem zdk_2 : (List.range' 60 14).all zdk = true := by decide +kernel
theorem zdk_3 : (List.range' 74 36).all zdk = true := by decide +kernel
theorem zdk_4 : (List.range' 110 19).all zdk = true := by decide +kernel
theorem zdk_5 : (List.range' 129 15).all zdk = true := by decide +kernel
theorem zdk_6 : (List.range' 144 1).all zdk = true := by decide +kernel
theorem zdq_145_0 : zdq 145 0 110 = true := by decide +kernel
theorem zdq_145_110 : zdq 145 110 110 = true := by decide +kernel
theorem zdq_145_220 : zdq 145 220 88 = true := by decide +kernel
theorem zdk_7 : zdk 145 = true := by
  have h1 : zdq 145 0 220 = true := zdq_app (n := 110) (k := 110) zdq_145_0 zdq_145_110
  have h2 : zdq 145 0 308 = true := zdq_app (n := 220) (k := 88) h1 zdq_145_220
  have hl : zbl 145 = 308 := by decide +kernel
  unfold zdk
  rw [hl, h2, Bool.true_or]
theorem zdk_8 : (List.range' 146 18).all zdk = true := by decide +kernel
theorem zdk_9 : (List.range' 164 15).all zdk = true := by decide +kernel
theorem zdq_179_0 : zdq 179 0 60 = true := by decide +kernel
