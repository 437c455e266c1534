/-! The law: its bytes. -/
def zL0 : Nat := 53
theorem zdbL_0 : zdb (zb 287) 287 0 100 = true := by decide +kernel
theorem zdbL_1 : zdb (zb 287) 287 100 100 = true := by decide +kernel
theorem zdbL_2 : zdb (zb 287) 287 200 100 = true := by decide +kernel
theorem zdbL_3 : zdb (zb 287) 287 300 100 = true := by decide +kernel
theorem zdbL_4 : zdb (zb 287) 287 400 100 = true := by decide +kernel
theorem zdbL_5 : zdb (zb 287) 287 500 100 = true := by decide +kernel
theorem zdbL_6 : zdb (zb 287) 287 600 100 = true := by decide +kernel
theorem zdbL_7 : zdb (zb 287) 287 700 100 = true := by decide +kernel
theorem zdbL_8 : zdb (zb 287) 287 800 100 = true := by decide +kernel
theorem zdbL_9 : zdb (zb 287) 287 900 100 = true := by decide +kernel
theorem zdbL_10 : zdb (zb 287) 287 1000 100 = true := by decide +kernel
theorem zdbL_11 : zdb (zb 287) 287 1100 100 = true := by decide +kernel
theorem zdbL_12 : zdb (zb 287) 287 1200 100 = true := by decide +kernel
theorem zdbL_13 : zdb (zb 287) 287 1300 100 = true := by decide +kernel
theorem zdbL_14 : zdb (zb 287) 287 1400 100 = true := by decide +kernel
theorem zdbL_15 : zdb (zb 287) 287 1500 53 = true := by decide +kernel
theorem zdk_okL : zdk 287 = true := by
  have h1 : zdb (zb 287) 287 0 200 = true := zdb_app (a := 0) (n := 100) (k := 100) zdbL_0 zdbL_1
  have h2 : zdb (zb 287) 287 0 300 = true := zdb_app (a := 0) (n := 200) (k := 100) h1 zdbL_2
  have h3 : zdb (zb 287) 287 0 400 = true := zdb_app (a := 0) (n := 300) (k := 100) h2 zdbL_3
  have h4 : zdb (zb 287) 287 0 500 = true := zdb_app (a := 0) (n := 400) (k := 100) h3 zdbL_4
  have h5 : zdb (zb 287) 287 0 600 = true := zdb_app (a := 0) (n := 500) (k := 100) h4 zdbL_5
  have h6 : zdb (zb 287) 287 0 700 = true := zdb_app (a := 0) (n := 600) (k := 100) h5 zdbL_6
  have h7 : zdb (zb 287) 287 0 800 = true := zdb_app (a := 0) (n := 700) (k := 100) h6 zdbL_7
  have h8 : zdb (zb 287) 287 0 900 = true := zdb_app (a := 0) (n := 800) (k := 100) h7 zdbL_8
  have h9 : zdb (zb 287) 287 0 1000 = true := zdb_app (a := 0) (n := 900) (k := 100) h8 zdbL_9
  have h10 : zdb (zb 287) 287 0 1100 = true := zdb_app (a := 0) (n := 1000) (k := 100) h9 zdbL_10
  have h11 : zdb (zb 287) 287 0 1200 = true := zdb_app (a := 0) (n := 1100) (k := 100) h10 zdbL_11
  have h12 : zdb (zb 287) 287 0 1300 = true := zdb_app (a := 0) (n := 1200) (k := 100) h11 zdbL_12
  have h13 : zdb (zb 287) 287 0 1400 = true := zdb_app (a := 0) (n := 1300) (k := 100) h12 zdbL_13
  have h14 : zdb (zb 287) 287 0 1500 = true := zdb_app (a := 0) (n := 1400) (k := 100) h13 zdbL_14
  have h15 : zdb (zb 287) 287 0 1553 = true := zdb_app (a := 0) (n := 1500) (k := 53) h14 zdbL_15
  have hl : zbl 287 = 1553 := by decide +kernel
  unfold zdk
  rw [hl, h15, show Nat.ble 266 287 = true from rfl]
  exact Bool.or_true _
