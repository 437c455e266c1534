theorem zdk_ok {m : Nat} (h : m < 266) : zdk m = true := by
  by_cases h0 : m < 34
  · exact List.all_eq_true.mp zdk_0 m (List.mem_range'_1.mpr ⟨by omega, by omega⟩)
  by_cases h1 : m < 60
  · exact List.all_eq_true.mp zdk_1 m (List.mem_range'_1.mpr ⟨by omega, by omega⟩)
  by_cases h2 : m < 74
  · exact List.all_eq_true.mp zdk_2 m (List.mem_range'_1.mpr ⟨by omega, by omega⟩)
  by_cases h3 : m < 110
  · exact List.all_eq_true.mp zdk_3 m (List.mem_range'_1.mpr ⟨by omega, by omega⟩)
  by_cases h4 : m < 129
  · exact List.all_eq_true.mp zdk_4 m (List.mem_range'_1.mpr ⟨by omega, by omega⟩)
  by_cases h5 : m < 144
  · exact List.all_eq_true.mp zdk_5 m (List.mem_range'_1.mpr ⟨by omega, by omega⟩)
  by_cases h6 : m < 145
  · exact List.all_eq_true.mp zdk_6 m (List.mem_range'_1.mpr ⟨by omega, by omega⟩)
  by_cases h7 : m < 146
  · have e : m = 145 := by omega
    rw [e]; exact zdk_7
  by_cases h8 : m < 164
  · exact List.all_eq_true.mp zdk_8 m (List.mem_range'_1.mpr ⟨by omega, by omega⟩)
  by_cases h9 : m < 179
  · exact List.all_eq_true.mp zdk_9 m (List.mem_range'_1.mpr ⟨by omega, by omega⟩)
  by_cases h10 : m < 180
  · have e : m = 179 := by omega
    rw [e]; exact zdk_10
  by_cases h11 : m < 197
  · exact List.all_eq_true.mp zdk_11 m (List.mem_range'_1.mpr ⟨by omega, by omega⟩)
  by_cases h12 : m < 198
  · have e : m = 197 := by omega
    rw [e]; exact zdk_12
  by_cases h13 : m < 205
  · exact List.all_eq_true.mp zdk_13 m (List.mem_range'_1.mpr ⟨by omega, by omega⟩)
  by_cases h14 : m < 206
  · exact List.all_eq_true.mp zdk_14 m (List.mem_range'_1.mpr ⟨by omega, by omega⟩)
  by_cases h15 : m < 207
  · have e : m = 206 := by omega
    rw [e]; exact zdk_15
  by_cases h16 : m < 208
  · exact List.all_eq_true.mp zdk_16 m (List.mem_range'_1.mpr ⟨by omega, by omega⟩)
  by_cases h17 : m < 209
  · have e : m = 208 := by omega
    rw [e]; exact zdk_17
  by_cases h18 : m < 214
  · exact List.all_eq_true.mp zdk_18 m (List.mem_range'_1.mpr ⟨by omega, by omega⟩)
  by_cases h19 : m < 228
  · exact List.all_eq_true.mp zdk_19 m (List.mem_range'_1.mpr ⟨by omega, by omega⟩)
  by_cases h20 : m < 229
  · have e : m = 228 := by omega
    rw [e]; exact zdk_20
  by_cases h21 : m < 246
  · exact List.all_eq_true.mp zdk_21 m (List.mem_range'_1.mpr ⟨by omega, by omega⟩)
  by_cases h22 : m < 247
  · have e : m = 246 := by omega
    rw [e]; exact zdk_22
  by_cases h23 : m < 261
  · exact List.all_eq_true.mp zdk_23 m (List.mem_range'_1.mpr ⟨by omega, by omega⟩)
  exact List.all_eq_true.mp zdk_24 m (List.mem_range'_1.mpr ⟨by omega, by omega⟩)
