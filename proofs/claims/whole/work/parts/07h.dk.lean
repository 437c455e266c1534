theorem zdk_ok {m : Nat} (h : m < 266) : zdk m = true := by
  by_cases h0 : m < 67
  · exact List.all_eq_true.mp zdk_0 m (List.mem_range'_1.mpr ⟨by omega, by omega⟩)
  by_cases h1 : m < 125
  · exact List.all_eq_true.mp zdk_1 m (List.mem_range'_1.mpr ⟨by omega, by omega⟩)
  by_cases h2 : m < 158
  · exact List.all_eq_true.mp zdk_2 m (List.mem_range'_1.mpr ⟨by omega, by omega⟩)
  by_cases h3 : m < 192
  · exact List.all_eq_true.mp zdk_3 m (List.mem_range'_1.mpr ⟨by omega, by omega⟩)
  by_cases h4 : m < 209
  · exact List.all_eq_true.mp zdk_4 m (List.mem_range'_1.mpr ⟨by omega, by omega⟩)
  by_cases h5 : m < 231
  · exact List.all_eq_true.mp zdk_5 m (List.mem_range'_1.mpr ⟨by omega, by omega⟩)
  exact List.all_eq_true.mp zdk_6 m (List.mem_range'_1.mpr ⟨by omega, by omega⟩)
