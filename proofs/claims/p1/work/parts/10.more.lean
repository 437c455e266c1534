section ZSIM2
variable {p : Program} {l : Launch} {e : Env} {R : Room} {s : State} {mid : MethodId} {args : Array Value} {below : List Frame} {meth : Method} {c : Code} {cells slots : Nat} {Q : State → Prop}
variable {m nL : Nat} {D : va_G} {cs : ClassId × ClassId × ClassId × ClassId} {E : zE}
theorem zs_goto (C : zCx p s mid args meth c m D cs E nL) {pc nx r : Nat} {off : Int} {cls : Array Slot} {st : List zV} {S : zS} (hc : zcd m pc = some (.goto off, nx, r)) (k : zK p l e R s mid args below meth c cells slots Q D cs E cls r st S) : zK p l e R s mid args below meth c cells slots Q D cs E cls pc st S := by
  intro H locs hG hok
  obtain ⟨hx, hb, hml, hown, hts, hK, hnm, hdk, hX⟩ := C
  obtain ⟨hd, rfl, hik⟩ := zdec' (n := 2) hdk hc rfl
  exact lv_goto hx hb hd (of_decide_eq_true hik) (k H locs hG hok)
theorem zs_iconst (C : zCx p s mid args meth c m D cs E nL) {pc nx r : Nat} {n : Int} {cls : Array Slot} {st : List zV} {S : zS} (hc : zcd m pc = some (.iconst n, nx, r)) (k : zK p l e R s mid args below meth c cells slots Q D cs E cls nx ((0, n) :: st) S) : zK p l e R s mid args below meth c cells slots Q D cs E cls pc st S := by
  intro H locs hG hok
  obtain ⟨hx, hb, hml, hown, hts, hK, hnm, hdk, hX⟩ := C
  obtain ⟨hd, rfl, hik⟩ := zdec' (n := 0) hdk hc rfl
  simp only [zik, Bool.and_eq_true, decide_eq_true_eq] at hik
  exact lv_iconst hx hb hd rfl (k H locs hG (zcons' (Or.inl ⟨rfl, z32_sm (x := n) (by omega) (by omega)⟩) hok))
theorem zs_bipush (C : zCx p s mid args meth c m D cs E nL) {pc nx r : Nat} {n : Int} {cls : Array Slot} {st : List zV} {S : zS} (hc : zcd m pc = some (.bipush n, nx, r)) (k : zK p l e R s mid args below meth c cells slots Q D cs E cls nx ((0, n) :: st) S) : zK p l e R s mid args below meth c cells slots Q D cs E cls pc st S := by
  intro H locs hG hok
  obtain ⟨hx, hb, hml, hown, hts, hK, hnm, hdk, hX⟩ := C
  obtain ⟨hd, rfl, hik⟩ := zdec' (n := 1) hdk hc rfl
  simp only [zik, Bool.and_eq_true, decide_eq_true_eq] at hik
  have hz := z32_sm (x := n) (by omega) (by omega)
  refine lv_bipush hx hb hd ?_ (k H locs hG (zcons' (Or.inl ⟨rfl, hz⟩) hok))
  apply Int32.toInt_inj.mp
  rw [toInt_of32 hz, Int8.toInt_toInt32, Int8.toInt_ofInt]
  simp only [Int.bmod_def, show (Int8.size : Int) = 256 from rfl]
  omega
theorem zs_sipush (C : zCx p s mid args meth c m D cs E nL) {pc nx r : Nat} {n : Int} {cls : Array Slot} {st : List zV} {S : zS} (hc : zcd m pc = some (.sipush n, nx, r)) (k : zK p l e R s mid args below meth c cells slots Q D cs E cls nx ((0, n) :: st) S) : zK p l e R s mid args below meth c cells slots Q D cs E cls pc st S := by
  intro H locs hG hok
  obtain ⟨hx, hb, hml, hown, hts, hK, hnm, hdk, hX⟩ := C
  obtain ⟨hd, rfl, hik⟩ := zdec' (n := 2) hdk hc rfl
  simp only [zik, Bool.and_eq_true, decide_eq_true_eq] at hik
  have hz := z32_sm (x := n) (by omega) (by omega)
  refine lv_sipush hx hb hd ?_ (k H locs hG (zcons' (Or.inl ⟨rfl, hz⟩) hok))
  apply Int32.toInt_inj.mp
  rw [toInt_of32 hz, Int16.toInt_toInt32, Int16.toInt_ofInt]
  simp only [Int.bmod_def, show (Int16.size : Int) = 65536 from rfl]
  omega
theorem z32c {r : Nat} : z32 (Int32.ofInt ((r : Int) - 2147483648)).toInt = (Int32.ofInt ((r : Int) - 2147483648)).toInt := z32_toInt _
theorem zLc_rg : zLc.all (fun q => Nat.blt q.2.2.1 4294967296) = true := by decide +kernel
theorem zLl_rg : zLl.all (fun q => Nat.blt q.2.2.1 18446744073709551616) = true := by decide +kernel
theorem zrg_c {a b d : Nat} (h : zin4 zLc a b d = true) : z32 ((d : Int) - 2147483648) = (d : Int) - 2147483648 := by
  obtain ⟨t, ht⟩ := zin4_mem h
  have h1 := Nat.le_of_ble_eq_true (List.all_eq_true.mp zLc_rg _ ht)
  dsimp only at h1
  exact z32_sm (by omega) (by omega)
theorem zrg_l {a b d : Nat} (h : zin4 zLl a b d = true) : z64 ((d : Int) - 9223372036854775808) = (d : Int) - 9223372036854775808 := by
  obtain ⟨t, ht⟩ := zin4_mem h
  have h1 := Nat.le_of_ble_eq_true (List.all_eq_true.mp zLl_rg _ ht)
  dsimp only at h1
  unfold z64
  omega
theorem zs_ldc (C : zCx p s mid args meth c m D cs E nL) {pc nx r j : Nat} {cls : Array Slot} {st : List zV} {S : zS} (hc : zcd m pc = some (.ldc j, nx, r)) (hr : Nat.beq r 0 = false) (k : zK p l e R s mid args below meth c cells slots Q D cs E cls nx ((0, (r : Int) - 2147483648) :: st) S) : zK p l e R s mid args below meth c cells slots Q D cs E cls pc st S := by
  intro H locs hG hok
  obtain ⟨hx, hb, hml, hown, hts, hK, hnm, hdk, hX⟩ := C
  obtain ⟨hd, rfl, hik⟩ := zdec' (n := 1) hdk hc rfl
  simp only [zik, hr, Bool.false_or] at hik
  exact lv_ldc hx hb hown (hts _ (zw_c hik)) hd (k H locs hG (zcons' (Or.inl ⟨rfl, zrg_c hik⟩) hok))
theorem zs_ldcw (C : zCx p s mid args meth c m D cs E nL) {pc nx r j : Nat} {cls : Array Slot} {st : List zV} {S : zS} (hc : zcd m pc = some (.ldc_w j, nx, r)) (hr : Nat.beq r 0 = false) (k : zK p l e R s mid args below meth c cells slots Q D cs E cls nx ((0, (r : Int) - 2147483648) :: st) S) : zK p l e R s mid args below meth c cells slots Q D cs E cls pc st S := by
  intro H locs hG hok
  obtain ⟨hx, hb, hml, hown, hts, hK, hnm, hdk, hX⟩ := C
  obtain ⟨hd, rfl, hik⟩ := zdec' (n := 2) hdk hc rfl
  simp only [zik, hr, Bool.false_or] at hik
  exact lv_ldcw hx hb hown (hts _ (zw_c hik)) hd (k H locs hG (zcons' (Or.inl ⟨rfl, zrg_c hik⟩) hok))
theorem zs_ldc2 (C : zCx p s mid args meth c m D cs E nL) {pc nx r j : Nat} {cls : Array Slot} {st : List zV} {S : zS} (hc : zcd m pc = some (.ldc2_w j, nx, r)) (k : zK p l e R s mid args below meth c cells slots Q D cs E cls nx ((1, (r : Int) - 9223372036854775808) :: st) S) : zK p l e R s mid args below meth c cells slots Q D cs E cls pc st S := by
  intro H locs hG hok
  obtain ⟨hx, hb, hml, hown, hts, hK, hnm, hdk, hX⟩ := C
  obtain ⟨hd, rfl, hik⟩ := zdec' (n := 2) hdk hc rfl
  simp only [zik] at hik
  exact lv_ldc2 hx hb hown (hts _ (zw_l hik)) hd (k H locs hG (zcons' (Or.inr (Or.inl ⟨rfl, zrg_l hik⟩)) hok))
theorem zs_lconst (C : zCx p s mid args meth c m D cs E nL) {pc nx r : Nat} {n : Fin 2} {cls : Array Slot} {st : List zV} {S : zS} (hc : zcd m pc = some (.lconst n, nx, r)) (k : zK p l e R s mid args below meth c cells slots Q D cs E cls nx ((1, (n.val : Int)) :: st) S) : zK p l e R s mid args below meth c cells slots Q D cs E cls pc st S := by
  intro H locs hG hok
  obtain ⟨hx, hb, hml, hown, hts, hK, hnm, hdk, hX⟩ := C
  obtain ⟨hd, rfl, hik⟩ := zdec' (n := 0) hdk hc rfl
  have h2 := n.isLt
  have hz : z64 (n.val : Int) = (n.val : Int) := by unfold z64; omega
  refine lv_lconst hx hb hd ?_ (k H locs hG (zcons' (Or.inr (Or.inl ⟨rfl, hz⟩)) hok))
  obtain ⟨v, hv⟩ := n
  rcases (show v = 0 ∨ v = 1 by omega) with rfl | rfl <;> rfl
theorem zs_idiv (C : zCx p s mid args meth c m D cs E nL) {pc nx r : Nat} {cls : Array Slot} {x y : Int} {rest : List zV} {S : zS} (hc : zcd m pc = some (.idiv, nx, r)) (hy : y ≠ 0) (k : zK p l e R s mid args below meth c cells slots Q D cs E cls nx ((0, zdiv x y) :: rest) S) : zK p l e R s mid args below meth c cells slots Q D cs E cls pc ((0, y) :: (0, x) :: rest) S := by
  intro H locs hG hok
  obtain ⟨hx, hb, hml, hown, hts, hK, hnm, hdk, hX⟩ := C
  obtain ⟨hd, rfl, -⟩ := zdec' (n := 0) hdk hc rfl
  obtain ⟨oy, hok⟩ := zcons hok
  obtain ⟨ox, hok⟩ := zcons hok
  have oy := zok_i oy
  have ox := zok_i ox
  simp only [List.map_cons, zvl_i]
  refine lv_idiv hx hb hd (fun q => hy ((ofi_eq oy z32_0).mp q)) ?_
  have := k H locs hG (zcons' (zok_z _) hok)
  simp only [List.map_cons, zvl_i] at this
  have e1 : Int32.ofInt (zdiv x y) = Int32.ofInt x / Int32.ofInt y := by
    apply Int32.toInt_inj.mp
    rw [Int32.toInt_div, toInt_of32 ox, toInt_of32 oy, zdiv, toInt_of32 (z32_z32 _)]
    unfold z32
    simp only [Int.bmod_def, show ((2 ^ 32 : Nat) : Int) = 4294967296 from rfl]
    omega
  rwa [e1] at this
theorem zs_irem (C : zCx p s mid args meth c m D cs E nL) {pc nx r : Nat} {cls : Array Slot} {x y : Int} {rest : List zV} {S : zS} (hc : zcd m pc = some (.irem, nx, r)) (hy : y ≠ 0) (k : zK p l e R s mid args below meth c cells slots Q D cs E cls nx ((0, zrem x y) :: rest) S) : zK p l e R s mid args below meth c cells slots Q D cs E cls pc ((0, y) :: (0, x) :: rest) S := by
  intro H locs hG hok
  obtain ⟨hx, hb, hml, hown, hts, hK, hnm, hdk, hX⟩ := C
  obtain ⟨hd, rfl, -⟩ := zdec' (n := 0) hdk hc rfl
  obtain ⟨oy, hok⟩ := zcons hok
  obtain ⟨ox, hok⟩ := zcons hok
  have oy := zok_i oy
  have ox := zok_i ox
  simp only [List.map_cons, zvl_i]
  refine lv_irem hx hb hd (fun q => hy ((ofi_eq oy z32_0).mp q)) ?_
  have e1 : Int32.ofInt (zrem x y) = Int32.ofInt x - Int32.ofInt x / Int32.ofInt y * Int32.ofInt y := by
    have e2 : Int32.ofInt (zrem x y) = Int32.ofInt x - Int32.ofInt (Int.tdiv x y) * Int32.ofInt y := by
      rw [← Int32.ofInt_mul, ← Int32.ofInt_sub]
      congr 1
      have := Int.tmod_add_tdiv_mul x y
      unfold zrem
      omega
    have e3 : Int32.ofInt (Int.tdiv x y) = Int32.ofInt x / Int32.ofInt y := by
      apply Int32.toInt_inj.mp
      rw [Int32.toInt_div, toInt_of32 ox, toInt_of32 oy, Int32.toInt_ofInt]
    rw [e2, e3]
  have hz : z32 (zrem x y) = zrem x y := by
    have h1 : -2147483648 ≤ y ∧ y < 2147483648 := by unfold z32 at oy; omega
    have h2 : -2147483648 ≤ x ∧ x < 2147483648 := by unfold z32 at ox; omega
    unfold zrem
    rcases Int.le_total 0 x with h | h
    · rw [Int.tmod_eq_emod_of_nonneg h]
      have a1 := Int.emod_nonneg x hy
      have a2 := Int.emod_lt x hy
      exact z32_sm (by omega) (by omega)
    · have e4 : Int.tmod x y = -(Int.tmod (-x) y) := by rw [Int.neg_tmod, Int.neg_neg]
      rw [e4, Int.tmod_eq_emod_of_nonneg (show 0 ≤ -x by omega)]
      have a1 := Int.emod_nonneg (-x) hy
      have a2 := Int.emod_lt (-x) hy
      exact z32_sm (by omega) (by omega)
  have := k H locs hG (zcons' (Or.inl ⟨rfl, hz⟩) hok)
  simp only [List.map_cons, zvl_i] at this
  rwa [e1] at this
theorem zs_lcmp (C : zCx p s mid args meth c m D cs E nL) {pc nx r : Nat} {cls : Array Slot} {x y : Int} {rest : List zV} {S : zS} (hc : zcd m pc = some (.lcmp, nx, r)) (k : zK p l e R s mid args below meth c cells slots Q D cs E cls nx ((0, zcmp x y) :: rest) S) : zK p l e R s mid args below meth c cells slots Q D cs E cls pc ((1, y) :: (1, x) :: rest) S := by
  intro H locs hG hok
  obtain ⟨hx, hb, hml, hown, hts, hK, hnm, hdk, hX⟩ := C
  obtain ⟨hd, rfl, -⟩ := zdec' (n := 0) hdk hc rfl
  obtain ⟨oy, hok⟩ := zcons hok
  obtain ⟨ox, hok⟩ := zcons hok
  have oy := zok_l oy
  have ox := zok_l ox
  simp only [List.map_cons, zvl_l]
  refine W.lcmp hx hb hd ?_
  have e1 : lg_cmp (Int64.ofInt x) (Int64.ofInt y) = Int32.ofInt (zcmp x y) := by
    unfold lg_cmp zcmp
    simp only [gt_iff_lt, Int64.lt_iff_toInt_lt, ← Int64.toInt_inj, toInt_of64 ox, toInt_of64 oy]
    by_cases h1 : x < y
    · rw [if_pos h1, if_neg (by omega), if_neg (by omega)]; rfl
    · by_cases h2 : x = y
      · rw [if_neg h1, if_pos h2, if_neg (by omega), if_pos h2]; rfl
      · rw [if_pos (show y < x by omega), if_neg h1, if_neg h2]; rfl
  rw [e1]
  refine k H locs hG (zcons' (Or.inl ⟨rfl, ?_⟩) hok)
  show z32 (zcmp x y) = zcmp x y
  unfold zcmp
  split
  · decide
  · split <;> decide
theorem zs_i2l (C : zCx p s mid args meth c m D cs E nL) {pc nx r : Nat} {cls : Array Slot} {x : Int} {rest : List zV} {S : zS} (hc : zcd m pc = some (.i2l, nx, r)) (k : zK p l e R s mid args below meth c cells slots Q D cs E cls nx ((1, x) :: rest) S) : zK p l e R s mid args below meth c cells slots Q D cs E cls pc ((0, x) :: rest) S := by
  intro H locs hG hok
  obtain ⟨hx, hb, hml, hown, hts, hK, hnm, hdk, hX⟩ := C
  obtain ⟨hd, rfl, -⟩ := zdec' (n := 0) hdk hc rfl
  obtain ⟨ox, hok⟩ := zcons hok
  have ox := zok_i ox
  have hz : z64 x = x := by unfold z32 at ox; unfold z64; omega
  simp only [List.map_cons, zvl_i]
  refine lv_i2l hx hb hd (v := Int64.ofInt x) ?_ (k H locs hG (zcons' (Or.inr (Or.inl ⟨rfl, hz⟩)) hok))
  apply Int64.toInt_inj.mp
  rw [toInt_of64 hz, Int32.toInt_toInt64, toInt_of32 ox]
theorem zs_l2i (C : zCx p s mid args meth c m D cs E nL) {pc nx r : Nat} {cls : Array Slot} {x : Int} {rest : List zV} {S : zS} (hc : zcd m pc = some (.l2i, nx, r)) (k : zK p l e R s mid args below meth c cells slots Q D cs E cls nx ((0, z32 x) :: rest) S) : zK p l e R s mid args below meth c cells slots Q D cs E cls pc ((1, x) :: rest) S := by
  intro H locs hG hok
  obtain ⟨hx, hb, hml, hown, hts, hK, hnm, hdk, hX⟩ := C
  obtain ⟨hd, rfl, -⟩ := zdec' (n := 0) hdk hc rfl
  obtain ⟨ox, hok⟩ := zcons hok
  have ox := zok_l ox
  simp only [List.map_cons, zvl_l]
  refine lv_l2i hx hb hd (v := Int32.ofInt (z32 x)) ?_ (k H locs hG (zcons' (zok_z _) hok))
  apply Int32.toInt_inj.mp
  rw [toInt_of32 (z32_z32 x), Int64.toInt_toInt32, toInt_of64 ox]
  unfold z32
  simp only [Int.bmod_def, show ((2 ^ 32 : Nat) : Int) = 4294967296 from rfl]
  omega
theorem zs_i2b (C : zCx p s mid args meth c m D cs E nL) {pc nx r : Nat} {cls : Array Slot} {x : Int} {rest : List zV} {S : zS} (hc : zcd m pc = some (.i2b, nx, r)) (k : zK p l e R s mid args below meth c cells slots Q D cs E cls nx ((0, zi2b x) :: rest) S) : zK p l e R s mid args below meth c cells slots Q D cs E cls pc ((0, x) :: rest) S := by
  intro H locs hG hok
  obtain ⟨hx, hb, hml, hown, hts, hK, hnm, hdk, hX⟩ := C
  obtain ⟨hd, rfl, -⟩ := zdec' (n := 0) hdk hc rfl
  obtain ⟨ox, hok⟩ := zcons hok
  have ox := zok_i ox
  have hz : z32 (zi2b x) = zi2b x := by unfold zi2b z32; omega
  simp only [List.map_cons, zvl_i]
  refine lv_i2b hx hb hd (v := Int32.ofInt (zi2b x)) ?_ (k H locs hG (zcons' (Or.inl ⟨rfl, hz⟩) hok))
  apply Int32.toInt_inj.mp
  rw [toInt_of32 hz, Int8.toInt_toInt32, Int32.toInt_toInt8, toInt_of32 ox]
  unfold zi2b
  simp only [Int.bmod_def, show ((2 ^ 8 : Nat) : Int) = 256 from rfl]
  omega
theorem zs_dup (C : zCx p s mid args meth c m D cs E nL) {pc nx r : Nat} {cls : Array Slot} {a : zV} {rest : List zV} {S : zS} (hc : zcd m pc = some (.dup, nx, r)) (ha : zcat a = 1) (k : zK p l e R s mid args below meth c cells slots Q D cs E cls nx (a :: a :: rest) S) : zK p l e R s mid args below meth c cells slots Q D cs E cls pc (a :: rest) S := by
  intro H locs hG hok
  obtain ⟨hx, hb, hml, hown, hts, hK, hnm, hdk, hX⟩ := C
  obtain ⟨hd, rfl, -⟩ := zdec' (n := 0) hdk hc rfl
  exact lv_dup hx hb hd (by rw [zvl_cat]; exact ha) (k H locs hG (zcons' (zcons hok).1 hok))
theorem zs_pop (C : zCx p s mid args meth c m D cs E nL) {pc nx r : Nat} {cls : Array Slot} {a : zV} {rest : List zV} {S : zS} (hc : zcd m pc = some (.pop, nx, r)) (ha : zcat a = 1) (k : zK p l e R s mid args below meth c cells slots Q D cs E cls nx rest S) : zK p l e R s mid args below meth c cells slots Q D cs E cls pc (a :: rest) S := by
  intro H locs hG hok
  obtain ⟨hx, hb, hml, hown, hts, hK, hnm, hdk, hX⟩ := C
  obtain ⟨hd, rfl, -⟩ := zdec' (n := 0) hdk hc rfl
  exact lv_pop hx hb hd (by rw [zvl_cat]; exact ha) (k H locs hG (zcons hok).2)
theorem zs_dup2 (C : zCx p s mid args meth c m D cs E nL) {pc nx r : Nat} {cls : Array Slot} {a b : zV} {rest : List zV} {S : zS} (hc : zcd m pc = some (.dup2, nx, r)) (ha : zcat a = 1) (hb' : zcat b = 1) (k : zK p l e R s mid args below meth c cells slots Q D cs E cls nx (a :: b :: a :: b :: rest) S) : zK p l e R s mid args below meth c cells slots Q D cs E cls pc (a :: b :: rest) S := by
  intro H locs hG hok
  obtain ⟨hx, hb, hml, hown, hts, hK, hnm, hdk, hX⟩ := C
  obtain ⟨hd, rfl, -⟩ := zdec' (n := 0) hdk hc rfl
  exact lv_dup2_11 hx hb hd (by rw [zvl_cat]; exact ha) (by rw [zvl_cat]; exact hb') (k H locs hG (zcons' (zcons hok).1 (zcons' (zcons (zcons hok).2).1 hok)))
theorem zs_dup_x1 (C : zCx p s mid args meth c m D cs E nL) {pc nx r : Nat} {cls : Array Slot} {a b : zV} {rest : List zV} {S : zS} (hc : zcd m pc = some (.dup_x1, nx, r)) (ha : zcat a = 1) (hb' : zcat b = 1) (k : zK p l e R s mid args below meth c cells slots Q D cs E cls nx (a :: b :: a :: rest) S) : zK p l e R s mid args below meth c cells slots Q D cs E cls pc (a :: b :: rest) S := by
  intro H locs hG hok
  obtain ⟨hx, hb, hml, hown, hts, hK, hnm, hdk, hX⟩ := C
  obtain ⟨hd, rfl, -⟩ := zdec' (n := 0) hdk hc rfl
  exact lv_dup_x1 hx hb hd (by rw [zvl_cat]; exact ha) (by rw [zvl_cat]; exact hb') (k H locs hG (zcons' (zcons hok).1 (zcons' (zcons (zcons hok).2).1 (zcons' (zcons hok).1 (zcons (zcons hok).2).2))))
theorem zs_dup_x2 (C : zCx p s mid args meth c m D cs E nL) {pc nx r : Nat} {cls : Array Slot} {a b d : zV} {rest : List zV} {S : zS} (hc : zcd m pc = some (.dup_x2, nx, r)) (ha : zcat a = 1) (hb' : zcat b = 1) (hd' : zcat d = 1) (k : zK p l e R s mid args below meth c cells slots Q D cs E cls nx (a :: b :: d :: a :: rest) S) : zK p l e R s mid args below meth c cells slots Q D cs E cls pc (a :: b :: d :: rest) S := by
  intro H locs hG hok
  obtain ⟨hx, hb, hml, hown, hts, hK, hnm, hdk, hX⟩ := C
  obtain ⟨hd, rfl, -⟩ := zdec' (n := 0) hdk hc rfl
  exact lv_dup_x2 hx hb hd (by rw [zvl_cat]; exact ha) (by rw [zvl_cat]; exact hb') (by rw [zvl_cat]; exact hd') (k H locs hG (zcons' (zcons hok).1 (zcons' (zcons (zcons hok).2).1 (zcons' (zcons (zcons (zcons hok).2).2).1 (zcons' (zcons hok).1 (zcons (zcons (zcons hok).2).2).2)))))
theorem zsw_pick {x lo : Int} {pc : Nat} : ∀ (offs : List Int) (w : List (Int × Nat)) (a : Nat), offs.length = w.length → (∀ j, j < offs.length → ∃ o q, offs[j]? = some o ∧ w[j]? = some q ∧ q.1 = lo + ((a + j : Nat) : Int) ∧ (pc : Int) + o = (q.2 : Int)) → ∀ {P : Nat → Prop} {d : Nat} {K : Prop},
    (zall P d (zswc x w)) → (∀ j o t, offs[j]? = some o → (pc : Int) + o = (t : Nat) → x = lo + ((a + j : Nat) : Int) → P t → K) → (x < lo + a ∨ lo + ((a + offs.length : Nat) : Int) ≤ x → P d → K) → K := by
  intro offs
  induction offs with
  | nil =>
    intro w a hl _ P d K hz _ hd
    cases w with
    | nil => exact hd (by simp only [List.length_nil, Nat.add_zero]; omega) hz
    | cons q w => cases hl
  | cons o offs ih =>
    intro w a hl hq P d K hz hin hd
    cases w with
    | nil => cases hl
    | cons q w =>
      obtain ⟨o', q', e1, e2, e3, e4⟩ := hq 0 (Nat.succ_pos _)
      cases e1; cases e2
      by_cases hx : x = q.1
      · exact hin 0 o q.2 rfl e4 (hx.trans e3) (hz.1 hx)
      · refine ih w (a + 1) (Nat.succ.inj hl) (fun j hj => ?_) (hz.2 hx) (fun j o t h1 h2 h3 h4 => ?_) (fun h1 h2 => ?_)
        · obtain ⟨o2, q2, f1, f2, f3, f4⟩ := hq (j + 1) (Nat.succ_lt_succ hj)
          exact ⟨o2, q2, f1, f2, by rw [f3]; congr 2; omega, f4⟩
        · exact hin (j + 1) o t h1 h2 (by rw [h3]; congr 2; omega) h4
        · refine hd ?_ h2
          simp only [List.length_cons] at h1 ⊢
          rw [e3] at hx
          omega
theorem zs_switch (C : zCx p s mid args meth c m D cs E nL) {pc nx r : Nat} {df lo hi : Int} {offs : Array Int} {cls : Array Slot} {x : Int} {rest : List zV} {S : zS} (hc : zcd m pc = some (.tableswitch df lo hi offs, nx, r))
    (k : zall (fun t => zK p l e R s mid args below meth c cells slots Q D cs E cls t rest S) (zsw r).2 (zswc x (zsw r).1)) : zK p l e R s mid args below meth c cells slots Q D cs E cls pc ((0, x) :: rest) S := by
  obtain ⟨hx, hb, hml, hown, hts, hK, hnm, hdk, hX⟩ := C
  obtain ⟨hd, hlt, -, hik⟩ := zdec hdk hc
  simp only [zik, zsok, Bool.and_eq_true, decide_eq_true_eq] at hik
  obtain ⟨hhi, ⟨hdf, hlen⟩, hall⟩ := hik
  have hlen := Nat.eq_of_beq_eq_true hlen
  refine zsw_pick (x := x) (lo := lo) (pc := pc) offs.toList (zsw r).1 0 hlen (fun j hj => ?_) k (fun j o t h1 h2 h3 h4 => ?_) (fun h1 h2 => ?_)
  · have h1 := List.all_eq_true.mp hall j (List.mem_range.mpr hj)
    cases ho : offs.toList[j]? with
    | none => rw [ho] at h1; cases h1
    | some o =>
      cases hq : (zsw r).1[j]? with
      | none => rw [ho, hq] at h1; cases h1
      | some q =>
        rw [ho, hq] at h1
        simp only [Bool.and_eq_true, decide_eq_true_eq] at h1
        exact ⟨o, q, rfl, rfl, by rw [h1.1, Nat.zero_add], h1.2⟩
  · intro H locs hG hok
    obtain ⟨ox, hok⟩ := zcons hok
    have ox := zok_i ox
    simp only [List.map_cons, zvl_i]
    have hj : j < offs.toList.length := (List.getElem?_eq_some_iff.mp h1).1
    rw [Array.length_toList] at hj
    refine lv_tableIn (off := o) (tgt := t) hx hb hd (by rw [toInt_of32 ox]; omega) (by rw [toInt_of32 ox]; omega) ?_ h2 (h4 H locs hG hok)
    rw [toInt_of32 ox, ← Array.getElem?_toList, ← h1]
    congr 1
    omega
  · intro H locs hG hok
    obtain ⟨ox, hok⟩ := zcons hok
    have ox := zok_i ox
    simp only [List.map_cons, zvl_i]
    rw [Array.length_toList] at h1
    exact lv_tableOut hx hb hd (by rw [toInt_of32 ox]; omega) hdf (h2 H locs hG hok)
end ZSIM2
