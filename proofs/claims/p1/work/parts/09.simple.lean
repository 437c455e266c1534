/-- what lies outside: the static array and the script -/
def zX (s : State) (E : zE) : Prop := va_Z "DiskPool$Bytes" "FALLEN" "[I" (.ref E.2.1) (fun q => E.1 ≤ q) s s.heap ∧ va_T .int E.2.1 16 (fun j => .int (Int32.ofInt (zfa j))) (fun q => E.1 ≤ q) s s.heap ∧ E.2.1 < s.heap.size ∧ E.2.1 < E.1 ∧ va_X E.2.2.1 E.2.2.2.1 E.2.2.2.2 s s.heap ∧ E.2.2.1 < s.heap.size ∧ E.2.2.1 < E.1 ∧ E.2.2.2.1 ≤ 1000000
/-- what holds of the invocation that is walked -/
def zCx (p : Program) (s : State) (mid : MethodId) (args : Array Value) (meth : Method) (c : Code) (m : Nat) (D : va_G) (cs : ClassId × ClassId × ClassId × ClassId) (E : zE) (nL : Nat) : Prop :=
  p.tables.exec = Jvm.exec ∧ c.code = zb m ∧ c.maxLocals = nL ∧ s.vm.findClass (zcl (zcm m)) = some mid.cls ∧ (∀ w ∈ zcs, w.before args s = true) ∧ va_K D zcls (ztys cs) s ∧ meth.name = (zy m).name ∧ zdk m = true ∧ zX s E
/-- the heap holds the state -/
def zG (D : va_G) (cs : ClassId × ClassId × ClassId × ClassId) (E : zE) (H0 : Heap) (S : zS) (H : Heap) (locs : List Loc) : Prop :=
  va_P D zcls (zW E cs S) H ∧ va_D (fun q => E.1 ≤ q) (zW E cs S) ∧ va_S (fun q => E.1 ≤ q) H0 H locs ∧ zokS E S
theorem zdec {m pc nx r : Nat} {i : Instr} (hk : zdk m = true) (h : zcd m pc = some (i, nx, r)) : decode (zb m) pc = .ok (i, nx - pc) ∧ pc < nx ∧ (zil i = 0 ∨ nx = pc + zil i) ∧ zik m pc i r = true := by
  have hlt : pc < zbl m := by
    unfold zcd at h
    cases hb : (Nat.blt m 288 && Nat.blt pc (zbl m)) with
    | false => rw [hb] at h; cases h
    | true =>
      rw [Bool.and_eq_true] at hb
      exact Nat.le_of_ble_eq_true hb.2
  have hk2 := zdb_of hk
  unfold zdb at hk2
  have h1 := List.all_eq_true.mp hk2 pc (List.mem_range'_1.mpr ⟨Nat.zero_le _, by omega⟩)
  rw [h] at h1
  dsimp only at h1
  simp only [Bool.and_eq_true, decide_eq_true_eq, Bool.or_eq_true] at h1
  obtain ⟨⟨⟨h1, h2⟩, h3⟩, h4⟩ := h1
  exact ⟨h1, Nat.le_of_ble_eq_true h2, h3.imp Nat.eq_of_beq_eq_true Nat.eq_of_beq_eq_true, h4⟩
/-- the same, of an instruction of known length -/
theorem zdec' {m pc nx r n : Nat} {i : Instr} (hk : zdk m = true) (h : zcd m pc = some (i, nx, r)) (hn : zil i = n + 1) : decode (zb m) pc = .ok (i, n + 1) ∧ nx = pc + (n + 1) ∧ zik m pc i r = true := by
  obtain ⟨h1, h2, h3, h4⟩ := zdec hk h
  have h5 : nx = pc + (n + 1) := by rcases h3 with q | q; (· omega); rw [← hn]; exact q
  refine ⟨?_, h5, h4⟩
  rw [h1, h5, Nat.add_sub_cancel_left]
theorem ofi_eq {x y : Int} (hx : z32 x = x) (hy : z32 y = y) : Int32.ofInt x = Int32.ofInt y ↔ x = y := ⟨fun h => by rw [← toInt_of32 hx, ← toInt_of32 hy, h], fun h => by rw [h]⟩
theorem ofi_lt {x y : Int} (hx : z32 x = x) (hy : z32 y = y) : Int32.ofInt x < Int32.ofInt y ↔ x < y := by rw [Int32.lt_iff_toInt_lt, toInt_of32 hx, toInt_of32 hy]
theorem ofi_le {x y : Int} (hx : z32 x = x) (hy : z32 y = y) : Int32.ofInt x ≤ Int32.ofInt y ↔ x ≤ y := by rw [Int32.le_iff_toInt_le, toInt_of32 hx, toInt_of32 hy]
theorem z32_0 : z32 0 = 0 := by decide
theorem z32_sm {x : Int} (h1 : -2147483648 ≤ x) (h2 : x < 2147483648) : z32 x = x := by unfold z32; omega
theorem zin4_mem {q : List (Nat × Nat × Nat × Nat)} {a b d : Nat} (h : zin4 q a b d = true) : ∃ t, (a, b, d, t) ∈ q := by
  unfold zin4 at h
  obtain ⟨⟨a', b', d', t⟩, h1, h2⟩ := List.any_eq_true.mp h
  simp only [Bool.and_eq_true] at h2
  obtain ⟨⟨h2, h3⟩, h4⟩ := h2
  have e1 := Nat.eq_of_beq_eq_true h2
  have e2 := Nat.eq_of_beq_eq_true h3
  have e3 := Nat.eq_of_beq_eq_true h4
  subst e1; subst e2; subst e3
  exact ⟨t, h1⟩
theorem zin_cs {i : Nat} {w : Cond} (h : lw_tbl[i]? = some w) (hg : goodWord w = true) : w ∈ zcs := List.mem_filter.mpr ⟨List.mem_of_getElem? h, hg⟩
theorem zw_f {a b d : Nat} (h : zin4 zLf a b d = true) : Cond.fieldLink (zcl a) b (zfn d).1 (zfn d).2.1 (zfn d).2.2.1 ∈ zcs := by
  obtain ⟨t, ht⟩ := zin4_mem h
  have h1 := List.all_eq_true.mp zLf_ok _ ht
  simp only [decide_eq_true_eq] at h1
  exact zin_cs h1 rfl
theorem zw_m {a b d : Nat} (h : zin4 zLm a b d = true) : Cond.methodLink (zcl a) b (zyn d) ∈ zcs := by
  obtain ⟨t, ht⟩ := zin4_mem h
  have h1 := List.all_eq_true.mp zLm_ok _ ht
  simp only [decide_eq_true_eq] at h1
  exact zin_cs h1 rfl
theorem zw_c {a b d : Nat} (h : zin4 zLc a b d = true) : Cond.constant (zcl a) b (Int32.ofInt ((d : Int) - 2147483648)) ∈ zcs := by
  obtain ⟨t, ht⟩ := zin4_mem h
  have h1 := List.all_eq_true.mp zLc_ok _ ht
  simp only [decide_eq_true_eq] at h1
  exact zin_cs h1 rfl
theorem zw_l {a b d : Nat} (h : zin4 zLl a b d = true) : Cond.constantLong (zcl a) b (Int64.ofInt ((d : Int) - 9223372036854775808)) ∈ zcs := by
  obtain ⟨t, ht⟩ := zin4_mem h
  have h1 := List.all_eq_true.mp zLl_ok _ ht
  simp only [decide_eq_true_eq] at h1
  exact zin_cs h1 rfl
theorem zw_n {a b d : Nat} (h : zin4 zLn a b d = true) : Cond.classLink (zcl a) b (zcl (d - 20)) ∈ zcs := by
  obtain ⟨t, ht⟩ := zin4_mem h
  have h1 := List.all_eq_true.mp zLn_ok _ ht
  simp only [decide_eq_true_eq] at h1
  exact zin_cs h1 rfl
section ZSIM
variable {p : Program} {l : Launch} {e : Env} {R : Room} {s : State} {mid : MethodId} {args : Array Value} {below : List Frame} {meth : Method} {c : Code} {cells slots : Nat} {Q : State → Prop}
variable {m nL : Nat} {D : va_G} {cs : ClassId × ClassId × ClassId × ClassId} {E : zE}
/-- the walk goes on from there -/
def zK (p : Program) (l : Launch) (e : Env) (R : Room) (s : State) (mid : MethodId) (args : Array Value) (below : List Frame) (meth : Method) (c : Code) (cells slots : Nat) (Q : State → Prop) (D : va_G) (cs : ClassId × ClassId × ClassId × ClassId) (E : zE) (cls : Array Slot) (pc : Nat) (st : List zV) (S : zS) : Prop :=
  ∀ (H : Heap) (locs : List Loc), zG D cs E s.heap S H locs → (∀ v ∈ st, zokv S.1 v) → W p l e R s mid args below meth c H locs cells slots Q (F0 mid pc cls (st.map (zvl E)))
theorem zvl_i (x : Int) : zvl E (0, x) = .int (Int32.ofInt x) := rfl
theorem zvl_l (x : Int) : zvl E (1, x) = .long (Int64.ofInt x) := rfl
theorem zok_i {t : Nat} {x : Int} (h : zokv t (0, x)) : z32 x = x := by simpa [zokv] using h
theorem zok_l {t : Nat} {x : Int} (h : zokv t (1, x)) : z64 x = x := by simpa [zokv] using h
theorem zok_z {t : Nat} (x : Int) : zokv t (0, z32 x) := Or.inl ⟨rfl, z32_z32 x⟩
theorem zok_zl {t : Nat} (x : Int) : zokv t (1, z64 x) := Or.inr (Or.inl ⟨rfl, z64_z64 x⟩)
theorem zok_t {t : Nat} (x : Int32) : zokv t (0, x.toInt) := Or.inl ⟨rfl, z32_toInt x⟩
theorem zok_tl {t : Nat} (x : Int64) : zokv t (1, x.toInt) := Or.inr (Or.inl ⟨rfl, z64_toInt x⟩)
theorem zcons {t : Nat} {v : zV} {st : List zV} (h : ∀ w ∈ v :: st, zokv t w) : zokv t v ∧ ∀ w ∈ st, zokv t w := ⟨h v List.mem_cons_self, fun w hw => h w (List.mem_cons_of_mem _ hw)⟩
theorem zcons' {t : Nat} {v : zV} {st : List zV} (h1 : zokv t v) (h2 : ∀ w ∈ st, zokv t w) : ∀ w ∈ v :: st, zokv t w := fun w hw => (List.mem_cons.mp hw).elim (fun e => e ▸ h1) (h2 w)
theorem zvl_cat (v : zV) : (zvl E v).category = zcat v := by
  unfold zvl zcat
  cases h0 : Nat.beq v.1 0 with
  | true =>
    have : v.1 = 0 := Nat.eq_of_beq_eq_true h0
    rw [this]; rfl
  | false =>
    cases h1 : Nat.beq v.1 1 with
    | true => rfl
    | false =>
      cases h2 : Nat.beq v.1 14 with
      | true => rfl
      | false => rfl
theorem zvl_ref {v : zV} (h : 10 ≤ v.1) : ∃ a, zvl E v = .ref a := by
  unfold zvl
  have h0 : Nat.beq v.1 0 = false := Bool.eq_false_iff.mpr (fun q => by have := Nat.eq_of_beq_eq_true q; omega)
  have h1 : Nat.beq v.1 1 = false := Bool.eq_false_iff.mpr (fun q => by have := Nat.eq_of_beq_eq_true q; omega)
  rw [h0, h1]
  cases Nat.beq v.1 14 with
  | true => exact ⟨_, rfl⟩
  | false => exact ⟨_, rfl⟩
theorem zs_bin (C : zCx p s mid args meth c m D cs E nL) {pc nx r : Nat} {i : Instr} {f : Int → Int → Int} {cls : Array Slot} {x y : Int} {rest : List zV} {S : zS} (hc : zcd m pc = some (i, nx, r)) (hf : zbin i = some f)
    (k : zK p l e R s mid args below meth c cells slots Q D cs E cls nx ((0, f x y) :: rest) S) : zK p l e R s mid args below meth c cells slots Q D cs E cls pc ((0, y) :: (0, x) :: rest) S := by
  intro H locs hG hok
  obtain ⟨hx, hb, hml, hown, hts, hK, hnm, hdk, hX⟩ := C
  obtain ⟨oy, hok⟩ := zcons hok
  obtain ⟨ox, hok⟩ := zcons hok
  have oy := zok_i oy
  have ox := zok_i ox
  simp only [List.map_cons, zvl_i]
  cases i <;> simp only [zbin] at hf <;> first | (cases hf; done) | skip
  all_goals
    cases hf
    obtain ⟨hd, rfl, -⟩ := zdec' (n := 0) hdk hc rfl
  · refine lv_iadd hx hb hd ?_
    have := k H locs hG (zcons' (zok_z _) hok)
    simp only [List.map_cons, zvl_i, z32_of] at this
    rwa [Int32.ofInt_add] at this
  · refine lv_iand hx hb hd ?_
    have := k H locs hG (zcons' (zok_t _) hok)
    simp only [List.map_cons, zvl_i, zand, Int32.ofInt_toInt] at this
    exact this
  · refine lv_imul hx hb hd ?_
    have := k H locs hG (zcons' (zok_z _) hok)
    simp only [List.map_cons, zvl_i, z32_of] at this
    rwa [Int32.ofInt_mul] at this
  · refine lv_ior hx hb hd ?_
    have := k H locs hG (zcons' (zok_t _) hok)
    simp only [List.map_cons, zvl_i, zor, Int32.ofInt_toInt] at this
    exact this
  · refine lv_ishl hx hb hd ?_
    have := k H locs hG (zcons' (zok_t _) hok)
    simp only [List.map_cons, zvl_i, zshl, Int32.ofInt_toInt] at this
    exact this
  · refine lv_ishr hx hb hd ?_
    have := k H locs hG (zcons' (zok_t _) hok)
    simp only [List.map_cons, zvl_i, zshr, Int32.ofInt_toInt] at this
    exact this
  · refine lv_isub hx hb hd ?_
    have := k H locs hG (zcons' (zok_z _) hok)
    simp only [List.map_cons, zvl_i, z32_of] at this
    rwa [Int32.ofInt_sub] at this
  · refine lv_iushr hx hb hd rfl ?_
    have := k H locs hG (zcons' (zok_t _) hok)
    simp only [List.map_cons, zvl_i, zushr, Int32.ofInt_toInt] at this
    exact this
  · refine lv_ixor hx hb hd ?_
    have := k H locs hG (zcons' (zok_t _) hok)
    simp only [List.map_cons, zvl_i, zxor, Int32.ofInt_toInt] at this
    exact this
theorem zs_lb (C : zCx p s mid args meth c m D cs E nL) {pc nx r : Nat} {i : Instr} {f : Int → Int → Int} {cls : Array Slot} {x y : Int} {rest : List zV} {S : zS} (hc : zcd m pc = some (i, nx, r)) (hf : zlb i = some f)
    (k : zK p l e R s mid args below meth c cells slots Q D cs E cls nx ((1, f x y) :: rest) S) : zK p l e R s mid args below meth c cells slots Q D cs E cls pc ((1, y) :: (1, x) :: rest) S := by
  intro H locs hG hok
  obtain ⟨hx, hb, hml, hown, hts, hK, hnm, hdk, hX⟩ := C
  obtain ⟨oy, hok⟩ := zcons hok
  obtain ⟨ox, hok⟩ := zcons hok
  simp only [List.map_cons, zvl_l]
  cases i <;> simp only [zlb] at hf <;> first | (cases hf; done) | skip
  all_goals
    cases hf
    obtain ⟨hd, rfl, -⟩ := zdec' (n := 0) hdk hc rfl
  · refine lv_ladd hx hb hd ?_
    have := k H locs hG (zcons' (zok_zl _) hok)
    simp only [List.map_cons, zvl_l, z64_of] at this
    rwa [Int64.ofInt_add] at this
  · refine lv_land hx hb hd ?_
    have := k H locs hG (zcons' (zok_tl _) hok)
    simp only [List.map_cons, zvl_l, zland, Int64.ofInt_toInt] at this
    exact this
  · refine lv_lor hx hb hd ?_
    have := k H locs hG (zcons' (zok_tl _) hok)
    simp only [List.map_cons, zvl_l, zlor, Int64.ofInt_toInt] at this
    exact this
  · refine lv_lsub hx hb hd ?_
    have := k H locs hG (zcons' (zok_zl _) hok)
    simp only [List.map_cons, zvl_l, z64_of] at this
    rwa [Int64.ofInt_sub] at this
  · refine lv_lxor hx hb hd ?_
    have := k H locs hG (zcons' (zok_tl _) hok)
    simp only [List.map_cons, zvl_l, zlxor, Int64.ofInt_toInt] at this
    exact this
theorem zs_lsh (C : zCx p s mid args meth c m D cs E nL) {pc nx r : Nat} {i : Instr} {f : Int → Int → Int} {cls : Array Slot} {x y : Int} {rest : List zV} {S : zS} (hc : zcd m pc = some (i, nx, r)) (hf : zlsh i = some f)
    (k : zK p l e R s mid args below meth c cells slots Q D cs E cls nx ((1, f x y) :: rest) S) : zK p l e R s mid args below meth c cells slots Q D cs E cls pc ((0, y) :: (1, x) :: rest) S := by
  intro H locs hG hok
  obtain ⟨hx, hb, hml, hown, hts, hK, hnm, hdk, hX⟩ := C
  obtain ⟨oy, hok⟩ := zcons hok
  obtain ⟨ox, hok⟩ := zcons hok
  simp only [List.map_cons, zvl_l, zvl_i]
  cases i <;> simp only [zlsh] at hf <;> first | (cases hf; done) | skip
  all_goals
    cases hf
    obtain ⟨hd, rfl, -⟩ := zdec' (n := 0) hdk hc rfl
  · refine lv_lshl hx hb hd rfl ?_
    have := k H locs hG (zcons' (zok_tl _) hok)
    simp only [List.map_cons, zvl_l, zlshl, Int64.ofInt_toInt] at this
    exact this
  · refine lv_lshr hx hb hd rfl ?_
    have := k H locs hG (zcons' (zok_tl _) hok)
    simp only [List.map_cons, zvl_l, zlshr, Int64.ofInt_toInt] at this
    exact this
  · refine lv_lushr hx hb hd rfl ?_
    have := k H locs hG (zcons' (zok_tl _) hok)
    simp only [List.map_cons, zvl_l, zlushr, Int64.ofInt_toInt] at this
    exact this
theorem zs_if (C : zCx p s mid args meth c m D cs E nL) {pc nx r : Nat} {cd : ClassFile.Cond} {off : Int} {cls : Array Slot} {x : Int} {rest : List zV} {S : zS} (hc : zcd m pc = some (.ifCond cd off, nx, r))
    (kt : zcn cd x 0 → zK p l e R s mid args below meth c cells slots Q D cs E cls r rest S) (kf : ¬ zcn cd x 0 → zK p l e R s mid args below meth c cells slots Q D cs E cls nx rest S) : zK p l e R s mid args below meth c cells slots Q D cs E cls pc ((0, x) :: rest) S := by
  intro H locs hG hok
  obtain ⟨hx, hb, hml, hown, hts, hK, hnm, hdk, hX⟩ := C
  obtain ⟨ox, hok⟩ := zcons hok
  have ox := zok_i ox
  simp only [List.map_cons, zvl_i]
  obtain ⟨hd, rfl, hik⟩ := zdec' (n := 2) hdk hc rfl
  have ht : (pc : Int) + off = (r : Int) := of_decide_eq_true hik
  cases cd
  · exact lv_if_eq hx hb hd ht (fun h => kt ((ofi_eq ox z32_0).mp h) H locs hG hok) (fun h => kf (fun q => h ((ofi_eq ox z32_0).mpr q)) H locs hG hok)
  · exact lv_if_ne hx hb hd ht (fun h => kt (fun q => h ((ofi_eq ox z32_0).mpr q)) H locs hG hok) (fun h => kf (fun q => q ((ofi_eq ox z32_0).mp h)) H locs hG hok)
  · exact lv_if_lt hx hb hd ht (fun h => kt ((ofi_lt ox z32_0).mp h) H locs hG hok) (fun h => kf (fun q => h ((ofi_lt ox z32_0).mpr q)) H locs hG hok)
  · exact lv_if_ge hx hb hd ht (fun h => kt ((ofi_le z32_0 ox).mp h) H locs hG hok) (fun h => kf (fun q => h ((ofi_le z32_0 ox).mpr q)) H locs hG hok)
  · exact lv_if_gt hx hb hd ht (fun h => kt ((ofi_lt z32_0 ox).mp h) H locs hG hok) (fun h => kf (fun q => h ((ofi_lt z32_0 ox).mpr q)) H locs hG hok)
  · exact lv_if_le hx hb hd ht (fun h => kt ((ofi_le ox z32_0).mp h) H locs hG hok) (fun h => kf (fun q => h ((ofi_le ox z32_0).mpr q)) H locs hG hok)
theorem zs_icmp (C : zCx p s mid args meth c m D cs E nL) {pc nx r : Nat} {cd : ClassFile.Cond} {off : Int} {cls : Array Slot} {x y : Int} {rest : List zV} {S : zS} (hc : zcd m pc = some (.if_icmp cd off, nx, r))
    (kt : zcn cd x y → zK p l e R s mid args below meth c cells slots Q D cs E cls r rest S) (kf : ¬ zcn cd x y → zK p l e R s mid args below meth c cells slots Q D cs E cls nx rest S) : zK p l e R s mid args below meth c cells slots Q D cs E cls pc ((0, y) :: (0, x) :: rest) S := by
  intro H locs hG hok
  obtain ⟨hx, hb, hml, hown, hts, hK, hnm, hdk, hX⟩ := C
  obtain ⟨oy, hok⟩ := zcons hok
  obtain ⟨ox, hok⟩ := zcons hok
  have ox := zok_i ox
  have oy := zok_i oy
  simp only [List.map_cons, zvl_i]
  obtain ⟨hd, rfl, hik⟩ := zdec' (n := 2) hdk hc rfl
  have ht : (pc : Int) + off = (r : Int) := of_decide_eq_true hik
  cases cd
  · exact lv_icmp_eq hx hb hd ht (fun h => kt ((ofi_eq ox oy).mp h) H locs hG hok) (fun h => kf (fun q => h ((ofi_eq ox oy).mpr q)) H locs hG hok)
  · exact lv_icmp_ne hx hb hd ht (fun h => kt (fun q => h ((ofi_eq ox oy).mpr q)) H locs hG hok) (fun h => kf (fun q => q ((ofi_eq ox oy).mp h)) H locs hG hok)
  · exact lv_icmp_lt hx hb hd ht (fun h => kt ((ofi_lt ox oy).mp h) H locs hG hok) (fun h => kf (fun q => h ((ofi_lt ox oy).mpr q)) H locs hG hok)
  · exact lv_icmp_ge hx hb hd ht (fun h => kt ((ofi_le oy ox).mp h) H locs hG hok) (fun h => kf (fun q => h ((ofi_le oy ox).mpr q)) H locs hG hok)
  · exact lv_icmp_gt hx hb hd ht (fun h => kt ((ofi_lt oy ox).mp h) H locs hG hok) (fun h => kf (fun q => h ((ofi_lt oy ox).mpr q)) H locs hG hok)
  · exact lv_icmp_le hx hb hd ht (fun h => kt ((ofi_le ox oy).mp h) H locs hG hok) (fun h => kf (fun q => h ((ofi_le ox oy).mpr q)) H locs hG hok)
end ZSIM
