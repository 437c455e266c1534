section ZSIM6
variable {p : Program} {l : Launch} {e : Env} {R : Room} {s : State} {mid : MethodId} {args : Array Value} {below : List Frame} {meth : Method} {c : Code} {cells slots : Nat} {Q : State → Prop}
variable {m nL : Nat} {D : va_G} {cs : ClassId × ClassId × ClassId × ClassId} {E : zE}
theorem zsum (E : zE) (rest : List zV) : ((rest.map (zvl E)).map fun v => v.category).sum = (rest.map zcat).sum := by
  rw [List.map_map]
  congr 1
  exact List.map_congr_left (fun v _ => zvl_cat v)
theorem zs_min (C : zCx p s mid args meth c m D cs E nL) {pc nx j : Nat} {cls : Array Slot} {a b : Int} {rest : List zV} {S : zS} (hcs : cls.size = nL) (hR : 1 ≤ R.frames ∧ 32 ≤ R.locals ∧ cells ≤ R.cells ∧ slots ≤ R.slots) (hw : (rest.map zcat).sum ≤ 8) (hc : zcd m pc = some (.invokestatic j, nx, 901))
    (k : zK p l e R s mid args below meth c cells slots Q D cs E cls nx ((0, if a ≤ b then a else b) :: rest) S) : zK p l e R s mid args below meth c cells slots Q D cs E cls pc ((0, b) :: (0, a) :: rest) S := by
  intro H locs hG hok
  obtain ⟨hx, hb, hml, hown, hts, hK, hnm, hdk, hX⟩ := C
  obtain ⟨hd, rfl, hik⟩ := zdec' (n := 2) hdk hc rfl
  obtain ⟨ob, hok1⟩ := zcons hok
  obtain ⟨oa, hok2⟩ := zcons hok1
  have ob := zok_i ob
  have oa := zok_i oa
  simp only [zik, Bool.and_eq_true, Bool.or_eq_true] at hik
  rcases hik with z | ⟨hlk, -⟩
  · cases z
  simp only [List.map_cons, zvl_i]
  refine va_mmin hx hb (hml.trans hcs.symm) hown (hts _ (zw_m hlk)) (hts _ zmth1) (hts _ zmth3) (hts _ zmth4) hR.1 (by rw [zsum E]; omega) hR.2.2.1 hR.2.2.2 hd ?_
  have e1 : (if Int32.ofInt b < Int32.ofInt a then Int32.ofInt b else Int32.ofInt a) = Int32.ofInt (if a ≤ b then a else b) := by
    by_cases h : a ≤ b
    · rw [if_neg (by rw [ofi_lt ob oa]; omega), if_pos h]
    · rw [if_pos (by rw [ofi_lt ob oa]; omega), if_neg h]
  rw [e1]
  refine k H locs hG (zcons' (Or.inl ⟨rfl, ?_⟩) hok2)
  show z32 (if a ≤ b then a else b) = _
  split <;> assumption
theorem zs_max (C : zCx p s mid args meth c m D cs E nL) {pc nx j : Nat} {cls : Array Slot} {a b : Int} {rest : List zV} {S : zS} (hcs : cls.size = nL) (hR : 1 ≤ R.frames ∧ 32 ≤ R.locals ∧ cells ≤ R.cells ∧ slots ≤ R.slots) (hw : (rest.map zcat).sum ≤ 8) (hc : zcd m pc = some (.invokestatic j, nx, 902))
    (k : zK p l e R s mid args below meth c cells slots Q D cs E cls nx ((0, if a ≤ b then b else a) :: rest) S) : zK p l e R s mid args below meth c cells slots Q D cs E cls pc ((0, b) :: (0, a) :: rest) S := by
  intro H locs hG hok
  obtain ⟨hx, hb, hml, hown, hts, hK, hnm, hdk, hX⟩ := C
  obtain ⟨hd, rfl, hik⟩ := zdec' (n := 2) hdk hc rfl
  obtain ⟨ob, hok1⟩ := zcons hok
  obtain ⟨oa, hok2⟩ := zcons hok1
  have ob := zok_i ob
  have oa := zok_i oa
  simp only [zik, Bool.and_eq_true, Bool.or_eq_true] at hik
  rcases hik with z | ⟨hlk, -⟩
  · cases z
  simp only [List.map_cons, zvl_i]
  refine va_mmax hx hb (hml.trans hcs.symm) hown (hts _ (zw_m hlk)) (hts _ zmth2) (hts _ zmth3) (hts _ zmth5) hR.1 (by rw [zsum E]; omega) hR.2.2.1 hR.2.2.2 hd ?_
  have e1 : (if Int32.ofInt a < Int32.ofInt b then Int32.ofInt b else Int32.ofInt a) = Int32.ofInt (if a ≤ b then b else a) := by
    by_cases h : a < b
    · rw [if_pos (by rw [ofi_lt oa ob]; omega), if_pos (by omega)]
    · rw [if_neg (by rw [ofi_lt oa ob]; omega)]
      by_cases h2 : a ≤ b
      · rw [if_pos h2, show a = b by omega]
      · rw [if_neg h2]
  rw [e1]
  refine k H locs hG (zcons' (Or.inl ⟨rfl, ?_⟩) hok2)
  show z32 (if a ≤ b then b else a) = _
  split <;> assumption
theorem zs_copy (C : zCx p s mid args meth c m D cs E nL) {pc nx j : Nat} {cls : Array Slot} {n dp d sp o : Int} {rest : List zV} {S : zS} (hcs : cls.size = nL) (hR : 1 ≤ R.frames ∧ 32 ≤ R.locals ∧ cells ≤ R.cells ∧ slots ≤ R.slots) (hw : (rest.map zcat).sum ≤ 8) (hc : zcd m pc = some (.invokestatic j, nx, 903))
    (hg : 0 ≤ n ∧ 0 ≤ sp ∧ 0 ≤ dp ∧ sp + n ≤ S.2.1 o ∧ dp + n ≤ S.2.1 d ∧ o ≠ d)
    (k : zK p l e R s mid args below meth c cells slots Q D cs E cls nx rest (S.1, S.2.1, zcpy S.2.2 o sp d dp n)) : zK p l e R s mid args below meth c cells slots Q D cs E cls pc ((0, n) :: (0, dp) :: (11, d) :: (0, sp) :: (11, o) :: rest) S := by
  intro H locs hG hok
  obtain ⟨hx, hb, hml, hown, hts, hK, hnm, hdk, hX⟩ := C
  obtain ⟨hd, rfl, hik⟩ := zdec' (n := 2) hdk hc rfl
  obtain ⟨on, hok1⟩ := zcons hok
  obtain ⟨odp, hok2⟩ := zcons hok1
  obtain ⟨od, hok3⟩ := zcons hok2
  obtain ⟨osp, hok4⟩ := zcons hok3
  obtain ⟨oo, hok5⟩ := zcons hok4
  have on := zok_i on
  have odp := zok_i odp
  have osp := zok_i osp
  obtain ⟨q1, rfl, hq1, hob1⟩ := zok_o od (by decide) (by decide)
  obtain ⟨q0, rfl, hq0, hob0⟩ := zok_o oo (by decide) (by decide)
  obtain ⟨n, rfl⟩ := Int.eq_ofNat_of_zero_le hg.1
  obtain ⟨sp, rfl⟩ := Int.eq_ofNat_of_zero_le hg.2.1
  obtain ⟨dp, rfl⟩ := Int.eq_ofNat_of_zero_le hg.2.2.1
  have hw0 := zW_at (E := E) (cs := cs) hq0
  have hw1 := zW_at (E := E) (cs := cs) hq1
  rw [zce_11 hob0] at hw0
  rw [zce_11 hob1] at hw1
  simp only [zik, Bool.and_eq_true, Bool.or_eq_true] at hik
  rcases hik with z | ⟨hlk, -⟩
  · cases z
  simp only [List.map_cons, zvl_i, zvl_o (show 10 ≤ 11 by decide) (show 11 ≠ 14 by decide)]
  have hneg : ∀ w : Nat, z32 (w : Int) = w → ¬ Int32.ofInt (w : Int) < 0 := fun w h z => by
    rw [show (0 : Int32) = Int32.ofInt 0 from rfl, ofi_lt h z32_0] at z
    omega
  have hnf : nativeFrameWords "java/lang/System" "arraycopy" 5 = 7 := by decide +kernel
  refine va_copyl hx hb (hml.trans hcs.symm) hown (hts _ (zw_m hlk)) (hts _ zmth6) (hts _ zmth7) (hts _ zmth8) hK hG.1 hG.2.1 hG.2.2.1 q0 q1 1 1 hw0 hw1 rfl rfl rfl (hneg sp osp) (hneg dp odp) (hneg n on) (by rw [clamp_of32 osp, clamp_of32 on]; omega) (by rw [clamp_of32 odp, clamp_of32 on]; omega) (fun _ _ => rfl) hR.1 (by rw [zsum E, hnf]; omega) hd (fun H1 locs1 hP hD hS => ?_)
  rw [clamp_of32 osp, clamp_of32 odp, clamp_of32 on] at hP hD
  have e1 : va_cpy (fun j : Nat => Int64.ofInt (S.2.2 q0 j)) (fun j : Nat => Int64.ofInt (S.2.2 q1 j)) sp dp n = fun j : Nat => Int64.ofInt (zcpy S.2.2 q0 sp q1 dp n q1 j) := by
    funext i
    unfold va_cpy zcpy
    by_cases h : dp ≤ i ∧ i < dp + n
    · rw [if_pos h, if_pos ⟨rfl, by omega, by omega⟩]
      show Int64.ofInt (S.2.2 q0 ((sp + (i - dp) : Nat) : Int)) = _
      rw [show ((sp + (i - dp) : Nat) : Int) = (sp : Int) + ((i : Int) - dp) by omega]
    · rw [if_neg h, if_neg (fun z => h (by omega))]
  have e2 : ∀ q : Nat, q ≠ q1 → zce E cs (S.1, S.2.1, zcpy S.2.2 q0 sp q1 dp n) q = zce E cs S q := fun q hq => by
    have e : ∀ j : Int, zcpy S.2.2 q0 sp q1 dp n q j = S.2.2 q j := fun j => by
      unfold zcpy
      rw [if_neg (fun z => hq (by omega))]
    unfold zce zfv
    simp only [e]
  rw [e1, ← zce_11 (E := E) (S := (S.1, S.2.1, zcpy S.2.2 q0 sp q1 dp n)) hob1, zW_set (S := S) (S' := (S.1, S.2.1, zcpy S.2.2 q0 sp q1 dp n)) rfl e2] at hP hD
  refine k H1 locs1 ⟨hP, hD, hS, ?_⟩ hok5
  obtain ⟨⟨g1, g2, g3, g4⟩, h3, h4⟩ := hG.2.2.2
  refine ⟨⟨fun i hi => ?_, g2, fun i hi => ?_, g4⟩, fun o i => ?_, h4⟩
  · show zcpy S.2.2 q0 sp q1 dp n (-8) i = _
    unfold zcpy
    rw [if_neg (fun z => by omega)]
    exact g1 i hi
  · show zcpy S.2.2 q0 sp q1 dp n (-7) i = _
    unfold zcpy
    rw [if_neg (fun z => by omega)]
    exact g3 i hi
  · show (zob o = 11 → z64 (zcpy S.2.2 q0 sp q1 dp n o i) = zcpy S.2.2 q0 sp q1 dp n o i) ∧ (zob o ≠ 11 → z32 (zcpy S.2.2 q0 sp q1 dp n o i) = zcpy S.2.2 q0 sp q1 dp n o i)
    unfold zcpy
    by_cases z : (o : Int) = (q1 : Int) ∧ (dp : Int) ≤ i ∧ i < (dp : Int) + n
    · rw [if_pos z]
      have : o = q1 := by omega
      subst this
      exact ⟨fun _ => (h3 q0 _).1 hob0, fun z => absurd hob1 z⟩
    · rw [if_neg z]
      exact h3 o i
/-- the end of a method -/
def zQc (D : va_G) (cs : ClassId × ClassId × ClassId × ClassId) (E : zE) (rt : Nat) (v : Int) (S' : zS) : Array Value → State → Outcome → State → Prop := fun _ st oc t =>
  oc = .returned (bif Nat.beq rt 8 then none else some (zvl E (bif Nat.beq rt 1 then 1 else 0, v))) ∧ (va_P D zcls (zW E cs S') t.heap ∧ va_D (fun q => E.1 ≤ q) (zW E cs S') ∧ zokS E S' ∧ zokv S'.1 (bif Nat.beq rt 1 then 1 else 0, v)) ∧ va_F (fun q => E.1 ≤ q) st t
theorem zs_iret (C : zCx p s mid args meth c m D cs E nL) {pc nx r : Nat} {cls : Array Slot} {v : Int} {S : zS} (hc : zcd m pc = some (.ireturn, nx, r)) (hr : meth.sig.returnType = some .int) (hl : meth.locks = false) :
    zK p l e R s mid args below meth c 0 0 (MQ below (zQc D cs E 0 v S) args s 0 0 (fun q => E.1 ≤ q)) D cs E cls pc [(0, v)] S := by
  intro H locs hG hok
  obtain ⟨hx, hb, hml, hown, hts, hK, hnm, hdk, hX⟩ := C
  obtain ⟨hd, rfl, hik⟩ := zdec' (n := 0) hdk hc rfl
  exact W.iret (v := Int32.ofInt v) hx hb hr (fun t ht _ => ⟨rfl, ⟨by rw [ht]; exact hG.1, hG.2.1, hG.2.2.2, hok _ List.mem_cons_self⟩, hG.2.2.1.F ht⟩) hG.2.2.1.2.2 hd
theorem zs_zret (C : zCx p s mid args meth c m D cs E nL) {pc nx r : Nat} {cls : Array Slot} {v : Int} {S : zS} (hc : zcd m pc = some (.ireturn, nx, r)) (hv : v = 0 ∨ v = 1) (hr : meth.sig.returnType = some .boolean) (hl : meth.locks = false) :
    zK p l e R s mid args below meth c 0 0 (MQ below (zQc D cs E 3 v S) args s 0 0 (fun q => E.1 ≤ q)) D cs E cls pc [(0, v)] S := by
  intro H locs hG hok
  obtain ⟨hx, hb, hml, hown, hts, hK, hnm, hdk, hX⟩ := C
  obtain ⟨hd, rfl, hik⟩ := zdec' (n := 0) hdk hc rfl
  exact W.zret (v := Int32.ofInt v) hx hb hr (by rcases hv with rfl | rfl <;> rfl) (fun t ht _ => ⟨rfl, ⟨by rw [ht]; exact hG.1, hG.2.1, hG.2.2.2, hok _ List.mem_cons_self⟩, hG.2.2.1.F ht⟩) hG.2.2.1.2.2 hd
theorem zs_lret (C : zCx p s mid args meth c m D cs E nL) {pc nx r : Nat} {cls : Array Slot} {v : Int} {S : zS} (hc : zcd m pc = some (.lreturn, nx, r)) (hr : meth.sig.returnType = some .long) (hl : meth.locks = false) :
    zK p l e R s mid args below meth c 0 0 (MQ below (zQc D cs E 1 v S) args s 0 0 (fun q => E.1 ≤ q)) D cs E cls pc [(1, v)] S := by
  intro H locs hG hok
  obtain ⟨hx, hb, hml, hown, hts, hK, hnm, hdk, hX⟩ := C
  obtain ⟨hd, rfl, hik⟩ := zdec' (n := 0) hdk hc rfl
  exact W.lret (v := Int64.ofInt v) hx hb hr (fun t ht _ => ⟨rfl, ⟨by rw [ht]; exact hG.1, hG.2.1, hG.2.2.2, hok _ List.mem_cons_self⟩, hG.2.2.1.F ht⟩) hG.2.2.1.2.2 hd
theorem zs_vret (C : zCx p s mid args meth c m D cs E nL) {pc nx r : Nat} {cls : Array Slot} {S : zS} (hc : zcd m pc = some (.return_, nx, r)) (hr : meth.sig.returnType = none) (hl : meth.locks = false) :
    zK p l e R s mid args below meth c 0 0 (MQ below (zQc D cs E 8 0 S) args s 0 0 (fun q => E.1 ≤ q)) D cs E cls pc [] S := by
  intro H locs hG hok
  obtain ⟨hx, hb, hml, hown, hts, hK, hnm, hdk, hX⟩ := C
  obtain ⟨hd, rfl, hik⟩ := zdec' (n := 0) hdk hc rfl
  exact W.vret hx hb hr (fun t ht _ => ⟨rfl, ⟨by rw [ht]; exact hG.1, hG.2.1, hG.2.2.2, Or.inl ⟨rfl, by decide⟩⟩, hG.2.2.1.F ht⟩) hG.2.2.1.2.2 hd
theorem zX_kept {U : State} {H : Heap} {locs : List Loc} (h : zX s E) (hS : va_S (fun q => E.1 ≤ q) s.heap H locs) (hU : U.heap = H) (hvm : s.vm.Alike U.vm) : zX U E := by
  obtain ⟨h1, h2, h3, h4, h5, h6, h7, h8⟩ := h
  have hk : ∀ q, q < s.heap.size → q < E.1 → U.heap[q]? = s.heap[q]? := fun q a b => by rw [hU]; exact hS.2.1 q a (Nat.not_le.mpr b)
  have hz : s.heap.size ≤ U.heap.size := by rw [hU]; exact hS.1
  refine ⟨?_, (h2.moved hvm).kept (fun a x y => hk a x (Nat.not_le.mp y)), by omega, h4, (h5.moved hvm).kept (hk _ h6 h7), by omega, h7, h8⟩
  obtain ⟨cf, kf, fi, f, a, cell, a1, a2, a3, a4, a5, a6, a7, a8⟩ := h1.moved hvm
  refine ⟨cf, kf, fi, f, a, cell, a1, a2, a3, a4, ?_, a6, a7, a8⟩
  rw [hk a (Array.getElem?_eq_some_iff.mp a5).1 (Nat.not_le.mp a8)]
  exact a5
/-- the start of a method -/
def zB (D : va_G) (cs : ClassId × ClassId × ClassId × ClassId) (E : zE) (S : zS) (U : State) : Prop := (va_P D zcls (zW E cs S) U.heap ∧ va_D (fun q => E.1 ≤ q) (zW E cs S) ∧ zokS E S) ∧ va_K D zcls (ztys cs) U ∧ zX U E
def zPc (D : va_G) (cs : ClassId × ClassId × ClassId × ClassId) (E : zE) (as : List zV) (S : zS) : Array Value → State → Prop := va_Pc (as.map (zvl E)) (zB D cs E S)
theorem zPc_blind {as : List zV} {S : zS} : FrameBlind (zPc D cs E as S) := by
  rintro a U g mk ⟨q0, q1, q2, q3⟩
  refine ⟨q0, q1, va_K.moved (u := U) (U := U.calling g mk a) (Vm.Alike.refl U.vm) q2, ?_⟩
  exact zX_kept (locs := []) q3 va_S.rf rfl (Vm.Alike.refl U.vm)
def zws (m : Nat) : List Cond := zcw m :: zcs
def zroom (m : Nat) : Room := { frames := (zrm m).1, cells := 0, slots := 0, locals := (zrm m).2 }
theorem zcw_at {tags : List Nat} {maxL rt : Nat} (hm : m < 266) (h : zmi m = some (tags, maxL, rt)) : lw_tbl[zpc m]? = some (.code (zy m) (zb m) maxL (zrty rt)) := by
  have h1 := List.all_eq_true.mp zpc_dec m (List.mem_range.mpr hm)
  rw [h] at h1
  have hb : Nat.blt m 266 = true := Nat.ble_eq_true_of_le hm
  unfold zb
  rw [hb]
  simp only [cond_true]
  cases hw : lw_tbl[zpc m]? with
  | none => rw [hw] at h1; cases h1
  | some w =>
    rw [hw] at h1
    cases w <;> first | (cases h1; done) | skip
    simp only [Bool.and_eq_true, decide_eq_true_eq] at h1
    obtain ⟨⟨e1, e2⟩, e3⟩ := h1
    subst e1; subst e2; subst e3
    rfl
theorem zws_good : GoodIn zcs (zws m) ∨ ¬ m < 266 ∨ zmi m = none := by
  by_cases hm : m < 266
  · cases h : zmi m with
    | none => exact Or.inr (Or.inr rfl)
    | some q =>
      obtain ⟨tags, maxL, rt⟩ := q
      refine Or.inl (fun w hw => ?_)
      unfold zws at hw
      rcases List.mem_cons.mp hw with rfl | hw
      · unfold zcw
        rw [h]
        exact ⟨zin_cs (zcw_at hm h) rfl, Or.inl rfl⟩
      · exact ⟨hw, good_of_word (List.mem_filter.mp hw).2⟩
  · exact Or.inr (Or.inl hm)
end ZSIM6
