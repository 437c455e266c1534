/-! The law's walk, whole: out of the small machine's run. -/
section ZWALK
variable {p : Program} {l : Launch} {e : Env} {R : Room} {s : State} {mid : MethodId} {args : Array Value} {below : List Frame} {meth : Method} {c : Code} {cells slots : Nat} {Q : State → Prop}
variable {D : va_G} {cs : ClassId × ClassId × ClassId × ClassId} {E : zE} {L : Nat} {xs : Nat → Int32}
theorem zls_ok {t : Nat} {v1 v2 v3 v4 : zV} (h1 : zokv t v1) (h2 : zokv t v2) (h3 : zokv t v3) (h4 : zokv t v4) : ∀ w ∈ zlS v1 v2 v3 v4, zokv t w := by
  have h9 : zokv t (9, 0) := Or.inr (Or.inr (Or.inl rfl))
  have h14 : zokv t (14, -7) := Or.inr (Or.inr (Or.inr (Or.inl ⟨rfl, Or.inr rfl⟩)))
  exact zcons' h14 (zcons' h1 (zcons' h2 (zcons' h3 (zcons' h4 (zcons' h9 (zcons' h9 (zcons' h9 (fun _ h => by cases h))))))))
theorem zok9 {t : Nat} : zokv t (9, 0) := Or.inr (Or.inr (Or.inl rfl))
theorem zca_ok {t : Nat} (i : Nat) : zokv t (0, zca L xs i) := by
  refine Or.inl ⟨rfl, ?_⟩
  show z32 (zca L xs i) = zca L xs i
  unfold zca
  by_cases h : i < L
  · rw [if_pos h]; exact z32_toInt _
  · rw [if_neg h]; rfl
/-- one argument: cell(script, i) -/
theorem zw_cell (C : zCx p s mid args meth c 287 D cs E 8) (hR : 11 ≤ R.frames ∧ 450 ≤ R.locals) {a i n : Nat} {cls : Array Slot} {v1 v2 v3 v4 : zV} {st : List zV} {S : zS} (hi : i < 3) (hLL : L ≤ 3587) (h1 : S.2.1 (-7) = L) (h2 : ∀ j : Int, S.2.2 (-7) j = zH0 L xs (-7) j) (hcl : cells ≤ R.cells ∧ slots ≤ R.slots) (hL : zL E 8 (zlS v1 v2 v3 v4) cls) (hk : ∀ w ∈ zlS v1 v2 v3 v4, zokv S.1 w)
    (c0 : zcd 287 a = some (.aload_n 0, a + 1, 0)) (c1 : zcd 287 (a + 1) = some (.iconst (i : Int), a + 2, 0)) (c2 : zcd 287 (a + 2) = some (.invokestatic 89, n, 265)) (hst : (st.map zcat).sum ≤ 8)
    (k : ∀ cls', zL E 8 (zlS v1 v2 v3 v4) cls' → zK p l e R s mid args below meth c cells slots Q D cs E cls' n ((0, zca L xs i) :: st) S) : zK p l e R s mid args below meth c cells slots Q D cs E cls a st S := by
  refine zs_loc C c0 rfl (show zloc (0, 2) 0 (zlS v1 v2 v3 v4) st = some (zlS v1 v2 v3 v4, (14, -7) :: st) from rfl) hL hk (fun cls' hL' => ?_)
  refine zs_iconst C c1 ?_
  obtain ⟨n0, hx⟩ := zcell hi h1 h2 hLL
  have hmi : zmi 265 = some ([14, 0], 2, 0) := by decide +kernel
  have hoka : ∀ w ∈ ([(14, -7), (0, (i : Int))] : List zV), zokv S.1 w := zcons' (Or.inr (Or.inr (Or.inr (Or.inl ⟨rfl, Or.inr rfl⟩)))) (zcons' (Or.inl ⟨rfl, z32_sm (x := (i : Int)) (by omega) (by omega)⟩) (fun _ h => by cases h))
  have hS := zsim (l := l) n0 265 0 _ [] S (zca L xs i) S (by decide) (by decide +kernel) (Nat.zero_le _) hx
  have hM := zmet_of (l := l) (D := D) (cs := cs) (E := E) (S := S) (S1 := S) (v := zca L xs i) (as := [(14, -7), (0, (i : Int))]) (by decide : 265 < 266) hmi rfl (fun p e s mid args below meth c cls C hr hlk hL => hS.2 [14, 0] 2 0 hmi D cs E p e s mid args below meth c cls C hr hlk hL (zmkl_ok hoka))
  have h0 : (zrm 265).1 + 1 ≤ 11 ∧ (zrm 265).2 + 8 + (2 + 11) ≤ 450 := by decide +kernel
  exact zs_callS (R := R) (as := [(14, -7), (0, (i : Int))]) (rest := st) C hL'.2.1 c2 (by decide) hmi rfl hst ⟨Nat.le_trans h0.1 hR.1, Nat.le_trans h0.2 hR.2⟩ rfl hcl hM (k cls' hL')
/-- a constructor's call -/
theorem zw_ctor (C : zCx p s mid args meth c 287 D cs E 8) (hR : 11 ≤ R.frames ∧ 450 ≤ R.locals) {pc nx j r n0 : Nat} {tags : List Nat} {maxL : Nat} {cls : Array Slot} {a0 : zV} {as rest : List zV} {S S1 : zS} (hcs : cls.size = 8) (hc : zcd 287 pc = some (.invokespecial j, nx, r)) (hr9 : r < 266) (hir : zini r = true) (hmi : zmi r = some (tags, maxL, 8)) (htag : tags = (a0 :: as).map (fun w => w.1)) (hw : (rest.map zcat).sum ≤ 8) (hR2 : (zrm r).1 + 1 ≤ 11 ∧ (zrm r).2 + 8 + (maxL + 11) ≤ 450)
    (hE : E.1 = s.heap.size) (hoka : ∀ w ∈ a0 :: as, zokv S.1 w) (hx : zex 0 n0 r 0 (zmkl r (a0 :: as)) [] S = some (0, 0, S1)) (hb : zno S1.1 ≤ R.cells ∧ zus S1 ≤ R.slots)
    (k : S.1 ≤ S1.1 → zK p l e R s mid args below meth c (zno S1.1) (zus S1) Q D cs E cls nx rest S1) : zK p l e R s mid args below meth c (zno S.1) (zus S) Q D cs E cls pc ((a0 :: as).reverse ++ rest) S := by
  obtain ⟨⟨b1, b2, b3⟩, b4⟩ := zsimC (l := l) n0 r 0 _ [] S 0 S1 hr9 hir (Nat.zero_le _) hx
  obtain ⟨gc, hgc⟩ := Nat.exists_eq_add_of_le b2
  obtain ⟨gs, hgs⟩ := Nat.exists_eq_add_of_le b3
  have hM := zmetC_of (l := l) (D := D) (cs := cs) (E := E) (S := S) (S1 := S1) (v := 0) (mc := gc) (ms := gs) hr9 hmi htag (fun p e s mid args below meth c cls hsz C hr hlk hL => b4 tags maxL 8 hmi D cs E p e s mid args below meth c cls (zno S.1) (zus S) 0 0 gc gs hsz (Nat.le_refl _) (Nat.zero_add _) (Nat.zero_add _) (by rw [hgc, Nat.add_comm]) (by rw [hgs, Nat.add_comm]) C hr hlk hL (zmkl_ok hoka))
  have k1 := k b1
  rw [hgc, hgs] at k1
  exact zs_callI (R := R) (k0 := 0) C hcs hc hr9 hir hmi htag hw ⟨Nat.le_trans hR2.1 hR.1, Nat.le_trans hR2.2 hR.2⟩ b1 ⟨by rw [← hgc]; exact hb.1, by rw [← hgs]; exact hb.2⟩ hE.symm (Nat.zero_le _) rfl hM k1
theorem zn_all : zno 0 = 0 ∧ zno 1 = 1 ∧ zno 80 = 35 ∧ zno 81 = 36 ∧ zno 117 = 54 ∧ zno 118 = 55 := by decide +kernel
theorem zob_all : zob 0 = 20 ∧ zob 35 = 29 ∧ zob 54 = 11 ∧ (zfb 0).2 = 14 ∧ (zfb 9).2 = 33 := by decide +kernel
theorem zu_1 : zus (1, zA0 L, zH0 L xs) = 14 := by
  unfold zus
  show ((List.range (zno 1)).map _).sum = _
  rw [zn_all.2.1]
  show zsz (1, zA0 L, zH0 L xs) 0 + 0 = 14
  unfold zsz
  rw [zob_all.1]
  exact zob_all.2.2.2.1
theorem zu_81 {S1 : zS} (t1 : S1.1 = 80) : zus (81, S1.2) = zus S1 + 33 := by
  have h := zus_new (S := S1) (S1 := (81, S1.2)) (by rw [t1, zn_all.2.2.1]; exact zn_all.2.2.2.1) (fun q _ => rfl)
  rw [t1, zn_all.2.2.1] at h
  have hz : zsz (81, S1.2) 35 = 33 := by
    unfold zsz
    rw [zob_all.2.1]
    exact zob_all.2.2.2.2
  rw [hz] at h
  exact h
theorem zu_118 {S2 : zS} (t2 : S2.1 = 117) : zus (118, zlen S2.2.1 54 1, S2.2.2) = zus S2 + 1 := by
  have h := zus_new (S := S2) (S1 := (118, zlen S2.2.1 54 1, S2.2.2)) (by rw [t2, zn_all.2.2.2.2.1]; exact zn_all.2.2.2.2.2) (fun q hq => by
    rw [t2, zn_all.2.2.2.2.1] at hq
    show zlen S2.2.1 54 1 q = _
    unfold zlen
    rw [if_neg (by omega)])
  rw [t2, zn_all.2.2.2.2.1] at h
  have hz : zsz (118, zlen S2.2.1 54 1, S2.2.2) 54 = 1 := by
    unfold zsz
    rw [zob_all.2.2.1]
    show (zlen S2.2.1 54 1 ((54 : Nat) : Int)).toNat = 1
    unfold zlen
    rw [if_pos (by decide : ((54 : Nat) : Int) = 54)]
    rfl
  rw [hz] at h
  exact h
theorem zok20 {t : Nat} (h : 1 ≤ zno t) : zokv t (20, 0) := Or.inr (Or.inr (Or.inr (Or.inr ⟨by decide, by decide, by decide, h, by decide +kernel⟩)))
theorem zok29 {t : Nat} (h : 36 ≤ zno t) : zokv t (29, 35) := Or.inr (Or.inr (Or.inr (Or.inr ⟨by decide, by decide, by decide, h, by decide +kernel⟩)))
theorem zok11 {t : Nat} (h : 55 ≤ zno t) : zokv t (11, 54) := Or.inr (Or.inr (Or.inr (Or.inr ⟨by decide, by decide, by decide, h, by decide +kernel⟩)))
set_option maxHeartbeats 4000000 in
/-- new DiskPool(..) -/
theorem zwalkA (C : zCx p s mid args meth c 287 D cs E 8) (hE : E.1 = s.heap.size) (hLL : L ≤ 3587) {n1 : Nat} {S1 : zS} (x1 : zex 0 n1 145 0 (zmkl 145 [(20, 0), (0, zca L xs 0), (0, zca L xs 1), (0, zca L xs 2)]) [] (1, zA0 L, zH0 L xs) = some (0, 0, S1)) (t1 : S1.1 = 80) (hS1 : zus S1 ≤ 7000000) {cls : Array Slot} (hLs : zL E 8 (zlS (9, 0) (9, 0) (9, 0) (9, 0)) cls) (hR : (11 ≤ R.frames ∧ 450 ≤ R.locals) ∧ 600002 ≤ R.cells ∧ 7302197 ≤ R.slots)
    (k : ∀ cls, zL E 8 (zlS (20, 0) (9, 0) (9, 0) (9, 0)) cls → zK p l e R s mid args below meth c (zno S1.1) (zus S1) Q D cs E cls 23 [] S1) : zK p l e R s mid args below meth c 0 0 Q D cs E cls 0 [] (0, zA0 L, zH0 L xs) := by
  obtain ⟨q0, q1, q80, q81, q117, q118⟩ := zn_all
  have hu1 : zus (1, zA0 L, zH0 L xs) = 14 := zu_1
  have c14 : (zfb (20 - 20)).2 = 14 := zob_all.2.2.2.1
  have hcl1 : 0 + 1 ≤ R.cells ∧ 0 + (zfb (20 - 20)).2 ≤ R.slots := ⟨by have := hR.2.1; omega, by rw [c14]; have := hR.2.2; omega⟩
  have hk0 : ∀ t, ∀ w ∈ zlS (9, 0) (9, 0) (9, 0) (9, 0), zokv t w := fun t => zls_ok zok9 zok9 zok9 zok9
  refine zs_new (k0 := 0) (S := (0, zA0 L, zH0 L xs)) (r := 20) (o := 0) C (show zcd 287 0 = some (.new 8, 3, 20) from rfl) rfl rfl (by decide) (fun j => ?_) hE.symm (Nat.zero_le _) q0.symm hcl1.1 hcl1.2 ?_
  · show zH0 L xs 0 j = 0
    unfold zH0
    rw [if_neg (by omega), if_neg (by omega)]
  refine zs_dup C (show zcd 287 3 = some (.dup, 4, 0) from rfl) rfl ?_
  refine zw_cell (a := 4) (n := 9) (i := 0) (st := [(20, 0), (20, 0)]) (S := (1, zA0 L, zH0 L xs)) C hR.1 (by decide) hLL rfl (fun _ => rfl) hcl1 hLs (hk0 _) rfl rfl rfl (Nat.le_of_ble_eq_true rfl) (fun cls hLs => ?_)
  refine zw_cell (a := 9) (n := 14) (i := 1) (st := [(0, zca L xs 0), (20, 0), (20, 0)]) (S := (1, zA0 L, zH0 L xs)) C hR.1 (by decide) hLL rfl (fun _ => rfl) hcl1 hLs (hk0 _) rfl rfl rfl (Nat.le_of_ble_eq_true rfl) (fun cls hLs => ?_)
  refine zw_cell (a := 14) (n := 19) (i := 2) (st := [(0, zca L xs 1), (0, zca L xs 0), (20, 0), (20, 0)]) (S := (1, zA0 L, zH0 L xs)) C hR.1 (by decide) hLL rfl (fun _ => rfl) hcl1 hLs (hk0 _) rfl rfl rfl (Nat.le_of_ble_eq_true rfl) (fun cls hLs => ?_)
  have e1 : (0 : Nat) + 1 = zno (1, zA0 L, zH0 L xs).1 := q1.symm
  have e2 : (0 : Nat) + (zfb (20 - 20)).2 = zus (1, zA0 L, zH0 L xs) := by rw [c14, hu1]
  rw [e1, e2]
  refine zw_ctor (S := (1, zA0 L, zH0 L xs)) (S1 := S1) (n0 := n1) (a0 := (20, 0)) (as := [(0, zca L xs 0), (0, zca L xs 1), (0, zca L xs 2)]) (rest := [(20, 0)]) C hR.1 hLs.2.1 (show zcd 287 19 = some (.invokespecial 95, 22, 145) from rfl) (by decide) (by decide +kernel) (show zmi 145 = some ([20, 0, 0, 0], 7, 8) from rfl) rfl (by decide) (by decide +kernel) hE (zcons' (zok20 (Nat.le_of_eq q1.symm)) (zcons' (zca_ok 0) (zcons' (zca_ok 1) (zcons' (zca_ok 2) (fun _ h => by cases h))))) x1 ⟨by rw [t1, q80]; have := hR.2.1; omega, by have := hR.2.2; omega⟩ (fun _ => ?_)
  exact zs_loc C (show zcd 287 22 = some (.astore_n 1, 23, 0) from rfl) rfl (show zloc (1, 12) 0 (zlS (9, 0) (9, 0) (9, 0) (9, 0)) [(20, 0)] = some (zlS (20, 0) (9, 0) (9, 0) (9, 0), []) from rfl) hLs (hk0 _) k
set_option maxHeartbeats 4000000 in
/-- new DiskPoolModel(..) -/
theorem zwalkB (C : zCx p s mid args meth c 287 D cs E 8) (hE : E.1 = s.heap.size) (hLL : L ≤ 3587) {n2 : Nat} {S1 S2 : zS} (t1 : S1.1 = 80) (z1 : ∀ j, S1.2.2 35 j = 0) (g1 : ∀ j : Int, S1.2.2 (-7) j = zH0 L xs (-7) j) (g2 : S1.2.1 (-7) = L) (x2 : zex 0 n2 179 0 (zmkl 179 [(29, 35), (0, zca L xs 0), (0, zca L xs 1), (0, zca L xs 2)]) [] (81, S1.2) = some (0, 0, S2)) (t2 : S2.1 = 117) (hS1 : zus S1 ≤ 7000000) (hS2 : zus S2 ≤ 7000000) {cls : Array Slot} (hLs : zL E 8 (zlS (20, 0) (9, 0) (9, 0) (9, 0)) cls) (hR : (11 ≤ R.frames ∧ 450 ≤ R.locals) ∧ 600002 ≤ R.cells ∧ 7302197 ≤ R.slots)
    (k : ∀ cls, zL E 8 (zlS (20, 0) (29, 35) (9, 0) (9, 0)) cls → zK p l e R s mid args below meth c (zno S2.1) (zus S2) Q D cs E cls 46 [] S2) : zK p l e R s mid args below meth c (zno S1.1) (zus S1) Q D cs E cls 23 [] S1 := by
  obtain ⟨q0, q1, q80, q81, q117, q118⟩ := zn_all
  have hu81 : zus (81, S1.2) = zus S1 + 33 := zu_81 t1
  have c33 : (zfb (29 - 20)).2 = 33 := zob_all.2.2.2.2
  have hcl2 : zno S1.1 + 1 ≤ R.cells ∧ zus S1 + (zfb (29 - 20)).2 ≤ R.slots := ⟨by rw [t1, q80]; have := hR.2.1; omega, by rw [c33]; have := hR.2.2; omega⟩
  have hk1 : ∀ w ∈ zlS (20, 0) (9, 0) (9, 0) (9, 0), zokv (81, S1.2).1 w := zls_ok (zok20 (show 1 ≤ zno 81 by rw [q81]; decide)) zok9 zok9 zok9
  refine zs_new (k0 := 0) (S := S1) (r := 29) (o := 35) C (show zcd 287 23 = some (.new 98, 26, 29) from rfl) rfl (by rw [t1]; rfl) (by decide) z1 hE.symm (Nat.zero_le _) rfl hcl2.1 hcl2.2 ?_
  refine zs_dup C (show zcd 287 26 = some (.dup, 27, 0) from rfl) rfl ?_
  have es : ((S1.1 + 1, S1.2.1, S1.2.2) : zS) = (81, S1.2) := by rw [t1]
  rw [es]
  refine zw_cell (a := 27) (n := 32) (i := 0) (st := [(29, 35), (29, 35)]) (S := (81, S1.2)) C hR.1 (by decide) hLL g2 g1 hcl2 hLs hk1 rfl rfl rfl (Nat.le_of_ble_eq_true rfl) (fun cls hLs => ?_)
  refine zw_cell (a := 32) (n := 37) (i := 1) (st := [(0, zca L xs 0), (29, 35), (29, 35)]) (S := (81, S1.2)) C hR.1 (by decide) hLL g2 g1 hcl2 hLs hk1 rfl rfl rfl (Nat.le_of_ble_eq_true rfl) (fun cls hLs => ?_)
  refine zw_cell (a := 37) (n := 42) (i := 2) (st := [(0, zca L xs 1), (0, zca L xs 0), (29, 35), (29, 35)]) (S := (81, S1.2)) C hR.1 (by decide) hLL g2 g1 hcl2 hLs hk1 rfl rfl rfl (Nat.le_of_ble_eq_true rfl) (fun cls hLs => ?_)
  have e3 : zno S1.1 + 1 = zno (81, S1.2).1 := by rw [t1, q80]; exact q81.symm
  have e4 : zus S1 + (zfb (29 - 20)).2 = zus (81, S1.2) := by rw [hu81, c33]
  rw [e3, e4]
  refine zw_ctor (S := (81, S1.2)) (S1 := S2) (n0 := n2) (a0 := (29, 35)) (as := [(0, zca L xs 0), (0, zca L xs 1), (0, zca L xs 2)]) (rest := [(29, 35)]) C hR.1 hLs.2.1 (show zcd 287 42 = some (.invokespecial 100, 45, 179) from rfl) (by decide) (by decide +kernel) (show zmi 179 = some ([29, 0, 0, 0], 7, 8) from rfl) rfl (by decide) (by decide +kernel) hE (zcons' (zok29 (Nat.le_of_eq q81.symm)) (zcons' (zca_ok 0) (zcons' (zca_ok 1) (zcons' (zca_ok 2) (fun _ h => by cases h))))) x2 ⟨by rw [t2, q117]; have := hR.2.1; omega, by have := hR.2.2; omega⟩ (fun _ => ?_)
  exact zs_loc C (show zcd 287 45 = some (.astore_n 2, 46, 0) from rfl) rfl (show zloc (2, 12) 0 (zlS (20, 0) (9, 0) (9, 0) (9, 0)) [(29, 35)] = some (zlS (20, 0) (29, 35) (9, 0) (9, 0), []) from rfl) hLs (zls_ok (zok20 (by rw [t2, q117]; decide)) zok9 zok9 zok9) k
set_option maxHeartbeats 4000000 in
theorem zwalkC (htrc : ∀ e : Env, l.admits e → e.platform.stackTraces = false) (C : zCx p s mid args meth c 287 D cs E 8) (hr : meth.sig.returnType = some .boolean) (hl : meth.locks = false) (hXT : zXT s E) (hE : E.1 = s.heap.size) {n3 : Nat} {S2 S3 : zS} (t2 : S2.1 = 117) (z2 : ∀ j, S2.2.2 54 j = 0) (x3 : zex 0 n3 287 53 (zlS (20, 0) (29, 35) (11, 54) (0, 3)) [] (118, zlen S2.2.1 54 1, S2.2.2) = some (0, 1, S3)) (t3 : S3.1 ≤ 1118) (hS2 : zus S2 ≤ 7000000) {cls : Array Slot} (hLs : zL E 8 (zlS (20, 0) (29, 35) (9, 0) (9, 0)) cls) (hR : (11 ≤ R.frames ∧ 450 ≤ R.locals) ∧ 600002 ≤ R.cells ∧ 7302197 ≤ R.slots) :
    zK p l e R s mid args below meth c (zno S2.1) (zus S2) (MQ below (zQc D cs E 3 1 S3) args s (55 + (S3.1 - 118)) (zus S2 + 1 + 6 * (S3.1 - 118)) (fun q => E.1 ≤ q)) D cs E cls 46 [] S2 := by
  obtain ⟨q0, q1, q80, q81, q117, q118⟩ := zn_all
  have hsL := (zsimL (l := l) htrc n3 53 _ [] _ 1 S3 (Nat.le_refl _) (Nat.zero_le _) (Nat.le_refl _) x3)
  refine zs_iconst C (show zcd 287 46 = some (.iconst 1, 47, 0) from rfl) ?_
  refine zs_newa (k0 := 0) (tag := 11) (o := 54) (n := 1) (S := S2) C (show zcd 287 47 = some (.newarray .long, 49, 0) from rfl) (by rw [t2]; rfl) rfl (by decide) z2 hE.symm (Nat.zero_le _) rfl (by rw [t2, q117]; have := hR.2.1; omega) (by have := hR.2.2; show zus S2 + 1 ≤ _; omega) ?_
  have es2 : ((S2.1 + 1, zlen S2.2.1 54 1, S2.2.2) : zS) = (118, zlen S2.2.1 54 1, S2.2.2) := by rw [t2]
  rw [es2]
  have e5 : zno S2.1 + 1 = 55 + (118 - 118) := by rw [t2, q117]
  have e6 : zus S2 + (1 : Int).toNat = zus S2 + 1 + 6 * (118 - 118) := rfl
  rw [e5, e6]
  have o20 : zokv 118 (20, 0) := zok20 (by rw [q118]; decide)
  have o29 : zokv 118 (29, 35) := zok29 (by rw [q118]; decide)
  have o11 : zokv 118 (11, 54) := zok11 (by rw [q118]; decide)
  refine zs_loc (S := (118, zlen S2.2.1 54 1, S2.2.2)) C (show zcd 287 49 = some (.astore_n 3, 50, 0) from rfl) rfl (show zloc (3, 12) 0 (zlS (20, 0) (29, 35) (9, 0) (9, 0)) [(11, 54)] = some (zlS (20, 0) (29, 35) (11, 54) (9, 0), []) from rfl) hLs (zls_ok o20 o29 zok9 zok9) (fun cls hLs => ?_)
  refine zs_iconst C (show zcd 287 50 = some (.iconst 3, 51, 0) from rfl) ?_
  refine zs_loc (S := (118, zlen S2.2.1 54 1, S2.2.2)) C (show zcd 287 51 = some (.istore 4, 53, 0) from rfl) rfl (show zloc (4, 10) 0 (zlS (20, 0) (29, 35) (11, 54) (9, 0)) [(0, 3)] = some (zlS (20, 0) (29, 35) (11, 54) (0, 3), []) from rfl) hLs (zls_ok o20 o29 o11 zok9) (fun cls hLs => ?_)
  have hrm : max (zrm 287).1 (zrt 287).1 ≤ 11 ∧ max (zrm 287).2 (zrt 287).2 ≤ 450 := by decide +kernel
  exact hsL.2 8 rfl D cs E p e R s mid args below meth c cls 55 (zus S2 + 1) (by have := hR.2.1; omega) (by have := hR.2.2; omega) ⟨Nat.le_trans hrm.1 hR.1.1, Nat.le_trans hrm.2 hR.1.2⟩ C hr hl hXT hLs (zls_ok o20 o29 o11 (Or.inl ⟨rfl, by decide⟩))
theorem zwalk (htrc : ∀ e : Env, l.admits e → e.platform.stackTraces = false) (C : zCx p s mid args meth c 287 D cs E 8) (hr : meth.sig.returnType = some .boolean) (hl : meth.locks = false) (hXT : zXT s E) (hE : E.1 = s.heap.size) (hLL : L ≤ 3587) (hZ : zRuns L xs) {cls : Array Slot} (hLs : zL E 8 (zlS (9, 0) (9, 0) (9, 0) (9, 0)) cls) (hR : (11 ≤ R.frames ∧ 450 ≤ R.locals) ∧ 600002 ≤ R.cells ∧ 7302197 ≤ R.slots) :
    ∃ (mc ms : Nat) (S3 : zS), mc ≤ 600002 ∧ ms ≤ 7302197 ∧ zK p l e R s mid args below meth c 0 0 (MQ below (zQc D cs E 3 1 S3) args s mc ms (fun q => E.1 ≤ q)) D cs E cls 0 [] (0, zA0 L, zH0 L xs) := by
  obtain ⟨n1, n2, n3, S1, S2, S3, ⟨x1, t1, z1, g1, g2⟩, ⟨x2, t2, z2⟩, x3, t3, u3⟩ := hZ
  have w2 := (zsimC (l := l) n2 179 0 _ [] _ 0 S2 (by decide) (by decide +kernel) (Nat.zero_le _) x2).1
  rw [zu_81 t1] at w2
  rw [zu_118 t2] at u3
  have hS2 : zus S2 ≤ 7000000 := by omega
  have hS1 : zus S1 ≤ 7000000 := by omega
  exact ⟨55 + (S3.1 - 118), zus S2 + 1 + 6 * (S3.1 - 118), S3, by omega, by omega, zwalkA C hE hLL x1 t1 hS1 hLs hR (fun cls hLs => zwalkB C hE hLL t1 z1 g1 g2 x2 t2 hS1 hS2 hLs hR (fun cls hLs => zwalkC htrc C hr hl hXT hE t2 z2 x3 t3 hS2 hLs hR))⟩
end ZWALK
