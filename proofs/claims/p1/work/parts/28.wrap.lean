/-! The law's callers: they call one method of the class, and catch what it throws. -/
section ZWRAP
variable {p : Program} {l : Launch} {e : Env} {R : Room} {s : State} {mid : MethodId} {args : Array Value} {below : List Frame} {meth : Method} {c : Code} {cells slots : Nat} {Q : State → Prop}
variable {m nL md : Nat} {D : va_G} {cs : ClassId × ClassId × ClassId × ClassId} {E : zE}
/-- time goes on: nothing else turns -/
theorem zW_late {S : zS} (h : 118 ≤ S.1) : zW E cs (S.1 + 1, S.2) = zW E cs S := by
  have h1 : zno (S.1 + 1) = zno S.1 := zno_late h
  unfold zW
  show (List.range (zno (S.1 + 1))).map _ = _
  rw [h1]
  refine List.map_congr_left (fun o _ => ?_)
  congr 1
  unfold zce
  congr 1
  congr 1
  congr 1
  refine List.map_congr_left (fun k _ => ?_)
  unfold zfv
  cases hf : zfl ((zfb (zob o - 20)).1 + k) with
  | none => rfl
  | some q =>
    obtain ⟨ci, kk, ft, tg, tm⟩ := q
    dsimp only
    have h2 := ztm_late hf
    have e1 : Nat.blt tm (S.1 + 1) = true := Nat.ble_eq_true_of_le (by omega)
    have e2 : Nat.blt tm S.1 = true := Nat.ble_eq_true_of_le (by omega)
    cases hb : Nat.ble 10 ft with
    | false => rfl
    | true =>
      simp only [cond_true]
      rw [e1, e2]
/-- the handler of a call at pc for the kind k: it gives v back -/
def zhw (m pc k : Nat) (v : Int) (nL : Nat) : Prop := ∃ (pre : List (Nat × Nat × Nat × Nat)) (a b h ct : Nat) (rest : List (Nat × Nat × Nat × Nat)), zhl m = pre ++ (a, b, h, ct) :: rest ∧ (a ≤ pc ∧ pc < b) ∧ ct ≠ 0 ∧ Cond.classLink "DiskPoolLaw" ct (zth k) ∈ zcs ∧
  (∀ q ∈ pre, (q.1 ≤ pc ∧ pc < q.2.1) ∧ q.2.2.2 ≠ 0 ∧ ∃ j, 1 ≤ j ∧ j ≤ 3 ∧ k ≠ j ∧ Cond.classLink "DiskPoolLaw" q.2.2.2 (zth j) ∈ zcs) ∧
  ∃ (i : Nat) (ix : Instr) (n1 r1 n2 r2 n3 r3 : Nat), zcd m h = some (ix, n1, r1) ∧ (ix = .astore i ∨ ∃ f : Fin 4, ix = .astore_n f ∧ f.val = i) ∧ i < nL ∧ zcd m n1 = some (.iconst v, n2, r2) ∧ zcd m n2 = some (.ireturn, n3, r3)
theorem zhd_at {m : Nat} {ke v : Int} (h1 : 266 ≤ m) (h2 : m < 287) (h : zhd m ke = some v) : (1 ≤ ke.toNat ∧ ke.toNat ≤ 3) ∧ (∀ (pc nx r a : Nat) (tags : List Nat) (maxL rt : Nat), zmi m = some (tags, maxL, rt) → zcd m pc = some (.invokevirtual a, nx, r) → zhw m pc ke.toNat v maxL) ∧ z32 v = v ∧ True := by
  unfold zhd at h
  cases hf : (zhp m).find? (fun q => decide (q.1 = ke)) with
  | none => rw [hf] at h; cases h
  | some q =>
    rw [hf] at h
    have e0 := List.find?_some hf
    have e1 : q.1 = ke := by simpa using e0
    have e2 : q.2 = v := Option.some.inj h
    subst e1
    subst e2
    have h3 := List.all_eq_true.mp (List.all_eq_true.mp zhd_dec m (List.mem_range'_1.mpr ⟨h1, by omega⟩)) q (List.mem_of_find?_eq_some hf)
    simp only [Bool.and_eq_true, decide_eq_true_eq] at h3
    obtain ⟨⟨⟨⟨b1, b2⟩, b3⟩, b4⟩, b5⟩ := h3
    refine ⟨by omega, fun pc nx r a tags maxL rt hmi hcd => ?_, z32_sm (by omega) (by omega), trivial⟩
    have hlt : pc < zbl m := by
      have h := hcd
      unfold zcd at h
      cases hb : (Nat.blt m 288 && Nat.blt pc (zbl m)) with
      | false => rw [hb] at h; cases h
      | true => rw [Bool.and_eq_true] at hb; exact Nat.le_of_ble_eq_true hb.2
    have h4 := List.all_eq_true.mp b5 pc (List.mem_range.mpr hlt)
    rw [hcd, hmi] at h4
    dsimp only at h4
    unfold zhwb at h4
    obtain ⟨s1, s2, s3⟩ := zsp_eq (k := q.1.toNat) (l := zhl m)
    cases hx : (zsp q.1.toNat (zhl m)).2 with
    | nil => rw [hx] at h4; cases h4
    | cons x rest =>
      rw [hx] at h4 s1 s3
      dsimp only at h4
      simp only [Bool.and_eq_true] at h4
      obtain ⟨⟨⟨c1, c2⟩, c3⟩, c4⟩ := h4
      have hk : zhk x.2.2.2 = q.1.toNat := s3 x rfl
      have hne : zhk x.2.2.2 ≠ 0 := by rw [hk]; omega
      obtain ⟨w1, w2, w3, w4⟩ := zhk_at hne
      rw [hk] at w1
      have cov : ∀ y : Nat × Nat × Nat × Nat, zcov y pc = true → y.1 ≤ pc ∧ pc < y.2.1 := fun y hy => by
        unfold zcov at hy
        rw [Bool.and_eq_true] at hy
        exact ⟨Nat.le_of_ble_eq_true hy.1, Nat.le_of_ble_eq_true hy.2⟩
      refine ⟨(zsp q.1.toNat (zhl m)).1, x.1, x.2.1, x.2.2.1, x.2.2.2, rest, s1, cov x c1, w4, w1, fun y hy => ?_, ?_⟩
      · have c5 := List.all_eq_true.mp c3 y hy
        rw [Bool.and_eq_true] at c5
        have c6 := Nat.le_of_ble_eq_true c5.2
        obtain ⟨u1, u2, u3, u4⟩ := zhk_at (ct := y.2.2.2) (by omega)
        exact ⟨cov y c5.1, u4, zhk y.2.2.2, u2, u3, fun z => s2 y hy z.symm, u1⟩
      · cases h6 : zcd m x.2.2.1 with
        | none => rw [h6] at c4; cases c4
        | some q6 =>
          obtain ⟨i6, n6, r6⟩ := q6
          rw [h6] at c4
          cases i6 <;> first | (cases c4; done) | skip
          all_goals (
            rename_i i
            dsimp only at c4
            rw [Bool.and_eq_true] at c4
            obtain ⟨c5, c6⟩ := c4
            cases h7 : zcd m n6 with
            | none => rw [h7] at c6; cases c6
            | some q7 =>
              obtain ⟨i7, n7, r7⟩ := q7
              rw [h7] at c6
              cases i7 <;> first | (cases c6; done) | skip
              rename_i u
              dsimp only at c6
              rw [Bool.and_eq_true] at c6
              obtain ⟨c7, c8⟩ := c6
              have c7 := of_decide_eq_true c7
              subst c7
              cases h8 : zcd m n7 with
              | none => rw [h8] at c8; cases c8
              | some q8 =>
                obtain ⟨i8, n8, r8⟩ := q8
                rw [h8] at c8
                cases i8 <;> first | (cases c8; done) | skip
                first
                  | exact ⟨i, _, n6, r6, n7, r7, n8, r8, rfl, Or.inl rfl, Nat.le_of_ble_eq_true c5, h7, h8⟩
                  | exact ⟨i.val, _, n6, r6, n7, r7, n8, r8, rfl, Or.inr ⟨i, rfl, rfl⟩, Nat.le_of_ble_eq_true c5, h7, h8⟩)
theorem zmap_split {α β : Type} {f : α → β} {l : List α} {pre : List β} {x : β} {rest : List β} (h : l.map f = pre ++ x :: rest) : ∃ l1 y l2, l = l1 ++ y :: l2 ∧ l1.map f = pre ∧ f y = x := by
  induction pre generalizing l with
  | nil =>
    cases l with
    | nil => cases h
    | cons y l2 =>
      simp only [List.map_cons, List.nil_append, List.cons.injEq] at h
      exact ⟨[], y, l2, rfl, rfl, h.1⟩
  | cons z pre ih =>
    cases l with
    | nil => cases h
    | cons y l2 =>
      simp only [List.map_cons, List.cons_append, List.cons.injEq] at h
      obtain ⟨l1, y', l3, e1, e2, e3⟩ := ih h.2
      exact ⟨y :: l1, y', l3, by rw [e1]; rfl, by rw [List.map_cons, e2, h.1], e3⟩
/-- a call of a method that throws, in a caller that catches -/
theorem zs_callVC (C : zCx p s mid args meth c m D cs E nL) (hT : zXT s E) (hl : meth.locks = false) (hr : meth.sig.returnType = some .int) (hh : c.exceptionTable.toList.map (fun h => (h.startPc, h.endPc, h.handlerPc, h.catchType)) = zhl m) (hcl : zcl (zcm m) = "DiskPoolLaw")
    {pc nx j r k : Nat} {tags : List Nat} {maxL rt : Nat} {cls : Array Slot} {ls : List zV} {a0 : zV} {as rest : List zV} {v : Int} {S S1 : zS} {rm : Room} (hL : zL E nL ls cls) (hc : zcd m pc = some (.invokevirtual j, nx, r)) (hr9 : r < 266) (hm : zmi r = some (tags, maxL, rt)) (htag : tags = (a0 :: as).map (fun w => w.1)) (hw : (rest.map zcat).sum ≤ 8)
    (hrm : rm.cells = 1 ∧ rm.slots = 6) (hR : rm.frames + 1 ≤ R.frames ∧ rm.locals + 8 + (maxL + 11) ≤ R.locals ∧ 1 ≤ R.cells ∧ 6 ≤ R.slots) (hk : 1 ≤ k ∧ k ≤ 3) (hw8 : zhw m pc k v nL) (hv : z32 v = v) (ht : 118 ≤ S1.1)
    (hM : zMetT l (zy r) (zws r) rm (zPcT D cs E (a0 :: as) S) (zQt D cs E k S1) (fun q => E.1 ≤ q)) : zK p l e R s mid args below meth c 0 0 (MQ below (zQc D cs E 0 v (S1.1 + 1, S1.2)) args s 1 6 (fun q => E.1 ≤ q)) D cs E cls pc ((a0 :: as).reverse ++ rest) S := by
  intro H locs hG hok T hTH X
  subst hTH
  obtain ⟨hx, hb, hml, hown, hts, hK, hnm, hdk, hX⟩ := C
  obtain ⟨hd, rfl, hik⟩ := zdec' (n := 2) hdk hc rfl
  simp only [zik, Bool.and_eq_true, Bool.or_eq_true, Bool.not_eq_true'] at hik
  rcases hik with z | ⟨⟨⟨hlk, -⟩, hst⟩, hin⟩
  · have := Nat.eq_of_beq_eq_true z; omega
  obtain ⟨g1, g2, g3, g4, g5, g6, -⟩ := zrow hr9 hm
  obtain ⟨g4, g7⟩ := g4 hst
  have ha0 : a0.1 = 20 + zcm r := by
    rw [htag] at g4
    exact Option.some.inj g4
  have hoa : zokv S.1 a0 := hok a0 (List.mem_append_left _ (List.mem_reverse.mpr List.mem_cons_self))
  obtain ⟨t0, o⟩ := a0
  dsimp only at ha0
  subst ha0
  obtain ⟨q, rfl, hq, hob⟩ := zok_o hoa (by omega) (by omega)
  have hwq := zW_at (E := E) (cs := cs) hq
  rw [zce_ob hob] at hwq
  have hv0 : zvl E (20 + zcm r, (q : Int)) = .ref (E.1 + q) := zvl_o (by omega) (by omega)
  have hlk := zw_m hlk
  rw [zyn_eq hr9] at hlk
  have hgood : GoodIn zcs (wsV (zcl (zcm m)) j (zcl (zcm r)) (zy r) (zws r)) := by
    intro w hw
    unfold wsV at hw
    rcases List.mem_append.mp hw with hw | hw
    · simp only [List.mem_cons, List.not_mem_nil, or_false] at hw
      rcases hw with rfl | rfl | rfl | rfl
      · exact ⟨hlk, Or.inl rfl⟩
      · exact ⟨zinst_in hr9 hst, Or.inl rfl⟩
      · exact ⟨zsel_in hr9 hst hin, Or.inl rfl⟩
      · exact ⟨zini_in g3, Or.inl rfl⟩
    · rcases zws_good (m := r) with z | z | z
      · exact z w hw
      · exact absurd hr9 z
      · rw [hm] at z; cases z
  have hlen : as.length = tags.length - 1 := by rw [htag, List.length_map, List.length_cons]; rfl
  obtain ⟨x, st₀, t, T', L, h0, hW0, X', hLL, e1, e2, hQ, st⟩ := zcallVT X hx (C := zcl (zcm r)) (b := E.1 + q) (As := as.map (zvl E)) (rest := rest.map (zvl E)) (g := F0 mid pc cls ((((20 + zcm r, (q : Int)) :: as).reverse ++ rest).map (zvl E))) (index := j) hown hM
    (cwV (C := zcl (zcm r)) (as.length) hts hgood (zws_eq hm) hrm.1 hrm.2 ⟨g1, by rw [g1]; exact (zcl_ne g3).1, by rw [g1]; exact (zcl_ne g3).2, by rw [g6, hst, hlen]; rfl⟩ ⟨hR.1, by have := hR.2.1; omega⟩)
    ⟨zPcT_blind, va_recv hK hG.1 (zcls_at g7) hwq, fun U hU hW => ⟨⟨by rw [List.map_cons, hv0], ⟨by rw [hU]; exact hG.1, hG.2.1, hG.2.2.2⟩, va_K.moved hW.alike hK, zX_kept hX hG.2.2.1 hU hW.alike⟩, zXT_at hT hG.2.2.1 hU hW⟩⟩
    rfl (List.length_map _) (hL.2.1.trans hml.symm) (by show List.map _ _ = _; rw [List.map_append, List.map_reverse, List.map_cons, List.reverse_cons, hv0, List.append_assoc]; rfl) (by rw [zsum E]; show 2 * 0 + (rest.map zcat).sum ≤ 8; omega) (by rw [hb]; exact hd) ⟨by have := hR.2.2.1; omega, by have := hR.2.2.2; omega⟩
  obtain ⟨⟨x', ce, ho, b1, b2, b3, b4⟩, ⟨hP, hD, hok3⟩, hF⟩ := hQ
  cases ho
  have hfx : s.vm.findClass (zth k) = some ce.cls := by rw [← hW0.alike.findClass]; exact b4
  have hpl : e.platform.magicAccessors = ({} : Platform).magicAccessors := by rw [X.admits.platform]
  obtain ⟨pre, a, b, hp, ct, rst, w1, w2, w3, w4, w5, i, ix, n1, r1, n2, r2, n3, r3, w6, w7, w8, w9, w10⟩ := hw8
  rw [w1] at hh
  obtain ⟨l1, y, l2, hsp, hm1, hy⟩ := zmap_split hh
  simp only [Prod.mk.injEq] at hy
  obtain ⟨y1, y2, y3, y4⟩ := hy
  rw [hcl] at hown
  obtain ⟨cx, hcx, hlx⟩ := Cond.classLink_spec hown (hts _ w4) e.platform hpl
  cases hfx.symm.trans hcx
  obtain ⟨vm', hW', hgo⟩ := zcaught X' x (g := { F0 mid pc cls ((((20 + zcm r, (q : Int)) :: as).reverse ++ rest).map (zvl E)) with stack := rest.map (zvl E) }) rfl (by rw [e1]; exact b2) b3 (Vm.classAt_of_findClass hfx) l1 y l2 hsp (cx := ce.cls) (by simp only [covers, y1, y2]; simp [w2.1, w2.2]) (by rw [y4]; exact w3) (by rw [y4]; exact hlx) (va_asg _ _) (fun z hz => by
      have hz1 : (z.startPc, z.endPc, z.handlerPc, z.catchType) ∈ pre := by rw [← hm1]; exact List.mem_map.mpr ⟨z, hz, rfl⟩
      obtain ⟨u1, u2, jj, u3, u4, u5, u6⟩ := w5 _ hz1
      obtain ⟨cy, hcy, hly⟩ := Cond.classLink_spec hown (hts _ u6) e.platform hpl
      obtain ⟨ck, cj, f1, f2, f3⟩ := hT.2.2.1 k jj hk.1 hk.2 u3 u4 u5
      cases hfx.symm.trans f1
      cases hcy.symm.trans f2
      exact ⟨by simp only [covers]; simp [u1.1, u1.2], u2, _, hly, f3⟩)
  rw [y3] at hgo
  have hS1 : va_S (fun q => E.1 ≤ q) s.heap T'.heap (locs ++ L) := by
    have hz := hF.1
    have hkept := hF.2
    rw [h0] at hz hkept
    refine ⟨Nat.le_trans hG.2.2.1.1 (by rw [e1]; exact hz), fun q h1 h2 => by rw [e1, hkept q (Nat.lt_of_lt_of_le h1 hG.2.2.1.1) h2]; exact hG.2.2.1.2.1 q h1 h2, fun q hq => ?_⟩
    rcases List.mem_append.mp hq with h | h
    · exact hG.2.2.1.2.2 q h
    · exact hLL q h
  have hWk : W p l e R s mid args below meth c T'.heap (locs ++ L) 1 6 (MQ below (zQc D cs E 0 v (S1.1 + 1, S1.2)) args s 1 6 (fun q => E.1 ≤ q)) (F0 mid hp cls [.ref x]) := by
    have fin : ∀ (cls' : Array Slot), W p l e R s mid args below meth c T'.heap (locs ++ L) 1 6 (MQ below (zQc D cs E 0 v (S1.1 + 1, S1.2)) args s 1 6 (fun q => E.1 ≤ q)) (F0 mid n1 cls' []) := by
      intro cls'
      obtain ⟨d1, rfl, -⟩ := zdec' (n := 0) hdk w9 rfl
      obtain ⟨d2, -, -⟩ := zdec' (n := 0) hdk w10 rfl
      refine lv_iconst hx hb d1 rfl ?_
      refine W.iret (v := Int32.ofInt v) hx hb hr (fun t' ht' _ => ⟨rfl, ⟨?_, ?_, hok3, Or.inl ⟨rfl, hv⟩⟩, hS1.F ht'⟩) hS1.2.2 d2
      · rw [ht', zW_late ht, e1]; exact hP
      · rw [zW_late ht]; exact hD
    rcases w7 with rfl | ⟨f, rfl, hf⟩
    · obtain ⟨d0, rfl, -⟩ := zdec' (n := 1) hdk w6 rfl
      exact lv_astore hx hb d0 (zL_has hL) w8 rfl (fun cls' _ => fin cls')
    · obtain ⟨d0, rfl, -⟩ := zdec' (n := 0) hdk w6 rfl
      exact lv_astore_n hx hb d0 hf (zL_has hL) w8 rfl (fun cls' _ => fin cls')
  obtain ⟨t2, c1, c2⟩ := hWk (T'.setVm vm') rfl (X'.noted hW')
  exact ⟨t2, st t2 (hgo t2 c1), c2⟩
end ZWRAP
section ZSIMW
variable {l : Launch} {md : Nat}
def zroomW (m mc : Nat) : Room := { frames := max (zrm m).1 (zrt m).1, cells := mc, slots := 6 * mc, locals := max (zrm m).2 (zrt m).2 }
/-- from there the machine goes as the small one does: in a caller -/
def zOKW (l : Launch) (m : Nat) (ls : List zV) (v : Int) (S' : zS) (pc : Nat) (st : List zV) (S : zS) : Prop :=
  ((S'.1 = S.1 ∨ S'.1 = S.1 + 1) ∧ S'.2.1 = S.2.1) ∧ ∀ (tags : List Nat) (maxL rt : Nat), zmi m = some (tags, maxL, rt) → ∀ (D : va_G) (cs : ClassId × ClassId × ClassId × ClassId) (E : zE) (p : Program) (e : Env) (s : State) (mid : MethodId) (args : Array Value) (below : List Frame) (meth : Method) (c : Code) (cls : Array Slot),
    zCx p s mid args meth c m D cs E maxL → meth.sig.returnType = some .int → meth.locks = false → c.exceptionTable.toList.map (fun h => (h.startPc, h.endPc, h.handlerPc, h.catchType)) = zhl m → zXT s E → zL E maxL ls cls → (∀ w ∈ ls, zokv S.1 w) →
    zK p l e (zroomW m (S'.1 - S.1)) s mid args below meth c 0 0 (MQ below (zQc D cs E 0 v S') args s (S'.1 - S.1) (6 * (S'.1 - S.1)) (fun q => E.1 ≤ q)) D cs E cls pc st S
theorem zOKW.step {m pc pc1 : Nat} {ls st st1 : List zV} {v : Int} {S S1 S' : zS} (h : zOKW l m ls v S' pc1 st1 S1) (ht : S1.1 = S.1 ∧ S1.2.1 = S.2.1)
    (k : ∀ (D : va_G) (cs : ClassId × ClassId × ClassId × ClassId) (E : zE) (p : Program) (e : Env) (s : State) (mid : MethodId) (args : Array Value) (below : List Frame) (meth : Method) (c : Code) (cls : Array Slot) (nL mc : Nat) (Q : State → Prop), zCx p s mid args meth c m D cs E nL → cls.size = nL →
      zK p l e (zroomW m mc) s mid args below meth c 0 0 Q D cs E cls pc1 st1 S1 → zK p l e (zroomW m mc) s mid args below meth c 0 0 Q D cs E cls pc st S) : zOKW l m ls v S' pc st S := by
  obtain ⟨⟨b1, b2⟩, b3⟩ := h
  rw [ht.1] at b1 b3
  refine ⟨⟨b1, b2.trans ht.2⟩, fun tags maxL rt hm D cs E p e s mid args below meth c cls C hr hl hh hXT hL hk => ?_⟩
  exact k D cs E p e s mid args below meth c cls maxL _ _ C hL.2.1 (b3 tags maxL rt hm D cs E p e s mid args below meth c cls C hr hl hh hXT hL hk)
theorem zcall_runW {n m r nx : Nat} {ls as rest : List zV} {S S' : zS} {v : Int} (h : zrun md n m nx ls S (.inl (.inr (.inr (.inr (.inl (r, as, rest)))))) = some (0, v, S')) : (∃ v1 S1, zex md n r 0 (zmkl r as) [] S = some (0, v1, S1) ∧ zex md n m nx ls (zpush r v1 rest) S1 = some (0, v, S')) ∨ ∃ ke v1 S1, ke ≠ 0 ∧ zex md n r 0 (zmkl r as) [] S = some (ke, v1, S1) ∧ zhd m ke = some v ∧ S' = (S1.1 + 1, S1.2) := by
  unfold zrun at h
  simp only [zfin] at h
  cases hF : zex md n r 0 (zmkl r as) [] S with
  | none => rw [hF] at h; cases h
  | some q =>
    obtain ⟨c, v1, S1⟩ := q
    rw [hF] at h
    dsimp only at h
    by_cases hc : c = 0
    · rw [if_pos hc] at h
      subst hc
      exact Or.inl ⟨v1, S1, rfl, h⟩
    · rw [if_neg hc] at h
      cases hh : zhd m c with
      | none =>
        rw [hh] at h
        simp only [Option.some.injEq, Prod.mk.injEq] at h
        exact absurd h.1 hc
      | some k =>
        rw [hh] at h
        simp only [Option.some.injEq, Prod.mk.injEq] at h
        obtain ⟨-, rfl, rfl⟩ := h
        exact Or.inr ⟨c, v1, S1, hc, rfl, hh, rfl⟩
set_option maxHeartbeats 1000000 in
/-- the runs of the law's callers -/
theorem zsimW (hlt : ∀ e : Env, l.admits e → e.platform.stackTraces = false) : ∀ (n m pc : Nat) (ls st : List zV) (S : zS) (v : Int) (S' : zS), 266 ≤ m → m < 287 → md ≤ S.1 → 118 ≤ S.1 → zex md n m pc ls st S = some (0, v, S') → zOKW l m ls v S' pc st S := by
  intro n
  induction n with
  | zero => intro m pc ls st S v S' _ _ _ _ h; cases h
  | succ n ih =>
    intro m pc ls st S v S' hm1 hm2 hmd h118 hx
    have hx : zone md (zex md n) m pc ls st S = some (0, v, S') := hx
    unfold zone at hx
    cases hcd : zcd m pc with
    | none => rw [hcd] at hx; cases hx
    | some q =>
    obtain ⟨i, nx, r⟩ := q
    rw [hcd] at hx
    dsimp only at hx
    obtain ⟨hd, hlt', hil, hik⟩ := zdec (zdk_okW hm1 hm2) hcd
    have hwi := zwi_at hm1 hm2 hcd
    cases hl : zlk i with
    | some q =>
      rw [hl] at hx
      dsimp only at hx
      cases hz : zloc q (zinc i) ls st with
      | none => rw [hz] at hx; cases hx
      | some w =>
        obtain ⟨ls', st'⟩ := w
        rw [hz] at hx
        have h1 := ih m nx ls' st' S v S' hm1 hm2 hmd h118 hx
        refine ⟨h1.1, fun tags maxL rt hmi D cs E p e s mid args below meth c cls C hr hlk hh hXT hL hk => ?_⟩
        intro H locs hG hok
        obtain ⟨o1, o2⟩ := zloc_ok hz hk hok
        exact zs_loc C hcd hl hz hL hk (fun cls' hL' => h1.2 tags maxL rt hmi D cs E p e s mid args below meth c cls' C hr hlk hh hXT hL' o1) H locs hG hok
    | none =>
      rw [hl] at hx
      dsimp only at hx
      cases hp : zpure md m i nx r st S with
      | none => rw [hp] at hx; cases hx
      | some N =>
      rw [hp] at hx
      have hx : zrun md n m nx ls S N = some (0, v, S') := by
        rcases N with N | ⟨g, N⟩ <;> exact hx
      have go : ∀ {pc1 : Nat} {st1 : List zV} {S1 : zS}, zex md n m pc1 ls st1 S1 = some (0, v, S') → S1.1 = S.1 → zOKW l m ls v S' pc1 st1 S1 := fun h ht => ih m _ ls _ _ v S' hm1 hm2 (by rw [ht]; exact hmd) (by rw [ht]; exact h118) h
      unfold zpure at hp
      cases i <;> first | (cases hwi; done) | (cases hl; done) | (dsimp only [zbin, zlb, zlsh] at hp)
      case iconst a =>
        cases zgo_inv hp
        exact (go hx rfl).step ⟨rfl, rfl⟩ (fun _ _ _ _ _ _ _ _ _ _ _ _ _ _ _ C _ k => zs_iconst C hcd k)
      case lconst a =>
        cases zgo_inv hp
        exact (go hx rfl).step ⟨rfl, rfl⟩ (fun _ _ _ _ _ _ _ _ _ _ _ _ _ _ _ C _ k => zs_lconst C hcd k)
      case goto a =>
        cases zgo_inv hp
        exact (go hx rfl).step ⟨rfl, rfl⟩ (fun _ _ _ _ _ _ _ _ _ _ _ _ _ _ _ C _ k => zs_goto C hcd k)
      case i2l =>
        rcases st with _ | ⟨⟨t, x⟩, rest⟩
        · cases hp
        · obtain ⟨h1, h2⟩ := zbif hp
          cases zb0 h1
          cases zgo_inv h2
          exact (go hx rfl).step ⟨rfl, rfl⟩ (fun _ _ _ _ _ _ _ _ _ _ _ _ _ _ _ C _ k => zs_i2l C hcd k)
      case ifCond cd off =>
        rcases st with _ | ⟨⟨t, x⟩, rest⟩
        · cases hp
        · obtain ⟨h1, h2⟩ := zbif hp
          cases zb0 h1
          cases zbr_inv h2
          by_cases hc : zcn cd x 0
          · have hx : zex md n m r ls rest S = some (0, v, S') := by simpa only [zrun, zfin, zpick, if_pos hc] using hx
            exact (go hx rfl).step ⟨rfl, rfl⟩ (fun _ _ _ _ _ _ _ _ _ _ _ _ _ _ _ C _ k => zs_if C hcd (fun _ => k) (fun z => absurd hc z))
          · have hx : zex md n m nx ls rest S = some (0, v, S') := by simpa only [zrun, zfin, zpick, if_neg hc] using hx
            exact (go hx rfl).step ⟨rfl, rfl⟩ (fun _ _ _ _ _ _ _ _ _ _ _ _ _ _ _ C _ k => zs_if C hcd (fun z => absurd z hc) (fun _ => k))
      case lastore =>
        rcases st with _ | ⟨⟨w, a⟩, _ | ⟨⟨t, j⟩, _ | ⟨⟨u, o⟩, rest⟩⟩⟩
        · cases hp
        · cases hp
        · cases hp
        · obtain ⟨h1, h2⟩ := zbif hp
          simp only [Bool.and_eq_true] at h1
          cases zlow h1.1.1; cases zb0 h1.1.2; cases zlow h1.2
          cases zgg_inv h2
          obtain ⟨hg, hx2⟩ := zrun_gg hx
          exact (go hx2 rfl).step ⟨rfl, rfl⟩ (fun _ _ _ _ _ _ _ _ _ _ _ _ _ _ _ C _ k => zs_last C hcd hg k)
      case ireturn =>
        obtain ⟨tags0, maxL0, hmi⟩ := zmi_W hm1 hm2
        rw [hmi] at hp
        rcases st with _ | ⟨⟨t, a⟩, _ | ⟨w, rest⟩⟩
        · cases hp
        · dsimp only at hp
          cases ht0 : Nat.beq t 0 with
          | false => rw [ht0] at hp; cases hp
          | true =>
            rw [ht0] at hp
            cases zb0 ht0
            cases hp
            cases hx
            refine ⟨⟨Or.inl rfl, rfl⟩, fun tags' maxL' rt' hm' D cs E p e s mid args below meth c cls C hr hlk hh hXT hL hk => ?_⟩
            rw [Nat.sub_self]
            exact zs_iret C hcd hr hlk
        · cases hp
      case invokevirtual a =>
        simp only [zik, Bool.and_eq_true, Bool.or_eq_true, Bool.not_eq_true'] at hik
        rcases hik with z | ⟨⟨⟨hlk, hr9⟩, hst⟩, hir⟩
        · have := zlow z
          subst this
          unfold zcall at hp
          cases hp
        · have hr9 : r < 266 := Nat.le_of_ble_eq_true hr9
          have h9 : Nat.ble 900 r = false := Bool.eq_false_iff.mpr (fun z => by have := Nat.le_of_ble_eq_true z; omega)
          obtain ⟨tags, maxL, rt, hmi, rfl, e1, e2, e3, e4⟩ := zcall_low h9 hp
          obtain ⟨f1, f2⟩ := zsplit e1
          rcases zcall_runW hx with ⟨v1, S1, c1, c2⟩ | ⟨ke, v1, S1, hk0, c1, hh1, rfl⟩
          · have h1 := zsim (l := l) n r 0 _ [] S v1 S1 hr9 hir hmd c1
            have h2 := ih m nx ls _ S1 v S' hm1 hm2 (by rw [h1.1.1]; exact hmd) (by rw [h1.1.1]; exact h118) c2
            refine h2.step h1.1 (fun D cs E p e s mid args below meth c cls nL mc Q C hcs k => ?_)
            intro H locs hG hok
            have hoka : ∀ w ∈ (st.take tags.length).reverse, zokv S.1 w := fun w hw => hok w (List.mem_of_mem_take (List.mem_reverse.mp hw))
            have hM := zmet_of (l := l) (D := D) (cs := cs) (E := E) (S := S) (S1 := S1) (v := v1) hr9 hmi f2 (fun p e s mid args below meth c cls C hr hlk hL => h1.2 tags maxL rt hmi D cs E p e s mid args below meth c cls C hr hlk hL (zmkl_ok hoka))
            cases has : (st.take tags.length).reverse with
            | nil =>
              rw [has] at f2
              have := ((zrow hr9 hmi).2.2.2.1 hst).1
              rw [f2] at this
              cases this
            | cons a0 as =>
              rw [has] at f1 f2 hM
              rw [f1]
              exact zs_callV (R := zroomW m mc) C hcs hcd hr9 hmi f2 e2 ⟨Nat.le_trans e3 (Nat.le_max_left _ _), Nat.le_trans e4 (Nat.le_max_left _ _)⟩ h1.1.1 ⟨Nat.zero_le _, Nat.zero_le _⟩ hM k H locs hG (by rw [← f1]; exact hok)
          · have h1 := zsimT (l := l) hlt n r 0 _ [] S ke v1 S1 hr9 hir hmd hk0 c1
            obtain ⟨k1, k2, k3, k4⟩ := zhd_at hm1 hm2 hh1
            have ht1 : S1.1 = S.1 := h1.2.1.1
            refine ⟨⟨Or.inr (by show S1.1 + 1 = _; rw [ht1]), h1.2.1.2⟩, fun tags' maxL' rt' hm' D cs E p e s mid args below meth c cls C hr hlk hh hXT hL hk => ?_⟩
            have hmc : (S1.1 + 1, S1.2).1 - S.1 = 1 := by show S1.1 + 1 - S.1 = 1; omega
            rw [hmc]
            intro H locs hG hok
            have hoka : ∀ w ∈ (st.take tags.length).reverse, zokv S.1 w := fun w hw => hok w (List.mem_of_mem_take (List.mem_reverse.mp hw))
            have hM := zmetT_of (l := l) (D := D) (cs := cs) (E := E) (S := S) (S1 := S1) (k := ke.toNat) (rm := zroomT r) hr9 hmi f2 (fun p e s mid args below meth c cls C hlk hemp hXT hL => h1.2.2 tags maxL rt hmi D cs E p e s mid args below meth c cls C hlk hemp hXT hL (zmkl_ok hoka))
            obtain ⟨t1, t2⟩ := zct_W hm1 hm2 hcd hmi h1.1
            cases has : (st.take tags.length).reverse with
            | nil =>
              rw [has] at f2
              have := ((zrow hr9 hmi).2.2.2.1 hst).1
              rw [f2] at this
              cases this
            | cons a0 as =>
              rw [has] at f1 f2 hM
              rw [f1]
              refine zs_callVC (R := zroomW m 1) C hXT hlk hr hh (zcl_W hm1 hm2) hL hcd hr9 hmi f2 e2 ⟨rfl, rfl⟩ ⟨(zroomT_call e3 e4 t1 t2).1, (zroomT_call e3 e4 t1 t2).2.1, Nat.le_refl _, Nat.le_refl _⟩ k1 (k2 pc nx r a tags' maxL' rt' hm' hcd) k3 (by rw [ht1]; exact h118) hM H locs hG (by rw [← f1]; exact hok)
end ZSIMW
