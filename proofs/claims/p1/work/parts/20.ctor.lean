/-! Constructors, whole. -/
def zsz (S : zS) (o : Nat) : Nat := bif Nat.ble 20 (zob o) then (zfb (zob o - 20)).2 else (S.2.1 o).toNat
def zus (S : zS) : Nat := ((List.range (zno S.1)).map (zsz S)).sum
def zroomC (m mc ms : Nat) : Room := { frames := (zrm m).1, cells := mc, slots := ms, locals := (zrm m).2 }
theorem zus_same {S S1 : zS} (h1 : zno S1.1 = zno S.1) (h2 : S1.2.1 = S.2.1) : zus S1 = zus S := by
  unfold zus
  rw [h1]
  congr 1
  exact List.map_congr_left (fun q _ => by unfold zsz; rw [h2])
theorem zus_new {S S1 : zS} (h1 : zno S1.1 = zno S.1 + 1) (h2 : ∀ q : Nat, q < zno S.1 → S1.2.1 q = S.2.1 q) : zus S1 = zus S + zsz S1 (zno S.1) := by
  unfold zus
  rw [h1, List.range_succ, List.map_append, List.sum_append]
  have e1 : (List.range (zno S.1)).map (zsz S1) = (List.range (zno S.1)).map (zsz S) := List.map_congr_left (fun q hq => by unfold zsz; rw [h2 q (List.mem_range.mp hq)])
  rw [e1]
  simp
theorem zoi1 : Cond.instanceMethod Lib.objectInit ∈ zcs := by decide +kernel
theorem zoi2 : Cond.code Lib.objectInit ⟨#[0xb1]⟩ 1 none ∈ zcs := by decide +kernel
section ZCON4
variable {p : Program} {l : Launch} {e : Env} {R : Room} {s : State} {mid : MethodId} {args : Array Value} {below : List Frame} {meth : Method} {c : Code} {cells slots : Nat} {Q : State → Prop}
variable {m nL : Nat} {D : va_G} {cs : ClassId × ClassId × ClassId × ClassId} {E : zE}
theorem zs_oinit (C : zCx p s mid args meth c m D cs E nL) {pc nx j : Nat} {cls : Array Slot} {a : zV} {rest : List zV} {S : zS} (hcs : cls.size = nL) (hR : 1 ≤ R.frames ∧ 32 ≤ R.locals) (hw : (rest.map zcat).sum ≤ 8) (hc : zcd m pc = some (.invokespecial j, nx, 900)) (ha : 20 ≤ a.1)
    (k : zK p l e R s mid args below meth c cells slots Q D cs E cls nx rest S) : zK p l e R s mid args below meth c cells slots Q D cs E cls pc (a :: rest) S := by
  intro H locs hG hok
  obtain ⟨hx, hb, hml, hown, hts, hK, hnm, hdk, hX⟩ := C
  obtain ⟨hd, rfl, hik⟩ := zdec' (n := 2) hdk hc rfl
  simp only [zik, Bool.and_eq_true, Bool.or_eq_true] at hik
  rcases hik with z | ⟨⟨hlk, -⟩, -⟩
  · cases z
  obtain ⟨q, hq⟩ := zvl_ref (E := E) (v := a) (Nat.le_trans (by decide) ha)
  simp only [List.map_cons, hq]
  refine W.objInit hx hb hown (hts _ (zw_m hlk)) (hts _ zoi1) (hts _ zoi2) rfl (hcs.trans hml.symm) rfl hd hR.1 ?_ (k H locs hG (zcons hok).2)
  rw [zsum E]
  show 2 * 0 + (rest.map zcat).sum + 12 ≤ _
  have := hR.2
  omega
theorem zs_vretC (C : zCx p s mid args meth c m D cs E nL) {pc nx r : Nat} {cls : Array Slot} {S : zS} (hc : zcd m pc = some (.return_, nx, r)) (hr : meth.sig.returnType = none) (hl : meth.locks = false) :
    zK p l e R s mid args below meth c cells slots (MQ below (zQc D cs E 8 0 S) args s cells slots (fun q => E.1 ≤ q)) D cs E cls pc [] S := by
  intro H locs hG hok
  obtain ⟨hx, hb, hml, hown, hts, hK, hnm, hdk, hX⟩ := C
  obtain ⟨hd, rfl, hik⟩ := zdec' (n := 0) hdk hc rfl
  exact W.vret hx hb hr (fun t ht _ => ⟨rfl, ⟨by rw [ht]; exact hG.1, hG.2.1, hG.2.2.2, Or.inl ⟨rfl, by decide⟩⟩, hG.2.2.1.F ht⟩) hG.2.2.1.2.2 hd
/-- a constructor's start -/
def zPcC (D : va_G) (cs : ClassId × ClassId × ClassId × ClassId) (E : zE) (as : List zV) (S : zS) : Array Value → State → Prop := va_Pc (as.map (zvl E)) (fun U => zB D cs E S U ∧ U.heap.size = E.1 + zno S.1)
theorem zPcC_blind {as : List zV} {S : zS} : FrameBlind (zPcC D cs E as S) := by
  rintro a U g mk ⟨q0, ⟨q1, q2, q3⟩, q4⟩
  exact ⟨q0, ⟨q1, va_K.moved (u := U) (U := U.calling g mk a) (Vm.Alike.refl U.vm) q2, zX_kept (locs := []) q3 va_S.rf rfl (Vm.Alike.refl U.vm)⟩, q4⟩
theorem zcontC {H : Heap} {locs : List Loc} {pc mc ms : Nat} {v : Int} {cls : Array Slot} {st0 rest : List Value} {S S1 : zS} {a : Array Value}
    (hr : va_Run p l e R s mid args below meth c H locs cells slots mc ms (F0 mid pc cls st0) rest (zQc D cs E 8 v S1 a) (fun q => E.1 ≤ q)) (hG : zG D cs E s.heap S H locs)
    (kk : ∀ (H1 : Heap) (locs1 : List Loc), zG D cs E s.heap S1 H1 locs1 → W p l e R s mid args below meth c H1 locs1 (cells + mc) (slots + ms) Q (F0 mid (pc + 3) cls rest)) : W p l e R s mid args below meth c H locs cells slots Q (F0 mid pc cls st0) := by
  intro T hT X
  obtain ⟨v', st₀, t, T', L, h0, X', hL, e1, e2, ⟨hv, ⟨hP, hD, hk, hov⟩, hz, hkept⟩, st⟩ := hr T hT X
  cases hv
  rw [h0] at hz hkept
  obtain ⟨t2, a1, b1⟩ := kk T'.heap (locs ++ L) ⟨by rw [e1]; exact hP, hD, ⟨Nat.le_trans hG.2.2.1.1 (by rw [e1]; exact hz), fun q h1 h2 => by rw [e1, hkept q (Nat.lt_of_lt_of_le h1 hG.2.2.1.1) h2]; exact hG.2.2.1.2.1 q h1 h2, fun q hq => by
      rcases List.mem_append.mp hq with h | h
      · exact hG.2.2.1.2.2 q h
      · exact hL q h⟩, hk⟩ T' rfl X'
  exact ⟨t2, st t2 a1, b1⟩
theorem zs_callI (C : zCx p s mid args meth c m D cs E nL) {pc nx j r k0 mc ms : Nat} {tags : List Nat} {maxL : Nat} {cls : Array Slot} {a0 : zV} {as rest : List zV} {v : Int} {S S1 : zS} (hcs : cls.size = nL) (hc : zcd m pc = some (.invokespecial j, nx, r)) (hr9 : r < 266) (hir : zini r = true) (hm : zmi r = some (tags, maxL, 8)) (htag : tags = (a0 :: as).map (fun w => w.1)) (hw : (rest.map zcat).sum ≤ 8) (hR : (zrm r).1 + 1 ≤ R.frames ∧ (zrm r).2 + 8 + (maxL + 11) ≤ R.locals) (ht : S.1 ≤ S1.1) (hcl : cells + mc ≤ R.cells ∧ slots + ms ≤ R.slots)
    (hs0 : s.heap.size = E.1 + k0) (hk0 : k0 ≤ zno S.1) (hcells : cells + k0 = zno S.1)
    (hM : Met l (zy r) (zws r) (zroomC r mc ms) (zPcC D cs E (a0 :: as) S) (zQc D cs E 8 v S1) mc ms (fun q => E.1 ≤ q))
    (k : zK p l e R s mid args below meth c (cells + mc) (slots + ms) Q D cs E cls nx rest S1) : zK p l e R s mid args below meth c cells slots Q D cs E cls pc ((a0 :: as).reverse ++ rest) S := by
  intro H locs hG hok T hT X
  have hsz := zsize hG hs0 hk0 hcells hT X
  obtain ⟨hx, hb, hml, hown, hts, hK, hnm, hdk, hX⟩ := C
  obtain ⟨hd, rfl, hik⟩ := zdec' (n := 2) hdk hc rfl
  simp only [zik, Bool.and_eq_true, Bool.or_eq_true] at hik
  have hlk : zin4 zLm (zcm m) j r = true := by
    rcases hik with z | z
    · have := Nat.eq_of_beq_eq_true z; omega
    · exact z.1.1
  obtain ⟨g1, g2, g3, g4, g5, g6, g8⟩ := zrow hr9 hm
  have hst : zst r = false := by
    cases hz : zst r with
    | false => rfl
    | true => exact absurd ⟨hz, hir⟩ g8
  obtain ⟨g4, g7⟩ := g4 hst
  have ha0 : a0.1 = 20 + zcm r := by
    rw [htag] at g4
    exact Option.some.inj g4
  have hoa : zokv S.1 a0 := hok a0 (List.mem_append_left _ (List.mem_reverse.mpr List.mem_cons_self))
  have hrest : ∀ w ∈ rest, zokv S.1 w := fun w hw => hok w (List.mem_append_right _ hw)
  obtain ⟨q, hq⟩ := zvl_ref (E := E) (v := a0) (by rw [ha0]; exact Nat.le_trans (by decide) (Nat.le_add_right _ _))
  have hlk := zw_m hlk
  rw [zyn_eq hr9] at hlk
  have hgood : GoodIn zcs (zws r) := by
    rcases zws_good (m := r) with z | z | z
    · exact z
    · exact absurd hr9 z
    · rw [hm] at z; cases z
  have hlen : as.length = tags.length - 1 := by rw [htag, List.length_map, List.length_cons]; rfl
  have h9 := List.all_eq_true.mp zin_ok r (List.mem_range.mpr (Nat.lt_of_lt_of_le hr9 (by decide)))
  simp only [hir, Bool.not_true, Bool.false_or, decide_eq_true_eq] at h9
  have hrun := va_runI (p := p) (l := l) (e := e) (R := R) (s := s) (m := mid) (args := args) (below := below) (meth := meth) (c := c) (H := H) (locs := locs) (cells := cells) (slots := slots) (b := q) (As := as.map (zvl E)) (rest := rest.map (zvl E)) (g := F0 mid pc cls (((a0 :: as).reverse ++ rest).map (zvl E))) (index := j) (nL := nL)
    ⟨hx, hb, hml, hown, hts⟩ hM ⟨callB_of (as.length) hts hgood (zws_eq hm) rfl rfl (by rw [g1]; exact hts _ (zini_in g3)) (hts _ hlk) ⟨by rw [g1]; exact (zcl_ne g3).1, by rw [g1]; exact (zcl_ne g3).2, by rw [g6, hst, hlen]; rfl⟩ ⟨hR.1, by show 8 + (maxL + 11) + (zrm r).2 ≤ _; have := hR.2; omega⟩, h9, hts _ (zinst_in hr9 hst)⟩
    ⟨zPcC_blind, fun U hU hW => ⟨by rw [List.map_cons, hq], ⟨⟨by rw [hU]; exact hG.1, hG.2.1, hG.2.2.2⟩, va_K.moved hW.alike hK, zX_kept hX hG.2.2.1 hU hW.alike⟩, by rw [hU]; exact hsz⟩⟩
    rfl (List.length_map _) hcs (by show List.map _ _ = _; rw [List.map_append, List.map_reverse, List.map_cons, List.reverse_cons, hq, List.append_assoc]; rfl) (by rw [zsum E]; show 2 * 0 + (rest.map zcat).sum ≤ 8; omega) hd hcl
  refine (zcontC hrun hG (fun H1 locs1 hG1 => ?_) : W p l e R s mid args below meth c H locs cells slots Q (F0 mid pc cls (((a0 :: as).reverse ++ rest).map (zvl E)))) T hT X
  exact k H1 locs1 hG1 (fun w hw => zokv_le (hrest w hw) ht)
/-- a constructor's contract out of its walk -/
theorem zmetC_of {r mc ms : Nat} {tags : List Nat} {maxL rt : Nat} {as : List zV} {S S1 : zS} {v : Int} (hr9 : r < 266) (hm : zmi r = some (tags, maxL, rt)) (htag : tags = as.map (fun w => w.1))
    (body : ∀ (p : Program) (e : Env) (s : State) (mid : MethodId) (args : Array Value) (below : List Frame) (meth : Method) (c : Code) (cls : Array Slot), s.heap.size = E.1 + zno S.1 → zCx p s mid args meth c r D cs E maxL → meth.sig.returnType = zrty rt → meth.locks = false → zL E maxL (zmkl r as) cls → zK p l e (zroomC r mc ms) s mid args below meth c 0 0 (MQ below (zQc D cs E rt v S1) args s mc ms (fun q => E.1 ≤ q)) D cs E cls 0 [] S) :
    Met l (zy r) (zws r) (zroomC r mc ms) (zPcC D cs E as S) (zQc D cs E rt v S1) mc ms (fun q => E.1 ≤ q) := by
  obtain ⟨g1, g2, g3, g4, g5, g6, -⟩ := zrow hr9 hm
  refine Met.ofW (cc := zb r) (maxL := maxL) (ret := zrty rt) (by rw [g1]; exact g2) (zws_eq hm) ?_
  intro p e s mid args below meth c s₁ B hml hv
  obtain ⟨rfl, ⟨⟨hP, hD, hk⟩, hK, hX⟩, hsz⟩ := hv
  have hts0 := atoms_spec (ws := zws r) B.pre
  have hown : s.vm.findClass (zcl (zcm r)) = some mid.cls := by
    have := findClass_of_methodNamed B.named
    rwa [g1] at this
  have hl := lv_entry (as.map (zvl E)) (n := maxL) (by rw [zargs_len, ← htag]; exact g5)
  rw [lg_entry_eq]
  generalize (lg_sl (as.map (zvl E)) ++ List.replicate (maxL - (lg_sl (as.map (zvl E))).length) Slot.unset).toArray = cls at hl ⊢
  have hmk : zmkl r as = zpad maxL (zargs as) := by unfold zmkl; rw [hm]
  refine body p e s mid _ below meth c cls hsz ⟨B.exec, B.bytes, hml, hown, fun w hw => hts0 w (List.mem_cons_of_mem _ hw), hK, (name_of_methodNamed B.named B.method).1, zdk_ok hr9, hX⟩ B.returns B.notSynchronized ⟨by rw [hmk, zpad_len], hl.1, hl.2.1, fun i w hi h9 => ?_⟩ s.heap [] ⟨hP, hD, va_S.rf, hk⟩ (fun _ h => by cases h)
  rw [hmk] at hi
  have := zargs_mem (E := E) as 0 i w (zpad_get _ _ i w hi h9) h9
  rw [Nat.zero_add] at this
  exact hl.2.2 _ this
end ZCON4
