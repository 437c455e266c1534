section ZSIM7
variable {p : Program} {l : Launch} {e : Env} {R : Room} {s : State} {mid : MethodId} {args : Array Value} {below : List Frame} {meth : Method} {c : Code} {Q : State → Prop}
variable {m nL cells slots : Nat} {D : va_G} {cs : ClassId × ClassId × ClassId × ClassId} {E : zE}
/-- behind a call -/
theorem zcont {H : Heap} {locs : List Loc} {pc rt : Nat} {v : Int} {cls : Array Slot} {st0 rest : List Value} {S S1 : zS} {a : Array Value}
    (hr : va_Run p l e R s mid args below meth c H locs cells slots 0 0 (F0 mid pc cls st0) rest (zQc D cs E rt v S1 a) (fun q => E.1 ≤ q)) (hG : zG D cs E s.heap S H locs)
    (kk : ∀ (H1 : Heap) (locs1 : List Loc), zG D cs E s.heap S1 H1 locs1 → zokv S1.1 (bif Nat.beq rt 1 then 1 else 0, v) → W p l e R s mid args below meth c H1 locs1 cells slots Q (F0 mid (pc + 3) cls ((bif Nat.beq rt 8 then none else some (zvl E (bif Nat.beq rt 1 then 1 else 0, v))).toList ++ rest))) : W p l e R s mid args below meth c H locs cells slots Q (F0 mid pc cls st0) := by
  intro T hT X
  obtain ⟨v', st₀, t, T', L, h0, X', hL, e1, e2, ⟨hv, ⟨hP, hD, hk, hov⟩, hz, hkept⟩, st⟩ := hr T hT X
  cases hv
  rw [h0] at hz hkept
  obtain ⟨t2, a1, b1⟩ := kk T'.heap (locs ++ L) ⟨by rw [e1]; exact hP, hD, ⟨Nat.le_trans hG.2.2.1.1 (by rw [e1]; exact hz), fun q h1 h2 => by rw [e1, hkept q (Nat.lt_of_lt_of_le h1 hG.2.2.1.1) h2]; exact hG.2.2.1.2.1 q h1 h2, fun q hq => by
      rcases List.mem_append.mp hq with h | h
      · exact hG.2.2.1.2.2 q h
      · exact hL q h⟩, hk⟩ hov T' rfl X'
  exact ⟨t2, st t2 a1, b1⟩
theorem zrow {r : Nat} (hr : r < 266) {tags : List Nat} {maxL rt : Nat} (hm : zmi r = some (tags, maxL, rt)) : (zy r).cls = zcl (zcm r) ∧ plainName (zcl (zcm r)) = true ∧ zcm r < 12 ∧ (zst r = false → tags.head? = some (20 + zcm r) ∧ zcm r < 10) ∧ (tags.map (fun t => bif Nat.beq t 1 then 2 else 1)).sum ≤ maxL ∧ (parseMethodDescriptor (zy r).desc).map (fun d => d.parameters.length) = some (tags.length - (bif zst r then 0 else 1)) ∧ ¬ (zst r = true ∧ zini r = true) := by
  have h1 := List.all_eq_true.mp zyc_ok r (List.mem_range.mpr hr)
  rw [hm] at h1
  simp only [Bool.and_eq_true, decide_eq_true_eq, Bool.or_eq_true, Bool.not_eq_true'] at h1
  obtain ⟨⟨⟨⟨a0, a1⟩, a2⟩, a3⟩, ⟨⟨⟨a4, a5⟩, a6⟩, a7⟩⟩ := h1
  refine ⟨a1, a2, Nat.le_of_ble_eq_true a3, fun z => ⟨?_, ?_⟩, Nat.le_of_ble_eq_true a5, a6, fun z => ?_⟩
  · rcases a4 with q | q
    · rw [z] at q; cases q
    · exact q
  · rcases a7 with q | q
    · rw [z] at q; cases q
    · exact Nat.le_of_ble_eq_true q
  · rw [z.1, z.2] at a0; cases a0
theorem zws_eq {r : Nat} {tags : List Nat} {maxL rt : Nat} (hm : zmi r = some (tags, maxL, rt)) : zws r = Cond.code (zy r) (zb r) maxL (zrty rt) :: zcs := by unfold zws zcw; rw [hm]
theorem zcl_ne {k : Nat} (h : k < 12) : zcl k ≠ "java/lang/invoke/MethodHandle" ∧ zcl k ≠ "java/lang/invoke/VarHandle" := by
  have h1 := List.all_eq_true.mp zcl_ok k (List.mem_range.mpr h)
  simpa only [Bool.and_eq_true, decide_eq_true_eq] using h1
theorem zini_in {k : Nat} (h : k < 12) : Cond.initialized (zcl k) ∈ zcs := by
  have h1 := List.all_eq_true.mp zpn_ok k (List.mem_range.mpr h)
  simp only [decide_eq_true_eq] at h1
  exact zin_cs h1 rfl
theorem zinst_in {r : Nat} (h : r < 266) (hs : zst r = false) : Cond.instanceMethod (zy r) ∈ zcs := by
  have h1 := List.all_eq_true.mp zpi_ok r (List.mem_range.mpr h)
  simp only [hs, Bool.false_or, decide_eq_true_eq] at h1
  exact zin_cs h1 rfl
theorem zstat_in {r : Nat} (h : r < 266) (hs : zst r = true) : Cond.static (zy r) ∈ zcs := by
  have h1 := List.all_eq_true.mp zps_ok r (List.mem_range.mpr h)
  simp only [hs, Bool.not_true, Bool.false_or, decide_eq_true_eq] at h1
  exact zin_cs h1 rfl
theorem zsel_in {r : Nat} (h : r < 266) (hs : zst r = false) (hi : zini r = false) : Cond.selects (zcl (zcm r)) (zy r) (zy r) ∈ zcs := by
  have h1 := List.all_eq_true.mp zpl_ok r (List.mem_range.mpr h)
  simp only [hs, hi, Bool.false_or, decide_eq_true_eq] at h1
  exact zin_cs h1 rfl
theorem zyn_eq {r : Nat} (h : r < 266) : zyn r = zy r := by
  unfold zyn
  have hn : ∀ k, 266 ≤ k → Nat.beq r k = false := fun k hk => Bool.eq_false_iff.mpr (fun z => by have := Nat.eq_of_beq_eq_true z; omega)
  rw [hn 900 (by decide), hn 901 (by decide), hn 902 (by decide), hn 903 (by decide)]
  rfl
theorem zpush_map {r : Nat} {tags : List Nat} {maxL rt : Nat} {v : Int} {rest : List zV} (hm : zmi r = some (tags, maxL, rt)) : (zpush r v rest).map (zvl E) = (bif Nat.beq rt 8 then none else some (zvl E (bif Nat.beq rt 1 then 1 else 0, v))).toList ++ rest.map (zvl E) := by
  unfold zpush
  rw [hm]
  dsimp only
  cases Nat.beq rt 8 with
  | true => rfl
  | false => rfl
theorem zpush_ok {t r : Nat} {tags : List Nat} {maxL rt : Nat} {v : Int} {rest : List zV} (hm : zmi r = some (tags, maxL, rt)) (h : ∀ w ∈ rest, zokv t w) (hv : zokv t (bif Nat.beq rt 1 then 1 else 0, v)) : ∀ w ∈ zpush r v rest, zokv t w := by
  unfold zpush
  rw [hm]
  dsimp only
  cases Nat.beq rt 8 with
  | true => exact h
  | false => exact zcons' hv h
theorem zs_callV (C : zCx p s mid args meth c m D cs E nL) {pc nx j r : Nat} {tags : List Nat} {maxL rt : Nat} {cls : Array Slot} {a0 : zV} {as rest : List zV} {v : Int} {S S1 : zS} (hcs : cls.size = nL) (hc : zcd m pc = some (.invokevirtual j, nx, r)) (hr9 : r < 266) (hm : zmi r = some (tags, maxL, rt)) (htag : tags = (a0 :: as).map (fun w => w.1)) (hw : (rest.map zcat).sum ≤ 8) (hR : (zrm r).1 + 1 ≤ R.frames ∧ (zrm r).2 + 8 + (maxL + 11) ≤ R.locals) (ht : S1.1 = S.1) (hcl : cells ≤ R.cells ∧ slots ≤ R.slots)
    (hM : Met l (zy r) (zws r) (zroom r) (zPc D cs E (a0 :: as) S) (zQc D cs E rt v S1) 0 0 (fun q => E.1 ≤ q))
    (k : zK p l e R s mid args below meth c cells slots Q D cs E cls nx (zpush r v rest) S1) : zK p l e R s mid args below meth c cells slots Q D cs E cls pc ((a0 :: as).reverse ++ rest) S := by
  intro H locs hG hok
  obtain ⟨hx, hb, hml, hown, hts, hK, hnm, hdk, hX⟩ := C
  obtain ⟨hd, rfl, hik⟩ := zdec' (n := 2) hdk hc rfl
  simp only [zik, Bool.and_eq_true, Bool.or_eq_true, Bool.not_eq_true'] at hik
  rcases hik with z | ⟨⟨⟨hlk, -⟩, hst⟩, hin⟩
  · have := Nat.eq_of_beq_eq_true z; omega
  obtain ⟨g1, g2, g3, g4, g5, g6, -⟩ := zrow hr9 hm
  obtain ⟨g4, g7⟩ := g4 hst
  have ha0 : a0.1 = 20 + zcm r := by
    rw [htag] at g4
    exact Option.some.inj g4
  have hoa : zokv S.1 a0 := hok a0 (List.mem_append_left _ (List.mem_reverse.mpr List.mem_cons_self))
  have hrest : ∀ w ∈ rest, zokv S.1 w := fun w hw => hok w (List.mem_append_right _ hw)
  obtain ⟨t0, o⟩ := a0
  dsimp only at ha0
  subst ha0
  obtain ⟨q, rfl, hq, hob⟩ := zok_o hoa (by omega) (by omega)
  have hwq := zW_at (E := E) (cs := cs) hq
  rw [zce_ob hob] at hwq
  have hv0 : zvl E (20 + zcm r, (q : Int)) = .ref (E.1 + q) := zvl_o (by omega) (by omega)
  have hlk := zw_m hlk
  rw [zyn_eq hr9] at hlk
  have hgood : GoodIn zcs (wsV (zcl (zcm m)) j (zcl (zcm r)) (zy r) (zws r)) := by
    intro w hw
    unfold wsV at hw
    rcases List.mem_append.mp hw with hw | hw
    · simp only [List.mem_cons, List.not_mem_nil, or_false] at hw
      rcases hw with rfl | rfl | rfl | rfl
      · exact ⟨hlk, Or.inl rfl⟩
      · exact ⟨zinst_in hr9 hst, Or.inl rfl⟩
      · exact ⟨zsel_in hr9 hst hin, Or.inl rfl⟩
      · exact ⟨zini_in g3, Or.inl rfl⟩
    · rcases zws_good (m := r) with z | z | z
      · exact z w hw
      · exact absurd hr9 z
      · rw [hm] at z; cases z
  have hlen : as.length = tags.length - 1 := by rw [htag, List.length_map, List.length_cons]; rfl
  have hrun := va_runV (p := p) (l := l) (e := e) (R := R) (s := s) (m := mid) (args := args) (below := below) (meth := meth) (c := c) (H := H) (locs := locs) (cells := cells) (slots := slots) (C := zcl (zcm r)) (b := E.1 + q) (As := as.map (zvl E)) (rest := rest.map (zvl E)) (g := F0 mid pc cls ((((20 + zcm r, (q : Int)) :: as).reverse ++ rest).map (zvl E))) (index := j) (nL := nL)
    ⟨hx, hb, hml, hown, hts⟩ hM (cwV (C := zcl (zcm r)) (as.length) hts hgood (zws_eq hm) rfl rfl ⟨g1, by rw [g1]; exact (zcl_ne g3).1, by rw [g1]; exact (zcl_ne g3).2, by rw [g6, hst, hlen]; rfl⟩ ⟨hR.1, by show 8 + (maxL + 11) + (zrm r).2 ≤ _; omega⟩)
    ⟨zPc_blind, va_recv hK hG.1 (zcls_at g7) hwq, fun U hU hW => ⟨by rw [List.map_cons, hv0], ⟨by rw [hU]; exact hG.1, hG.2.1, hG.2.2.2⟩, va_K.moved hW.alike hK, zX_kept hX hG.2.2.1 hU hW.alike⟩⟩
    rfl (List.length_map _) hcs (by show List.map _ _ = _; rw [List.map_append, List.map_reverse, List.map_cons, List.reverse_cons, hv0, List.append_assoc]; rfl) (by rw [zsum E]; show 2 * 0 + (rest.map zcat).sum ≤ 8; omega) hd hcl
  refine zcont hrun hG (fun H1 locs1 hG1 hov => ?_)
  have := k H1 locs1 hG1 (zpush_ok hm (by rw [ht]; exact hrest) hov)
  rw [zpush_map hm] at this
  exact this
theorem zs_callS (C : zCx p s mid args meth c m D cs E nL) {pc nx j r : Nat} {tags : List Nat} {maxL rt : Nat} {cls : Array Slot} {as rest : List zV} {v : Int} {S S1 : zS} (hcs : cls.size = nL) (hc : zcd m pc = some (.invokestatic j, nx, r)) (hr9 : r < 266) (hm : zmi r = some (tags, maxL, rt)) (htag : tags = as.map (fun w => w.1)) (hw : (rest.map zcat).sum ≤ 8) (hR : (zrm r).1 + 1 ≤ R.frames ∧ (zrm r).2 + 8 + (maxL + 11) ≤ R.locals) (ht : S1.1 = S.1) (hcl : cells ≤ R.cells ∧ slots ≤ R.slots)
    (hM : Met l (zy r) (zws r) (zroom r) (zPc D cs E as S) (zQc D cs E rt v S1) 0 0 (fun q => E.1 ≤ q))
    (k : zK p l e R s mid args below meth c cells slots Q D cs E cls nx (zpush r v rest) S1) : zK p l e R s mid args below meth c cells slots Q D cs E cls pc (as.reverse ++ rest) S := by
  intro H locs hG hok
  obtain ⟨hx, hb, hml, hown, hts, hK, hnm, hdk, hX⟩ := C
  obtain ⟨hd, rfl, hik⟩ := zdec' (n := 2) hdk hc rfl
  simp only [zik, Bool.and_eq_true, Bool.or_eq_true, Bool.not_eq_true'] at hik
  rcases hik with z | ⟨hlk, hst⟩
  · have := Nat.eq_of_beq_eq_true z; omega
  have hst : zst r = true := by
    rcases hst with z | z
    · have := Nat.le_of_ble_eq_true z.1; omega
    · exact z.2
  obtain ⟨g1, g2, g3, g4, g5, g6, -⟩ := zrow hr9 hm
  have hrest : ∀ w ∈ rest, zokv S.1 w := fun w hw => hok w (List.mem_append_right _ hw)
  have hlk := zw_m hlk
  rw [zyn_eq hr9] at hlk
  have hgood : GoodIn zcs (zws r) := by
    rcases zws_good (m := r) with z | z | z
    · exact z
    · exact absurd hr9 z
    · rw [hm] at z; cases z
  have hlen : as.length = tags.length := by rw [htag, List.length_map]
  have hrun := va_runS (p := p) (l := l) (e := e) (R := R) (s := s) (m := mid) (args := args) (below := below) (meth := meth) (c := c) (H := H) (locs := locs) (cells := cells) (slots := slots) (As := as.map (zvl E)) (rest := rest.map (zvl E)) (g := F0 mid pc cls ((as.reverse ++ rest).map (zvl E))) (index := j) (nL := nL)
    ⟨hx, hb, hml, hown, hts⟩ hM ⟨callB_of (as.length) hts hgood (zws_eq hm) rfl rfl (by rw [g1]; exact hts _ (zini_in g3)) (hts _ hlk) ⟨by rw [g1]; exact (zcl_ne g3).1, by rw [g1]; exact (zcl_ne g3).2, by rw [g6, hst, hlen]; rfl⟩ ⟨hR.1, by show 8 + (maxL + 11) + (zrm r).2 ≤ _; omega⟩, hts _ (zstat_in hr9 hst)⟩
    ⟨zPc_blind, fun U hU hW => ⟨rfl, ⟨by rw [hU]; exact hG.1, hG.2.1, hG.2.2.2⟩, va_K.moved hW.alike hK, zX_kept hX hG.2.2.1 hU hW.alike⟩⟩
    rfl (List.length_map _) hcs (by show List.map _ _ = _; rw [List.map_append, List.map_reverse]) (by rw [zsum E]; show 2 * 0 + (rest.map zcat).sum ≤ 8; omega) hd hcl
  refine zcont hrun hG (fun H1 locs1 hG1 hov => ?_)
  have := k H1 locs1 hG1 (zpush_ok hm (by rw [ht]; exact hrest) hov)
  rw [zpush_map hm] at this
  exact this
theorem zargs_mem : ∀ (as : List zV) (k i : Nat) (v : zV), (zargs as)[i]? = some v → v.1 ≠ 9 → (k + i, zvl E v) ∈ lv_args k (as.map (zvl E)) := by
  intro as
  induction as with
  | nil => intro k i v h; simp [zargs] at h
  | cons w as ih =>
    intro k i v h h9
    unfold zargs at h
    have hcat : (zvl E w).category = zcat w := zvl_cat w
    simp only [List.map_cons, lv_args, hcat]
    cases hw : Nat.beq w.1 1 with
    | true =>
      rw [hw] at h
      have e2 : zcat w = 2 := by unfold zcat; rw [hw]; rfl
      rw [if_pos e2]
      simp only [cond_true] at h
      cases i with
      | zero => simp only [List.getElem?_cons_zero, Option.some.injEq] at h; rw [← h]; exact List.mem_cons_self
      | succ i =>
        cases i with
        | zero => simp only [List.getElem?_cons_succ, List.getElem?_cons_zero, Option.some.injEq] at h; rw [← h] at h9; exact absurd rfl h9
        | succ i =>
          simp only [List.getElem?_cons_succ] at h
          have := ih (k + 2) i v h h9
          rw [show k + 2 + i = k + (i + 1 + 1) by omega] at this
          exact List.mem_cons_of_mem _ this
    | false =>
      rw [hw] at h
      have e2 : ¬ zcat w = 2 := by unfold zcat; rw [hw]; decide
      rw [if_neg e2]
      simp only [cond_false] at h
      cases i with
      | zero => simp only [List.getElem?_cons_zero, Option.some.injEq] at h; rw [← h]; exact List.mem_cons_self
      | succ i =>
        simp only [List.getElem?_cons_succ] at h
        have := ih (k + 1) i v h h9
        rw [show k + 1 + i = k + (i + 1) by omega] at this
        exact List.mem_cons_of_mem _ this
theorem zpad_len : ∀ (n : Nat) (q : List zV), (zpad n q).length = n := by
  intro n
  induction n with
  | zero => intro q; cases q <;> rfl
  | succ n ih => intro q; cases q <;> simp [zpad, ih]
theorem zpad_get : ∀ (n : Nat) (q : List zV) (i : Nat) (v : zV), (zpad n q)[i]? = some v → v.1 ≠ 9 → q[i]? = some v := by
  intro n
  induction n with
  | zero => intro q i v h; cases q <;> simp [zpad] at h
  | succ n ih =>
    intro q i v h h9
    cases q with
    | nil =>
      simp only [zpad] at h
      cases i with
      | zero => simp only [List.getElem?_cons_zero, Option.some.injEq] at h; rw [← h] at h9; exact absurd rfl h9
      | succ i => simp only [List.getElem?_cons_succ] at h; have := ih [] i v h h9; simp at this
    | cons w q =>
      simp only [zpad] at h
      cases i with
      | zero => simpa using h
      | succ i => simp only [List.getElem?_cons_succ] at h ⊢; exact ih q i v h h9
theorem zargs_len : ∀ (as : List zV), (lg_sl (as.map (zvl E))).length = ((as.map (fun w => w.1)).map (fun t => bif Nat.beq t 1 then 2 else 1)).sum := by
  intro as
  induction as with
  | nil => rfl
  | cons w as ih =>
    simp only [List.map_cons, List.sum_cons, ← ih]
    unfold lg_sl
    rw [List.flatMap_cons, List.length_append, zvl_cat]
    unfold zcat
    cases Nat.beq w.1 1 <;> rfl
theorem zmkl_ok {t r : Nat} {as : List zV} (h : ∀ w ∈ as, zokv t w) : ∀ w ∈ zmkl r as, zokv t w := by
  intro w hw
  by_cases h9 : w.1 = 9
  · exact Or.inr (Or.inr (Or.inl h9))
  · unfold zmkl at hw
    cases hm : zmi r with
    | none => rw [hm] at hw; cases hw
    | some q =>
      rw [hm] at hw
      obtain ⟨i, hi⟩ := List.getElem?_of_mem hw
      have h1 := zpad_get _ _ i w hi h9
      have h2 : ∀ (as : List zV), w ∈ zargs as → w ∈ as := by
        intro as
        induction as with
        | nil => intro z; cases z
        | cons u as ih =>
          unfold zargs
          cases Nat.beq u.1 1 with
          | true =>
            intro z
            rcases List.mem_cons.mp z with rfl | z
            · exact List.mem_cons_self
            · rcases List.mem_cons.mp z with rfl | z
              · exact absurd rfl h9
              · exact List.mem_cons_of_mem _ (ih z)
          | false =>
            intro z
            rcases List.mem_cons.mp z with rfl | z
            · exact List.mem_cons_self
            · exact List.mem_cons_of_mem _ (ih z)
      exact h w (h2 as (List.mem_of_getElem? h1))
/-- a method's contract out of its walk -/
theorem zmet_of {r : Nat} {tags : List Nat} {maxL rt : Nat} {as : List zV} {S S1 : zS} {v : Int} (hr9 : r < 266) (hm : zmi r = some (tags, maxL, rt)) (htag : tags = as.map (fun w => w.1))
    (body : ∀ (p : Program) (e : Env) (s : State) (mid : MethodId) (args : Array Value) (below : List Frame) (meth : Method) (c : Code) (cls : Array Slot), zCx p s mid args meth c r D cs E maxL → meth.sig.returnType = zrty rt → meth.locks = false → zL E maxL (zmkl r as) cls → zK p l e (zroom r) s mid args below meth c 0 0 (MQ below (zQc D cs E rt v S1) args s 0 0 (fun q => E.1 ≤ q)) D cs E cls 0 [] S) :
    Met l (zy r) (zws r) (zroom r) (zPc D cs E as S) (zQc D cs E rt v S1) 0 0 (fun q => E.1 ≤ q) := by
  obtain ⟨g1, g2, g3, g4, g5, g6, -⟩ := zrow hr9 hm
  refine Met.ofW (cc := zb r) (maxL := maxL) (ret := zrty rt) (by rw [g1]; exact g2) (zws_eq hm) ?_
  intro p e s mid args below meth c s₁ B hml hv
  obtain ⟨rfl, ⟨hP, hD, hk⟩, hK, hX⟩ := hv
  have hts0 := atoms_spec (ws := zws r) B.pre
  have hown : s.vm.findClass (zcl (zcm r)) = some mid.cls := by
    have := findClass_of_methodNamed B.named
    rwa [g1] at this
  have hl := lv_entry (as.map (zvl E)) (n := maxL) (by rw [zargs_len, ← htag]; exact g5)
  rw [lg_entry_eq]
  generalize (lg_sl (as.map (zvl E)) ++ List.replicate (maxL - (lg_sl (as.map (zvl E))).length) Slot.unset).toArray = cls at hl ⊢
  have hmk : zmkl r as = zpad maxL (zargs as) := by unfold zmkl; rw [hm]
  refine body p e s mid _ below meth c cls ⟨B.exec, B.bytes, hml, hown, fun w hw => hts0 w (List.mem_cons_of_mem _ hw), hK, (name_of_methodNamed B.named B.method).1, zdk_ok hr9, hX⟩ B.returns B.notSynchronized ⟨by rw [hmk, zpad_len], hl.1, hl.2.1, fun i w hi h9 => ?_⟩ s.heap [] ⟨hP, hD, va_S.rf, hk⟩ (fun _ h => by cases h)
  rw [hmk] at hi
  have := zargs_mem (E := E) as 0 i w (zpad_get _ _ i w hi h9) h9
  rw [Nat.zero_add] at this
  exact hl.2.2 _ this
end ZSIM7
