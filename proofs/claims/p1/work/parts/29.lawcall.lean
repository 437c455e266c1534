/-! The law's calls of its callers. -/
section ZLAW
variable {p : Program} {l : Launch} {e : Env} {R : Room} {s : State} {mid : MethodId} {args : Array Value} {below : List Frame} {meth : Method} {c : Code} {cells slots : Nat} {Q : State → Prop}
variable {m nL md : Nat} {D : va_G} {cs : ClassId × ClassId × ClassId × ClassId} {E : zE}
/-- a static call of a method that has handlers, and returns -/
theorem zcallSW {T : State} {locs : List Loc} (X : Stand p l e R s mid args below meth c T locs cells slots) (hx : p.tables.exec = Jvm.exec) {own : String} {index n mc ms : Nat} {y : MethodName} {bytes : ByteArray} {maxL : Nat} {ret : Option FieldType} {hs : List (Nat × Nat × Nat × Nat)} {ws : List Cond} {rm : Room} {Pc : Array Value → State → Prop} {Qc : Array Value → State → Outcome → State → Prop} {free : Addr → Prop}
    (hown : s.vm.findClass own = some mid.cls) (hM : Met l y ws rm Pc Qc mc ms free) (hrm : rm.cells = mc ∧ rm.slots = ms ∧ rm.frames + 1 ≤ R.frames ∧ 8 + (maxL + 11) + rm.locals ≤ R.locals) (hws : ∀ w ∈ ws, ∀ (a' : Array Value) (U : State), s.WarmedH U.vm → w.before a' U = true) (hcw : Cond.codeWith y bytes maxL ret hs ∈ ws) (hcode : (Cond.codeWith y bytes maxL ret hs).before args s = true)
    (hini : (Cond.initialized y.cls).before args s = true) (hy : y.cls ≠ "java/lang/invoke/MethodHandle" ∧ y.cls ≠ "java/lang/invoke/VarHandle") (hlen : (parseMethodDescriptor y.desc).map (fun d => d.parameters.length) = some n) (hlink : (Cond.methodLink own index y).before args s = true) (hstat : (Cond.static y).before args s = true)
    {As rest : List Value} (hp : PreS s T.heap Pc As) {g : JFrame} (hg : g.method = mid) (hn : As.length = n) (hsize : g.locals.size = c.maxLocals) (hstack : g.stack = As.reverse ++ rest)
    (hW : 2 * g.monitorRoom + (rest.map fun v => v.category).sum ≤ 8) (hdg : decode c.code g.pc = .ok (.invokestatic index, 3)) (hf : cells + mc ≤ R.cells ∧ slots + ms ≤ R.slots) :
    ∃ (v : Option Value) (st₀ t T' : State) (L : List Loc), st₀.heap = T.heap ∧ s.WarmedH st₀.vm ∧ Stand p l e R s mid args below meth c T' (locs ++ L) (cells + mc) (slots + ms) ∧ (∀ q ∈ L, free q.base) ∧ T'.heap = t.heap ∧ T'.vm = t.vm ∧ Qc As.toArray st₀ (.returned v) t ∧
      ∀ tg, Steps p.tables e below (T'.setTop { g with pc := g.pc + 3, stack := v.toList ++ rest }) tg → Steps p.tables e below (T.setTop g) tg := by
  obtain ⟨hrc, hrs, hfr, hlo⟩ := hrm
  obtain ⟨hbl, hPc⟩ := hp
  obtain ⟨mk, methM, cM, hnamed, hmethM, -, -, -, -, -, -, hsigM⟩ := Cond.codeWith_spec hcode
  have hstatic : methM.isStatic = true := Cond.static_spec hnamed hmethM hstat
  obtain ⟨kP, hkP, -⟩ := className_of_methodNamed hnamed
  have hinitP : kP.init = .initialized := Cond.initialized_spec (findClass_of_methodNamed hnamed) hkP hini
  have hl2 : As.length = methM.sig.parameters.length := by
    rw [hsigM] at hlen
    exact hn.trans (Option.some.inj hlen).symm
  obtain ⟨vm₁, X₁, hstep₁⟩ := X.invokestatic hx hown hlink hnamed hmethM hstatic hkP hinitP hy (g := g) hg (argsL := As) (rest := rest) hl2 hstack hdg
  have hpre : Pc As.toArray (T.setVm vm₁) := hPc (T.setVm vm₁) rfl X₁.warmed
  obtain ⟨U, hU⟩ : ∃ U, U = T.setVm vm₁ := ⟨_, rfl⟩
  obtain ⟨a, ha⟩ : ∃ a, a = As.toArray := ⟨_, rfl⟩
  obtain ⟨f, hfd⟩ : ∃ f : JFrame, f = { g with stack := rest } := ⟨_, rfl⟩
  have hUh : U.heap = T.heap := by rw [hU]; rfl
  rw [← hU] at X₁ hstep₁ hpre
  rw [← ha] at hpre hstep₁ ⊢
  rw [← hfd] at hstep₁
  have f1 : f.method = mid := by rw [hfd]; exact hg
  have f2 : f.locals.size = c.maxLocals := by rw [hfd]; exact hsize
  have f3 : decode c.code f.pc = .ok (.invokestatic index, 3) := by rw [hfd]; exact hdg
  have f4 : 2 * f.monitorRoom + (f.stack.map fun v => v.category).sum ≤ 8 := by rw [hfd]; exact hW
  have f5 : ∀ v : Option Value, ({ g with pc := g.pc + 3, stack := v.toList ++ rest } : JFrame) = { f with pc := f.pc + 3, stack := v.toList ++ f.stack } := fun v => by rw [hfd]
  have hn₁ : U.methodNamed? y = some mk := X₁.named hnamed
  have hw₁ : ∀ w ∈ ws, w.before a U = true := fun w hw => hws w hw _ _ X₁.warmed
  obtain ⟨mY, methY, cY, hnY, hmY, hcY, -, hlY, -, -, -, -⟩ := Cond.codeWith_spec (hw₁ _ hcw)
  cases hn₁.symm.trans hnY
  obtain ⟨kY, hkY, -⟩ := className_of_methodNamed hn₁
  have hinit₁ : (Cond.initialized y.cls).before a U = true := word_at X₁.warmed (Or.inl (by first | rfl | simp [Cond.onTables, Cond.keeps, Cond.steady])) hini
  have hAt : At U f.method c below := by rw [f1]; exact X₁.here
  have happ : (headSpec ws rm).appliesLoose y e.platform (U.calling f mk a) = true :=
    Spec.appliesLoose_calling (g := f) hAt f3 hn₁ hkY (Cond.initialized_spec (findClass_of_methodNamed hn₁) hkY hinit₁)
      (X₁.room_calling (g := f) (R' := rm) f2 hmY hcY hfr (by rw [hlY]; omega) (by rw [hrc]; exact hf.1) (by rw [hrs]; exact hf.2)) (atoms_intro fun w hw => hw₁ w hw)
  obtain ⟨md', hmid⟩ := hAt.above
  have hfr' : (U.setTop f).frames = (.java f :: md') ++ below := by rw [State.frames_setTop' f hAt.top, hmid]; rfl
  obtain ⟨o, s₂, hsteps, -, hend, hq, L, ⟨⟨v, hov⟩, hW₂, hs₂⟩, hL⟩ := Steps.callFree hM p X.admits X.cas X.clock (acts := []) hfr' happ (hbl _ _ _ _ hpre) trivial
  subst hov
  rw [State.frames_setTop' f hAt.top] at hend
  have hs₃ : (U.calling f mk a).sameButNew ({ s₂ with vm := (U.calling f mk a).vm } : State) L mc ms := hs₂
  obtain ⟨e2, q2, q3, q4, q5, q6⟩ := hs₃
  obtain ⟨c₂, i₂, len₂, hc₂, hd₂, hf₂⟩ := hend
  have hWU : U.WarmedH s₂.vm := hW₂
  have hcc : c₂ = c := by
    have h1 : s₂.code? f.method = U.code? f.method := by rw [State.code?_eq, State.code?_eq, hWU.alike.method?]
    exact Option.some.inj (hc₂.symm.trans (h1.trans hAt.code))
  subst hcc
  have hlen2 : len₂ = 3 := by rw [f3] at hd₂; cases hd₂; rfl
  subst hlen2
  obtain ⟨g₀, hg0⟩ := Option.isSome_iff_exists.mp hAt.top
  obtain ⟨r, hr⟩ := State.topJava?_eq_some.mp hg0
  obtain ⟨T', hT'⟩ : ∃ T' : State, T' = ({ U with heap := s₂.heap, slotsUsed := s₂.slotsUsed } : State).setVm s₂.vm := ⟨_, rfl⟩
  have e3 : s₂ = ({ (U.calling f mk a).setFrames s₂.frames with heap := s₂.heap, slotsUsed := s₂.slotsUsed } : State).setVm s₂.vm := by
    have h9 : s₂ = ({ s₂ with vm := (U.calling f mk a).vm } : State).setVm s₂.vm := rfl
    rw [e2] at h9
    exact h9
  have es : s₂ = T'.setTop { f with pc := f.pc + 3, stack := v.toList ++ f.stack } := by
    have hr' : (({ U with heap := s₂.heap, slotsUsed := s₂.slotsUsed } : State).setVm s₂.vm).frames = .java g₀ :: r := hr
    refine e3.trans ?_
    rw [hT', hf₂, State.calling_eq hAt.top, State.setFrames_setFrames, State.setTop_of_frames _ hr', hr]
    rfl
  have hsame : U.sameButNew ({ U with heap := s₂.heap, slotsUsed := s₂.slotsUsed } : State) L mc ms := by
    refine ⟨?_, q2, q3, q4, q5, q6⟩
    obtain ⟨th, ht, -⟩ := State.frames_cons hr
    show ({ U with heap := s₂.heap, slotsUsed := s₂.slotsUsed } : State) = { U.setFrames U.frames with heap := s₂.heap, slotsUsed := s₂.slotsUsed }
    rw [State.setFrames_self ht]
  have X₂ : Stand p l e R s mid args below meth c₂ T' (locs ++ L) (cells + mc) (slots + ms) := by
    rw [hT']
    exact ⟨X₁.admits, X₁.cas, X₁.clock, X₁.frames, X₁.room, X₁.hears, X₁.method, X₁.code, (X₁.here.setHeapUsed s₂.heap s₂.slotsUsed).setVm hWU.alike, X₁.tail, State.WarmedH.trans X₁.warmed hWU, X₁.limits, X₁.bytes, X₁.same.trans (hsame.setVm s.vm)⟩
  refine ⟨v, U.calling f mk a, s₂, T', L, hUh, X₁.warmed, X₂, hL, by rw [hT']; rfl, by rw [hT']; rfl, hq, fun tg h => hstep₁ _ fun acts => ?_⟩
  rw [doInvoke_state]
  rw [f5, ← es] at h
  exact hsteps.trans h
theorem zrowW {w : Nat} {tags : List Nat} {maxL : Nat} (h1 : 266 ≤ w) (h2 : w < 287) (hm : zmi w = some (tags, maxL, 0)) : (zy w).cls = "DiskPoolLaw" ∧ (parseMethodDescriptor (zy w).desc).map (fun d => d.parameters.length) = some tags.length ∧ (tags.map (fun t => bif Nat.beq t 1 then 2 else 1)).sum ≤ maxL ∧ Cond.codeWith (zy w) (zb w) maxL (some .int) (zhl w) ∈ zcs ∧ Cond.static (zy w) ∈ zcs := by
  obtain ⟨-, a2, tg, mx, a3, a4, a5, a6, a7, -, -⟩ := zrowW_at h1 h2
  rw [hm] at a3
  cases a3
  exact ⟨a2, a6, a7, a4, a5⟩
theorem zyn_eqW {r : Nat} (h : r < 287) : zyn r = zy r := by
  unfold zyn
  have hn : ∀ k, 287 ≤ k → Nat.beq r k = false := fun k hk => Bool.eq_false_iff.mpr (fun z => by have := Nat.eq_of_beq_eq_true z; omega)
  rw [hn 900 (by decide), hn 901 (by decide), hn 902 (by decide), hn 903 (by decide)]
  rfl
def zwsW (w maxL : Nat) : List Cond := Cond.codeWith (zy w) (zb w) maxL (some .int) (zhl w) :: zcs
/-- a caller's contract out of its walk -/
theorem zmetW_of {w mc : Nat} {tags : List Nat} {maxL : Nat} {as : List zV} {S S1 : zS} {v : Int} (h1 : 266 ≤ w) (h2 : w < 287) (hm : zmi w = some (tags, maxL, 0)) (htag : tags = as.map (fun w => w.1))
    (body : ∀ (p : Program) (e : Env) (s : State) (mid : MethodId) (args : Array Value) (below : List Frame) (meth : Method) (c : Code) (cls : Array Slot), zCx p s mid args meth c w D cs E maxL → meth.sig.returnType = some .int → meth.locks = false → c.exceptionTable.toList.map (fun h => (h.startPc, h.endPc, h.handlerPc, h.catchType)) = zhl w → zXT s E → zL E maxL (zmkl w as) cls → zK p l e (zroomW w mc) s mid args below meth c 0 0 (MQ below (zQc D cs E 0 v S1) args s mc (6 * mc) (fun q => E.1 ≤ q)) D cs E cls 0 [] S) :
    Met l (zy w) (zwsW w maxL) (zroomW w mc) (zPcT D cs E as S) (zQc D cs E 0 v S1) mc (6 * mc) (fun q => E.1 ≤ q) := by
  obtain ⟨g1, g2, g5, -, -⟩ := zrowW h1 h2 hm
  refine MetFree.of_bodyS (code := zb w) (maxLocals := maxL) (ret := some .int) (by rw [g1]; decide +kernel) ?_ ?_
  · intro args s mid h hn
    obtain ⟨m', meth, c, h0, h3, h4, h5, h6, h7, h8, h9, -⟩ := Cond.codeWith_spec (atoms_spec (ws := zwsW w maxL) h _ List.mem_cons_self)
    cases hn.symm.trans h0
    exact ⟨meth, c, h3, h4, h5, h6, h8, h9⟩
  · intro p e s mid args below meth c s₁ B hml hv _
    obtain ⟨⟨rfl, ⟨hP, hD, hk⟩, hK, hX⟩, hXT⟩ := hv
    have hts0 := atoms_spec (ws := zwsW w maxL) B.pre
    have hown : s.vm.findClass (zcl (zcm w)) = some mid.cls := by
      have := findClass_of_methodNamed B.named
      rwa [g1, ← zcl_W h1 h2] at this
    have X0 := Stand.of_body B
    have hh : c.exceptionTable.toList.map (fun h => (h.startPc, h.endPc, h.handlerPc, h.catchType)) = zhl w := by
      obtain ⟨m', meth', c', h0, h3, h4, -, -, h7, -, -, -⟩ := Cond.codeWith_spec (hts0 _ List.mem_cons_self)
      cases B.named.symm.trans h0
      cases B.method.symm.trans h3
      cases X0.code.symm.trans h4
      exact h7
    have hl := lv_entry (as.map (zvl E)) (n := maxL) (by rw [zargs_len, ← htag]; exact g5)
    have hmk : zmkl w as = zpad maxL (zargs as) := by unfold zmkl; rw [hm]
    have hh0 : s₁.heap = s.heap := by rw [B.state]; rfl
    rw [lg_entry_eq]
    generalize (lg_sl (as.map (zvl E)) ++ List.replicate (maxL - (lg_sl (as.map (zvl E))).length) Slot.unset).toArray = cls at hl ⊢
    obtain ⟨t, a1, o, b1, b2, b3⟩ := body p e s mid _ below meth c cls ⟨B.exec, B.bytes, hml, hown, fun w' hw => hts0 w' (List.mem_cons_of_mem _ hw), hK, (name_of_methodNamed B.named B.method).1, zdk_okW h1 h2, hX⟩ B.returns B.notSynchronized hh hXT ⟨by rw [hmk, zpad_len], hl.1, hl.2.1, fun i w' hi h9 => by
      rw [hmk] at hi
      have h10 := zargs_mem (E := E) as 0 i w' (zpad_get _ _ i w' hi h9) h9
      rw [Nat.zero_add] at h10
      exact hl.2.2 _ h10⟩ s.heap [] ⟨hP, hD, va_S.rf, hk⟩ (fun _ h => by cases h) s₁ hh0 X0
    exact ⟨t, o, a1, b1, b2, b3.1, b3.2⟩
/-- the law calls a caller -/
theorem zs_callSW (C : zCx p s mid args meth c m D cs E nL) (hT : zXT s E) {pc nx j r mc : Nat} {tags : List Nat} {maxL : Nat} {cls : Array Slot} {as rest : List zV} {v : Int} {S S1 : zS} (hcs : cls.size = nL) (hc : zcd m pc = some (.invokestatic j, nx, r)) (h1 : 266 ≤ r) (h2 : r < 287) (hm : zmi r = some (tags, maxL, 0)) (htag : tags = as.map (fun w => w.1)) (hw : (rest.map zcat).sum ≤ 8)
    (hR : max (zrm r).1 (zrt r).1 + 1 ≤ R.frames ∧ max (zrm r).2 (zrt r).2 + 8 + (maxL + 11) ≤ R.locals) (ht : S.1 ≤ S1.1) (hcl : cells + mc ≤ R.cells ∧ slots + 6 * mc ≤ R.slots)
    (hM : Met l (zy r) (zwsW r maxL) (zroomW r mc) (zPcT D cs E as S) (zQc D cs E 0 v S1) mc (6 * mc) (fun q => E.1 ≤ q))
    (k : zK p l e R s mid args below meth c (cells + mc) (slots + 6 * mc) Q D cs E cls nx ((0, v) :: rest) S1) : zK p l e R s mid args below meth c cells slots Q D cs E cls pc (as.reverse ++ rest) S := by
  intro H locs hG hok T hTH X
  subst hTH
  obtain ⟨hx, hb, hml, hown, hts, hK, hnm, hdk, hX⟩ := C
  obtain ⟨hd, rfl, hik⟩ := zdec' (n := 2) hdk hc rfl
  obtain ⟨g1, g2, g5, w1, w3⟩ := zrowW h1 h2 hm
  simp only [zik, Bool.and_eq_true, Bool.or_eq_true] at hik
  have hlk : zin4 zLm (zcm m) j r = true := by
    rcases hik with z | z
    · have := Nat.eq_of_beq_eq_true z; omega
    · exact z.1
  have w2 := zw_m hlk
  rw [zyn_eqW h2] at w2
  have w4 : Cond.initialized "DiskPoolLaw" ∈ zcs := zini_in (k := 11) (by decide)
  have hrest : ∀ w ∈ rest, zokv S.1 w := fun w hw => hok w (List.mem_append_right _ hw)
  have hlen : as.length = tags.length := by rw [htag, List.length_map]
  have hall : ∀ w ∈ zwsW r maxL, w ∈ zcs := fun w hw => (List.mem_cons.mp hw).elim (fun e => e ▸ w1) id
  obtain ⟨v', st₀, t, T', L, h0, hW0, X', hLL, e1, e2, ⟨ho, ⟨hP, hD, hok3, hov⟩, hF⟩, st⟩ := zcallSW X hx (n := tags.length) (As := as.map (zvl E)) (rest := rest.map (zvl E)) (g := F0 mid pc cls ((as.reverse ++ rest).map (zvl E))) (index := j) hown hM
    ⟨rfl, rfl, hR.1, by have := hR.2; show 8 + (maxL + 11) + max (zrm r).2 (zrt r).2 ≤ _; omega⟩ (fun w hw a' U hW => word_at hW (good_of_word (List.mem_filter.mp (hall w hw)).2) (hts w (hall w hw))) List.mem_cons_self (hts _ w1)
    (by rw [g1]; exact hts _ w4) (by rw [g1]; exact ⟨by decide +kernel, by decide +kernel⟩) g2 (hts _ w2) (hts _ w3)
    ⟨zPcT_blind, fun U hU hW => ⟨⟨rfl, ⟨by rw [hU]; exact hG.1, hG.2.1, hG.2.2.2⟩, va_K.moved hW.alike hK, zX_kept hX hG.2.2.1 hU hW.alike⟩, zXT_at hT hG.2.2.1 hU hW⟩⟩
    rfl (by rw [List.length_map, hlen]) (hcs.trans hml.symm) (by show List.map _ _ = _; rw [List.map_append, List.map_reverse]) (by rw [zsum E]; show 2 * 0 + (rest.map zcat).sum ≤ 8; omega) (by rw [hb]; exact hd) hcl
  cases ho
  have hz := hF.1
  have hkept := hF.2
  rw [h0] at hz hkept
  obtain ⟨t2, a1, b1⟩ := k T'.heap (locs ++ L) ⟨by rw [e1]; exact hP, hD, ⟨Nat.le_trans hG.2.2.1.1 (by rw [e1]; exact hz), fun q h1 h2 => by rw [e1, hkept q (Nat.lt_of_lt_of_le h1 hG.2.2.1.1) h2]; exact hG.2.2.1.2.1 q h1 h2, fun q hq => by
      rcases List.mem_append.mp hq with h | h
      · exact hG.2.2.1.2.2 q h
      · exact hLL q h⟩, hok3⟩ (zcons' hov (fun w hw => zokv_le (hrest w hw) ht)) T' rfl X'
  exact ⟨t2, st t2 a1, b1⟩
end ZLAW
