/-! Methods that throw: the machine's walk, the contract of such a method, a call of one. -/
section ZTH
variable {p : Program} {l : Launch} {e : Env} {R : Room} {s : State} {mid : MethodId} {args : Array Value} {below : List Frame} {meth : Method} {c : Code} {cells slots : Nat} {Q : State → Prop}
variable {m nL : Nat} {D : va_G} {cs : ClassId × ClassId × ClassId × ClassId} {E : zE}
/-- none of the three kinds of exceptions is another's -/
def zXC (s : State) : Prop := ∀ k j : Nat, 1 ≤ k → k ≤ 3 → 1 ≤ j → j ≤ 3 → k ≠ j → va_Nc (zth k) (zth j) s
/-- what a throwing place wants from outside -/
def zXT (s : State) (E : zE) : Prop := va_Zq Bundle.tN "UNASSIGNED_STACK" Bundle.steD (fun q => E.1 ≤ q) s s.heap ∧ va_Zq Bundle.tN "SUPPRESSED_SENTINEL" Bundle.listD (fun q => E.1 ≤ q) s s.heap ∧ zXC s ∧ (zls1.before #[] s = true ∧ zls2.before #[] s = true) ∧ (∀ a ∈ lw_tbl, zisd a = true → a.before #[] s = true) ∧ ∀ i ∈ zsi, ∃ (tx : String) (a : Nat), vk_R "DiskPool" i tx a s
theorem zls_at {C n d : String} {A : Nat → Prop} {U : State} (hZ : va_Zq C n d A s s.heap) (h : (Jvm.Cond.laysStatic C n d).before #[] s = true) (hvm : s.vm.Alike U.vm) (hk : ∀ a : Nat, a < s.heap.size → ¬ A a → U.heap[a]? = s.heap[a]?) : (Jvm.Cond.laysStatic C n d).before #[] U = true := by
  obtain ⟨c, k, i, f, a, cell, hc, hi, hst, ha, hcell, hs, hcls, hlt, hty⟩ := Cond.laysStatic_spec h
  have hA : ¬ A a := by
    rcases hZ with ⟨cf, kf, fi, f', a', cell', h1, h2, h3, h4, h5, h6, h7, h8⟩ | ⟨t, cf, kf, fi, f', a', cell', h1, h2, h3, h4, h5, h6, h7, h8⟩
    · cases hi.symm.trans h1
      cases ha.symm.trans h4
      exact h8
    · cases hi.symm.trans h1
      cases ha.symm.trans h4
      exact h8
  obtain ⟨k2, hi2, he⟩ := State.fieldFound?_setVm hvm hi
  exact Cond.laysStatic_of (s := U) (by rw [hvm.findClass]; exact hc) hi2 hst (by rw [he]; exact ha) (by rw [hk a (Array.getElem?_eq_some_iff.mp hcell).1 hA]; exact hcell) hs hcls hlt (by rw [he]; exact hty)
theorem zisd_at {U : State} {a : Cond} (ha : zisd a = true) (h : a.before #[] s = true) (hvm : s.vm.Alike U.vm) : a.before #[] U = true := by
  cases a <;> first | (cases ha; done) | skip
  rename_i y
  have h1 : (Jvm.Cond.declares y).before #[] (s.setVm U.vm) = true := by rw [Cond.declares_setVm hvm]; exact h
  have h2 := Cond.onTables_vm (A := #[]) (A' := #[]) (U := U) (U' := s) U.vm (Jvm.Cond.declares y) rfl
  rw [State.setVm_self] at h2
  rw [h2]
  exact h1
theorem zXT_to {U : State} (h : zXT s E) (hk : ∀ a : Nat, a < s.heap.size → ¬ E.1 ≤ a → U.heap[a]? = s.heap[a]?) (hvm : s.vm.Alike U.vm) (hst : ∀ i ∈ zsi, ∀ (tx : String) (a : Nat), vk_R "DiskPool" i tx a s → vk_R "DiskPool" i tx a U) : zXT U E := by
  obtain ⟨h2, h3, h5, h6, h7, h8⟩ := h
  refine ⟨(h2.moved hvm).kept hk, (h3.moved hvm).kept hk, fun k j a1 a2 a3 a4 a5 => (h5 k j a1 a2 a3 a4 a5).moved hvm, ⟨zls_at h2 h6.1 hvm hk, zls_at h3 h6.2 hvm hk⟩, fun a ha hd => zisd_at hd (h7 a ha hd) hvm, fun i hi => ?_⟩
  obtain ⟨tx, a, q⟩ := h8 i hi
  exact ⟨tx, a, hst i hi tx a q⟩
theorem zXT_at {U : State} {H : Heap} {locs : List Loc} (h : zXT s E) (hS : va_S (fun q => E.1 ≤ q) s.heap H locs) (hU : U.heap = H) (hW : s.WarmedH U.vm) : zXT U E :=
  zXT_to h (fun a x y => by rw [hU]; exact hS.2.1 a x y) hW.alike (fun _ _ _ _ q => q.warm hW)
theorem zXT_calling {U : State} {g : JFrame} {mk : MethodId} {a : Array Value} (h : zXT U E) : zXT (U.calling g mk a) E :=
  zXT_to (s := U) (U := U.calling g mk a) h (fun _ _ _ => rfl) (Vm.Alike.refl U.vm) (fun _ _ _ _ q => q.same rfl)
theorem zisref {C n d : String} {A : Nat → Prop} (h : va_Zq C n d A s s.heap) : (Jvm.Cond.isRef (.static C n d)).before args s = true := by
  rcases h with ⟨cf, kf, fi, f, a, cell, h1, h2, h3, h4, h5, h6, h7, h8⟩ | ⟨t, cf, kf, fi, f, a, cell, h1, h2, h3, h4, h5, h6, h7, h8⟩
  · have he : (Term.static C n d).eval args s none [] s = cell.slots[f.slot]? := by simp [Term.eval, State.fieldNamed?, h1, h2, h4, h5, h6]
    simp [Cond.before, Cond.holds, Cond.value, he, h7]
  · have he : (Term.static C n d).eval args s none [] s = cell.slots[f.slot]? := by simp [Term.eval, State.fieldNamed?, h1, h2, h4, h5, h6]
    simp [Cond.before, Cond.holds, Cond.value, he, h7]
theorem zhears {s' : State} (hc : ∀ m', s'.code? m' = s.code? m') (hm : s'.vm.method? mid = s.vm.method? mid) (h : s.hears mid below = true) : s'.hears mid below = true := by
  cases below with
  | nil => simp only [State.hears, hm] at h ⊢; exact h
  | cons f r => cases f <;> first | rfl | (simp only [State.hears, hc, hm] at h ⊢; exact h)
/-- the walk seen from where it stands -/
theorem zrebase {T : State} {locs : List Loc} (X : Stand p l e R s mid args below meth c T locs 0 0) : ∃ s' : State, s'.heap = T.heap ∧ s'.vm = T.vm ∧ Stand p l e R s' mid args below meth c T [] 0 0 ∧
    ∀ (U : State) (k n : Nat), s'.WarmedH U.vm → s'.sameButNew ({ U with vm := s'.vm } : State) [] k n → s.WarmedH U.vm ∧ s.sameButNew ({ U with vm := s.vm } : State) locs k n := by
  obtain ⟨g₀, hfr⟩ := X.frames_eq
  have hcur : T.cur < T.threads.size := State.cur_lt_of_frames hfr
  have hf' : (T.setFrames (.invoking mid args :: below)).frames = .invoking mid args :: below := State.frames_setFrames _ hcur
  obtain ⟨th, hth, -⟩ := State.frames_cons hfr
  obtain ⟨th', hth', -⟩ := State.frames_cons hf'
  have hm' : T.vm.method? mid = some meth := X.method'
  have hm'' : (T.setFrames (.invoking mid args :: below)).vm.method? mid = some meth := hm'
  have hback : (T.setFrames (.invoking mid args :: below)).setFrames T.frames = T := by rw [State.setFrames_setFrames, State.setFrames_self hth]
  refine ⟨T.setFrames (.invoking mid args :: below), rfl, rfl, ⟨X.admits, X.cas, X.clock, hf', ?_, ?_, hm'', X.code, X.here, X.tail, State.WarmedH.refl _, ?_, ?_, ?_⟩, ?_⟩
  · have h := X.room
    have h1 : T.heap.size ≤ s.heap.size + 0 := X.heapSize
    have h2 : T.slotsUsed ≤ s.slotsUsed + 0 := X.used
    have hb := X.book
    simp only [State.hasRoom, Bool.and_eq_true, decide_eq_true_eq] at h ⊢
    rw [State.localsInUse_invoking hf' hm'' X.code, hf', State.stackLimits_setFrames, State.stackBytes_setFrames, X.limits, X.bytes]
    rw [State.localsInUse_invoking X.frames X.method X.code, X.frames] at h
    refine ⟨⟨⟨⟨h.1.1.1.1, h.1.1.1.2⟩, ?_⟩, ?_⟩, hb⟩
    · show T.heap.size + R.cells ≤ _
      have h3 := h.1.1.2
      omega
    · show T.slotsUsed + R.slots ≤ _
      have h3 := h.1.2
      omega
  · have hv : s.vm.Alike T.vm := X.warmed.alike
    refine zhears (s := s) (fun m' => ?_) ?_ X.hears
    · rw [State.code?_eq, State.code?_eq]
      show (T.vm.method? m').bind _ = _
      rw [hv.method?]
    · show T.vm.method? mid = _
      rw [hv.method?]
  · rw [State.stackLimits_setFrames]
  · rw [State.stackBytes_setFrames]
  · have h := (State.sameButNew.refl (T.setFrames (.invoking mid args :: below)) hth').setFrames T.frames (State.cur_lt_of_frames hf')
    rw [hback] at h
    exact h
  · intro U k n hW hs
    have hW2 : T.WarmedH U.vm := hW
    refine ⟨State.WarmedH.trans X.warmed hW2, ?_⟩
    have h2 : (T.setVm s.vm).sameButNew ({ U with vm := s.vm } : State) [] k n := by
      obtain ⟨a1, a2, a3, a4, a5, a6⟩ := hs
      refine ⟨?_, a2, a3, a4, a5, a6⟩
      have a7 := congrArg (fun u : State => u.setVm s.vm) a1
      refine a7.trans ?_
      show ({ ((T.setFrames (.invoking mid args :: below)).setFrames U.frames).setVm s.vm with heap := U.heap, slotsUsed := U.slotsUsed } : State) = _
      rw [State.setFrames_setFrames]
      rfl
    have h3 := X.same.trans h2
    rwa [List.append_nil, Nat.zero_add, Nat.zero_add] at h3
/-- the end of a method that throws: an exception of the kind k -/
def zQt (D : va_G) (cs : ClassId × ClassId × ClassId × ClassId) (E : zE) (k : Nat) (S' : zS) : Array Value → State → Outcome → State → Prop := fun _ st oc t =>
  (∃ (x : Addr) (cell : Cell), oc = .threw x ∧ st.heap.size ≤ x ∧ t.heap[x]? = some cell ∧ cell.vm = .none ∧ st.vm.findClass (zth k) = some cell.cls) ∧ (va_P D zcls (zW E cs S') t.heap ∧ va_D (fun q => E.1 ≤ q) (zW E cs S') ∧ zokS E S') ∧ va_F (fun q => E.1 ≤ q) st t
def zFT (s0 : State) (o : Outcome) (t : State) (L : List Loc) : Prop := (∃ x, o = .threw x) ∧ s0.WarmedH t.vm ∧ s0.sameButNew ({ t with vm := s0.vm } : State) L 1 6
def zMQT (below : List Frame) (Qc : Array Value → State → Outcome → State → Prop) (a : Array Value) (s0 : State) (free : Addr → Prop) : State → Prop := fun t =>
  ∃ o, t.status = .running ∧ Ended t below o ∧ Qc a s0 o t ∧ ∃ L, zFT s0 o t L ∧ ∀ q ∈ L, free q.base
def zMetT (l : Launch) (y : MethodName) (ws : List Cond) (rm : Room) (Pc : Array Value → State → Prop) (Qc : Array Value → State → Outcome → State → Prop) (free : Addr → Prop) : Prop :=
  MetFree l y (headSpec ws rm) Pc (fun _ _ _ _ _ => True) (fun a st o t => Qc a st o t ∧ ∃ L, zFT st o t L ∧ ∀ q ∈ L, free q.base)
theorem zldcw {T : State} {locs : List Loc} (X : Stand p l e R s mid args below meth c T locs cells slots) (hexec : p.tables.exec = Jvm.exec) {own text : String} {index : Nat} {a : Addr} (hown : s.vm.findClass own = some mid.cls)
    (hconst : (Cond.stringRef own index text).before args s = true) (hev : (Term.string own index).eval args s none [] s = some (.ref a)) {g : JFrame} (hg : g.method = mid) (hdg : decode c.code g.pc = .ok (.ldc_w index, 3)) :
    ∀ target, Steps p.tables e below (T.setTop { g with pc := g.pc + 3, stack := .ref a :: g.stack }) target → Steps p.tables e below (T.setTop g) target := by
  obtain ⟨k, cf, i, a', hk, hcf, hcp, -, hr, hev'⟩ := Cond.stringRef_spec hown hconst
  cases hev.symm.trans hev'
  obtain ⟨k', hk', he⟩ := X.warmed.alike.2.2 _ _ hk
  have hr' : k'.resolved[index]? = some (some (.string a)) := by
    rcases X.warmed.entry hk hk' index with h | ⟨h, -⟩
    · rw [h]; exact hr
    · rw [hr] at h; cases h
  intro target hrest
  subst hg
  jvm_step X.here [hexec, hdg, Op.ldc_w.wp_string (e := e) (s := T) (f := g) X.here.top hk' (by rw [he]; exact hcf) hcp hr']
  exact hrest
/-- the walk of a throwing place, from where it stands -/
theorem zthrow0 (hx : p.tables.exec = Jvm.exec) {cc : ByteArray} (hb : c.code = cc) {cls : Array Slot} (hml : cls.size = c.maxLocals) (hown : s.vm.findClass "DiskPool" = some mid.cls) (hts : ∀ w ∈ zcs, w.before args s = true) (hT : zXT s E) (htr : e.platform.stackTraces = false) (hl : meth.locks = false) (hemp : c.exceptionTable.isEmpty = true)
    (hR : 6 ≤ R.frames ∧ 100 ≤ R.locals ∧ 1 ≤ R.cells ∧ 6 ≤ R.slots) {pc k i q : Nat} (hk : 1 ≤ k ∧ k ≤ 3) (hi : i ∈ zsi) (d0 : decode cc pc = .ok (.new (zthj k), 3)) (d3 : decode cc (pc + 3) = .ok (.dup, 1)) (d4 : (decode cc (pc + 3 + 1) = .ok (.ldc i, 2) ∧ q = pc + 3 + 1 + 2) ∨ (decode cc (pc + 3 + 1) = .ok (.ldc_w i, 3) ∧ q = pc + 3 + 1 + 3)) (d6 : decode cc q = .ok (.invokespecial (zthc k), 3)) (d9 : decode cc (q + 3) = .ok (.athrow, 1))
    {st : List Value} (hst : (st.map fun v => v.category).sum ≤ 8) :
    W p l e R s mid args below meth c s.heap [] 0 0 (fun U => ∃ x : Addr, U.status = .running ∧ Ended U below (.threw x) ∧ s.WarmedH U.vm ∧ s.sameButNew ({ U with vm := s.vm } : State) [] 1 6 ∧ s.heap.size ≤ x ∧ ∃ ce : Cell, U.heap[x]? = some ce ∧ ce.vm = .none ∧ s.vm.findClass (zth k) = some ce.cls) (F0 mid pc cls st) := by
  obtain ⟨w1, w2, w3, w4⟩ := zth_words hk
  refine W.newc (C := zth k) (n := 6) hx hb hown (hts _ w1) (hts _ w2) (hts _ w3) (g := F0 mid pc cls st) rfl d0 (by have := hR.2.2.1; omega) (by have := hR.2.2.2; omega) (fun cC kC h1 h2 h3 h4 => ?_)
  refine lv_dup (pc := pc + 3) (ls := cls) (rest := st) (va := .ref s.heap.size) hx hb d3 rfl ?_
  obtain ⟨tx, z, hq, hev⟩ := hT.2.2.2.2.2 i hi
  suffices key : W p l e R s mid args below meth c (s.heap.push { cls := cC, slots := kC.instanceTypes.map defaultValue, vm := .none }) [] (0 + 1) (0 + 6) (fun U => ∃ x : Addr, U.status = .running ∧ Ended U below (.threw x) ∧ s.WarmedH U.vm ∧ s.sameButNew ({ U with vm := s.vm } : State) [] 1 6 ∧ s.heap.size ≤ x ∧ ∃ ce : Cell, U.heap[x]? = some ce ∧ ce.vm = .none ∧ s.vm.findClass (zth k) = some ce.cls) (F0 mid q cls (.ref z :: .ref s.heap.size :: .ref s.heap.size :: st)) by
    rcases d4 with ⟨d4, rfl⟩ | ⟨d4, rfl⟩
    · intro T hTT X
      obtain ⟨t, a1, b1⟩ := key T hTT X
      exact ⟨t, X.ldcString hx hown (text := tx) (a := z) hq hev (g := F0 mid (pc + 3 + 1) cls (.ref s.heap.size :: .ref s.heap.size :: st)) rfl (by rw [hb]; exact d4) t a1, b1⟩
    · intro T hTT X
      obtain ⟨t, a1, b1⟩ := key T hTT X
      exact ⟨t, zldcw X hx hown (text := tx) (a := z) hq hev (g := F0 mid (pc + 3 + 1) cls (.ref s.heap.size :: .ref s.heap.size :: st)) rfl (by rw [hb]; exact d4) t a1, b1⟩
  intro T hTT X
  have hall : ∀ a ∈ zoA (zth k) (zthx k) (zthb k) (zthc k), a.before args s = true := by
    intro a ha
    rcases w4 a ha with h | ⟨h, h'⟩ | h | h | h | h
    · exact hts a h
    · have h9 := hT.2.2.2.2.1 a h' h
      cases a <;> first | (cases h; done) | exact h9
    · rw [h]; exact zisref hT.1
    · rw [h]; exact zisref hT.2.1
    · rw [h]; exact hT.2.2.2.1.1
    · rw [h]; exact hT.2.2.2.1.2
  have hnil : c.exceptionTable.toList = [] := by
    have h5 : c.exceptionTable = #[] := by simpa using hemp
    rw [h5]
  obtain ⟨f0, f1, f2, f5⟩ := zthb_dec hk
  obtain ⟨U, a1, a2, a3, a4, a5, ce, a6, a7, a8⟩ := zctorT X hx htr (x := zth k) (idx := zthx k) (bs := zthb k) (ic := zthc k) hown (zth_fit hk) f0 f1 f2 f5 hall h1 h2 (a := s.heap.size) (by rw [hTT]; simp) (Nat.le_refl _) (msg := .ref z) rfl
    (g := F0 mid q cls (.ref z :: .ref s.heap.size :: .ref s.heap.size :: st)) rfl hml rfl rfl rfl (by rw [hb]; exact d6) (by rw [hb]; exact d9) (by rw [hnil]; intro y hy; cases hy) (by have := hR.1; omega)
    (by
      show 2 * 0 + ((Value.ref s.heap.size :: st).map fun v => v.category).sum + 81 ≤ R.locals
      have h6 : ((Value.ref s.heap.size :: st).map fun v => v.category).sum = 1 + (st.map fun v => v.category).sum := rfl
      have := hR.2.1
      omega) hl
  exact ⟨U, a1, s.heap.size, a2, a3, a4, a5, Nat.le_refl _, ce, a6, a7, by rw [a8]; exact h1⟩
/-- a throwing place -/
theorem zs_throw (C : zCx p s mid args meth c m D cs E nL) (hT : zXT s E) (hlt : ∀ e : Env, l.admits e → e.platform.stackTraces = false) (hl : meth.locks = false) (hemp : c.exceptionTable.isEmpty = true) (hR : 6 ≤ R.frames ∧ 100 ≤ R.locals ∧ 1 ≤ R.cells ∧ 6 ≤ R.slots)
    {pc k : Nat} {cls : Array Slot} {st : List zV} {S : zS} (hcs : cls.size = nL) (hs : zsite m pc k) (hw : (st.map zcat).sum ≤ 8) : zK p l e R s mid args below meth c 0 0 (zMQT below (zQt D cs E k S) args s (fun q => E.1 ≤ q)) D cs E cls pc st S := by
  intro H locs hG hok T hTH X
  subst hTH
  obtain ⟨hx, hb, hml, hown, hts, hK, hnm, hdk, hX⟩ := C
  obtain ⟨hk, hcm, i, q, n0, n1, n3, n4, r0, r1, r2, r3, r4, hi, z0, z3, z4, z6, z9⟩ := hs
  have d0 := (zdec' (n := 2) hdk z0 rfl).1
  have d3 := (zdec' (n := 0) hdk z3 rfl).1
  have d4 : (decode (zb m) (pc + 3 + 1) = .ok (.ldc i, 2) ∧ q = pc + 3 + 1 + 2) ∨ (decode (zb m) (pc + 3 + 1) = .ok (.ldc_w i, 3) ∧ q = pc + 3 + 1 + 3) := by
    rcases z4 with z4 | z4
    · obtain ⟨a1, a2, -⟩ := zdec' (n := 1) hdk z4 rfl
      exact Or.inl ⟨a1, a2⟩
    · obtain ⟨a1, a2, -⟩ := zdec' (n := 2) hdk z4 rfl
      exact Or.inr ⟨a1, a2⟩
  have d6 := (zdec' (n := 2) hdk z6 rfl).1
  have d9 := (zdec' (n := 0) hdk z9 rfl).1
  rw [hcm] at hown
  obtain ⟨s', e1, e2, X', back⟩ := zrebase X
  have hW' : s.WarmedH s'.vm := by rw [e2]; exact X.warmed
  have hown' : s'.vm.findClass "DiskPool" = some mid.cls := by rw [hW'.alike.findClass]; exact hown
  have hts' : ∀ w ∈ zcs, w.before args s' = true := fun w hw => word_at hW' (good_of_word (List.mem_filter.mp hw).2) (hts w hw)
  have hT' : zXT s' E := zXT_at hT hG.2.2.1 e1 hW'
  obtain ⟨U, a1, x, a2, a3, a4, a5, a6, ce, a7, a8, a9⟩ := zthrow0 (E := E) (cls := cls) (st := st.map (zvl E)) hx hb (hcs.trans hml.symm) hown' hts' hT' (hlt e X.admits) hl hemp hR hk hi d0 d3 d4 d6 d9 (by rw [zsum E]; exact hw) T e1.symm X'
  obtain ⟨b1, b2⟩ := back U 1 6 a4 a5
  obtain ⟨-, c2, c3, -, -, c6⟩ := a5
  have c2 : s'.heap.size ≤ U.heap.size := c2
  have c3 : U.heap.size ≤ s'.heap.size + 1 := c3
  have heq : ∀ q : Nat, q < T.heap.size → U.heap[q]? = T.heap[q]? := by
    intro q hq
    rw [← e1] at hq
    obtain ⟨c', y1, y2, y3, y4⟩ := c6 q _ (Array.getElem?_eq_getElem hq)
    have y1 : U.heap[q]? = some c' := y1
    have y5 : c'.slots = (s'.heap[q]).slots := Array.ext_getElem? (fun i => y4 i (fun z => by cases z))
    have y6 : c' = s'.heap[q] := by rw [y2, y5]
    rw [y1, y6, ← e1]
    exact (Array.getElem?_eq_getElem hq).symm
  have hsz : s.heap.size ≤ T.heap.size := hG.2.2.1.1
  refine ⟨U, a1, .threw x, a2, a3, ⟨⟨x, ce, rfl, by rw [e1] at a6; omega, a7, a8, by rw [← hW'.alike.findClass]; exact a9⟩, ⟨fun k q hq => (hG.1 k q hq).kept (heq q.1 (hG.1 k q hq).lt), hG.2.1, hG.2.2.2⟩, ⟨by rw [e1] at c2; omega, fun q h1 h2 => by rw [heq q (by omega)]; exact hG.2.2.1.2.1 q h1 h2⟩⟩, locs, ⟨⟨x, rfl⟩, b1, b2⟩, hG.2.2.1.2.2⟩
/-- the start of a method that may throw -/
def zPcT (D : va_G) (cs : ClassId × ClassId × ClassId × ClassId) (E : zE) (as : List zV) (S : zS) : Array Value → State → Prop := fun a U => zPc D cs E as S a U ∧ zXT U E
theorem zPcT_blind {as : List zV} {S : zS} : FrameBlind (zPcT D cs E as S) := fun a U g mk h => ⟨zPc_blind a U g mk h.1, zXT_calling h.2⟩
/-- a call of a method that throws -/
theorem zcallVT {T : State} {locs : List Loc} (X : Stand p l e R s mid args below meth c T locs cells slots) (hx : p.tables.exec = Jvm.exec) {own C : String} {index n : Nat} {y : MethodName} {bytes : ByteArray} {maxL : Nat} {ret : Option FieldType} {ws : List Cond} {rm : Room} {Pc : Array Value → State → Prop} {Qc : Array Value → State → Outcome → State → Prop} {free : Addr → Prop}
    (hown : s.vm.findClass own = some mid.cls) (hM : zMetT l y ws rm Pc Qc free) (cw : CallW R s args own C index y bytes maxL ret ws rm 1 6 n) {b : Addr} {As rest : List Value} (hp : PreV s T.heap C b Pc As) {g : JFrame} (hg : g.method = mid) (hn : As.length = n) (hsize : g.locals.size = c.maxLocals) (hstack : g.stack = As.reverse ++ .ref b :: rest)
    (hW : 2 * g.monitorRoom + (rest.map fun v => v.category).sum ≤ 8) (hdg : decode c.code g.pc = .ok (.invokevirtual index, 3)) (hf : cells + 1 ≤ R.cells ∧ slots + 6 ≤ R.slots) :
    ∃ (x : Addr) (st₀ t T' : State) (L : List Loc), st₀.heap = T.heap ∧ s.WarmedH st₀.vm ∧ Stand p l e R s mid args below meth c T' (locs ++ L) (cells + 1) (slots + 6) ∧ (∀ q ∈ L, free q.base) ∧ T'.heap = t.heap ∧ T'.vm = t.vm ∧ Qc (Value.ref b :: As).toArray st₀ (.threw x) t ∧
      ∀ tg, Steps p.tables e below ((T'.setTop { g with stack := rest }).pushFrame (.throwing x)) tg → Steps p.tables e below (T.setTop g) tg := by
  obtain ⟨⟨hrc, hrs, hfr, hlo, hws, hcw, hcode, hini, hy, hlen, hlink⟩, hinst, hsel⟩ := cw
  obtain ⟨hbl, ⟨cellB, hcB, hoB, hclB⟩, hPc⟩ := hp
  obtain ⟨mk, methM, hnamed, hmethM, hstM, habM⟩ := Cond.instanceMethod_spec hinst
  obtain ⟨methM', cM, hmethM', -, -, -, -, -, -, hsigM⟩ := Cond.code_spec hnamed hcode
  cases hmethM.symm.trans hmethM'
  obtain ⟨c2, r2, m2, q1, q2, q3, q4, kP, hkP, hkPi⟩ := Cond.selects_spec hsel
  cases hclB.symm.trans q1
  cases (State.methodFound?_of_named hnamed hy).symm.trans q2
  cases hnamed.symm.trans q3
  have hselP : selectMethod e.platform s.vm cellB.cls mk = .method mk := by rw [Launch.admits_selectMethod X.admits]; exact q4
  obtain ⟨vm₁, X₁, hstep₁⟩ := X.invokevirtual hx hown hlink hnamed hmethM hstM hkP hkPi hy (a := b) (cell := cellB) hcB (fun z h => by rw [h] at hoB; cases hoB) hselP hmethM habM hkP hkPi (g := g) hg (argsL := As) (rest := rest) (hn.trans (hlen _ hsigM)) hstack hdg
  have hpre : Pc (Value.ref b :: As).toArray (T.setVm vm₁) := hPc (T.setVm vm₁) rfl X₁.warmed
  obtain ⟨U, hU⟩ : ∃ U, U = T.setVm vm₁ := ⟨_, rfl⟩
  obtain ⟨a, ha⟩ : ∃ a, a = (Value.ref b :: As).toArray := ⟨_, rfl⟩
  obtain ⟨f, hfd⟩ : ∃ f : JFrame, f = { g with stack := rest } := ⟨_, rfl⟩
  have hUh : U.heap = T.heap := by rw [hU]; rfl
  rw [← hU] at X₁ hstep₁ hpre
  rw [← ha] at hpre hstep₁ ⊢
  rw [← hfd] at hstep₁ ⊢
  have f1 : f.method = mid := by rw [hfd]; exact hg
  have f2 : f.locals.size = c.maxLocals := by rw [hfd]; exact hsize
  have f3 : decode c.code f.pc = .ok (.invokevirtual index, 3) := by rw [hfd]; exact hdg
  have f4 : 2 * f.monitorRoom + (f.stack.map fun v => v.category).sum ≤ 8 := by rw [hfd]; exact hW
  have hn₁ : U.methodNamed? y = some mk := X₁.named hnamed
  have hw₁ : ∀ w ∈ ws, w.before a U = true := fun w hw => hws w hw _ _ X₁.warmed
  obtain ⟨methY, cY, hmY, hcY, -, hlY, -, -, -, -⟩ := Cond.code_spec hn₁ (hw₁ _ hcw)
  obtain ⟨kY, hkY, -⟩ := className_of_methodNamed hn₁
  have hinit₁ : (Cond.initialized y.cls).before a U = true := word_at X₁.warmed (Or.inl (by first | rfl | simp [Cond.onTables, Cond.keeps, Cond.steady])) hini
  have hAt : At U f.method c below := by rw [f1]; exact X₁.here
  have happ : (headSpec ws rm).appliesLoose y e.platform (U.calling f mk a) = true :=
    Spec.appliesLoose_calling (g := f) hAt f3 hn₁ hkY (Cond.initialized_spec (findClass_of_methodNamed hn₁) hkY hinit₁)
      (X₁.room_calling (g := f) (R' := rm) f2 hmY hcY hfr (by rw [hlY]; omega) (by rw [hrc]; exact hf.1) (by rw [hrs]; exact hf.2)) (atoms_intro fun w hw => hw₁ w hw)
  obtain ⟨md', hmid⟩ := hAt.above
  have hfr' : (U.setTop f).frames = (.java f :: md') ++ below := by rw [State.frames_setTop' f hAt.top, hmid]; rfl
  obtain ⟨o, s₂, hsteps, -, hend, hq, L, ⟨⟨x, hox⟩, hW₂, hs₂⟩, hL⟩ := Steps.callFree hM p X.admits X.cas X.clock (acts := []) hfr' happ (hbl _ _ _ _ hpre) trivial
  subst hox
  rw [State.frames_setTop' f hAt.top] at hend
  have hs₃ : (U.calling f mk a).sameButNew ({ s₂ with vm := (U.calling f mk a).vm } : State) L 1 6 := hs₂
  obtain ⟨e2, q2, q3, q4, q5, q6⟩ := hs₃
  have hf₂ : s₂.frames = .throwing x :: .java f :: U.frames.tail := hend
  have hWU : U.WarmedH s₂.vm := hW₂
  obtain ⟨g₀, hg0⟩ := Option.isSome_iff_exists.mp hAt.top
  obtain ⟨r, hr⟩ := State.topJava?_eq_some.mp hg0
  obtain ⟨T', hT'⟩ : ∃ T' : State, T' = ({ U with heap := s₂.heap, slotsUsed := s₂.slotsUsed } : State).setVm s₂.vm := ⟨_, rfl⟩
  have e3 : s₂ = ({ (U.calling f mk a).setFrames s₂.frames with heap := s₂.heap, slotsUsed := s₂.slotsUsed } : State).setVm s₂.vm := by
    have h9 : s₂ = ({ s₂ with vm := (U.calling f mk a).vm } : State).setVm s₂.vm := rfl
    rw [e2] at h9
    exact h9
  have es : s₂ = (T'.setTop f).pushFrame (.throwing x) := by
    have hr' : (({ U with heap := s₂.heap, slotsUsed := s₂.slotsUsed } : State).setVm s₂.vm).frames = .java g₀ :: r := hr
    refine e3.trans ?_
    rw [hT', hf₂, State.calling_eq hAt.top, State.setFrames_setFrames, State.pushFrame, State.frames_setTop _ hr', State.setTop_of_frames _ hr', State.setFrames_setFrames, hr]
    rfl
  have hsame : U.sameButNew ({ U with heap := s₂.heap, slotsUsed := s₂.slotsUsed } : State) L 1 6 := by
    refine ⟨?_, q2, q3, q4, q5, q6⟩
    obtain ⟨th, ht, -⟩ := State.frames_cons hr
    show ({ U with heap := s₂.heap, slotsUsed := s₂.slotsUsed } : State) = { U.setFrames U.frames with heap := s₂.heap, slotsUsed := s₂.slotsUsed }
    rw [State.setFrames_self ht]
  have X₂ : Stand p l e R s mid args below meth c T' (locs ++ L) (cells + 1) (slots + 6) := by
    rw [hT']
    exact ⟨X₁.admits, X₁.cas, X₁.clock, X₁.frames, X₁.room, X₁.hears, X₁.method, X₁.code, (X₁.here.setHeapUsed s₂.heap s₂.slotsUsed).setVm hWU.alike, X₁.tail, State.WarmedH.trans X₁.warmed hWU, X₁.limits, X₁.bytes, X₁.same.trans (hsame.setVm s.vm)⟩
  refine ⟨x, U.calling f mk a, s₂, T', L, hUh, X₁.warmed, X₂, hL, by rw [hT']; rfl, by rw [hT']; rfl, hq, fun tg h => hstep₁ _ fun acts => ?_⟩
  rw [doInvoke_state]
  rw [← es] at h
  exact hsteps.trans h
/-- a call of a method that throws, in a method that doesn't catch -/
theorem zs_callVT (C : zCx p s mid args meth c m D cs E nL) (hT : zXT s E) (hl : meth.locks = false) (hemp : c.exceptionTable.isEmpty = true) {pc nx j r k : Nat} {tags : List Nat} {maxL rt : Nat} {cls : Array Slot} {a0 : zV} {as rest : List zV} {S S1 : zS} {rm : Room} (hcs : cls.size = nL) (hc : zcd m pc = some (.invokevirtual j, nx, r)) (hr9 : r < 266) (hm : zmi r = some (tags, maxL, rt)) (htag : tags = (a0 :: as).map (fun w => w.1)) (hw : (rest.map zcat).sum ≤ 8)
    (hrm : rm.cells = 1 ∧ rm.slots = 6) (hR : rm.frames + 1 ≤ R.frames ∧ rm.locals + 8 + (maxL + 11) ≤ R.locals ∧ 1 ≤ R.cells ∧ 6 ≤ R.slots)
    (hM : zMetT l (zy r) (zws r) rm (zPcT D cs E (a0 :: as) S) (zQt D cs E k S1) (fun q => E.1 ≤ q)) : zK p l e R s mid args below meth c 0 0 (zMQT below (zQt D cs E k S1) args s (fun q => E.1 ≤ q)) D cs E cls pc ((a0 :: as).reverse ++ rest) S := by
  intro H locs hG hok T hTH X
  subst hTH
  obtain ⟨hx, hb, hml, hown, hts, hK, hnm, hdk, hX⟩ := C
  obtain ⟨hd, rfl, hik⟩ := zdec' (n := 2) hdk hc rfl
  simp only [zik, Bool.and_eq_true, Bool.or_eq_true, Bool.not_eq_true'] at hik
  rcases hik with z | ⟨⟨⟨hlk, -⟩, hst⟩, hin⟩
  · have := Nat.eq_of_beq_eq_true z; omega
  obtain ⟨g1, g2, g3, g4, g5, g6, -⟩ := zrow hr9 hm
  obtain ⟨g4, g7⟩ := g4 hst
  have ha0 : a0.1 = 20 + zcm r := by
    rw [htag] at g4
    exact Option.some.inj g4
  have hoa : zokv S.1 a0 := hok a0 (List.mem_append_left _ (List.mem_reverse.mpr List.mem_cons_self))
  obtain ⟨t0, o⟩ := a0
  dsimp only at ha0
  subst ha0
  obtain ⟨q, rfl, hq, hob⟩ := zok_o hoa (by omega) (by omega)
  have hwq := zW_at (E := E) (cs := cs) hq
  rw [zce_ob hob] at hwq
  have hv0 : zvl E (20 + zcm r, (q : Int)) = .ref (E.1 + q) := zvl_o (by omega) (by omega)
  have hlk := zw_m hlk
  rw [zyn_eq hr9] at hlk
  have hgood : GoodIn zcs (wsV (zcl (zcm m)) j (zcl (zcm r)) (zy r) (zws r)) := by
    intro w hw
    unfold wsV at hw
    rcases List.mem_append.mp hw with hw | hw
    · simp only [List.mem_cons, List.not_mem_nil, or_false] at hw
      rcases hw with rfl | rfl | rfl | rfl
      · exact ⟨hlk, Or.inl rfl⟩
      · exact ⟨zinst_in hr9 hst, Or.inl rfl⟩
      · exact ⟨zsel_in hr9 hst hin, Or.inl rfl⟩
      · exact ⟨zini_in g3, Or.inl rfl⟩
    · rcases zws_good (m := r) with z | z | z
      · exact z w hw
      · exact absurd hr9 z
      · rw [hm] at z; cases z
  have hlen : as.length = tags.length - 1 := by rw [htag, List.length_map, List.length_cons]; rfl
  obtain ⟨x, st₀, t, T', L, h0, hW0, X', hL, e1, e2, hQ, st⟩ := zcallVT X hx (C := zcl (zcm r)) (b := E.1 + q) (As := as.map (zvl E)) (rest := rest.map (zvl E)) (g := F0 mid pc cls ((((20 + zcm r, (q : Int)) :: as).reverse ++ rest).map (zvl E))) (index := j) hown hM
    (cwV (C := zcl (zcm r)) (as.length) hts hgood (zws_eq hm) hrm.1 hrm.2 ⟨g1, by rw [g1]; exact (zcl_ne g3).1, by rw [g1]; exact (zcl_ne g3).2, by rw [g6, hst, hlen]; rfl⟩ ⟨hR.1, by have := hR.2.1; omega⟩)
    ⟨zPcT_blind, va_recv hK hG.1 (zcls_at g7) hwq, fun U hU hW => ⟨⟨by rw [List.map_cons, hv0], ⟨by rw [hU]; exact hG.1, hG.2.1, hG.2.2.2⟩, va_K.moved hW.alike hK, zX_kept hX hG.2.2.1 hU hW.alike⟩, zXT_at hT hG.2.2.1 hU hW⟩⟩
    rfl (List.length_map _) (hcs.trans hml.symm) (by show List.map _ _ = _; rw [List.map_append, List.map_reverse, List.map_cons, List.reverse_cons, hv0, List.append_assoc]; rfl) (by rw [zsum E]; show 2 * 0 + (rest.map zcat).sum ≤ 8; omega) (by rw [hb]; exact hd) ⟨by have := hR.2.2.1; omega, by have := hR.2.2.2; omega⟩
  obtain ⟨⟨x', ce, ho, b1, b2, b3, b4⟩, hP, hF⟩ := hQ
  cases ho
  have hnil : c.exceptionTable.toList = [] := by
    have h5 : c.exceptionTable = #[] := by simpa using hemp
    rw [h5]
  obtain ⟨l1, l2, l3, l4, l5⟩ := X'.leaveThrown x (g := { F0 mid pc cls ((((20 + zcm r, (q : Int)) :: as).reverse ++ rest).map (zvl E)) with stack := rest.map (zvl E) }) rfl rfl rfl (by rw [hnil]; intro y hy; cases hy) hl
  rw [h0] at b1
  have hz := hF.1
  rw [h0] at hz
  have hkept := hF.2
  rw [h0] at hkept
  have hh : (T'.setFrames (.throwing x :: below)).heap = t.heap := e1
  refine ⟨T'.setFrames (.throwing x :: below), st _ l1, .threw x, l2, l3, ⟨⟨x, ce, rfl, Nat.le_trans hG.2.2.1.1 b1, by rw [hh]; exact b2, b3, by rw [← hW0.alike.findClass]; exact b4⟩, by rw [hh]; exact hP, ⟨by rw [hh]; exact Nat.le_trans hG.2.2.1.1 hz, fun q h1 h2 => by rw [hh, hkept q (Nat.lt_of_lt_of_le h1 hG.2.2.1.1) h2]; exact hG.2.2.1.2.1 q h1 h2⟩⟩, locs ++ L, ⟨⟨x, rfl⟩, l4, l5⟩, fun q hq => ?_⟩
  rcases List.mem_append.mp hq with h | h
  · exact hG.2.2.1.2.2 q h
  · exact hL q h
/-- a throwing method's contract out of its walk -/
theorem zmetT_of {r : Nat} {tags : List Nat} {maxL rt k : Nat} {as : List zV} {S S1 : zS} {rm : Room} (hr9 : r < 266) (hm : zmi r = some (tags, maxL, rt)) (htag : tags = as.map (fun w => w.1))
    (body : ∀ (p : Program) (e : Env) (s : State) (mid : MethodId) (args : Array Value) (below : List Frame) (meth : Method) (c : Code) (cls : Array Slot), zCx p s mid args meth c r D cs E maxL → meth.locks = false → c.exceptionTable.isEmpty = true → zXT s E → zL E maxL (zmkl r as) cls → zK p l e rm s mid args below meth c 0 0 (zMQT below (zQt D cs E k S1) args s (fun q => E.1 ≤ q)) D cs E cls 0 [] S) :
    zMetT l (zy r) (zws r) rm (zPcT D cs E as S) (zQt D cs E k S1) (fun q => E.1 ≤ q) := by
  obtain ⟨g1, g2, g3, g4, g5, g6, -⟩ := zrow hr9 hm
  refine MetFree.of_bodyS (code := zb r) (maxLocals := maxL) (ret := zrty rt) (by rw [g1]; exact g2) ?_ ?_
  · intro args s mid h hn
    obtain ⟨meth, c, h1, h2, h3, h4, h5, h6, -, -⟩ := Cond.code_spec hn (atoms_spec (ws := zws r) h _ (by rw [zws_eq hm]; exact List.mem_cons_self))
    exact ⟨meth, c, h1, h2, h3, h4, h5, h6⟩
  · intro p e s mid args below meth c s₁ B hml hv _
    obtain ⟨⟨rfl, ⟨hP, hD, hk⟩, hK, hX⟩, hXT⟩ := hv
    have hts0 := atoms_spec (ws := zws r) B.pre
    have hown : s.vm.findClass (zcl (zcm r)) = some mid.cls := by
      have := findClass_of_methodNamed B.named
      rwa [g1] at this
    have X0 := Stand.of_body B
    have hemp : c.exceptionTable.isEmpty = true := by
      obtain ⟨meth', c', h1, h2, -, -, -, -, h7, -⟩ := Cond.code_spec B.named (hts0 _ (by rw [zws_eq hm]; exact List.mem_cons_self))
      cases B.method.symm.trans h1
      cases X0.code.symm.trans h2
      exact h7
    have hl := lv_entry (as.map (zvl E)) (n := maxL) (by rw [zargs_len, ← htag]; exact g5)
    have hmk : zmkl r as = zpad maxL (zargs as) := by unfold zmkl; rw [hm]
    have hh0 : s₁.heap = s.heap := by rw [B.state]; rfl
    rw [lg_entry_eq]
    generalize (lg_sl (as.map (zvl E)) ++ List.replicate (maxL - (lg_sl (as.map (zvl E))).length) Slot.unset).toArray = cls at hl ⊢
    obtain ⟨t, a1, o, b1, b2, b3⟩ := body p e s mid _ below meth c cls ⟨B.exec, B.bytes, hml, hown, fun w hw => hts0 w (List.mem_cons_of_mem _ hw), hK, (name_of_methodNamed B.named B.method).1, zdk_ok hr9, hX⟩ B.notSynchronized hemp hXT ⟨by rw [hmk, zpad_len], hl.1, hl.2.1, fun i w hi h9 => by
      rw [hmk] at hi
      have h10 := zargs_mem (E := E) as 0 i w (zpad_get _ _ i w hi h9) h9
      rw [Nat.zero_add] at h10
      exact hl.2.2 _ h10⟩ s.heap [] ⟨hP, hD, va_S.rf, hk⟩ (fun _ h => by cases h) s₁ hh0 X0
    exact ⟨t, o, a1, b1, b2, b3.1, b3.2⟩
end ZTH
