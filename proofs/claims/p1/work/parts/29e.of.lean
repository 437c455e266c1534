/-! The law's walk from its entry, out of the small machine's run. -/
def R_law : String := "DiskPoolLaw"
def lw_P (b : Addr) (xs : List Int32) (args : Array Value) (s : State) : Prop := args = #[.ref b] ∧ s.IntsAt b xs ∧ xs.length ≤ 10 ∧ (Jvm.Cond.and given_1 narrow_1).before args s = true
def lw_Q (_ : Array Value) (s : State) (o : Outcome) (t : State) : Prop := o = .returned (some (.int 1)) ∧ Framed s o t [] 600002 7302197
def lw_Z (below : List Frame) (a : Array Value) (s : State) : State → Prop := fun t => ∃ o, t.status = .running ∧ Ended t below o ∧ lw_Q a s o t
/-- what holds at the law's entry -/
def lw_At (p : Program) (s : State) (m : MethodId) (meth : Method) (c : Code) (b L : Nat) (xs : Nat → Int32) : Prop :=
  p.tables.exec = Jvm.exec ∧ c.code = code ∧ meth.sig.returnType = ret ∧ c.maxLocals = 8 ∧ s.vm.findClass R_law = some m.cls ∧ (∀ w ∈ lw_tbl, w.before #[Value.ref b] s = true) ∧ va_X b L xs s s.heap ∧ b < s.heap.size ∧ meth.locks = false ∧ (Jvm.Cond.and given_1 narrow_1).before #[Value.ref b] s = true ∧ meth.name = "law"
theorem zstart {p : Program} {e : Env} {s : State} {m : MethodId} {below : List Frame} {meth : Method} {c : Code} {l : Launch} {b L : Nat} {xs : Nat → Int32} (htrc : ∀ e : Env, l.admits e → e.platform.stackTraces = false) (hZ : zRuns L xs) (hL : L ≤ 3587) (C0 : lw_At p s m meth c b L xs) : W p l e room_1 s m #[Value.ref b] below meth c s.heap [] 0 0 (lw_Z below #[Value.ref b] s) (entryFrame m ([Value.ref b] : List Value).toArray 8) := by
  obtain ⟨hx, hb, hr, hml, hown, hts, hX, hbl, hlk, hgv, hnm⟩ := C0
  obtain ⟨D, cs, hK⟩ := zworld hts
  obtain ⟨t, f1, f2, f3⟩ := zfall hgv hts
  obtain ⟨E, hE⟩ : ∃ E : zE, E = (s.heap.size, t, b, L, xs) := ⟨_, rfl⟩
  have hXT : zXT s E := zthrows (by rw [hE]) hgv hts
  have hzX : zX s E := by rw [hE]; exact ⟨f1, f2, f3, f3, hX, hbl, hbl, by show L ≤ 1000000; omega⟩
  have C : zCx p s m #[Value.ref b] meth c 287 D cs E 8 := ⟨hx, hb, hml, hown, fun w hw => hts w (List.mem_filter.mp hw).1, hK, hnm, zdk_okL, hzX⟩
  have hl := lv_entry ([Value.ref b]) (n := 8) (Nat.le_of_ble_eq_true rfl)
  rw [lg_entry_eq]
  generalize (lg_sl [Value.ref b] ++ List.replicate (8 - (lg_sl [Value.ref b]).length) Slot.unset).toArray = cls at hl ⊢
  have hLs : zL E 8 (zlS (9, 0) (9, 0) (9, 0) (9, 0)) cls := by
    refine ⟨rfl, hl.1, hl.2.1, fun i w hi h9 => ?_⟩
    rcases i with _ | _ | _ | _ | _ | _ | _ | _ | i
    · cases hi
      have hv : zvl E (14, -7) = .ref b := by rw [hE]; rfl
      rw [hv]
      exact hl.2.2 _ List.mem_cons_self
    · cases hi; exact absurd rfl h9
    · cases hi; exact absurd rfl h9
    · cases hi; exact absurd rfl h9
    · cases hi; exact absurd rfl h9
    · cases hi; exact absurd rfl h9
    · cases hi; exact absurd rfl h9
    · cases hi; exact absurd rfl h9
    · cases hi
  obtain ⟨mc, ms, S3, h1, h2, h3⟩ := zwalk (p := p) (l := l) (e := e) (R := room_1) (below := below) (L := L) (xs := xs) htrc C hr hlk hXT (by rw [hE]) hL hZ hLs (by decide)
  intro T hT X
  have q0 : zno 0 = 0 := zn_all.1
  have hW0 : zW E cs (0, zA0 L, zH0 L xs) = [] := by
    unfold zW
    show (List.range (zno 0)).map _ = []
    rw [q0]
    rfl
  have hP0 : va_P D zcls (zW E cs (0, zA0 L, zH0 L xs)) s.heap := by
    rw [hW0]
    intro k q hq
    rw [List.getElem?_nil] at hq
    cases hq
  have hD0 : va_D (fun q => E.1 ≤ q) (zW E cs (0, zA0 L, zH0 L xs)) := by
    rw [hW0]
    refine ⟨fun i j x y hx _ _ => ?_, fun k q hq => ?_⟩
    · rw [List.getElem?_nil] at hx
      cases hx
    · rw [List.getElem?_nil] at hq
      cases hq
  have hok0 : zokS E (0, zA0 L, zH0 L xs) := zok0 (by rw [hE]) (by rw [hE]) hL
  obtain ⟨u, a1, o, b1, b2, b3, L', b4, b5⟩ := h3 s.heap [] ⟨hP0, hD0, va_S.rf, hok0⟩ (fun _ h => by cases h) T hT X
  have hE1 : E.1 = s.heap.size := by rw [hE]
  refine ⟨u, a1, o, b1, b2, b3.1, b4.1, b4.2.1, b4.2.2.weaken (fun y hy hlt => absurd hlt (Nat.not_lt.mpr ?_)) h1 h2⟩
  have h9 := b5 y hy
  rw [hE1] at h9
  exact h9
