/-! Constructors: what is made, and the references that are set. -/
theorem zal_dec : (List.range 118).all (fun t => match zal t with
  | some (tag, o) => decide (o = (zno t : Int)) && Nat.beq (zob (zno t)) tag && (Nat.beq tag 10 || Nat.beq tag 11 || Nat.beq tag 12 || Nat.beq tag 13 || (Nat.ble 20 tag && Nat.blt tag 30 && (List.range (zfb (tag - 20)).2).all (fun k => match zfl ((zfb (tag - 20)).1 + k) with
    | some (_, _, ft, _, tm) => Nat.blt ft 10 || Nat.blt t tm
    | none => false)))
  | none => true) = true := by decide +kernel
theorem zfr_dec : (List.range 100).all (fun r => match zfl r with
  | some (ci, _, ft, _, tm) => Nat.blt ft 10 || ((zal tm).isNone && (List.range 100).all (fun r2 => match zfl r2 with
    | some (_, _, ft2, _, tm2) => Nat.blt ft2 10 || Nat.beq r r2 || !Nat.beq tm tm2
    | none => true) && (List.range 55).all (fun a => !Nat.beq (zob a) (20 + ci) || (List.range 55).all (fun b => !Nat.beq (zob b) (20 + ci) || Nat.beq a b)))
  | none => true) = true := by decide +kernel
theorem zno_end : zno 118 = 55 := by decide +kernel
theorem zal_none {t : Nat} (h : 118 ≤ t) : zal t = none := by
  unfold zal
  rw [show Nat.blt t 118 = false from Bool.eq_false_iff.mpr (fun z => by have := Nat.le_of_ble_eq_true z; omega)]
  rfl
theorem zno_succ (t : Nat) : zno (t + 1) = zno t + (if (zal t).isSome then 1 else 0) := by
  unfold zno
  rw [List.range_succ, List.filter_append, List.length_append]
  congr 1
  cases h : (zal t).isSome with
  | true => simp [List.filter_cons, h]
  | false => simp [List.filter_cons, h]
theorem zno_all (t : Nat) : zno t ≤ 55 := by
  rcases Nat.le_total t 118 with h | h
  · rw [← zno_end]; exact zno_le h
  · obtain ⟨d, rfl⟩ := Nat.exists_eq_add_of_le h
    clear h
    induction d with
    | zero => rw [Nat.add_zero, zno_end]; exact Nat.le_refl _
    | succ d ih => rw [← Nat.add_assoc, zno_succ, zal_none (by omega)]; exact ih
theorem zal_facts {t tag : Nat} {o : Int} (h : zal t = some (tag, o)) : o = (zno t : Int) ∧ zob (zno t) = tag ∧ zno (t + 1) = zno t + 1 ∧ (tag = 10 ∨ tag = 11 ∨ tag = 12 ∨ tag = 13 ∨ (20 ≤ tag ∧ tag < 30 ∧ ∀ k, k < (zfb (tag - 20)).2 → ∃ ci k' ft tg tm, zfl ((zfb (tag - 20)).1 + k) = some (ci, k', ft, tg, tm) ∧ (10 ≤ ft → t < tm))) := by
  have ht : t < 118 := by
    rcases Nat.lt_or_ge t 118 with z | z
    · exact z
    · rw [zal_none z] at h; cases h
  have h1 := List.all_eq_true.mp zal_dec t (List.mem_range.mpr ht)
  rw [h] at h1
  simp only [Bool.and_eq_true, decide_eq_true_eq, Bool.or_eq_true] at h1
  obtain ⟨⟨a1, a2⟩, a3⟩ := h1
  refine ⟨a1, Nat.eq_of_beq_eq_true a2, by rw [zno_succ, h]; rfl, ?_⟩
  rcases a3 with (((z | z) | z) | z) | ⟨⟨z1, z2⟩, z3⟩
  · exact Or.inl (Nat.eq_of_beq_eq_true z)
  · exact Or.inr (Or.inl (Nat.eq_of_beq_eq_true z))
  · exact Or.inr (Or.inr (Or.inl (Nat.eq_of_beq_eq_true z)))
  · exact Or.inr (Or.inr (Or.inr (Or.inl (Nat.eq_of_beq_eq_true z))))
  · refine Or.inr (Or.inr (Or.inr (Or.inr ⟨Nat.le_of_ble_eq_true z1, Nat.le_of_ble_eq_true z2, fun k hk => ?_⟩)))
    have h4 := List.all_eq_true.mp z3 k (List.mem_range.mpr hk)
    cases hz : zfl ((zfb (tag - 20)).1 + k) with
    | none => rw [hz] at h4; cases h4
    | some w =>
      obtain ⟨ci, k', ft, tg, tm⟩ := w
      rw [hz] at h4
      simp only [Bool.or_eq_true] at h4
      refine ⟨ci, k', ft, tg, tm, rfl, fun z => ?_⟩
      rcases h4 with q | q
      · have := Nat.le_of_ble_eq_true q; omega
      · exact Nat.le_of_ble_eq_true q
theorem zfl_lt {r : Nat} {q : Nat × Int × Nat × Int × Nat} (h : zfl r = some q) : r < 100 := by
  unfold zfl at h
  cases hb : Nat.blt r 100 with
  | false => rw [hb] at h; cases h
  | true => exact Nat.le_of_ble_eq_true hb
theorem zfr_facts {r ci ft tm : Nat} {k tg : Int} (h : zfl r = some (ci, k, ft, tg, tm)) (hft : 10 ≤ ft) : zal tm = none ∧ (∀ r2 ci2 k2 ft2 tg2 tm2, zfl r2 = some (ci2, k2, ft2, tg2, tm2) → 10 ≤ ft2 → tm2 = tm → r2 = r) ∧ ∀ a b, a < 55 → b < 55 → zob a = 20 + ci → zob b = 20 + ci → a = b := by
  have h1 := List.all_eq_true.mp zfr_dec r (List.mem_range.mpr (zfl_lt h))
  rw [h] at h1
  simp only [Bool.and_eq_true, Bool.or_eq_true] at h1
  rcases h1 with z | ⟨⟨z1, z2⟩, z3⟩
  · have := Nat.le_of_ble_eq_true z; omega
  refine ⟨Option.isNone_iff_eq_none.mp z1, fun r2 ci2 k2 ft2 tg2 tm2 h2 hf2 he => ?_, fun a b ha hb ea eb => ?_⟩
  · have h3 := List.all_eq_true.mp z2 r2 (List.mem_range.mpr (zfl_lt h2))
    rw [h2] at h3
    simp only [Bool.or_eq_true, Bool.not_eq_true'] at h3
    rcases h3 with (q | q) | q
    · have := Nat.le_of_ble_eq_true q; omega
    · exact (Nat.eq_of_beq_eq_true q).symm
    · rw [he, Nat.beq_refl] at q; cases q
  · have h3 := List.all_eq_true.mp z3 a (List.mem_range.mpr ha)
    rw [ea] at h3
    simp only [Nat.beq_refl, Bool.not_true, Bool.false_or] at h3
    have h4 := List.all_eq_true.mp h3 b (List.mem_range.mpr hb)
    rw [eb] at h4
    simp only [Nat.beq_refl, Bool.not_true, Bool.false_or] at h4
    exact Nat.eq_of_beq_eq_true h4
theorem zfl_ref {r ci ft tm : Nat} {k tg : Int} (h : zfl r = some (ci, k, ft, tg, tm)) (hft : 10 ≤ ft) : (∃ n, zft r = .object n) ∨ ∃ t, zft r = .array t := by
  have h1 := List.all_eq_true.mp zfk_ok r (List.mem_range.mpr (zfl_lt h))
  unfold zfk at h1
  rw [h] at h1
  simp only [Bool.and_eq_true] at h1
  have h2 := h1.2
  revert h2
  cases zft r with
  | int => intro z; have := Nat.eq_of_beq_eq_true z; omega
  | boolean => intro z; have := Nat.eq_of_beq_eq_true z; omega
  | array t => intro _; exact Or.inr ⟨t, rfl⟩
  | object n => intro _; exact Or.inl ⟨n, rfl⟩
  | _ => intro z; cases z
section ZCON
variable {p : Program} {l : Launch} {e : Env} {R : Room} {s : State} {mid : MethodId} {args : Array Value} {below : List Frame} {meth : Method} {c : Code} {cells slots : Nat} {Q : State → Prop}
variable {m nL : Nat} {D : va_G} {cs : ClassId × ClassId × ClassId × ClassId} {E : zE}
theorem zokv_le {t t' : Nat} {v : zV} (h : zokv t v) (ht : t ≤ t') : zokv t' v := by
  rcases h with h | h | h | h | h
  · exact Or.inl h
  · exact Or.inr (Or.inl h)
  · exact Or.inr (Or.inr (Or.inl h))
  · exact Or.inr (Or.inr (Or.inr (Or.inl h)))
  · exact Or.inr (Or.inr (Or.inr (Or.inr ⟨h.1, h.2.1, h.2.2.1, Nat.lt_of_lt_of_le h.2.2.2.1 (zno_le ht), h.2.2.2.2⟩)))
/-- a field's value while the time goes on, no setting of its own -/
theorem zfv_time {S : zS} {L' : Int → Int} {o : Int} {ci k : Nat} (h : ∀ ci2 k2 ft tg tm, zfl ((zfb ci).1 + k) = some (ci2, k2, ft, tg, tm) → 10 ≤ ft → tm ≠ S.1) : zfv E (S.1 + 1, L', S.2.2) o ci k = zfv E S o ci k := by
  unfold zfv
  cases hz : zfl ((zfb ci).1 + k) with
  | none => rfl
  | some w =>
    obtain ⟨a, b, ft, tg, tm⟩ := w
    dsimp only
    cases h10 : Nat.ble 10 ft with
    | false => rfl
    | true =>
      have hne := h a b ft tg tm hz (Nat.le_of_ble_eq_true h10)
      have : Nat.blt tm (S.1 + 1) = Nat.blt tm S.1 := by
        cases hb : Nat.blt tm S.1 with
        | true => exact Nat.ble_eq_true_of_le (Nat.le_succ_of_le (Nat.le_of_ble_eq_true hb))
        | false =>
          refine Bool.eq_false_iff.mpr (fun z => ?_)
          have h1 := Nat.le_of_ble_eq_true z
          have h2 : ¬ tm < S.1 := fun q => by rw [show Nat.blt tm S.1 = true from Nat.ble_eq_true_of_le q] at hb; cases hb
          omega
      rw [this]
/-- how large the heap is, while things are made -/
theorem zsize {H : Heap} {locs : List Loc} {S : zS} {k0 : Nat} {T : State} (hG : zG D cs E s.heap S H locs) (hs0 : s.heap.size = E.1 + k0) (hk0 : k0 ≤ zno S.1) (hcells : cells + k0 = zno S.1) (hT : T.heap = H) (X : Stand p l e R s mid args below meth c T locs cells slots) : H.size = E.1 + zno S.1 := by
  have h1 := X.heapSize
  rw [hT, hs0] at h1
  have h2 := hG.2.2.1.1
  rcases Nat.eq_zero_or_pos (zno S.1) with z | z
  · omega
  · have h3 := (hG.1 (zno S.1 - 1) _ (zW_at (E := E) (cs := cs) (o := zno S.1 - 1) (by omega))).lt
    dsimp only at h3
    omega
theorem zW_app {S S' : zS} (ht : zno S'.1 = zno S.1 + 1) (hn : ∀ q : Nat, q < zno S.1 → zce E cs S' q = zce E cs S q) : zW E cs S' = zW E cs S ++ [(E.1 + zno S.1, zce E cs S' (zno S.1))] := by
  unfold zW
  rw [ht, List.range_succ, List.map_append]
  congr 1
  exact List.map_congr_left (fun q hq => by rw [hn q (List.mem_range.mp hq)])
theorem zG_push {H H1 : Heap} {locs : List Loc} {S S' : zS} (hG : zG D cs E s.heap S H locs) (hsz : H.size = E.1 + zno S.1) (hz1 : H1.size = H.size + 1) (o1 : ∀ q, q < H.size → H1[q]? = H[q]?) (ht : zno S'.1 = zno S.1 + 1) (hn : ∀ q : Nat, q < zno S.1 → zce E cs S' q = zce E cs S q) (hat : va_at D zcls (E.1 + zno S.1, zce E cs S' (zno S.1)) H1) (hk : zokS E S') : zG D cs E s.heap S' H1 locs := by
  have hP : va_P D zcls (zW E cs S) H1 := hG.1.kept (fun k x hx => o1 x.1 ((hG.1 k x hx).lt))
  refine ⟨?_, ?_, ⟨by have := hG.2.2.1.1; omega, fun x h1 h2 => (o1 x (Nat.lt_of_lt_of_le h1 hG.2.2.1.1)).trans (hG.2.2.1.2.1 x h1 h2), hG.2.2.1.2.2⟩, hk⟩
  · rw [zW_app ht hn]
    refine hP.app (fun k x hx => ?_)
    have hz : k < 1 := (List.getElem?_eq_some_iff.mp hx).1
    rw [show k = 0 by omega] at hx
    cases hx
    exact hat
  · rw [zW_app ht hn]
    exact hG.2.1.push hG.1 hsz.symm (Nat.le_add_right _ _)
theorem zs_new (C : zCx p s mid args meth c m D cs E nL) {pc nx j r k0 : Nat} {o : Int} {cls : Array Slot} {st : List zV} {S : zS} (hc : zcd m pc = some (.new j, nx, r)) (h1000 : Nat.ble 1000 r = false) (ha : zal S.1 = some (r, o)) (hr : 20 ≤ r) (h0 : ∀ i, S.2.2 o i = 0)
    (hs0 : s.heap.size = E.1 + k0) (hk0 : k0 ≤ zno S.1) (hcells : cells + k0 = zno S.1) (hRc : cells + 1 ≤ R.cells) (hRs : slots + (zfb (r - 20)).2 ≤ R.slots)
    (k : zK p l e R s mid args below meth c (cells + 1) (slots + (zfb (r - 20)).2) Q D cs E cls nx ((r, o) :: st) (S.1 + 1, S.2.1, S.2.2)) : zK p l e R s mid args below meth c cells slots Q D cs E cls pc st S := by
  intro H locs hG hok T hT X
  have hsz := zsize hG hs0 hk0 hcells hT X
  obtain ⟨hx, hb, hml, hown, hts, hK, hnm, hdk, hX⟩ := C
  obtain ⟨hd, rfl, hik⟩ := zdec' (n := 2) hdk hc rfl
  obtain ⟨e1, e2, e3, e4⟩ := zal_facts ha
  obtain ⟨-, e6, e7⟩ : 20 ≤ r ∧ r < 30 ∧ ∀ k, k < (zfb (r - 20)).2 → ∃ ci k' ft tg tm, zfl ((zfb (r - 20)).1 + k) = some (ci, k', ft, tg, tm) ∧ (10 ≤ ft → S.1 < tm) := by
    rcases e4 with z | z | z | z | z
    · omega
    · omega
    · omega
    · omega
    · exact z
  obtain ⟨ci, rfl⟩ : ∃ ci, r = 20 + ci := ⟨r - 20, by omega⟩
  simp only [Nat.add_sub_cancel_left] at e7 hRs k
  have hci : ci < 10 := by omega
  simp only [zik, h1000, Bool.false_or, Bool.and_eq_true] at hik
  have hlk := zw_n hik.1
  rw [Nat.add_sub_cancel_left] at hlk
  have hins : Cond.instantiable (zcl ci) (zfb ci).2 ∈ zcs := by
    have h1 := List.all_eq_true.mp zpa_ok ci (List.mem_range.mpr hci)
    simp only [decide_eq_true_eq] at h1
    exact zin_cs h1 rfl
  subst e1
  have hKn := hK.1 ci _ (zcls_at hci)
  have hnt : ∀ q : Nat, zce E cs (S.1 + 1, S.2.1, S.2.2) q = zce E cs S q := by
    intro q
    have hz : ∀ (c' : Nat), zfv E (S.1 + 1, S.2.1, S.2.2) q c' = zfv E S q c' := fun c' => funext fun k' => zfv_time (fun ci2 k2 ft tg tm hz h10 he => by
      have := (zfr_facts hz h10).1
      rw [he, ha] at this
      cases this)
    unfold zce
    simp only [hz]
  refine (W.newcK (H := H) hx hb hown (hts _ hlk) (hts _ hins) (hts _ (zini_in (by omega))) rfl hd hRc hRs hKn.2.1 hsz (fun H1 kC hkC e1 z1 o1 => ?_) : W p l e R s mid args below meth c H locs cells slots Q (F0 mid pc cls (st.map (zvl E)))) T hT X
  have hG1 : zG D cs E s.heap (S.1 + 1, S.2.1, S.2.2) H1 locs := by
    refine zG_push hG hsz (by rw [z1, hsz]) (fun q hq => o1 q (by omega)) e3 (fun q _ => hnt q) ?_ hG.2.2.2
    rw [zce_ob (S := (S.1 + 1, S.2.1, S.2.2)) e2]
    refine ⟨_, zcls_at hci, (u_born (fun k => zft ((zfb ci).1 + k)) hts (zlay_in hci) hKn hkC e1 (ztypes hci)).to (fun i hi => ?_)⟩
    have hi : i < (zfb ci).2 := hi
    show defaultValue (zft ((zfb ci).1 + i)) = vp_V _ i
    unfold vp_V
    rw [List.getD_eq_getElem?_getD, zfv_at hi, Option.getD_some]
    obtain ⟨ci2, k2, ft, tg, tm, hz, hlt⟩ := e7 i hi
    unfold zfv
    rw [hz]
    dsimp only
    obtain ⟨f1, f2, f3, f4, f5, f6, f7, f8, f9, f10⟩ := zfl_facts hz
    by_cases h10 : 10 ≤ ft
    · have := hlt h10
      rw [show Nat.ble 10 ft = true from Nat.ble_eq_true_of_le h10, show Nat.blt tm (S.1 + 1) = false from Bool.eq_false_iff.mpr (fun z => by have := Nat.le_of_ble_eq_true z; omega)]
      have hr := zfl_ref hz h10
      rcases hr with ⟨n, hn⟩ | ⟨t, hn⟩ <;> rw [hn] <;> rfl
    · have hlt : ft < 10 := by omega
      rw [show Nat.ble 10 ft = false from Bool.eq_false_iff.mpr (fun z => h10 (Nat.le_of_ble_eq_true z)), h0]
      rcases f8 hlt with z | z
      · rw [f6 z, z]; rfl
      · rw [f7 z, z]; rfl
  have := k H1 locs hG1 (zcons' (Or.inr (Or.inr (Or.inr (Or.inr ⟨by show 10 ≤ 20 + ci; omega, by show 20 + ci ≠ 14; omega, Int.natCast_nonneg _, by show (zno S.1 : Int).toNat < zno (S.1 + 1); rw [e3, Int.toNat_natCast]; omega, by show zob (zno S.1 : Int).toNat = 20 + ci; rw [Int.toNat_natCast]; exact e2⟩)))) (fun w hw => zokv_le (hok w hw) (Nat.le_succ _)))
  simp only [List.map_cons, zvl_o (show 10 ≤ 20 + ci by omega) (show 20 + ci ≠ 14 by omega)] at this
  exact this
end ZCON
