section ZCON2
variable {p : Program} {l : Launch} {e : Env} {R : Room} {s : State} {mid : MethodId} {args : Array Value} {below : List Frame} {meth : Method} {c : Code} {cells slots : Nat} {Q : State → Prop}
variable {m nL : Nat} {D : va_G} {cs : ClassId × ClassId × ClassId × ClassId} {E : zE}
theorem zarr_in : Cond.arrayClass .int ∈ zcs ∧ Cond.arrayClass .long ∈ zcs ∧ Cond.arrayClass .byte ∈ zcs ∧ Cond.arrayClass .boolean ∈ zcs := by decide +kernel
theorem zfb_dec : (List.range 10).all (fun a => (List.range 10).all (fun b => Nat.beq a b || Nat.ble ((zfb a).1 + (zfb a).2) (zfb b).1 || Nat.ble ((zfb b).1 + (zfb b).2) (zfb a).1)) = true := by decide +kernel
theorem zfb_inj {a b k r : Nat} (ha : a < 10) (hb : b < 10) (h : (zfb a).1 + k = r) (hk : k < (zfb a).2) (h1 : (zfb b).1 ≤ r) (h2 : r - (zfb b).1 < (zfb b).2) : a = b := by
  have h3 := List.all_eq_true.mp (List.all_eq_true.mp zfb_dec a (List.mem_range.mpr ha)) b (List.mem_range.mpr hb)
  simp only [Bool.or_eq_true] at h3
  rcases h3 with (z | z) | z
  · exact Nat.eq_of_beq_eq_true z
  · have := Nat.le_of_ble_eq_true z; omega
  · have := Nat.le_of_ble_eq_true z; omega
theorem zob_dec : (List.range 55).all (fun q => Nat.blt (zob q) 30) = true := by decide +kernel
theorem zob_lt (q : Nat) (h : q < 55) : zob q < 30 := Nat.le_of_ble_eq_true (List.all_eq_true.mp zob_dec q (List.mem_range.mpr h))
theorem zs_newa (C : zCx p s mid args meth c m D cs E nL) {pc nx r k0 tag : Nat} {at_ : ArrayType} {o n : Int} {cls : Array Slot} {rest : List zV} {S : zS} (hc : zcd m pc = some (.newarray at_, nx, r)) (ha : zal S.1 = some (tag, o)) (htag : tag = zat at_) (hn : 0 ≤ n ∧ n ≤ 1000000) (h0 : ∀ i, S.2.2 o i = 0)
    (hs0 : s.heap.size = E.1 + k0) (hk0 : k0 ≤ zno S.1) (hcells : cells + k0 = zno S.1) (hRc : cells + 1 ≤ R.cells) (hRs : slots + n.toNat ≤ R.slots)
    (k : zK p l e R s mid args below meth c (cells + 1) (slots + n.toNat) Q D cs E cls nx ((tag, o) :: rest) (S.1 + 1, zlen S.2.1 o n, S.2.2)) : zK p l e R s mid args below meth c cells slots Q D cs E cls pc ((0, n) :: rest) S := by
  intro H locs hG hok T hT X
  have hsz := zsize hG hs0 hk0 hcells hT X
  obtain ⟨hx, hb, hml, hown, hts, hK, hnm, hdk, hX⟩ := C
  obtain ⟨hd, rfl, hik⟩ := zdec' (n := 1) hdk hc rfl
  obtain ⟨e1, e2, e3, e4⟩ := zal_facts ha
  obtain ⟨on, hok2⟩ := zcons hok
  have on := zok_i on
  subst e1
  obtain ⟨nn, rfl⟩ := Int.eq_ofNat_of_zero_le hn.1
  rw [Int.toNat_natCast] at hRs k
  have hneg : ¬ Int32.ofInt (nn : Int) < 0 := fun z => by
    rw [show (0 : Int32) = Int32.ofInt 0 from rfl, ofi_lt on z32_0] at z
    exact absurd z (Int.not_lt.mpr (Int.natCast_nonneg nn))
  have hnn : nn ≤ 1000000 := Int.ofNat_le.mp hn.2
  have hnt : ∀ q : Nat, q < zno S.1 → zce E cs (S.1 + 1, zlen S.2.1 (zno S.1) nn, S.2.2) q = zce E cs S q := by
    intro q hq
    have hz : ∀ (c' : Nat), zfv E (S.1 + 1, zlen S.2.1 (zno S.1) nn, S.2.2) q c' = zfv E S q c' := fun c' => funext fun k' => zfv_time (fun ci2 k2 ft tg tm hz h10 he => by
      have := (zfr_facts hz h10).1
      rw [he, ha] at this
      cases this)
    have hL : zlen S.2.1 (zno S.1) nn q = S.2.1 q := by
      have hqz : ¬ ((q : Int) = (zno S.1 : Int)) := fun z => Nat.ne_of_lt hq (Int.ofNat.inj z)
      unfold zlen
      rw [if_neg hqz]
    unfold zce
    simp only [hz, hL]
  have hkS : zokS E (S.1 + 1, zlen S.2.1 (zno S.1) nn, S.2.2) := by
    obtain ⟨⟨g1, g2, g3, g4⟩, h3, h4⟩ := hG.2.2.2
    refine ⟨⟨g1, ?_, g3, ?_⟩, h3, fun q => ?_⟩
    · show zlen S.2.1 (zno S.1) nn (-8) = 16
      unfold zlen; rw [if_neg (fun z => by
        have h9 := Int.natCast_nonneg (zno S.1)
        rw [← z] at h9
        exact absurd h9 (by decide))]; exact g2
    · show zlen S.2.1 (zno S.1) nn (-7) = _
      unfold zlen; rw [if_neg (fun z => by
        have h9 := Int.natCast_nonneg (zno S.1)
        rw [← z] at h9
        exact absurd h9 (by decide))]; exact g4
    · show 0 ≤ zlen S.2.1 (zno S.1) nn q ∧ zlen S.2.1 (zno S.1) nn q ≤ 1000000
      unfold zlen
      by_cases z : (q : Int) = (zno S.1 : Int)
      · rw [if_pos z]; exact hn
      · rw [if_neg z]; exact h4 q
  have hLn : zlen S.2.1 (zno S.1) nn (zno S.1) = nn := by unfold zlen; rw [if_pos rfl]
  have h10 : 10 ≤ tag ∧ tag ≠ 14 := by
    rcases e4 with z | z | z | z | ⟨z, -, -⟩
    · rw [z]; decide
    · rw [z]; decide
    · rw [z]; decide
    · rw [z]; decide
    · exact ⟨Nat.le_trans (by decide) z, fun q => absurd (q ▸ z) (by decide)⟩
  have fin : ∀ (H1 : Heap), H1.size = E.1 + zno S.1 + 1 → (∀ q, q < E.1 + zno S.1 → H1[q]? = H[q]?) → va_at D zcls (E.1 + zno S.1, zce E cs (S.1 + 1, zlen S.2.1 (zno S.1) nn, S.2.2) (zno S.1)) H1 → W p l e R s mid args below meth c H1 locs (cells + 1) (slots + nn) Q (F0 mid (pc + 2) cls (.ref (E.1 + zno S.1) :: rest.map (zvl E))) := by
    intro H1 z1 o1 hat
    have hG1 : zG D cs E s.heap (S.1 + 1, zlen S.2.1 (zno S.1) nn, S.2.2) H1 locs := zG_push hG hsz (by rw [z1, hsz]) (fun q hq => o1 q (by rw [← hsz]; exact hq)) e3 hnt hat hkS
    have := k H1 locs hG1 (zcons' (Or.inr (Or.inr (Or.inr (Or.inr ⟨h10.1, h10.2, Int.natCast_nonneg _, by show (zno S.1 : Int).toNat < zno (S.1 + 1); rw [e3, Int.toNat_natCast]; exact Nat.lt_succ_self _, by show zob (zno S.1 : Int).toNat = tag; rw [Int.toNat_natCast]; exact e2⟩)))) (fun w hw => zokv_le (hok2 w hw) (Nat.le_succ _)))
    simp only [List.map_cons, zvl_o h10.1 h10.2] at this
    exact this
  have hz64 : Int64.ofInt 0 = 0 := by decide
  have hz32 : Int32.ofInt 0 = 0 := by decide
  refine (?_ : W p l e R s mid args below meth c H locs cells slots Q (F0 mid pc cls (((0, (nn : Int)) :: rest).map (zvl E)))) T hT X
  simp only [List.map_cons, zvl_i]
  cases at_ with
  | int =>
    subst htag
    refine va_newaK (atype := .int) hx hb (hts (Cond.arrayClass (newarray.typeOf .int)) zarr_in.1) rfl hd rfl hneg (clamp_of32 on) (Nat.le_trans (Nat.mul_le_mul_right 4 hnn) (by decide)) hRc hRs hsz (fun H1 cA e1 z1 o1 hAr hNm => fin H1 z1 o1 ?_)
    have hcA : cs.1 = cA := by
      have h1 := (hK.2 0 (cs.1, .int) rfl).2
      exact Option.some.inj (h1.symm.trans hNm)
    rw [zce_10 e2]
    show H1[E.1 + zno S.1]? = some (vp_cell cs.1 _)
    rw [e1, ← hcA]
    dsimp only
    rw [hLn]
    simp only [vp_cell, h0, hz32, Int.toNat_natCast]
    rfl
  | long =>
    subst htag
    refine va_newaK (atype := .long) hx hb (hts (Cond.arrayClass (newarray.typeOf .long)) zarr_in.2.1) rfl hd rfl hneg (clamp_of32 on) (Nat.le_trans (Nat.mul_le_mul_right 8 hnn) (by decide)) hRc hRs hsz (fun H1 cA e1 z1 o1 hAr hNm => fin H1 z1 o1 ?_)
    have hcA : cs.2.1 = cA := by
      have h1 := (hK.2 1 (cs.2.1, .long) rfl).2
      exact Option.some.inj (h1.symm.trans hNm)
    rw [zce_11 e2]
    show H1[E.1 + zno S.1]? = some (vp_cell cs.2.1 _)
    rw [e1, ← hcA]
    dsimp only
    rw [hLn]
    simp only [vp_cell, h0, hz64, Int.toNat_natCast]
    rfl
  | byte =>
    subst htag
    refine va_newaK (atype := .byte) hx hb (hts (Cond.arrayClass (newarray.typeOf .byte)) zarr_in.2.2.1) rfl hd rfl hneg (clamp_of32 on) (Nat.le_trans (Nat.mul_le_mul_right 1 hnn) (by decide)) hRc hRs hsz (fun H1 cA e1 z1 o1 hAr hNm => fin H1 z1 o1 ?_)
    have hcA : cs.2.2.1 = cA := by
      have h1 := (hK.2 2 (cs.2.2.1, .byte) rfl).2
      exact Option.some.inj (h1.symm.trans hNm)
    rw [zce_12 e2]
    show H1[E.1 + zno S.1]? = some (vp_cell cs.2.2.1 _)
    rw [e1, ← hcA]
    dsimp only
    rw [hLn]
    simp only [vp_cell, h0, hz32, Int.toNat_natCast]
    rfl
  | boolean =>
    subst htag
    refine va_newaK (atype := .boolean) hx hb (hts (Cond.arrayClass (newarray.typeOf .boolean)) zarr_in.2.2.2) rfl hd rfl hneg (clamp_of32 on) (Nat.le_trans (Nat.mul_le_mul_right 1 hnn) (by decide)) hRc hRs hsz (fun H1 cA e1 z1 o1 hAr hNm => fin H1 z1 o1 ?_)
    have hcA : cs.2.2.2 = cA := by
      have h1 := (hK.2 3 (cs.2.2.2, .boolean) rfl).2
      exact Option.some.inj (h1.symm.trans hNm)
    rw [zce_13 e2]
    show H1[E.1 + zno S.1]? = some (vp_cell cs.2.2.2 _)
    rw [e1, ← hcA]
    dsimp only
    rw [hLn]
    simp only [vp_cell, h0, hz32, Int.toNat_natCast]
    rfl
  | _ =>
    exfalso
    subst htag
    rcases e4 with z | z | z | z | ⟨-, z, -⟩ <;> exact absurd z (by decide)
end ZCON2
