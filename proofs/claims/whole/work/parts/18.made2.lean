section ZCON2
variable {p : Program} {l : Launch} {e : Env} {R : Room} {s : State} {mid : MethodId} {args : Array Value} {below : List Frame} {meth : Method} {c : Code} {cells slots : Nat} {Q : State → Prop}
variable {m nL : Nat} {D : va_G} {cs : ClassId × ClassId × ClassId × ClassId} {E : zE}
theorem zarr_in : Cond.arrayClass .int ∈ zcs ∧ Cond.arrayClass .long ∈ zcs ∧ Cond.arrayClass .byte ∈ zcs ∧ Cond.arrayClass .boolean ∈ zcs := by decide +kernel
theorem zfb_dec : (List.range 10).all (fun a => (List.range 10).all (fun b => Nat.beq a b || Nat.ble ((zfb a).1 + (zfb a).2) (zfb b).1 || Nat.ble ((zfb b).1 + (zfb b).2) (zfb a).1)) = true := by decide +kernel
theorem zfb_inj {a b k r : Nat} (ha : a < 10) (hb : b < 10) (h : (zfb a).1 + k = r) (hk : k < (zfb a).2) (h1 : (zfb b).1 ≤ r) (h2 : r - (zfb b).1 < (zfb b).2) : a = b := by
  have h3 := List.all_eq_true.mp (List.all_eq_true.mp zfb_dec a (List.mem_range.mpr ha)) b (List.mem_range.mpr hb)
  simp only [Bool.or_eq_true] at h3
  rcases h3 with (z | z) | z
  · exact Nat.eq_of_beq_eq_true z
  · have := Nat.le_of_ble_eq_true z; omega
  · have := Nat.le_of_ble_eq_true z; omega
theorem zob_dec : (List.range 55).all (fun q => Nat.blt (zob q) 30) = true := by decide +kernel
theorem zob_lt (q : Nat) (h : q < 55) : zob q < 30 := Nat.le_of_ble_eq_true (List.all_eq_true.mp zob_dec q (List.mem_range.mpr h))
theorem zs_newa (C : zCx p s mid args meth c m D cs E nL) {pc nx r k0 tag : Nat} {at_ : ArrayType} {o n : Int} {cls : Array Slot} {rest : List zV} {S : zS} (hc : zcd m pc = some (.newarray at_, nx, r)) (ha : zal S.1 = some (tag, o)) (htag : tag = zat at_) (hn : 0 ≤ n ∧ n ≤ 1000000) (h0 : ∀ i, S.2.2 o i = 0)
    (hs0 : s.heap.size = E.1 + k0) (hk0 : k0 ≤ zno S.1) (hcells : cells + k0 = zno S.1) (hRc : cells + 1 ≤ R.cells) (hRs : slots + n.toNat ≤ R.slots)
    (k : zK p l e R s mid args below meth c (cells + 1) (slots + n.toNat) Q D cs E cls nx ((tag, o) :: rest) (S.1 + 1, zlen S.2.1 o n, S.2.2)) : zK p l e R s mid args below meth c cells slots Q D cs E cls pc ((0, n) :: rest) S := by
  intro H locs hG hok T hT X
  have hsz := zsize hG hs0 hk0 hcells hT X
  obtain ⟨hx, hb, hml, hown, hts, hK, hnm, hdk, hX⟩ := C
  obtain ⟨hd, rfl, hik⟩ := zdec' (n := 1) hdk hc rfl
  obtain ⟨e1, e2, e3, e4⟩ := zal_facts ha
  obtain ⟨on, hok2⟩ := zcons hok
  have on := zok_i on
  subst e1
  obtain ⟨nn, rfl⟩ := Int.eq_ofNat_of_zero_le hn.1
  rw [Int.toNat_natCast] at hRs k
  have hneg : ¬ Int32.ofInt (nn : Int) < 0 := fun z => by
    rw [show (0 : Int32) = Int32.ofInt 0 from rfl, ofi_lt on z32_0] at z
    omega
  have hnt : ∀ q : Nat, q < zno S.1 → zce E cs (S.1 + 1, zlen S.2.1 (zno S.1) nn, S.2.2) q = zce E cs S q := by
    intro q hq
    have hz : ∀ (c' : Nat), zfv E (S.1 + 1, zlen S.2.1 (zno S.1) nn, S.2.2) q c' = zfv E S q c' := fun c' => funext fun k' => zfv_time (fun ci2 k2 ft tg tm hz h10 he => by
      have := (zfr_facts hz h10).1
      rw [he, ha] at this
      cases this)
    have hL : zlen S.2.1 (zno S.1) nn q = S.2.1 q := by
      unfold zlen
      rw [if_neg (by omega)]
    unfold zce
    simp only [hz, hL]
  have hkS : zokS E (S.1 + 1, zlen S.2.1 (zno S.1) nn, S.2.2) := by
    obtain ⟨⟨g1, g2, g3, g4⟩, h3, h4⟩ := hG.2.2.2
    refine ⟨⟨g1, ?_, g3, ?_⟩, h3, fun q => ?_⟩
    · show zlen S.2.1 (zno S.1) nn (-8) = 16
      unfold zlen; rw [if_neg (by omega)]; exact g2
    · show zlen S.2.1 (zno S.1) nn (-7) = _
      unfold zlen; rw [if_neg (by omega)]; exact g4
    · show 0 ≤ zlen S.2.1 (zno S.1) nn q ∧ zlen S.2.1 (zno S.1) nn q ≤ 1000000
      unfold zlen
      by_cases z : (q : Int) = (zno S.1 : Int)
      · rw [if_pos z]; exact hn
      · rw [if_neg z]; exact h4 q
  have hLn : zlen S.2.1 (zno S.1) nn (zno S.1) = nn := by unfold zlen; rw [if_pos rfl]
  have h10 : 10 ≤ tag ∧ tag ≠ 14 := by rcases e4 with z | z | z | z | z <;> omega
  have fin : ∀ (H1 : Heap), H1.size = E.1 + zno S.1 + 1 → (∀ q, q < E.1 + zno S.1 → H1[q]? = H[q]?) → va_at D zcls (E.1 + zno S.1, zce E cs (S.1 + 1, zlen S.2.1 (zno S.1) nn, S.2.2) (zno S.1)) H1 → W p l e R s mid args below meth c H1 locs (cells + 1) (slots + nn) Q (F0 mid (pc + 2) cls (.ref (E.1 + zno S.1) :: rest.map (zvl E))) := by
    intro H1 z1 o1 hat
    have hG1 : zG D cs E s.heap (S.1 + 1, zlen S.2.1 (zno S.1) nn, S.2.2) H1 locs := zG_push hG hsz (by rw [z1, hsz]) (fun q hq => o1 q (by omega)) e3 hnt hat hkS
    have := k H1 locs hG1 (zcons' (Or.inr (Or.inr (Or.inr (Or.inr ⟨h10.1, h10.2, Int.natCast_nonneg _, by show (zno S.1 : Int).toNat < zno (S.1 + 1); rw [e3, Int.toNat_natCast]; omega, by show zob (zno S.1 : Int).toNat = tag; rw [Int.toNat_natCast]; exact e2⟩)))) (fun w hw => zokv_le (hok2 w hw) (Nat.le_succ _)))
    simp only [List.map_cons, zvl_o h10.1 h10.2] at this
    exact this
  have hz64 : Int64.ofInt 0 = 0 := by decide
  have hz32 : Int32.ofInt 0 = 0 := by decide
  refine (?_ : W p l e R s mid args below meth c H locs cells slots Q (F0 mid pc cls (((0, (nn : Int)) :: rest).map (zvl E)))) T hT X
  simp only [List.map_cons, zvl_i]
  cases at_ with
  | int =>
    subst htag
    refine va_newaK hx hb (hts _ zarr_in.1) rfl hd rfl hneg (clamp_of32 on) (by show nn * 4 ≤ _; omega) hRc hRs hsz (fun H1 cA e1 z1 o1 hAr hNm => fin H1 z1 o1 ?_)
    have hcA : cs.1 = cA := by
      have h1 := (hK.2 0 (cs.1, .int) rfl).2
      exact Option.some.inj (h1.symm.trans hNm)
    rw [zce_10 e2]
    show H1[E.1 + zno S.1]? = some (vp_cell cs.1 _)
    rw [e1, ← hcA, hLn]
    simp only [vp_cell, h0, hz32, Int.toNat_natCast]
    rfl
  | long =>
    subst htag
    refine va_newaK hx hb (hts _ zarr_in.2.1) rfl hd rfl hneg (clamp_of32 on) (by show nn * 8 ≤ _; omega) hRc hRs hsz (fun H1 cA e1 z1 o1 hAr hNm => fin H1 z1 o1 ?_)
    have hcA : cs.2.1 = cA := by
      have h1 := (hK.2 1 (cs.2.1, .long) rfl).2
      exact Option.some.inj (h1.symm.trans hNm)
    rw [zce_11 e2]
    show H1[E.1 + zno S.1]? = some (vp_cell cs.2.1 _)
    rw [e1, ← hcA, hLn]
    simp only [vp_cell, h0, hz64, Int.toNat_natCast]
    rfl
  | byte =>
    subst htag
    refine va_newaK hx hb (hts _ zarr_in.2.2.1) rfl hd rfl hneg (clamp_of32 on) (by show nn * 1 ≤ _; omega) hRc hRs hsz (fun H1 cA e1 z1 o1 hAr hNm => fin H1 z1 o1 ?_)
    have hcA : cs.2.2.1 = cA := by
      have h1 := (hK.2 2 (cs.2.2.1, .byte) rfl).2
      exact Option.some.inj (h1.symm.trans hNm)
    rw [zce_12 e2]
    show H1[E.1 + zno S.1]? = some (vp_cell cs.2.2.1 _)
    rw [e1, ← hcA, hLn]
    simp only [vp_cell, h0, hz32, Int.toNat_natCast]
    rfl
  | boolean =>
    subst htag
    refine va_newaK hx hb (hts _ zarr_in.2.2.2) rfl hd rfl hneg (clamp_of32 on) (by show nn * 1 ≤ _; omega) hRc hRs hsz (fun H1 cA e1 z1 o1 hAr hNm => fin H1 z1 o1 ?_)
    have hcA : cs.2.2.2 = cA := by
      have h1 := (hK.2 3 (cs.2.2.2, .boolean) rfl).2
      exact Option.some.inj (h1.symm.trans hNm)
    rw [zce_13 e2]
    show H1[E.1 + zno S.1]? = some (vp_cell cs.2.2.2 _)
    rw [e1, ← hcA, hLn]
    simp only [vp_cell, h0, hz32, Int.toNat_natCast]
    rfl
  | _ => exfalso; subst htag; rcases e4 with z | z | z | z | ⟨z1, z2, -⟩ <;> simp only [zat] at * <;> omega
theorem zs_putr (C : zCx p s mid args meth c m D cs E nL) {pc nx r j ci ft tm : Nat} {k tg : Int} {cls : Array Slot} {o : Int} {rest : List zV} {S : zS} (hc : zcd m pc = some (.putfield j, nx, r)) (hf : zfl r = some (ci, k, ft, tg, tm)) (hft : 10 ≤ ft) (ht : S.1 = tm)
    (kk : zK p l e R s mid args below meth c cells slots Q D cs E cls nx rest (S.1 + 1, S.2.1, S.2.2)) : zK p l e R s mid args below meth c cells slots Q D cs E cls pc ((ft, tg) :: (20 + ci, o) :: rest) S := by
  intro H locs hG hok
  obtain ⟨hx, hb, hml, hown, hts, hK, hnm, hdk, hX⟩ := C
  obtain ⟨hd, rfl, hik⟩ := zdec' (n := 2) hdk hc rfl
  obtain ⟨ov, hok1⟩ := zcons hok
  obtain ⟨oo, hok2⟩ := zcons hok1
  obtain ⟨f1, rfl, f3, f4, f5, f6, f7, f8, f9, f10⟩ := zfl_facts hf
  obtain ⟨g1, g2, g3⟩ := zfr_facts hf hft
  obtain ⟨h1, h2, h3⟩ := f9 hft
  obtain ⟨q, rfl, hq, hob⟩ := zok_o oo (by omega) (by omega)
  have hw := zW_at (E := E) (cs := cs) hq
  rw [zce_ob hob] at hw
  have hvr : zvl E (ft, tg) = .ref (E.1 + tg.toNat) := by
    rw [show tg = ((tg.toNat : Nat) : Int) from (Int.toNat_of_nonneg h1).symm, zvl_o hft f10, Int.toNat_natCast]
  simp only [List.map_cons, hvr, zvl_o (show 10 ≤ 20 + ci by omega) (show 20 + ci ≠ 14 by omega)]
  have er : (zfb ci).1 + (r - (zfb ci).1) = r := by omega
  have hT : zTf ci (r - (zfb ci).1) = zfn r := by unfold zTf; rw [er]
  simp only [zik, Bool.and_eq_true, Bool.or_eq_true, Bool.not_eq_true', decide_eq_true_eq] at hik
  obtain ⟨⟨hik, hfin⟩, -⟩ := hik
  have hlk := hts _ (zw_f hik)
  have hty := zfl_ref hf hft
  have hn : narrow (zft r) (.ref (E.1 + tg.toNat)) = .ref (E.1 + tg.toNat) := by rcases hty with ⟨n, z⟩ | ⟨t, z⟩ <;> rw [z] <;> rfl
  have hfits : fits (zft r) (.ref (E.1 + tg.toNat)) = true := by rcases hty with ⟨n, z⟩ | ⟨t, z⟩ <;> rw [z] <;> rfl
  have hlen : r - (zfb ci).1 < ((List.range (zfb ci).2).map (zfv E S q ci)).length := by rw [List.length_map, List.length_range]; exact f4
  have hno : zno (S.1 + 1) = zno S.1 := by rw [zno_succ, ht, g1]; rfl
  have hset : ((List.range (zfb ci).2).map (zfv E S q ci)).set (r - (zfb ci).1) (.ref (E.1 + tg.toNat)) = (List.range (zfb ci).2).map (zfv E (S.1 + 1, S.2.1, S.2.2) q ci) := by
    apply List.ext_getElem?
    intro i
    rw [List.getElem?_set, List.getElem?_map, List.getElem?_map, List.length_map, List.length_range]
    by_cases e1 : r - (zfb ci).1 = i
    · subst e1
      rw [if_pos rfl, if_pos f4, List.getElem?_range f4]
      show some _ = some _
      congr 1
      unfold zfv
      rw [er, hf]
      dsimp only
      rw [show Nat.ble 10 ft = true from Nat.ble_eq_true_of_le hft, show Nat.blt tm (S.1 + 1) = true from Nat.ble_eq_true_of_le (by omega)]
      rfl
    · rw [if_neg e1]
      cases hi : (List.range (zfb ci).2)[i]? with
      | none => rfl
      | some w =>
        have hw : w = i := by
          obtain ⟨h2, h3⟩ := List.getElem?_eq_some_iff.mp hi
          rw [← h3, List.getElem_range]
        subst hw
        show some _ = some _
        congr 1
        refine (zfv_time (fun ci2 k2 ft2 tg2 tm2 hz hf2 he => ?_)).symm
        have := g2 _ _ _ _ _ _ hz hf2 (by omega)
        omega
  have hnt : ∀ q' : Nat, q' < zno S.1 → q' ≠ q → zce E cs (S.1 + 1, S.2.1, S.2.2) q' = zce E cs S q' := by
    intro q' hlt hne
    by_cases h20 : 20 ≤ zob q'
    · obtain ⟨c', hc'⟩ : ∃ c', zob q' = 20 + c' := ⟨zob q' - 20, by omega⟩
      rw [zce_ob hc', zce_ob hc']
      congr 2
      refine List.map_congr_left (fun i hi => zfv_time (fun ci2 k2 ft2 tg2 tm2 hz hf2 he => ?_))
      have hrr := g2 _ _ _ _ _ _ hz hf2 (by omega)
      obtain ⟨a1, a2, a3, a4, -⟩ := zfl_facts hz
      rw [hrr, hf] at hz
      cases hz
      have hcc : c' = ci := by
        have hi := List.mem_range.mp hi
        have hc10 : c' < 10 := by
          have := zob_lt q' (Nat.lt_of_lt_of_le hlt (zno_all _))
          omega
        exact zfb_inj hc10 f1 hrr hi f3 f4
      subst hcc
      exact hne (g3 q' q (Nat.lt_of_lt_of_le hlt (zno_all _)) (Nat.lt_of_lt_of_le hq (zno_all _)) hc' hob)
    · unfold zce
      rw [show Nat.ble 20 (zob q') = false from Bool.eq_false_iff.mpr (fun z => h20 (Nat.le_of_ble_eq_true z))]
      rfl
  have hWe : (zW E cs S).set q (E.1 + q, zce E cs (S.1 + 1, S.2.1, S.2.2) q) = zW E cs (S.1 + 1, S.2.1, S.2.2) := by
    apply List.ext_getElem?
    intro i
    unfold zW
    rw [List.getElem?_set, List.getElem?_map, List.getElem?_map, List.length_map, List.length_range, hno]
    by_cases hi : i < zno S.1
    · rw [List.getElem?_range hi]
      by_cases e1 : q = i
      · subst e1
        rw [if_pos rfl, if_pos hi]
        rfl
      · rw [if_neg e1]
        show some (E.1 + i, zce E cs S i) = some (E.1 + i, zce E cs (S.1 + 1, S.2.1, S.2.2) i)
        rw [hnt i hi (fun z => e1 z.symm)]
    · have hr : (List.range (zno S.1))[i]? = none := by rw [List.getElem?_eq_none_iff, List.length_range]; omega
      rw [hr]
      by_cases e1 : q = i
      · subst e1
        exact absurd hq hi
      · rw [if_neg e1]
        rfl
  have fin : ∀ (H1 : Heap) (locs1 : List Loc), va_P D zcls ((zW E cs S).set q (E.1 + q, .inr (ci, ((List.range (zfb ci).2).map (zfv E S q ci)).set (r - (zfb ci).1) (.ref (E.1 + tg.toNat))))) H1 → va_D (fun x => E.1 ≤ x) ((zW E cs S).set q (E.1 + q, .inr (ci, ((List.range (zfb ci).2).map (zfv E S q ci)).set (r - (zfb ci).1) (.ref (E.1 + tg.toNat))))) → va_S (fun x => E.1 ≤ x) s.heap H1 locs1 → W p l e R s mid args below meth c H1 locs1 cells slots Q (F0 mid (pc + 3) cls (rest.map (zvl E))) := by
    intro H1 locs1 hP hD hS
    rw [hset, ← zce_ob (E := E) (cs := cs) (S := (S.1 + 1, S.2.1, S.2.2)) hob, hWe] at hP hD
    exact kk H1 locs1 ⟨hP, hD, hS, hG.2.2.2⟩ (fun w hw => zokv_le (hok2 w hw) (Nat.le_succ _))
  rcases hfin with hfin | ⟨hini, hcl⟩
  · exact va_put (D := D) (ref := (zfn r).1) (ty := zft r) hx hb hts (zlay_in f1) (fun k => zft ((zfb ci).1 + k)) (ztypes f1) (znames f1) hown hK hG.1 hG.2.1 hG.2.2.1 q hw (zcls_at f1) (r - (zfb ci).1) f4 (by rw [hT]; exact hlk) (fun x h => by rw [hT] at h ⊢; exact h) (by rw [hT]; exact hfin) (by rw [hT]; exact f5) hn hfits hlen hd fin
  · by_cases hfn : (zfn r).2.2.2 = false
    · exact va_put (D := D) (ref := (zfn r).1) (ty := zft r) hx hb hts (zlay_in f1) (fun k => zft ((zfb ci).1 + k)) (ztypes f1) (znames f1) hown hK hG.1 hG.2.1 hG.2.2.1 q hw (zcls_at f1) (r - (zfb ci).1) f4 (by rw [hT]; exact hlk) (fun x h => by rw [hT] at h ⊢; exact h) (by rw [hT]; exact hfn) (by rw [hT]; exact f5) hn hfits hlen hd fin
    · have hfn : (zfn r).2.2.2 = true := by simpa using hfn
      have hm : m < 288 := by
        unfold zcd at hc
        cases hb : (Nat.blt m 288 && Nat.blt pc (zbl m)) with
        | false => rw [hb] at hc; cases hc
        | true => rw [Bool.and_eq_true] at hb; exact Nat.le_of_ble_eq_true hb.1
      have h9 := List.all_eq_true.mp zin_ok m (List.mem_range.mpr hm)
      simp only [hini, Bool.not_true, Bool.false_or, decide_eq_true_eq] at h9
      exact va_putF (D := D) (ref := (zfn r).1) (ty := zft r) hx hb hts (zlay_in f1) (fun k => zft ((zfb ci).1 + k)) (ztypes f1) (znames f1) hown hK hG.1 hG.2.1 hG.2.2.1 q hw (zcls_at f1) (r - (zfb ci).1) f4 (by rw [hT]; exact hlk) (fun x h => by rw [hT] at h ⊢; exact h) (by rw [hT]; exact hfn) (hnm.trans h9) (by rw [hT]; exact hcl) (by rw [hT]; exact f5) hn hfits hlen hd fin
end ZCON2
