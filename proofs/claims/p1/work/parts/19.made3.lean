section ZCON3
variable {p : Program} {l : Launch} {e : Env} {R : Room} {s : State} {mid : MethodId} {args : Array Value} {below : List Frame} {meth : Method} {c : Code} {cells slots : Nat} {Q : State → Prop}
variable {m nL : Nat} {D : va_G} {cs : ClassId × ClassId × ClassId × ClassId} {E : zE}
theorem zs_putr (C : zCx p s mid args meth c m D cs E nL) {pc nx r j ci ft tm : Nat} {k tg : Int} {cls : Array Slot} {o : Int} {rest : List zV} {S : zS} (hc : zcd m pc = some (.putfield j, nx, r)) (hf : zfl r = some (ci, k, ft, tg, tm)) (hft : 10 ≤ ft) (ht : S.1 = tm)
    (kk : zK p l e R s mid args below meth c cells slots Q D cs E cls nx rest (S.1 + 1, S.2.1, S.2.2)) : zK p l e R s mid args below meth c cells slots Q D cs E cls pc ((ft, tg) :: (20 + ci, o) :: rest) S := by
  intro H locs hG hok
  obtain ⟨hx, hb, hml, hown, hts, hK, hnm, hdk, hX⟩ := C
  obtain ⟨hd, rfl, hik⟩ := zdec' (n := 2) hdk hc rfl
  obtain ⟨ov, hok1⟩ := zcons hok
  obtain ⟨oo, hok2⟩ := zcons hok1
  obtain ⟨f1, rfl, f3, f4, f5, f6, f7, f8, f9, f10⟩ := zfl_facts hf
  obtain ⟨g1, g2, g3⟩ := zfr_facts hf hft
  obtain ⟨h1, h2, h3⟩ := f9 hft
  obtain ⟨q, rfl, hq, hob⟩ := zok_o oo (by omega) (by omega)
  have hw := zW_at (E := E) (cs := cs) hq
  rw [zce_ob hob] at hw
  have hvr : zvl E (ft, tg) = .ref (E.1 + tg.toNat) := by
    rw [show tg = ((tg.toNat : Nat) : Int) from (Int.toNat_of_nonneg h1).symm, zvl_o hft f10, Int.toNat_natCast]
  simp only [List.map_cons, hvr, zvl_o (show 10 ≤ 20 + ci by omega) (show 20 + ci ≠ 14 by omega)]
  have er : (zfb ci).1 + (r - (zfb ci).1) = r := by omega
  have hT : zTf ci (r - (zfb ci).1) = zfn r := by unfold zTf; rw [er]
  simp only [zik, Bool.and_eq_true, Bool.or_eq_true, Bool.not_eq_true', decide_eq_true_eq] at hik
  obtain ⟨⟨hik, hfin⟩, -⟩ := hik
  have hlk := hts _ (zw_f hik)
  have hty := zfl_ref hf hft
  have hn : narrow (zft r) (.ref (E.1 + tg.toNat)) = .ref (E.1 + tg.toNat) := by rcases hty with ⟨n, z⟩ | ⟨t, z⟩ <;> rw [z] <;> rfl
  have hfits : fits (zft r) (.ref (E.1 + tg.toNat)) = true := by rcases hty with ⟨n, z⟩ | ⟨t, z⟩ <;> rw [z] <;> rfl
  have hlen : r - (zfb ci).1 < ((List.range (zfb ci).2).map (zfv E S q ci)).length := by rw [List.length_map, List.length_range]; exact f4
  have hset : ((List.range (zfb ci).2).map (zfv E S q ci)).set (r - (zfb ci).1) (.ref (E.1 + tg.toNat)) = (List.range (zfb ci).2).map (zfv E (S.1 + 1, S.2.1, S.2.2) q ci) := by
    apply List.ext_getElem?
    intro i
    rw [List.getElem?_set, List.getElem?_map, List.getElem?_map, List.length_map, List.length_range]
    by_cases e1 : r - (zfb ci).1 = i
    · subst e1
      rw [if_pos rfl, if_pos f4, List.getElem?_range f4]
      show some _ = some _
      congr 1
      unfold zfv
      rw [er, hf]
      dsimp only
      rw [show Nat.ble 10 ft = true from Nat.ble_eq_true_of_le hft, show Nat.blt tm (S.1 + 1) = true from Nat.ble_eq_true_of_le (Nat.succ_le_succ (Nat.le_of_eq ht.symm))]
      rfl
    · rw [if_neg e1]
      cases hi : (List.range (zfb ci).2)[i]? with
      | none => rfl
      | some w =>
        have hw : w = i := by
          obtain ⟨h2, h3⟩ := List.getElem?_eq_some_iff.mp hi
          rw [← h3, List.getElem_range]
        subst hw
        show some _ = some _
        congr 1
        refine (zfv_time (fun ci2 k2 ft2 tg2 tm2 hz hf2 he => ?_)).symm
        have h8 := g2 _ _ _ _ _ _ hz hf2 (he.trans ht)
        exact e1 (Nat.add_left_cancel (er.trans h8.symm))
  have hnt : ∀ q' : Nat, q' < zno S.1 → q' ≠ q → zce E cs (S.1 + 1, S.2.1, S.2.2) q' = zce E cs S q' := by
    intro q' hlt hne
    by_cases h20 : 20 ≤ zob q'
    · obtain ⟨c', hc'⟩ : ∃ c', zob q' = 20 + c' := ⟨zob q' - 20, by omega⟩
      rw [zce_ob hc', zce_ob hc']
      congr 2
      refine List.map_congr_left (fun i hi => zfv_time (fun ci2 k2 ft2 tg2 tm2 hz hf2 he => ?_))
      have hrr := g2 _ _ _ _ _ _ hz hf2 (he.trans ht)
      obtain ⟨a1, a2, a3, a4, -⟩ := zfl_facts hz
      rw [hrr, hf] at hz
      cases hz
      have hcc : c' = ci := by
        have hi := List.mem_range.mp hi
        have hc10 : c' < 10 := by
          have := zob_lt q' (Nat.lt_of_lt_of_le hlt (zno_all _))
          omega
        exact zfb_inj hc10 f1 hrr hi f3 f4
      subst hcc
      exact hne (g3 q' q (Nat.lt_of_lt_of_le hlt (zno_all _)) (Nat.lt_of_lt_of_le hq (zno_all _)) hc' hob)
    · unfold zce
      rw [show Nat.ble 20 (zob q') = false from Bool.eq_false_iff.mpr (fun z => h20 (Nat.le_of_ble_eq_true z))]
      rfl
  have hno : zno (S.1 + 1) = zno S.1 := by rw [zno_succ, ht, g1]; rfl
  have hWe : (zW E cs S).set q (E.1 + q, zce E cs (S.1 + 1, S.2.1, S.2.2) q) = zW E cs (S.1 + 1, S.2.1, S.2.2) := by
    apply List.ext_getElem?
    intro i
    unfold zW
    rw [List.getElem?_set, List.getElem?_map, List.getElem?_map, List.length_map, List.length_range, hno]
    by_cases hi : i < zno S.1
    · rw [List.getElem?_range hi]
      by_cases e1 : q = i
      · subst e1
        rw [if_pos rfl, if_pos hi]
        rfl
      · rw [if_neg e1]
        show some (E.1 + i, zce E cs S i) = some (E.1 + i, zce E cs (S.1 + 1, S.2.1, S.2.2) i)
        rw [hnt i hi (fun z => e1 z.symm)]
    · have hr : (List.range (zno S.1))[i]? = none := by rw [List.getElem?_eq_none_iff, List.length_range]; exact Nat.not_lt.mp hi
      rw [hr]
      by_cases e1 : q = i
      · subst e1
        exact absurd hq hi
      · rw [if_neg e1]
        rfl
  have fin : ∀ (H1 : Heap) (locs1 : List Loc), va_P D zcls ((zW E cs S).set q (E.1 + q, .inr (ci, ((List.range (zfb ci).2).map (zfv E S q ci)).set (r - (zfb ci).1) (.ref (E.1 + tg.toNat))))) H1 → va_D (fun x => E.1 ≤ x) ((zW E cs S).set q (E.1 + q, .inr (ci, ((List.range (zfb ci).2).map (zfv E S q ci)).set (r - (zfb ci).1) (.ref (E.1 + tg.toNat))))) → va_S (fun x => E.1 ≤ x) s.heap H1 locs1 → W p l e R s mid args below meth c H1 locs1 cells slots Q (F0 mid (pc + 3) cls (rest.map (zvl E))) := by
    intro H1 locs1 hP hD hS
    rw [hset, ← zce_ob (E := E) (cs := cs) (S := (S.1 + 1, S.2.1, S.2.2)) hob, hWe] at hP hD
    exact kk H1 locs1 ⟨hP, hD, hS, hG.2.2.2⟩ (fun w hw => zokv_le (hok2 w hw) (Nat.le_succ _))
  rcases hfin with hfin | ⟨hini, hcl⟩
  · exact va_put (D := D) (ref := (zfn r).1) (ty := zft r) hx hb hts (zlay_in f1) (fun k => zft ((zfb ci).1 + k)) (ztypes f1) (znames f1) hown hK hG.1 hG.2.1 hG.2.2.1 q hw (zcls_at f1) (r - (zfb ci).1) f4 (by rw [hT]; exact hlk) (fun x h => by rw [hT] at h ⊢; exact h) (by rw [hT]; exact hfin) (by rw [hT]; exact f5) hn hfits hlen hd fin
  · by_cases hfn : (zfn r).2.2.2 = false
    · exact va_put (D := D) (ref := (zfn r).1) (ty := zft r) hx hb hts (zlay_in f1) (fun k => zft ((zfb ci).1 + k)) (ztypes f1) (znames f1) hown hK hG.1 hG.2.1 hG.2.2.1 q hw (zcls_at f1) (r - (zfb ci).1) f4 (by rw [hT]; exact hlk) (fun x h => by rw [hT] at h ⊢; exact h) (by rw [hT]; exact hfn) (by rw [hT]; exact f5) hn hfits hlen hd fin
    · have hfn : (zfn r).2.2.2 = true := by simpa using hfn
      have hm : m < 288 := by
        unfold zcd at hc
        cases hb : (Nat.blt m 288 && Nat.blt pc (zbl m)) with
        | false => rw [hb] at hc; cases hc
        | true => rw [Bool.and_eq_true] at hb; exact Nat.le_of_ble_eq_true hb.1
      have h9 := List.all_eq_true.mp zin_ok m (List.mem_range.mpr hm)
      simp only [hini, Bool.not_true, Bool.false_or, decide_eq_true_eq] at h9
      exact va_putF (D := D) (ref := (zfn r).1) (ty := zft r) hx hb hts (zlay_in f1) (fun k => zft ((zfb ci).1 + k)) (ztypes f1) (znames f1) hown hK hG.1 hG.2.1 hG.2.2.1 q hw (zcls_at f1) (r - (zfb ci).1) f4 (by rw [hT]; exact hlk) (fun x h => by rw [hT] at h ⊢; exact h) (by rw [hT]; exact hfn) (hnm.trans h9) (by rw [hT]; exact hcl) (by rw [hT]; exact f5) hn hfits hlen hd fin
end ZCON3
