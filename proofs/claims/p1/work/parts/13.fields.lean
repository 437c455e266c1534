section ZSIM5
variable {p : Program} {l : Launch} {e : Env} {R : Room} {s : State} {mid : MethodId} {args : Array Value} {below : List Frame} {meth : Method} {c : Code} {cells slots : Nat} {Q : State → Prop}
variable {m nL : Nat} {D : va_G} {cs : ClassId × ClassId × ClassId × ClassId} {E : zE}
theorem zno_le {a b : Nat} (h : a ≤ b) : zno a ≤ zno b := by
  unfold zno
  obtain ⟨d, rfl⟩ := Nat.exists_eq_add_of_le h
  rw [List.range_add, List.filter_append, List.length_append]
  exact Nat.le_add_right _ _
/-- what is known of a field by its number -/
theorem zfl_facts {r ci ft tm : Nat} {k tg : Int} (h : zfl r = some (ci, k, ft, tg, tm)) : ci < 10 ∧ k = ((r - (zfb ci).1 : Nat) : Int) ∧ (zfb ci).1 ≤ r ∧ r - (zfb ci).1 < (zfb ci).2 ∧ parseFieldDescriptor (zfn r).2.2.1 = some (zft r) ∧ (ft = 0 → zft r = .int) ∧ (ft = 3 → zft r = .boolean) ∧ (ft < 10 → ft = 0 ∨ ft = 3) ∧ (10 ≤ ft → 0 ≤ tg ∧ zob tg.toNat = ft ∧ tg.toNat < zno tm) ∧ ft ≠ 14 := by
  have hr : r < 100 := by
    unfold zfl at h
    cases hb : Nat.blt r 100 with
    | false => rw [hb] at h; cases h
    | true => exact Nat.le_of_ble_eq_true hb
  have h1 := List.all_eq_true.mp zfk_ok r (List.mem_range.mpr hr)
  have h2 := List.all_eq_true.mp zfr_ok r (List.mem_range.mpr hr)
  unfold zfk at h1
  rw [h] at h1 h2
  dsimp only at h1 h2
  simp only [Bool.and_eq_true, decide_eq_true_eq, Bool.or_eq_true] at h1 h2
  obtain ⟨⟨⟨⟨⟨a1, a2⟩, a3⟩, a4⟩, a5⟩, a6⟩ := h1
  refine ⟨Nat.le_of_ble_eq_true a1, a2, Nat.le_of_ble_eq_true a3, Nat.le_of_ble_eq_true a4, a5, fun q => ?_, fun q => ?_, fun q => ?_, fun q => ?_, fun q => ?_⟩
  · subst q
    revert a6
    cases zft r with
    | int => intro _; rfl
    | boolean => intro z; cases z
    | array t => cases t <;> intro z <;> first | cases z | skip
    | object n => intro z; simp at z
    | _ => intro z; cases z
  · subst q
    revert a6
    cases zft r with
    | int => intro z; cases z
    | boolean => intro _; rfl
    | array t => cases t <;> intro z <;> first | cases z | skip
    | object n => intro z; simp at z
    | _ => intro z; cases z
  · revert a6
    cases zft r with
    | int => intro z; exact Or.inl (Nat.eq_of_beq_eq_true z)
    | boolean => intro z; exact Or.inr (Nat.eq_of_beq_eq_true z)
    | array t =>
      cases t <;> intro z <;> first | (have := Nat.eq_of_beq_eq_true z; omega) | cases z
    | object n =>
      intro z
      simp only [Bool.and_eq_true] at z
      have := Nat.le_of_ble_eq_true z.1
      omega
    | _ => intro z; cases z
  · rcases h2 with z | z
    · have := Nat.le_of_ble_eq_true z; omega
    · exact ⟨z.1.1, Nat.eq_of_beq_eq_true z.1.2, Nat.le_of_ble_eq_true z.2⟩
  · subst q
    revert a6
    cases zft r with
    | int => intro z; cases z
    | boolean => intro z; cases z
    | array t => cases t <;> intro z <;> first | cases z | skip
    | object n => intro z; simp at z
    | _ => intro z; cases z
theorem zce_ob {S : zS} {q ci : Nat} (h : zob q = 20 + ci) : zce E cs S q = .inr (ci, (List.range (zfb ci).2).map (zfv E S q ci)) := by
  unfold zce
  rw [h, show Nat.ble 20 (20 + ci) = true from Nat.ble_eq_true_of_le (Nat.le_add_right _ _), Nat.add_sub_cancel_left]
  rfl
theorem zcls_at {ci : Nat} (h : ci < 10) : zcls[ci]? = some (zcl ci, zTf ci, (zfb ci).2) := by
  unfold zcls
  rw [List.getElem?_map, List.getElem?_range h]
  rfl
theorem zlay_in {ci : Nat} (h : ci < 10) : ∀ w ∈ u_ws (zcl ci) (zTf ci) (zfb ci).2, w ∈ zcs := by
  intro w hw
  obtain ⟨k, hk, rfl⟩ := List.mem_map.mp hw
  have h1 := List.all_eq_true.mp zpf_ok ci (List.mem_range.mpr h)
  have h2 := List.all_eq_true.mp h1 k hk
  simp only [decide_eq_true_eq] at h2
  refine zin_cs h2 ?_
  unfold u_lay
  split <;> rfl
theorem zfv_at {S : zS} {q ci k : Nat} (h : k < (zfb ci).2) : ((List.range (zfb ci).2).map (zfv E S q ci))[k]? = some (zfv E S q ci k) := by
  rw [List.getElem?_map, List.getElem?_range h]
  rfl
theorem zs_get (C : zCx p s mid args meth c m D cs E nL) {pc nx r j ci ft tm : Nat} {k tg : Int} {cls : Array Slot} {o : Int} {rest : List zV} {S : zS} (hc : zcd m pc = some (.getfield j, nx, r)) (hf : zfl r = some (ci, k, ft, tg, tm))
    (kk : (10 ≤ ft → zK p l e R s mid args below meth c cells slots Q D cs E cls nx ((ft, tg) :: rest) S) ∧ (ft < 10 → zK p l e R s mid args below meth c cells slots Q D cs E cls nx ((0, S.2.2 o k) :: rest) S)) (hset : 10 ≤ ft → tm < S.1) : zK p l e R s mid args below meth c cells slots Q D cs E cls pc ((20 + ci, o) :: rest) S := by
  intro H locs hG hok
  obtain ⟨hx, hb, hml, hown, hts, hK, hnm, hdk, hX⟩ := C
  obtain ⟨hd, rfl, hik⟩ := zdec' (n := 2) hdk hc rfl
  obtain ⟨oo, hok2⟩ := zcons hok
  obtain ⟨f1, rfl, f3, f4, f5, f6, f7, f8, f9, f10⟩ := zfl_facts hf
  obtain ⟨q, rfl, hq, hob⟩ := zok_o oo (by omega) (by omega)
  have hw := zW_at (E := E) (cs := cs) hq
  rw [zce_ob hob] at hw
  simp only [List.map_cons, zvl_o (show 10 ≤ 20 + ci by omega) (show 20 + ci ≠ 14 by omega)]
  have er : (zfb ci).1 + (r - (zfb ci).1) = r := by omega
  have hlk := hts _ (zw_f hik)
  have hT : zTf ci (r - (zfb ci).1) = zfn r := by unfold zTf; rw [er]
  refine va_get (D := D) (ref := (zfn r).1) hx hb hts (zlay_in f1) hown hK hG.1 q hw (zcls_at f1) (r - (zfb ci).1) f4 (by rw [hT]; exact hlk) (fun x h => by rw [hT] at h ⊢; exact h) (zfv_at f4) hd ?_
  unfold zfv
  rw [er, hf]
  dsimp only
  by_cases h10 : 10 ≤ ft
  · rw [show Nat.ble 10 ft = true from Nat.ble_eq_true_of_le h10, show Nat.blt tm S.1 = true from Nat.ble_eq_true_of_le (hset h10)]
    obtain ⟨g1, g2, g3⟩ := f9 h10
    have e1 : zvl E (ft, tg) = .ref (E.1 + tg.toNat) := by
      rw [show tg = ((tg.toNat : Nat) : Int) from (Int.toNat_of_nonneg g1).symm, zvl_o h10 f10, Int.toNat_natCast]
    have := kk.1 h10 H locs hG (zcons' (Or.inr (Or.inr (Or.inr (Or.inr ⟨h10, f10, g1, Nat.lt_of_lt_of_le g3 (zno_le (Nat.le_of_lt (hset h10))), g2⟩)))) hok2)
    simp only [List.map_cons, e1] at this
    exact this
  · have hlt : ft < 10 := by omega
    rw [show Nat.ble 10 ft = false from Bool.eq_false_iff.mpr (fun z => h10 (Nat.le_of_ble_eq_true z)), show Nat.beq ft 1 = false from by rcases f8 hlt with rfl | rfl <;> rfl]
    exact kk.2 hlt H locs hG (zcons' (Or.inl ⟨rfl, (hG.2.2.2.2.1 q _).2 (by rw [hob]; omega)⟩) hok2)
theorem zfv_upd {S : zS} {q ci k r ft tm : Nat} {tg v : Int} (hf : zfl r = some (ci, (k : Int), ft, tg, tm)) (hr : (zfb ci).1 + k = r) (hft : ft < 10) (h1 : ft ≠ 1) (hk : k < (zfb ci).2) :
    ((List.range (zfb ci).2).map (zfv E S q ci)).set k (.int (Int32.ofInt v)) = (List.range (zfb ci).2).map (zfv E (S.1, S.2.1, zupd S.2.2 q k v) q ci) := by
  apply List.ext_getElem?
  intro i
  rw [List.getElem?_set, List.getElem?_map, List.getElem?_map, List.length_map, List.length_range]
  by_cases e1 : k = i
  · subst e1
    rw [if_pos rfl, if_pos hk, List.getElem?_range hk]
    show some _ = some _
    congr 1
    unfold zfv
    rw [hr, hf]
    dsimp only
    rw [show Nat.ble 10 ft = false from Bool.eq_false_iff.mpr (fun z => by have := Nat.le_of_ble_eq_true z; omega), show Nat.beq ft 1 = false from Bool.eq_false_iff.mpr (fun z => h1 (Nat.eq_of_beq_eq_true z))]
    unfold zupd
    rw [if_pos ⟨rfl, rfl⟩]
    rfl
  · rw [if_neg e1]
    cases hi : (List.range (zfb ci).2)[i]? with
    | none => rfl
    | some w =>
      have hw : w = i := by
        obtain ⟨h2, h3⟩ := List.getElem?_eq_some_iff.mp hi
        rw [← h3, List.getElem_range]
      subst hw
      show some _ = some _
      congr 1
      unfold zfv
      have e2 : zupd S.2.2 q k v q w = S.2.2 q w := by unfold zupd; rw [if_neg (fun z => e1 (by omega))]
      simp only [e2]
theorem znames {ci : Nat} (h : ci < 10) : ∀ a, a < (zfb ci).2 → ∀ b, b < (zfb ci).2 → a ≠ b → (zTf ci a).2.1 ≠ (zTf ci b).2.1 := by
  intro a ha b hb hab
  have h1 := List.all_eq_true.mp znm_ok ci (List.mem_range.mpr h)
  have h2 := List.all_eq_true.mp h1 a (List.mem_range.mpr ha)
  have h3 := List.all_eq_true.mp h2 b (List.mem_range.mpr hb)
  simp only [Bool.or_eq_true, decide_eq_true_eq] at h3
  rcases h3 with z | z
  · exact absurd (Nat.eq_of_beq_eq_true z) hab
  · exact z
theorem ztypes {ci : Nat} (h : ci < 10) : ∀ k, k < (zfb ci).2 → parseFieldDescriptor (zTf ci k).2.2.1 = some (zft ((zfb ci).1 + k)) := by
  intro k hk
  have hb : (List.range 10).all (fun c => (List.range (zfb c).2).all (fun k => zfk ((zfb c).1 + k))) = true := by decide +kernel
  have h2 := List.all_eq_true.mp (List.all_eq_true.mp hb ci (List.mem_range.mpr h)) k (List.mem_range.mpr hk)
  unfold zfk at h2
  cases hz : zfl ((zfb ci).1 + k) with
  | none => rw [hz] at h2; cases h2
  | some w =>
    obtain ⟨a, b, d, f, g⟩ := w
    exact (zfl_facts hz).2.2.2.2.1
theorem zs_put (C : zCx p s mid args meth c m D cs E nL) {pc nx r j ci ft tm : Nat} {k tg v : Int} {cls : Array Slot} {o : Int} {rest : List zV} {S : zS} (hc : zcd m pc = some (.putfield j, nx, r)) (hf : zfl r = some (ci, k, ft, tg, tm)) (hft : ft < 10) (hv : ft = 3 → v = 0 ∨ v = 1)
    (kk : zK p l e R s mid args below meth c cells slots Q D cs E cls nx rest (S.1, S.2.1, zupd S.2.2 o k v)) : zK p l e R s mid args below meth c cells slots Q D cs E cls pc ((0, v) :: (20 + ci, o) :: rest) S := by
  intro H locs hG hok
  obtain ⟨hx, hb, hml, hown, hts, hK, hnm, hdk, hX⟩ := C
  obtain ⟨hd, rfl, hik⟩ := zdec' (n := 2) hdk hc rfl
  obtain ⟨ov, hok1⟩ := zcons hok
  obtain ⟨oo, hok2⟩ := zcons hok1
  have ov := zok_i ov
  obtain ⟨f1, rfl, f3, f4, f5, f6, f7, f8, f9, f10⟩ := zfl_facts hf
  obtain ⟨q, rfl, hq, hob⟩ := zok_o oo (by omega) (by omega)
  have hw := zW_at (E := E) (cs := cs) hq
  rw [zce_ob hob] at hw
  simp only [List.map_cons, zvl_i, zvl_o (show 10 ≤ 20 + ci by omega) (show 20 + ci ≠ 14 by omega)]
  have er : (zfb ci).1 + (r - (zfb ci).1) = r := by omega
  have hT : zTf ci (r - (zfb ci).1) = zfn r := by unfold zTf; rw [er]
  simp only [zik, Bool.and_eq_true, Bool.or_eq_true, Bool.not_eq_true', decide_eq_true_eq] at hik
  obtain ⟨⟨hik, hfin⟩, -⟩ := hik
  have hlk := hts _ (zw_f hik)
  have hn : narrow (zft r) (.int (Int32.ofInt v)) = .int (Int32.ofInt v) := by
    rcases f8 hft with z | z
    · rw [f6 z]; rfl
    · rw [f7 z]
      rcases hv z with rfl | rfl <;> rfl
  have hfits : fits (zft r) (.int (Int32.ofInt v)) = true := by
    rcases f8 hft with z | z
    · rw [f6 z]; rfl
    · rw [f7 z]
      rcases hv z with rfl | rfl <;> rfl
  have hne : ft ≠ 1 := by rcases f8 hft with rfl | rfl <;> decide
  have hlen : r - (zfb ci).1 < ((List.range (zfb ci).2).map (zfv E S q ci)).length := by rw [List.length_map, List.length_range]; exact f4
  have fin : ∀ (H1 : Heap) (locs1 : List Loc), va_P D zcls ((zW E cs S).set q (E.1 + q, .inr (ci, ((List.range (zfb ci).2).map (zfv E S q ci)).set (r - (zfb ci).1) (.int (Int32.ofInt v))))) H1 → va_D (fun x => E.1 ≤ x) ((zW E cs S).set q (E.1 + q, .inr (ci, ((List.range (zfb ci).2).map (zfv E S q ci)).set (r - (zfb ci).1) (.int (Int32.ofInt v))))) → va_S (fun x => E.1 ≤ x) s.heap H1 locs1 → W p l e R s mid args below meth c H1 locs1 cells slots Q (F0 mid (pc + 3) cls (rest.map (zvl E))) := by
    intro H1 locs1 hP hD hS
    rw [zfv_upd hf er hft hne f4, ← zce_ob (S := (S.1, S.2.1, zupd S.2.2 q ((r - (zfb ci).1 : Nat) : Int) v)) hob] at hP hD
    exact kk H1 locs1 (zG_upd hG.2.2.2 (fun z => by omega) (fun _ => ov) hP hD hS) hok2
  rcases hfin with hfin | ⟨hini, hcl⟩
  · exact va_put (D := D) (ref := (zfn r).1) (ty := zft r) hx hb hts (zlay_in f1) (fun k => zft ((zfb ci).1 + k)) (ztypes f1) (znames f1) hown hK hG.1 hG.2.1 hG.2.2.1 q hw (zcls_at f1) (r - (zfb ci).1) f4 (by rw [hT]; exact hlk) (fun x h => by rw [hT] at h ⊢; exact h) (by rw [hT]; exact hfin) (by rw [hT]; exact f5) hn hfits hlen hd fin
  · by_cases hfn : (zfn r).2.2.2 = false
    · exact va_put (D := D) (ref := (zfn r).1) (ty := zft r) hx hb hts (zlay_in f1) (fun k => zft ((zfb ci).1 + k)) (ztypes f1) (znames f1) hown hK hG.1 hG.2.1 hG.2.2.1 q hw (zcls_at f1) (r - (zfb ci).1) f4 (by rw [hT]; exact hlk) (fun x h => by rw [hT] at h ⊢; exact h) (by rw [hT]; exact hfn) (by rw [hT]; exact f5) hn hfits hlen hd fin
    · have hfn : (zfn r).2.2.2 = true := by simpa using hfn
      have hm : m < 288 := by
        unfold zcd at hc
        cases hb : (Nat.blt m 288 && Nat.blt pc (zbl m)) with
        | false => rw [hb] at hc; cases hc
        | true => rw [Bool.and_eq_true] at hb; exact Nat.le_of_ble_eq_true hb.1
      have h9 := List.all_eq_true.mp zin_ok m (List.mem_range.mpr hm)
      simp only [hini, Bool.not_true, Bool.false_or, decide_eq_true_eq] at h9
      exact va_putF (D := D) (ref := (zfn r).1) (ty := zft r) hx hb hts (zlay_in f1) (fun k => zft ((zfb ci).1 + k)) (ztypes f1) (znames f1) hown hK hG.1 hG.2.1 hG.2.2.1 q hw (zcls_at f1) (r - (zfb ci).1) f4 (by rw [hT]; exact hlk) (fun x h => by rw [hT] at h ⊢; exact h) (by rw [hT]; exact hfn) (hnm.trans h9) (by rw [hT]; exact hcl) (by rw [hT]; exact f5) hn hfits hlen hd fin
end ZSIM5
