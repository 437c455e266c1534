/-! The pool's numbers, and where its cells lie. -/
def gOK (d w r : Int) : Prop := 6 ≤ d ∧ d ≤ 16 ∧ 3 ≤ w ∧ w ≤ 8 ∧ w < d ∧ 48 ≤ r ∧ r ≤ 64
def gGr (d w : Int) : Int := (d - 1) / w
def gPo (d w : Int) : Int := w * gGr d w
/-- the steps: what has no divisor in common with d -/
def gul (d : Nat) : List Nat := (List.range d).filter (fun t => Nat.ble 1 t && Nat.beq (Nat.gcd t d) 1)
def gUc (d : Int) : Int := (gul d.toNat).length
def gUn (d i : Int) : Int := (gul d.toNat).getD i.toNat 1
def gDk (d row pos : Int) : Int := (row + pos * gUn d (row % gUc d)) % d
theorem gPo_rg {d w r : Int} (h : gOK d w r) : 1 ≤ gGr d w ∧ gGr d w ≤ 5 ∧ w ≤ gPo d w ∧ gPo d w + 1 ≤ d := by
  obtain ⟨h1, h2, h3, h4, h5, -, -⟩ := h
  unfold gPo gGr
  have a1 : w * ((d - 1) / w) ≤ d - 1 := Int.mul_ediv_self_le (by omega)
  have a2 : 1 ≤ (d - 1) / w := by
    rw [Int.le_ediv_iff_mul_le (by omega)]
    omega
  have a3 : (d - 1) / w ≤ 5 := by
    have : (d - 1) / w < 6 := by
      rw [Int.ediv_lt_iff_lt_mul (by omega)]
      omega
    omega
  have a4 : w * 1 ≤ w * ((d - 1) / w) := Int.mul_le_mul_of_nonneg_left a2 (by omega)
  omega
theorem gBl_dec : (List.range 11).all (fun a => (List.range 6).all (fun b => Nat.ble (64 * ((a + 6 - 1) / (b + 3)) * (b + 3 - 1)) 768)) = true := by decide +kernel
theorem gBl_le {d w r : Int} (h : gOK d w r) : r * gGr d w * (w - 1) ≤ 768 := by
  obtain ⟨h1, h2, h3, h4, h5, h6, h7⟩ := h
  have h8 := List.all_eq_true.mp (List.all_eq_true.mp gBl_dec (d.toNat - 6) (List.mem_range.mpr (by omega))) (w.toNat - 3) (List.mem_range.mpr (by omega))
  have h8 := Nat.le_of_ble_eq_true h8
  rw [show d.toNat - 6 + 6 = d.toNat by omega, show w.toNat - 3 + 3 = w.toNat by omega] at h8
  have e1 : gGr d w = (((d.toNat - 1) / w.toNat : Nat) : Int) := by
    unfold gGr
    rw [Int.natCast_ediv, show ((d.toNat - 1 : Nat) : Int) = d - 1 by omega, show (w.toNat : Int) = w by omega]
  have e2 : w - 1 = ((w.toNat - 1 : Nat) : Int) := by omega
  have e3 : 0 ≤ gGr d w * (w - 1) := by rw [e1, e2]; exact Int.mul_nonneg (Int.natCast_nonneg _) (Int.natCast_nonneg _)
  have e4 : r * gGr d w * (w - 1) ≤ 64 * gGr d w * (w - 1) := by
    rw [Int.mul_assoc, Int.mul_assoc]
    exact Int.mul_le_mul_of_nonneg_right h7 e3
  have e5 : 64 * gGr d w * (w - 1) = ((64 * ((d.toNat - 1) / w.toNat) * (w.toNat - 1) : Nat) : Int) := by
    rw [e1, e2, Int.natCast_mul, Int.natCast_mul]
    rfl
  omega
theorem gUn_dec : (List.range 11).all (fun k => Nat.ble 1 (gul (k + 6)).length && Nat.ble (gul (k + 6)).length (k + 6) && (gul (k + 6)).all (fun t => Nat.ble 1 t && Nat.blt t (k + 6) && (List.range (k + 6)).all (fun a => Nat.beq a 0 || !Nat.beq (a * t % (k + 6)) 0))) = true := by decide +kernel
theorem gUn_at {d w r : Int} (h : gOK d w r) : (1 ≤ gUc d ∧ gUc d ≤ d) ∧ ∀ i : Int, 0 ≤ i → i < gUc d → 1 ≤ gUn d i ∧ gUn d i < d ∧ ∀ a : Nat, a < d.toNat → a ≠ 0 → (a * (gUn d i).toNat) % d.toNat ≠ 0 := by
  have h1 := h.1
  have h2 := h.2.1
  have h3 := List.all_eq_true.mp gUn_dec (d.toNat - 6) (List.mem_range.mpr (by omega))
  rw [show d.toNat - 6 + 6 = d.toNat by omega] at h3
  simp only [Bool.and_eq_true] at h3
  obtain ⟨⟨h4, h5⟩, h6⟩ := h3
  have h4 := Nat.le_of_ble_eq_true h4
  have h5 := Nat.le_of_ble_eq_true h5
  refine ⟨⟨by unfold gUc; omega, by unfold gUc; omega⟩, fun i hi0 hi => ?_⟩
  unfold gUc at hi
  have hlt : i.toNat < (gul d.toNat).length := by omega
  have h7 := List.all_eq_true.mp h6 _ (List.getElem_mem hlt)
  simp only [Bool.and_eq_true] at h7
  obtain ⟨⟨h8, h9⟩, h10⟩ := h7
  have e : gUn d i = (((gul d.toNat)[i.toNat] : Nat) : Int) := by
    unfold gUn
    rw [List.getD_eq_getElem?_getD, List.getElem?_eq_getElem hlt]
    rfl
  have h8 := Nat.le_of_ble_eq_true h8
  have h9 : (gul d.toNat)[i.toNat] < d.toNat := Nat.le_of_ble_eq_true h9
  refine ⟨by rw [e]; omega, by rw [e]; omega, fun a ha ha0 => ?_⟩
  have h11 := List.all_eq_true.mp h10 a (List.mem_range.mpr ha)
  rw [show (gUn d i).toNat = (gul d.toNat)[i.toNat] by rw [e]; rfl]
  intro z
  simp only [Bool.or_eq_true, Bool.not_eq_true'] at h11
  rcases h11 with y | y
  · exact ha0 (Nat.eq_of_beq_eq_true y)
  · rw [z] at y
    cases y
theorem gDk_rg {d w r row pos : Int} (h : gOK d w r) : 0 ≤ gDk d row pos ∧ gDk d row pos < d := by
  have h1 := h.1
  unfold gDk
  exact ⟨Int.emod_nonneg _ (by omega), Int.emod_lt_of_pos _ (by omega)⟩
/-- in a row every position has a disk of its own -/
theorem gDk_inj {d w r row a b : Int} (h : gOK d w r) (ha : 0 ≤ a ∧ a < d) (hb : 0 ≤ b ∧ b < d) (e : gDk d row a = gDk d row b) : a = b := by
  have h1 := h.1
  obtain ⟨⟨u1, u2⟩, u3⟩ := gUn_at h
  obtain ⟨u4, u5, u6⟩ := u3 (row % gUc d) (Int.emod_nonneg _ (by omega)) (Int.emod_lt_of_pos _ (by omega))
  unfold gDk at e
  generalize gUn d (row % gUc d) = t at e u4 u5 u6
  have key : ∀ x y : Int, 0 ≤ x → x < y → y < d → (row + x * t) % d = (row + y * t) % d → False := by
    intro x y hx hxy hy e2
    have e3 : ((y - x) * t) % d = 0 := by
      have e4 : (row + y * t) - (row + x * t) = (y - x) * t := by rw [Int.sub_mul]; omega
      rw [← e4]
      exact Int.emod_eq_emod_iff_emod_sub_eq_zero.mp e2.symm
    refine u6 (y - x).toNat (by omega) (by omega) ?_
    have e5 : (((y - x).toNat * t.toNat % d.toNat : Nat) : Int) = 0 := by
      rw [Int.natCast_emod, Int.natCast_mul, Int.toNat_of_nonneg (by omega), Int.toNat_of_nonneg (by omega), Int.toNat_of_nonneg (by omega)]
      exact e3
    exact_mod_cast e5
  by_cases c1 : a < b
  · exact absurd e (fun z => key a b ha.1 c1 hb.2 z)
  · by_cases c2 : b < a
    · exact absurd e (fun z => key b a hb.1 c2 ha.2 z.symm)
    · omega
/-- the lengths of the class's arrays -/
def gLen (d w r : Int) (L : Int → Int) : Prop := (L 2 = d ∧ L 4 = d ∧ L 5 = d * (r + 1) ∧ L 6 = d * (r + 1) ∧ L 7 = d * (r + 1) ∧ L 8 = 8 * (d * (r + 1)) ∧ L 9 = 9 * (d * (r + 1)) ∧ L 10 = 9 ∧ L 11 = 8) ∧ (L 13 = r * gPo d w ∧ L 14 = 8 ∧ L 15 = 8 ∧ L 17 = 8) ∧
  (L 19 = 8 * (r * gGr d w * (w - 1)) ∧ L 20 = 8 * (r * gGr d w * (w - 1)) ∧ L 21 = 8 ∧ L 22 = r * gGr d w * (w - 1) ∧ L 23 = r * gGr d w * (w - 1) ∧ L 24 = 32 ∧ L 25 = 256 ∧ L 28 = 64 ∧ L 30 = 24 ∧ L 31 = 192 ∧ L 32 = 8 ∧ L 33 = 512 ∧ L 34 = 8)
/-- the class's numbers that stay -/
def gNum (d w r : Int) (H : Int → Int → Int) : Prop := (H 1 0 = d ∧ H 1 1 = w ∧ H 1 2 = r ∧ H 1 3 = gGr d w ∧ H 1 4 = gPo d w ∧ H 1 5 = r * gGr d w ∧ H 1 6 = r * gPo d w ∧ H 1 7 = r * gGr d w * (w - 1) ∧ H 1 9 = gUc d) ∧ (∀ i : Int, 0 ≤ i → i < gUc d → H 2 i = gUn d i) ∧ H 3 0 = d ∧ H 3 1 = r + 1 ∧ H 18 1 = r * gGr d w * (w - 1)
/-- what a step may leave as it is -/
theorem gNum.keep {d w r : Int} {H H' : Int → Int → Int} (h : gNum d w r H) (h1 : ∀ i, H' 1 i = H 1 i) (h2 : ∀ i, H' 2 i = H 2 i) (h3 : H' 3 0 = H 3 0) (h4 : H' 3 1 = H 3 1) (h5 : H' 18 1 = H 18 1) : gNum d w r H' := by
  unfold gNum at h ⊢
  simp only [h1, h2, h3, h4, h5]
  exact h
theorem gNum.upd {d w r : Int} {H : Int → Int → Int} {o i v : Int} (h : gNum d w r H) (ho : o ≠ 1 ∧ o ≠ 2 ∧ (o = 3 → i ≠ 0 ∧ i ≠ 1) ∧ (o = 18 → i ≠ 1)) : gNum d w r (zupd H o i v) := by
  refine h.keep (fun j => ?_) (fun j => ?_) ?_ ?_ ?_
  · unfold zupd; rw [if_neg (fun z => ho.1 z.1.symm)]
  · unfold zupd; rw [if_neg (fun z => ho.2.1 z.1.symm)]
  · unfold zupd; rw [if_neg (fun z => (ho.2.2.1 z.1.symm).1 z.2.symm)]
  · unfold zupd; rw [if_neg (fun z => (ho.2.2.1 z.1.symm).2 z.2.symm)]
  · unfold zupd; rw [if_neg (fun z => ho.2.2.2 z.1.symm z.2.symm)]
theorem gNum.cpy {d w r : Int} {H : Int → Int → Int} {s sp o dp n : Int} (h : gNum d w r H) (ho : o ≠ 1 ∧ o ≠ 2 ∧ o ≠ 3 ∧ o ≠ 18) : gNum d w r (zcpy H s sp o dp n) := by
  refine h.keep (fun j => ?_) (fun j => ?_) ?_ ?_ ?_
  · unfold zcpy; rw [if_neg (fun z => ho.1 z.1.symm)]
  · unfold zcpy; rw [if_neg (fun z => ho.2.1 z.1.symm)]
  · unfold zcpy; rw [if_neg (fun z => ho.2.2.1 z.1.symm)]
  · unfold zcpy; rw [if_neg (fun z => ho.2.2.1 z.1.symm)]
  · unfold zcpy; rw [if_neg (fun z => ho.2.2.2 z.1.symm)]
theorem gNum.fil {d w r : Int} {H : Int → Int → Int} {o f n : Int} (h : gNum d w r H) (ho : o ≠ 1 ∧ o ≠ 2 ∧ o ≠ 3 ∧ o ≠ 18) : gNum d w r (zfil H o f n) := by
  refine h.keep (fun j => ?_) (fun j => ?_) ?_ ?_ ?_
  · unfold zfil; rw [if_neg (fun z => ho.1 z.1.symm)]
  · unfold zfil; rw [if_neg (fun z => ho.2.1 z.1.symm)]
  · unfold zfil; rw [if_neg (fun z => ho.2.2.1 z.1.symm)]
  · unfold zfil; rw [if_neg (fun z => ho.2.2.1 z.1.symm)]
  · unfold zfil; rw [if_neg (fun z => ho.2.2.2 z.1.symm)]
/-- what is a boolean -/
def gBo (H : Int → Int → Int) : Prop := ∀ o i : Int, (o = 4 ∨ o = 5 ∨ o = 6 ∨ o = 22 ∨ o = 23 ∨ (o = 0 ∧ i = 11)) → H o i = 0 ∨ H o i = 1
theorem gBo.upd {H : Int → Int → Int} {o i v : Int} (h : gBo H) (hv : (o = 4 ∨ o = 5 ∨ o = 6 ∨ o = 22 ∨ o = 23 ∨ (o = 0 ∧ i = 11)) → v = 0 ∨ v = 1) : gBo (zupd H o i v) := by
  intro o' i' ho
  unfold zupd
  by_cases e : o' = o ∧ i' = i
  · rw [if_pos e]
    exact hv (by rw [← e.1, ← e.2]; exact ho)
  · rw [if_neg e]
    exact h o' i' ho
theorem gBo.cpy {H : Int → Int → Int} {s sp o dp n : Int} (h : gBo H) (ho : ¬ (o = 4 ∨ o = 5 ∨ o = 6 ∨ o = 22 ∨ o = 23 ∨ o = 0)) : gBo (zcpy H s sp o dp n) := by
  intro o' i' ho'
  unfold zcpy
  rw [if_neg (fun z => ho (by omega))]
  exact h o' i' ho'
theorem gBo.fil {H : Int → Int → Int} {o f n : Int} (h : gBo H) : gBo (zfil H o f n) := by
  intro o' i' ho'
  unfold zfil
  by_cases e : o' = o ∧ f ≤ i' ∧ i' < f + n
  · rw [if_pos e]; exact Or.inl rfl
  · rw [if_neg e]; exact h o' i' ho'
def gS (d w r : Int) (S : zS) : Prop := gOK d w r ∧ gLen d w r S.2.1 ∧ gNum d w r S.2.2 ∧ gBo S.2.2
theorem gS.upd {d w r : Int} {t : Nat} {L : Int → Int} {H : Int → Int → Int} {o i v : Int} (h : gS d w r (t, L, H)) (ho : o ≠ 1 ∧ o ≠ 2 ∧ (o = 3 → i ≠ 0 ∧ i ≠ 1) ∧ (o = 18 → i ≠ 1)) (hv : (o = 4 ∨ o = 5 ∨ o = 6 ∨ o = 22 ∨ o = 23 ∨ (o = 0 ∧ i = 11)) → v = 0 ∨ v = 1) : gS d w r (t, L, zupd H o i v) := ⟨h.1, h.2.1, h.2.2.1.upd ho, h.2.2.2.upd hv⟩
theorem gS.cpy {d w r : Int} {t : Nat} {L : Int → Int} {H : Int → Int → Int} {s sp o dp n : Int} (h : gS d w r (t, L, H)) (ho : ¬ (o = 4 ∨ o = 5 ∨ o = 6 ∨ o = 22 ∨ o = 23 ∨ o = 0) ∧ o ≠ 1 ∧ o ≠ 2 ∧ o ≠ 3 ∧ o ≠ 18) : gS d w r (t, L, zcpy H s sp o dp n) := ⟨h.1, h.2.1, h.2.2.1.cpy ho.2, h.2.2.2.cpy ho.1⟩
theorem gS.fil {d w r : Int} {t : Nat} {L : Int → Int} {H : Int → Int → Int} {o f n : Int} (h : gS d w r (t, L, H)) (ho : o ≠ 1 ∧ o ≠ 2 ∧ o ≠ 3 ∧ o ≠ 18) : gS d w r (t, L, zfil H o f n) := ⟨h.1, h.2.1, h.2.2.1.fil ho, h.2.2.2.fil⟩
/-- a cell's number -/
def gCe (r x o : Int) : Int := x * (r + 1) + o
theorem gCe_rg {d w r x o : Int} (h : gOK d w r) (hx : 0 ≤ x ∧ x < d) (ho : 0 ≤ o ∧ o ≤ r) : 0 ≤ gCe r x o ∧ gCe r x o + 1 ≤ d * (r + 1) ∧ d * (r + 1) ≤ 1040 := by
  obtain ⟨h1, h2, h3, h4, h5, h6, h7⟩ := h
  unfold gCe
  have a1 : 0 ≤ x * (r + 1) := Int.mul_nonneg hx.1 (by omega)
  have a2 : (x + 1) * (r + 1) ≤ d * (r + 1) := Int.mul_le_mul_of_nonneg_right (by omega) (by omega)
  have a3 : (x + 1) * (r + 1) = x * (r + 1) + (r + 1) := by rw [Int.add_mul]; omega
  have a4 : d * (r + 1) ≤ 16 * (r + 1) := Int.mul_le_mul_of_nonneg_right (by omega) (by omega)
  omega
theorem gCe_z {d w r x o : Int} (h : gOK d w r) (hx : 0 ≤ x ∧ x < d) (ho : 0 ≤ o ∧ o ≤ r) : z32 (z32 (x * (r + 1)) + o) = gCe r x o := by
  have a := gCe_rg h hx ho
  unfold gCe at a ⊢
  have h7 := h.2.2.2.2.2.2
  have a1 : 0 ≤ x * (r + 1) := Int.mul_nonneg hx.1 (by have := h.2.2.2.2.2.1; omega)
  rw [z32_id (x := x * (r + 1)) (by omega) (by omega), z32_id (by omega) (by omega)]
theorem gCe_inj {d w r x o x' o' : Int} (h : gOK d w r) (ho : 0 ≤ o ∧ o ≤ r) (ho' : 0 ≤ o' ∧ o' ≤ r) (e : gCe r x o = gCe r x' o') : x = x' ∧ o = o' := by
  unfold gCe at e
  have h6 := h.2.2.2.2.2.1
  have e1 : x = (x * (r + 1) + o) / (r + 1) := by
    rw [Int.add_comm, Int.add_mul_ediv_right _ _ (by omega), Int.ediv_eq_zero_of_lt ho.1 (by omega)]
    omega
  have e2 : x' = (x' * (r + 1) + o') / (r + 1) := by
    rw [Int.add_comm, Int.add_mul_ediv_right _ _ (by omega), Int.ediv_eq_zero_of_lt ho'.1 (by omega)]
    omega
  have e3 : x = x' := by rw [e1, e2, e]
  subst e3
  omega
/-- Layout.diskOf -/
theorem g_diskOf {d w r row pos : Int} {S : zS} {Qr Qt : Int → zS → Prop} (h : gS d w r S) (hr : 0 ≤ row ∧ row ≤ 1000) (hp : 0 ≤ pos ∧ pos ≤ d) (hQ : Qr (gDk d row pos) S) : zEnds 80 8 0 [(21, 1), (0, row), (0, pos)] [] S Qr Qt := by
  obtain ⟨hk, hl, hn, -⟩ := h
  obtain ⟨⟨u1, u2⟩, u3⟩ := gUn_at hk
  have h1 := hk.1
  have h2 := hk.2.1
  have m1 := Int.emod_nonneg row (b := gUc d) (by omega)
  have m2 := Int.emod_lt_of_pos row (b := gUc d) (by omega)
  obtain ⟨u4, u5, -⟩ := u3 (row % gUc d) m1 m2
  refine v_8 ?_
  rw [hn.1.2.2.2.2.2.2.2.2, hn.1.1, hl.1.1, zrem_pos hr.1, hn.2.1 _ m1 m2]
  have a1 : 0 ≤ pos * gUn d (row % gUc d) := Int.mul_nonneg hp.1 (by omega)
  have a2 : pos * gUn d (row % gUc d) ≤ 16 * gUn d (row % gUc d) := Int.mul_le_mul_of_nonneg_right (by omega) (by omega)
  rw [z32_id (x := pos * gUn d (row % gUc d)) (by omega) (by omega), z32_id (by omega) (by omega), zrem_pos (by omega)]
  exact ⟨by omega, ⟨m1, by omega⟩, by omega, hQ⟩
