section ZSIM4
variable {p : Program} {l : Launch} {e : Env} {R : Room} {s : State} {mid : MethodId} {args : Array Value} {below : List Frame} {meth : Method} {c : Code} {cells slots : Nat} {Q : State → Prop}
variable {m nL : Nat} {D : va_G} {cs : ClassId × ClassId × ClassId × ClassId} {E : zE}
theorem zok_o {t u : Nat} {o : Int} (h : zokv t (u, o)) (h1 : 10 ≤ u) (h2 : u ≠ 14) : ∃ q : Nat, o = (q : Int) ∧ q < zno t ∧ zob q = u := by
  rcases h with h | h | h | h | h
  · have := h.1; dsimp only at this; omega
  · have := h.1; dsimp only at this; omega
  · dsimp only at h; omega
  · have := h.1; dsimp only at this; omega
  · obtain ⟨-, -, h3, h4, h5⟩ := h
    dsimp only at h3 h4 h5
    exact ⟨o.toNat, (Int.toNat_of_nonneg h3).symm, h4, h5⟩
theorem zvl_o {u : Nat} {q : Nat} (h1 : 10 ≤ u) (h2 : u ≠ 14) : zvl E (u, (q : Int)) = .ref (E.1 + q) := by
  unfold zvl
  have h3 : Nat.beq u 0 = false := Bool.eq_false_iff.mpr (fun z => by have := Nat.eq_of_beq_eq_true z; omega)
  have h4 : Nat.beq u 1 = false := Bool.eq_false_iff.mpr (fun z => by have := Nat.eq_of_beq_eq_true z; omega)
  have h5 : Nat.beq u 14 = false := Bool.eq_false_iff.mpr (fun z => h2 (Nat.eq_of_beq_eq_true z))
  rw [h3, h4, h5]
  simp
theorem zce_10 {S : zS} {q : Nat} (h : zob q = 10) : zce E cs S q = .inl (cs.1, (S.2.1 q).toNat, .inl (fun j => Int32.ofInt (S.2.2 q j))) := by unfold zce; rw [h]; rfl
theorem zce_11 {S : zS} {q : Nat} (h : zob q = 11) : zce E cs S q = .inl (cs.2.1, (S.2.1 q).toNat, .inr (.inl (fun j => Int64.ofInt (S.2.2 q j)))) := by unfold zce; rw [h]; rfl
theorem zce_12 {S : zS} {q : Nat} (h : zob q = 12) : zce E cs S q = .inl (cs.2.2.1, (S.2.1 q).toNat, .inl (fun j => Int32.ofInt (S.2.2 q j))) := by unfold zce; rw [h]; rfl
theorem zce_13 {S : zS} {q : Nat} (h : zob q = 13) : zce E cs S q = .inl (cs.2.2.2, (S.2.1 q).toNat, .inl (fun j => Int32.ofInt (S.2.2 q j))) := by unfold zce; rw [h]; rfl
theorem clamp_of32 {j : Nat} (h : z32 (j : Int) = j) : (Int32.ofInt (j : Int)).toNatClampNeg = j := by
  show (Int32.ofInt (j : Int)).toInt.toNat = j
  rw [toInt_of32 h]
  rfl
theorem zin_of {j n : Nat} (h : z32 (j : Int) = j) (hn : j < n) : vp_in (Int32.ofInt (j : Int)) n := by
  rintro (q | q)
  · rw [show (0 : Int32) = Int32.ofInt 0 from rfl, ofi_lt h z32_0] at q
    omega
  · rw [clamp_of32 h] at q
    omega
theorem zs_iald (C : zCx p s mid args meth c m D cs E nL) {pc nx r : Nat} {cls : Array Slot} {j o : Int} {rest : List zV} {S : zS} (hc : zcd m pc = some (.iaload, nx, r)) (hj : 0 ≤ j ∧ j < S.2.1 o)
    (k : zK p l e R s mid args below meth c cells slots Q D cs E cls nx ((0, S.2.2 o j) :: rest) S) : zK p l e R s mid args below meth c cells slots Q D cs E cls pc ((0, j) :: (10, o) :: rest) S := by
  intro H locs hG hok
  obtain ⟨hx, hb, hml, hown, hts, hK, hnm, hdk, hX⟩ := C
  obtain ⟨hd, rfl, -⟩ := zdec' (n := 0) hdk hc rfl
  obtain ⟨oj, hok1⟩ := zcons hok
  obtain ⟨oo, hok2⟩ := zcons hok1
  have oj := zok_i oj
  obtain ⟨q, rfl, hq, hob⟩ := zok_o oo (by decide) (by decide)
  obtain ⟨i, rfl⟩ := Int.eq_ofNat_of_zero_le hj.1
  have hw := zW_at (E := E) (cs := cs) hq
  rw [zce_10 hob] at hw
  simp only [List.map_cons, zvl_i, zvl_o (show 10 ≤ 10 by decide) (show 10 ≠ 14 by decide)]
  refine va_iald hx hb hK hG.1 q 0 hw rfl (zin_of oj (by omega)) hd ?_
  rw [clamp_of32 oj]
  exact k H locs hG (zcons' (Or.inl ⟨rfl, (hG.2.2.2.2.1 q i).2 (by rw [hob]; decide)⟩) hok2)
theorem zs_lald (C : zCx p s mid args meth c m D cs E nL) {pc nx r : Nat} {cls : Array Slot} {j o : Int} {rest : List zV} {S : zS} (hc : zcd m pc = some (.laload, nx, r)) (hj : 0 ≤ j ∧ j < S.2.1 o)
    (k : zK p l e R s mid args below meth c cells slots Q D cs E cls nx ((1, S.2.2 o j) :: rest) S) : zK p l e R s mid args below meth c cells slots Q D cs E cls pc ((0, j) :: (11, o) :: rest) S := by
  intro H locs hG hok
  obtain ⟨hx, hb, hml, hown, hts, hK, hnm, hdk, hX⟩ := C
  obtain ⟨hd, rfl, -⟩ := zdec' (n := 0) hdk hc rfl
  obtain ⟨oj, hok1⟩ := zcons hok
  obtain ⟨oo, hok2⟩ := zcons hok1
  have oj := zok_i oj
  obtain ⟨q, rfl, hq, hob⟩ := zok_o oo (by decide) (by decide)
  obtain ⟨i, rfl⟩ := Int.eq_ofNat_of_zero_le hj.1
  have hw := zW_at (E := E) (cs := cs) hq
  rw [zce_11 hob] at hw
  simp only [List.map_cons, zvl_i, zvl_o (show 10 ≤ 11 by decide) (show 11 ≠ 14 by decide)]
  refine va_lald hx hb hK hG.1 q 1 hw rfl (zin_of oj (by omega)) hd ?_
  rw [clamp_of32 oj]
  exact k H locs hG (zcons' (Or.inr (Or.inl ⟨rfl, (hG.2.2.2.2.1 q i).1 hob⟩)) hok2)
theorem zs_bald (C : zCx p s mid args meth c m D cs E nL) {pc nx r : Nat} {cls : Array Slot} {j o : Int} {rest : List zV} {S : zS} (hc : zcd m pc = some (.baload, nx, r)) (hj : 0 ≤ j ∧ j < S.2.1 o)
    (k : zK p l e R s mid args below meth c cells slots Q D cs E cls nx ((0, S.2.2 o j) :: rest) S) : zK p l e R s mid args below meth c cells slots Q D cs E cls pc ((0, j) :: (12, o) :: rest) S := by
  intro H locs hG hok
  obtain ⟨hx, hb, hml, hown, hts, hK, hnm, hdk, hX⟩ := C
  obtain ⟨hd, rfl, -⟩ := zdec' (n := 0) hdk hc rfl
  obtain ⟨oj, hok1⟩ := zcons hok
  obtain ⟨oo, hok2⟩ := zcons hok1
  have oj := zok_i oj
  obtain ⟨q, rfl, hq, hob⟩ := zok_o oo (by decide) (by decide)
  obtain ⟨i, rfl⟩ := Int.eq_ofNat_of_zero_le hj.1
  have hw := zW_at (E := E) (cs := cs) hq
  rw [zce_12 hob] at hw
  simp only [List.map_cons, zvl_i, zvl_o (show 10 ≤ 12 by decide) (show 12 ≠ 14 by decide)]
  refine va_bald hx hb hK hG.1 q 2 hw rfl (zin_of oj (by omega)) hd ?_
  rw [clamp_of32 oj]
  exact k H locs hG (zcons' (Or.inl ⟨rfl, (hG.2.2.2.2.1 q i).2 (by rw [hob]; decide)⟩) hok2)
theorem zs_zald (C : zCx p s mid args meth c m D cs E nL) {pc nx r : Nat} {cls : Array Slot} {j o : Int} {rest : List zV} {S : zS} (hc : zcd m pc = some (.baload, nx, r)) (hj : 0 ≤ j ∧ j < S.2.1 o)
    (k : zK p l e R s mid args below meth c cells slots Q D cs E cls nx ((0, S.2.2 o j) :: rest) S) : zK p l e R s mid args below meth c cells slots Q D cs E cls pc ((0, j) :: (13, o) :: rest) S := by
  intro H locs hG hok
  obtain ⟨hx, hb, hml, hown, hts, hK, hnm, hdk, hX⟩ := C
  obtain ⟨hd, rfl, -⟩ := zdec' (n := 0) hdk hc rfl
  obtain ⟨oj, hok1⟩ := zcons hok
  obtain ⟨oo, hok2⟩ := zcons hok1
  have oj := zok_i oj
  obtain ⟨q, rfl, hq, hob⟩ := zok_o oo (by decide) (by decide)
  obtain ⟨i, rfl⟩ := Int.eq_ofNat_of_zero_le hj.1
  have hw := zW_at (E := E) (cs := cs) hq
  rw [zce_13 hob] at hw
  simp only [List.map_cons, zvl_i, zvl_o (show 10 ≤ 13 by decide) (show 13 ≠ 14 by decide)]
  refine va_zald hx hb hK hG.1 q 3 hw rfl (zin_of oj (by omega)) hd ?_
  rw [clamp_of32 oj]
  exact k H locs hG (zcons' (Or.inl ⟨rfl, (hG.2.2.2.2.1 q i).2 (by rw [hob]; decide)⟩) hok2)
/-- the arrays from outside -/
theorem zs_xald (C : zCx p s mid args meth c m D cs E nL) {pc nx r : Nat} {cls : Array Slot} {j o : Int} {rest : List zV} {S : zS} (hc : zcd m pc = some (.iaload, nx, r)) (hj : 0 ≤ j ∧ j < S.2.1 o)
    (k : zK p l e R s mid args below meth c cells slots Q D cs E cls nx ((0, S.2.2 o j) :: rest) S) : zK p l e R s mid args below meth c cells slots Q D cs E cls pc ((0, j) :: (14, o) :: rest) S := by
  intro H locs hG hok
  obtain ⟨hx, hb, hml, hown, hts, hK, hnm, hdk, hX⟩ := C
  obtain ⟨hd, rfl, -⟩ := zdec' (n := 0) hdk hc rfl
  obtain ⟨oj, hok1⟩ := zcons hok
  obtain ⟨oo, hok2⟩ := zcons hok1
  have oj := zok_i oj
  obtain ⟨i, rfl⟩ := Int.eq_ofNat_of_zero_le hj.1
  obtain ⟨-, hX1, hX2, hX3, hX4, hX5, hX6, -⟩ := hX
  obtain ⟨⟨g1, g2, g3, g4⟩, -⟩ := hG.2.2.2
  have ho : o = -8 ∨ o = -7 := by
    rcases oo with h | h | h | h | h
    · exact absurd h.1 (show (14 : Nat) ≠ 0 by decide)
    · exact absurd h.1 (show (14 : Nat) ≠ 1 by decide)
    · exact absurd h (show (14 : Nat) ≠ 9 by decide)
    · exact h.2
    · exact absurd rfl h.2.1
  rcases ho with rfl | rfl
  · have hi : i < 16 := by omega
    simp only [List.map_cons, zvl_i]
    refine va_ti (v := .int (Int32.ofInt (zfa (Int32.ofInt (i : Int)).toNatClampNeg))) hx hb hX1 hG.2.2.1 (zin_of oj hi) rfl hd ?_
    rw [clamp_of32 oj, ← g1 i hi]
    refine k H locs hG (zcons' (Or.inl ⟨rfl, ?_⟩) hok2)
    show z32 (S.2.2 (-8) i) = S.2.2 (-8) i
    rw [g1 i hi]
    have hz : ∀ i, i < 16 → z32 (zfa i) = zfa i := by decide
    exact hz i hi
  · have hi : i < E.2.2.2.1 := by omega
    simp only [List.map_cons, zvl_i]
    refine va_sld (A := fun q => E.1 ≤ q) hx hb hX4 hX5 (Nat.not_le.mpr hX6) hG.2.2.1 (zin_of oj hi) hd ?_
    have e1 : E.2.2.2.2 (Int32.ofInt (i : Int)).toNatClampNeg = Int32.ofInt (S.2.2 (-7) i) := by rw [clamp_of32 oj, g3 i hi, Int32.ofInt_toInt]
    rw [e1]
    refine k H locs hG (zcons' (Or.inl ⟨rfl, ?_⟩) hok2)
    show z32 (S.2.2 (-7) i) = S.2.2 (-7) i
    rw [g3 i hi]
    exact z32_toInt _
theorem zs_gets (C : zCx p s mid args meth c m D cs E nL) {pc nx r j : Nat} {cls : Array Slot} {st : List zV} {S : zS} (hc : zcd m pc = some (.getstatic j, nx, r)) (k : zK p l e R s mid args below meth c cells slots Q D cs E cls nx ((14, -(r : Int)) :: st) S) : zK p l e R s mid args below meth c cells slots Q D cs E cls pc st S := by
  intro H locs hG hok
  obtain ⟨hx, hb, hml, hown, hts, hK, hnm, hdk, hX⟩ := C
  obtain ⟨hd, rfl, hik⟩ := zdec' (n := 2) hdk hc rfl
  simp only [zik, Bool.and_eq_true] at hik
  obtain ⟨⟨h1, h2⟩, h3⟩ := hik
  have h2 := Nat.eq_of_beq_eq_true h2
  subst h2
  obtain ⟨t, ht⟩ := zin4_mem h3
  have h4 := List.all_eq_true.mp zLs_ok _ ht
  simp only [decide_eq_true_eq] at h4
  exact va_gets hx hb hX.1 hG.2.2.1 hown (hts _ (zin_cs h4 rfl)) (fun _ h => h) hd (k H locs hG (zcons' (Or.inr (Or.inr (Or.inr (Or.inl ⟨rfl, Or.inl rfl⟩)))) hok))
theorem zs_alen (C : zCx p s mid args meth c m D cs E nL) {pc nx r u : Nat} {cls : Array Slot} {o : Int} {rest : List zV} {S : zS} (hc : zcd m pc = some (.arraylength, nx, r)) (hu : 10 ≤ u ∧ u ≤ 14)
    (k : zK p l e R s mid args below meth c cells slots Q D cs E cls nx ((0, S.2.1 o) :: rest) S) : zK p l e R s mid args below meth c cells slots Q D cs E cls pc ((u, o) :: rest) S := by
  intro H locs hG hok
  obtain ⟨hx, hb, hml, hown, hts, hK, hnm, hdk, hX⟩ := C
  obtain ⟨hd, rfl, -⟩ := zdec' (n := 0) hdk hc rfl
  obtain ⟨oo, hok2⟩ := zcons hok
  by_cases h14 : u = 14
  · subst h14
    obtain ⟨-, hX1, hX2, hX3, hX4, hX5, hX6, hX7⟩ := hX
    obtain ⟨⟨g1, g2, g3, g4⟩, -⟩ := hG.2.2.2
    have ho : o = -8 ∨ o = -7 := by
      rcases oo with h | h | h | h | h
      · exact absurd h.1 (show (14 : Nat) ≠ 0 by decide)
      · exact absurd h.1 (show (14 : Nat) ≠ 1 by decide)
      · exact absurd h (show (14 : Nat) ≠ 9 by decide)
      · exact h.2
      · exact absurd rfl h.2.1
    rcases ho with rfl | rfl
    · obtain ⟨cell, q1, q2, q3, q4, q5, q6, q7⟩ := hX1
      have hcell : H[E.2.1]? = some cell := by rw [hG.2.2.1.2.1 _ hX2 q7]; exact q1
      refine W.alen (n := Int32.ofInt 16) hx hb hcell q2 (by rw [q5]; rfl) rfl rfl hd ?_
      have := k H locs hG (zcons' (Or.inl ⟨rfl, by show z32 (S.2.1 (-8)) = _; rw [g2]; decide⟩) hok2)
      simp only [List.map_cons, zvl_i, g2] at this
      exact this
    · refine va_slen (A := fun q => E.1 ≤ q) hx hb hX4 hX5 (Nat.not_le.mpr hX6) hG.2.2.1 hd ?_
      have := k H locs hG (zcons' (Or.inl ⟨rfl, by show z32 (S.2.1 (-7)) = _; rw [g4]; exact z32_sm (by omega) (by omega)⟩) hok2)
      simp only [List.map_cons, zvl_i, g4] at this
      exact this
  · obtain ⟨q, rfl, hq, hob⟩ := zok_o oo hu.1 h14
    have hw := zW_at (E := E) (cs := cs) hq
    have hn := hG.2.2.2.2.2 q
    simp only [List.map_cons, zvl_o hu.1 h14]
    have key : ∀ (cA : ClassId) (x : vp_A) (t0 : Nat) (ty : FieldType), zce E cs S q = .inl (cA, x) → (ztys cs)[t0]? = some (cA, ty) → x.1 = (S.2.1 q).toNat → W p l e R s mid args below meth c H locs cells slots Q (F0 mid pc cls (.ref (E.1 + q) :: rest.map (zvl E))) := by
      intro cA x t0 ty h1 h2 h3
      rw [h1] at hw
      refine va_alen hx hb hK hG.1 q t0 hw h2 (v := Int32.ofInt (S.2.1 q)) ?_ hd (k H locs hG (zcons' (Or.inl ⟨rfl, z32_sm (x := S.2.1 q) (by omega) (by omega)⟩) hok2))
      rw [h3]
      obtain ⟨w, hw⟩ := Int.eq_ofNat_of_zero_le hn.1
      rw [hw]
      rfl
    rcases (show u = 10 ∨ u = 11 ∨ u = 12 ∨ u = 13 by omega) with rfl | rfl | rfl | rfl
    · exact key _ _ 0 _ (zce_10 hob) rfl rfl
    · exact key _ _ 1 _ (zce_11 hob) rfl rfl
    · exact key _ _ 2 _ (zce_12 hob) rfl rfl
    · exact key _ _ 3 _ (zce_13 hob) rfl rfl
theorem zokS_upd {S : zS} {q : Nat} {j v : Int} (h : zokS E S) (h1 : zob q = 11 → z64 v = v) (h2 : zob q ≠ 11 → z32 v = v) : zokS E (S.1, S.2.1, zupd S.2.2 q j v) := by
  obtain ⟨⟨g1, g2, g3, g4⟩, h3, h4⟩ := h
  refine ⟨⟨fun i hi => ?_, g2, fun i hi => ?_, g4⟩, fun o i => ?_, h4⟩
  · show zupd S.2.2 q j v (-8) i = _
    unfold zupd
    rw [if_neg (fun z => by omega)]
    exact g1 i hi
  · show zupd S.2.2 q j v (-7) i = _
    unfold zupd
    rw [if_neg (fun z => by omega)]
    exact g3 i hi
  · show (zob o = 11 → z64 (zupd S.2.2 q j v o i) = zupd S.2.2 q j v o i) ∧ (zob o ≠ 11 → z32 (zupd S.2.2 q j v o i) = zupd S.2.2 q j v o i)
    unfold zupd
    by_cases z : (o : Int) = (q : Int) ∧ i = j
    · rw [if_pos z]
      have : o = q := by omega
      subst this
      exact ⟨h1, h2⟩
    · rw [if_neg z]
      exact h3 o i
theorem zG_upd {H0 H1 : Heap} {locs1 : List Loc} {S : zS} {q : Nat} {j v : Int} (hk : zokS E S) (h1 : zob q = 11 → z64 v = v) (h2 : zob q ≠ 11 → z32 v = v) (hP : va_P D zcls ((zW E cs S).set q (E.1 + q, zce E cs (S.1, S.2.1, zupd S.2.2 q j v) q)) H1) (hD : va_D (fun x => E.1 ≤ x) ((zW E cs S).set q (E.1 + q, zce E cs (S.1, S.2.1, zupd S.2.2 q j v) q))) (hS : va_S (fun x => E.1 ≤ x) H0 H1 locs1) : zG D cs E H0 (S.1, S.2.1, zupd S.2.2 q j v) H1 locs1 := by
  have e1 : (zW E cs S).set q (E.1 + q, zce E cs (S.1, S.2.1, zupd S.2.2 q j v) q) = zW E cs (S.1, S.2.1, zupd S.2.2 q j v) := zW_set rfl (fun o ho => zce_upd (by omega))
  rw [e1] at hP hD
  exact ⟨hP, hD, hS, zokS_upd hk h1 h2⟩
theorem zupd_i {f : Int → Int → Int} {q : Nat} {i : Nat} {v : Int} : upd (fun j => Int32.ofInt (f q j)) i (Int32.ofInt v) = fun j : Nat => Int32.ofInt (zupd f q i v q j) := by
  funext j
  unfold upd zupd
  by_cases h : j = i
  · rw [if_pos h, if_pos ⟨rfl, by rw [h]⟩]
  · rw [if_neg h, if_neg (fun z => h (by omega))]
theorem zupd_l {f : Int → Int → Int} {q : Nat} {i : Nat} {v : Int} : vp_updL (fun j => Int64.ofInt (f q j)) i (Int64.ofInt v) = fun j : Nat => Int64.ofInt (zupd f q i v q j) := by
  funext j
  unfold vp_updL zupd
  by_cases h : j = i
  · rw [if_pos h, if_pos ⟨rfl, by rw [h]⟩]
  · rw [if_neg h, if_neg (fun z => h (by omega))]
theorem zs_iast (C : zCx p s mid args meth c m D cs E nL) {pc nx r : Nat} {cls : Array Slot} {j o v : Int} {rest : List zV} {S : zS} (hc : zcd m pc = some (.iastore, nx, r)) (hj : 0 ≤ j ∧ j < S.2.1 o)
    (k : zK p l e R s mid args below meth c cells slots Q D cs E cls nx rest (S.1, S.2.1, zupd S.2.2 o j v)) : zK p l e R s mid args below meth c cells slots Q D cs E cls pc ((0, v) :: (0, j) :: (10, o) :: rest) S := by
  intro H locs hG hok
  obtain ⟨hx, hb, hml, hown, hts, hK, hnm, hdk, hX⟩ := C
  obtain ⟨hd, rfl, -⟩ := zdec' (n := 0) hdk hc rfl
  obtain ⟨ov, hok0⟩ := zcons hok
  obtain ⟨oj, hok1⟩ := zcons hok0
  obtain ⟨oo, hok2⟩ := zcons hok1
  have oj := zok_i oj
  have ov := zok_i ov
  obtain ⟨q, rfl, hq, hob⟩ := zok_o oo (by decide) (by decide)
  obtain ⟨i, rfl⟩ := Int.eq_ofNat_of_zero_le hj.1
  have hw := zW_at (E := E) (cs := cs) hq
  rw [zce_10 hob] at hw
  simp only [List.map_cons, zvl_i, zvl_o (show 10 ≤ 10 by decide) (show 10 ≠ 14 by decide)]
  refine va_iast hx hb hK hG.1 hG.2.1 hG.2.2.1 q 0 hw rfl (zin_of oj (by omega)) hd (fun H1 locs1 hP hD hS => ?_)
  rw [clamp_of32 oj, zupd_i, ← zce_10 (S := (S.1, S.2.1, zupd S.2.2 q i v)) hob] at hP hD
  exact k H1 locs1 (zG_upd hG.2.2.2 (fun z => by rw [hob] at z; cases z) (fun _ => ov) hP hD hS) hok2
theorem zs_last (C : zCx p s mid args meth c m D cs E nL) {pc nx r : Nat} {cls : Array Slot} {j o v : Int} {rest : List zV} {S : zS} (hc : zcd m pc = some (.lastore, nx, r)) (hj : 0 ≤ j ∧ j < S.2.1 o)
    (k : zK p l e R s mid args below meth c cells slots Q D cs E cls nx rest (S.1, S.2.1, zupd S.2.2 o j v)) : zK p l e R s mid args below meth c cells slots Q D cs E cls pc ((1, v) :: (0, j) :: (11, o) :: rest) S := by
  intro H locs hG hok
  obtain ⟨hx, hb, hml, hown, hts, hK, hnm, hdk, hX⟩ := C
  obtain ⟨hd, rfl, -⟩ := zdec' (n := 0) hdk hc rfl
  obtain ⟨ov, hok0⟩ := zcons hok
  obtain ⟨oj, hok1⟩ := zcons hok0
  obtain ⟨oo, hok2⟩ := zcons hok1
  have oj := zok_i oj
  have ov := zok_l ov
  obtain ⟨q, rfl, hq, hob⟩ := zok_o oo (by decide) (by decide)
  obtain ⟨i, rfl⟩ := Int.eq_ofNat_of_zero_le hj.1
  have hw := zW_at (E := E) (cs := cs) hq
  rw [zce_11 hob] at hw
  simp only [List.map_cons, zvl_i, zvl_l, zvl_o (show 10 ≤ 11 by decide) (show 11 ≠ 14 by decide)]
  refine va_last hx hb hK hG.1 hG.2.1 hG.2.2.1 q 1 hw rfl (zin_of oj (by omega)) hd (fun H1 locs1 hP hD hS => ?_)
  rw [clamp_of32 oj, zupd_l, ← zce_11 (S := (S.1, S.2.1, zupd S.2.2 q i v)) hob] at hP hD
  exact k H1 locs1 (zG_upd hG.2.2.2 (fun _ => ov) (fun z => absurd hob z) hP hD hS) hok2
theorem zs_bast (C : zCx p s mid args meth c m D cs E nL) {pc nx r : Nat} {cls : Array Slot} {j o v : Int} {rest : List zV} {S : zS} (hc : zcd m pc = some (.bastore, nx, r)) (hj : 0 ≤ j ∧ j < S.2.1 o)
    (k : zK p l e R s mid args below meth c cells slots Q D cs E cls nx rest (S.1, S.2.1, zupd S.2.2 o j (zi2b v))) : zK p l e R s mid args below meth c cells slots Q D cs E cls pc ((0, v) :: (0, j) :: (12, o) :: rest) S := by
  intro H locs hG hok
  obtain ⟨hx, hb, hml, hown, hts, hK, hnm, hdk, hX⟩ := C
  obtain ⟨hd, rfl, -⟩ := zdec' (n := 0) hdk hc rfl
  obtain ⟨ov, hok0⟩ := zcons hok
  obtain ⟨oj, hok1⟩ := zcons hok0
  obtain ⟨oo, hok2⟩ := zcons hok1
  have oj := zok_i oj
  have ov := zok_i ov
  obtain ⟨q, rfl, hq, hob⟩ := zok_o oo (by decide) (by decide)
  obtain ⟨i, rfl⟩ := Int.eq_ofNat_of_zero_le hj.1
  have hw := zW_at (E := E) (cs := cs) hq
  rw [zce_12 hob] at hw
  have hz : z32 (zi2b v) = zi2b v := by unfold zi2b z32; omega
  have hv : vp_nar .byte (Int32.ofInt v) = Int32.ofInt (zi2b v) := by
    show (Int32.ofInt v).toInt8.toInt32 = _
    apply Int32.toInt_inj.mp
    rw [toInt_of32 hz, Int8.toInt_toInt32, Int32.toInt_toInt8, toInt_of32 ov]
    unfold zi2b
    simp only [Int.bmod_def, show ((2 ^ 8 : Nat) : Int) = 256 from rfl]
    omega
  simp only [List.map_cons, zvl_i, zvl_o (show 10 ≤ 12 by decide) (show 12 ≠ 14 by decide)]
  refine va_bast hx hb hK hG.1 hG.2.1 hG.2.2.1 q 2 hw rfl (zin_of oj (by omega)) hd (fun H1 locs1 hP hD hS => ?_)
  rw [clamp_of32 oj, hv, zupd_i, ← zce_12 (S := (S.1, S.2.1, zupd S.2.2 q i (zi2b v))) hob] at hP hD
  exact k H1 locs1 (zG_upd hG.2.2.2 (fun z => by rw [hob] at z; cases z) (fun _ => hz) hP hD hS) hok2
theorem zs_zast (C : zCx p s mid args meth c m D cs E nL) {pc nx r : Nat} {cls : Array Slot} {j o v : Int} {rest : List zV} {S : zS} (hc : zcd m pc = some (.bastore, nx, r)) (hj : (0 ≤ j ∧ j < S.2.1 o) ∧ (v = 0 ∨ v = 1))
    (k : zK p l e R s mid args below meth c cells slots Q D cs E cls nx rest (S.1, S.2.1, zupd S.2.2 o j v)) : zK p l e R s mid args below meth c cells slots Q D cs E cls pc ((0, v) :: (0, j) :: (13, o) :: rest) S := by
  intro H locs hG hok
  obtain ⟨hx, hb, hml, hown, hts, hK, hnm, hdk, hX⟩ := C
  obtain ⟨hd, rfl, -⟩ := zdec' (n := 0) hdk hc rfl
  obtain ⟨ov, hok0⟩ := zcons hok
  obtain ⟨oj, hok1⟩ := zcons hok0
  obtain ⟨oo, hok2⟩ := zcons hok1
  have oj := zok_i oj
  have ov := zok_i ov
  obtain ⟨hj, hv1⟩ := hj
  obtain ⟨q, rfl, hq, hob⟩ := zok_o oo (by decide) (by decide)
  obtain ⟨i, rfl⟩ := Int.eq_ofNat_of_zero_le hj.1
  have hw := zW_at (E := E) (cs := cs) hq
  rw [zce_13 hob] at hw
  have hv : vp_nar .boolean (Int32.ofInt v) = Int32.ofInt v := by rcases hv1 with rfl | rfl <;> decide +kernel
  simp only [List.map_cons, zvl_i, zvl_o (show 10 ≤ 13 by decide) (show 13 ≠ 14 by decide)]
  refine va_zast hx hb hK hG.1 hG.2.1 hG.2.2.1 q 3 hw rfl (zin_of oj (by omega)) hd (fun H1 locs1 hP hD hS => ?_)
  rw [clamp_of32 oj, hv, zupd_i, ← zce_13 (S := (S.1, S.2.1, zupd S.2.2 q i v)) hob] at hP hD
  exact k H1 locs1 (zG_upd hG.2.2.2 (fun z => by rw [hob] at z; cases z) (fun _ => ov) hP hD hS) hok2
end ZSIM4
