section ZSIM3
variable {p : Program} {l : Launch} {e : Env} {R : Room} {s : State} {mid : MethodId} {args : Array Value} {below : List Frame} {meth : Method} {c : Code} {cells slots : Nat} {Q : State → Prop}
variable {m nL : Nat} {D : va_G} {cs : ClassId × ClassId × ClassId × ClassId} {E : zE}
/-- the variables -/
def zL (E : zE) (nL : Nat) (ls : List zV) (cls : Array Slot) : Prop := ls.length = nL ∧ cls.size = nL ∧ lv_wf cls ∧ ∀ (i : Nat) (v : zV), ls[i]? = some v → v.1 ≠ 9 → cls[i]? = some (.val (zvl E v))
def zlv (E : zE) (ls : List zV) : List (Nat × Value) := (List.range ls.length).filterMap (fun i => match ls[i]? with
  | some v => bif Nat.beq v.1 9 then none else some (i, zvl E v)
  | none => none)
theorem zlv_mem {ls : List zV} {q : Nat × Value} : q ∈ zlv E ls ↔ ∃ v, ls[q.1]? = some v ∧ v.1 ≠ 9 ∧ q.2 = zvl E v := by
  unfold zlv
  rw [List.mem_filterMap]
  constructor
  · rintro ⟨i, hi, h⟩
    cases hv : ls[i]? with
    | none => rw [hv] at h; cases h
    | some v =>
      rw [hv] at h
      dsimp only at h
      cases h9 : Nat.beq v.1 9 with
      | true => rw [h9] at h; cases h
      | false =>
        rw [h9] at h
        cases h
        exact ⟨v, hv, (fun q => by rw [q] at h9; cases h9), rfl⟩
  · rintro ⟨v, hv, h9, he⟩
    have hi : q.1 < ls.length := (List.getElem?_eq_some_iff.mp hv).1
    refine ⟨q.1, List.mem_range.mpr hi, ?_⟩
    rw [hv]
    dsimp only
    rw [show Nat.beq v.1 9 = false from Bool.eq_false_iff.mpr (fun z => h9 (Nat.eq_of_beq_eq_true z)), ← he]
    rfl
theorem zL_has {ls : List zV} {cls : Array Slot} (h : zL E nL ls cls) : lv_has cls nL (zlv E ls) := by
  refine ⟨h.2.1, h.2.2.1, fun q hq => ?_⟩
  obtain ⟨v, h1, h2, h3⟩ := zlv_mem.mp hq
  rw [h3]
  exact h.2.2.2 q.1 v h1 h2
theorem zset1_len (k : Nat) (v : zV) (ls : List zV) : (zset1 k v ls).length = ls.length := by
  cases k with
  | zero => simp [zset1]
  | succ j =>
    simp only [zset1, List.length_set]
    cases ls[j]? with
    | none => rfl
    | some w => dsimp only; cases Nat.beq w.1 1 <;> simp
theorem zset1_get {k : Nat} {v w : zV} {ls : List zV} {i : Nat} (h : (zset1 k v ls)[i]? = some w) (h9 : w.1 ≠ 9) : (i = k ∧ w = v) ∨ (i ≠ k ∧ ls[i]? = some w ∧ ¬ (i + 1 = k ∧ w.1 = 1)) := by
  cases k with
  | zero =>
    simp only [zset1] at h
    rw [List.getElem?_set] at h
    by_cases e : 0 = i
    · rw [if_pos e] at h
      split at h
      · cases h; exact Or.inl ⟨e.symm, rfl⟩
      · cases h
    · rw [if_neg e] at h
      exact Or.inr ⟨fun q => e q.symm, h, fun q => by omega⟩
  | succ j =>
    simp only [zset1] at h
    rw [List.getElem?_set] at h
    by_cases e : j + 1 = i
    · rw [if_pos e] at h
      have hk : ∀ (b : Prop) [Decidable b], (if b then some v else none) = some w → w = v := fun b _ h => by
        by_cases hb : b
        · rw [if_pos hb] at h; cases h; rfl
        · rw [if_neg hb] at h; cases h
      exact Or.inl ⟨e.symm, hk _ h⟩
    · rw [if_neg e] at h
      refine Or.inr ⟨fun q => e q.symm, ?_⟩
      cases hj : ls[j]? with
      | none =>
        rw [hj] at h
        refine ⟨h, fun q => ?_⟩
        have : i = j := by omega
        rw [this, hj] at h
        cases h
      | some u =>
        rw [hj] at h
        dsimp only at h
        cases hu : Nat.beq u.1 1 with
        | false =>
          rw [hu] at h
          simp only [cond_false] at h
          refine ⟨h, fun q => ?_⟩
          have : i = j := by omega
          rw [this, hj] at h
          cases h
          rw [q.2] at hu
          cases hu
        | true =>
          rw [hu] at h
          simp only [cond_true] at h
          rw [List.getElem?_set] at h
          by_cases e2 : j = i
          · rw [if_pos e2] at h
            split at h
            · cases h; exact absurd rfl h9
            · cases h
          · rw [if_neg e2] at h
            exact ⟨h, fun q => by omega⟩
theorem zL_set1 {k : Nat} {v : zV} {ls : List zV} {cls cls' : Array Slot} (h : zL E nL ls cls) (h' : lv_has cls' nL ((k, zvl E v) :: (zlv E ls).filter (fun q => !(q.1 == k) && !(q.1 + 1 == k && q.2.category == 2)))) : zL E nL (zset1 k v ls) cls' := by
  refine ⟨by rw [zset1_len]; exact h.1, h'.1, h'.2.1, fun i w hi h9 => ?_⟩
  rcases zset1_get hi h9 with ⟨rfl, rfl⟩ | ⟨h1, h2, h3⟩
  · exact h'.2.2 _ List.mem_cons_self
  · refine h'.2.2 (i, zvl E w) (List.mem_cons_of_mem _ (List.mem_filter.mpr ⟨zlv_mem.mpr ⟨w, h2, h9, rfl⟩, ?_⟩))
    simp only [Bool.and_eq_true, Bool.not_eq_true', beq_eq_false_iff_ne, ne_eq, Bool.and_eq_false_iff]
    refine ⟨h1, ?_⟩
    by_cases e1 : i + 1 = k
    · right
      rw [zvl_cat]
      unfold zcat
      cases hw : Nat.beq w.1 1 with
      | true => exact absurd ⟨e1, Nat.eq_of_beq_eq_true hw⟩ h3
      | false => decide
    · left; exact e1
theorem zL_set2 {k : Nat} {v : zV} {ls : List zV} {cls cls' : Array Slot} (h : zL E nL ls cls) (h' : lv_has cls' nL ((k, zvl E v) :: (zlv E ls).filter (fun q => !(q.1 == k) && (!(q.1 == k + 1) && !(q.1 + 1 == k && q.2.category == 2))))) : zL E nL (zset2 k v ls) cls' := by
  refine ⟨by unfold zset2; rw [List.length_set, zset1_len]; exact h.1, h'.1, h'.2.1, fun i w hi h9 => ?_⟩
  unfold zset2 at hi
  rw [List.getElem?_set] at hi
  by_cases e : k + 1 = i
  · rw [if_pos e] at hi
    split at hi
    · cases hi; exact absurd rfl h9
    · cases hi
  · rw [if_neg e] at hi
    rcases zset1_get hi h9 with ⟨rfl, rfl⟩ | ⟨h1, h2, h3⟩
    · exact h'.2.2 _ List.mem_cons_self
    · refine h'.2.2 (i, zvl E w) (List.mem_cons_of_mem _ (List.mem_filter.mpr ⟨zlv_mem.mpr ⟨w, h2, h9, rfl⟩, ?_⟩))
      simp only [Bool.and_eq_true, Bool.not_eq_true', beq_eq_false_iff_ne, ne_eq, Bool.and_eq_false_iff]
      refine ⟨h1, fun q => e q.symm, ?_⟩
      by_cases e1 : i + 1 = k
      · right
        rw [zvl_cat]
        unfold zcat
        cases hw : Nat.beq w.1 1 with
        | true => exact absurd ⟨e1, Nat.eq_of_beq_eq_true hw⟩ h3
        | false => decide
      · left; exact e1
theorem zok_set1 {t k : Nat} {v : zV} {ls : List zV} (h : ∀ w ∈ ls, zokv t w) (hv : zokv t v) : ∀ w ∈ zset1 k v ls, zokv t w := by
  intro w hw
  obtain ⟨i, hi⟩ := List.getElem?_of_mem hw
  by_cases h9 : w.1 = 9
  · exact Or.inr (Or.inr (Or.inl h9))
  · rcases zset1_get hi h9 with ⟨-, rfl⟩ | ⟨-, h2, -⟩
    · exact hv
    · exact h w (List.mem_of_getElem? h2)
theorem zok_set2 {t k : Nat} {v : zV} {ls : List zV} (h : ∀ w ∈ ls, zokv t w) (hv : zokv t v) : ∀ w ∈ zset2 k v ls, zokv t w := by
  intro w hw
  unfold zset2 at hw
  rcases List.mem_or_eq_of_mem_set hw with hw | rfl
  · exact zok_set1 h hv w hw
  · exact Or.inr (Or.inr (Or.inl rfl))
theorem ztg_0 {t : Nat} (h : ztg 0 t = true) : t = 0 := Nat.eq_of_beq_eq_true h
theorem ztg_1 {t : Nat} (h : ztg 1 t = true) : t = 1 := Nat.eq_of_beq_eq_true h
theorem ztg_2 {t : Nat} (h : ztg 2 t = true) : 10 ≤ t := Nat.le_of_ble_eq_true h
theorem zloc_ok {t : Nat} {q : Nat × Nat} {n : Int} {ls st ls' st' : List zV} (hz : zloc q n ls st = some (ls', st')) (h1 : ∀ w ∈ ls, zokv t w) (h2 : ∀ w ∈ st, zokv t w) : (∀ w ∈ ls', zokv t w) ∧ ∀ w ∈ st', zokv t w := by
  unfold zloc at hz
  cases a1 : Nat.blt q.2 10 with
  | true =>
    rw [a1] at hz
    simp only [cond_true] at hz
    cases hv : ls[q.1]? with
    | none => rw [hv] at hz; cases hz
    | some v =>
      rw [hv] at hz
      dsimp only at hz
      cases ht : ztg q.2 v.1 with
      | false => rw [ht] at hz; cases hz
      | true => rw [ht] at hz; cases hz; exact ⟨h1, zcons' (h1 v (List.mem_of_getElem? hv)) h2⟩
  | false =>
    rw [a1] at hz
    simp only [cond_false] at hz
    cases a2 : Nat.beq q.2 20 with
    | true =>
      rw [a2] at hz
      simp only [cond_true] at hz
      cases hv : ls[q.1]? with
      | none => rw [hv] at hz; cases hz
      | some v =>
        rw [hv] at hz
        dsimp only at hz
        cases ht : Nat.beq v.1 0 with
        | false => rw [ht] at hz; cases hz
        | true => rw [ht] at hz; cases hz; exact ⟨zok_set1 h1 (zok_z _), h2⟩
    | false =>
      rw [a2] at hz
      simp only [cond_false] at hz
      cases st with
      | nil => cases hz
      | cons v rest =>
        dsimp only at hz
        obtain ⟨hv, hr⟩ := zcons h2
        cases ht : ztg (q.2 - 10) v.1 with
        | false => rw [ht] at hz; cases hz
        | true =>
          rw [ht] at hz
          simp only [cond_true] at hz
          cases a3 : Nat.beq q.2 11 with
          | true =>
            rw [a3] at hz
            simp only [cond_true] at hz
            cases a4 : Nat.blt (q.1 + 1) ls.length with
            | false => rw [a4] at hz; cases hz
            | true => rw [a4] at hz; cases hz; exact ⟨zok_set2 h1 hv, hr⟩
          | false =>
            rw [a3] at hz
            simp only [cond_false] at hz
            cases a4 : Nat.blt q.1 ls.length with
            | false => rw [a4] at hz; cases hz
            | true => rw [a4] at hz; cases hz; exact ⟨zok_set1 h1 hv, hr⟩
/-- loads -/
theorem zloc_ld {k kd : Nat} {n : Int} {ls st ls' st' : List zV} (hk : Nat.blt kd 10 = true) (hz : zloc (k, kd) n ls st = some (ls', st')) : ∃ v, ls[k]? = some v ∧ ztg kd v.1 = true ∧ ls' = ls ∧ st' = v :: st := by
  unfold zloc at hz
  dsimp only at hz
  rw [hk] at hz
  simp only [cond_true] at hz
  cases hv : ls[k]? with
  | none => rw [hv] at hz; cases hz
  | some v =>
    rw [hv] at hz
    dsimp only at hz
    cases ht : ztg kd v.1 with
    | false => rw [ht] at hz; cases hz
    | true => rw [ht] at hz; cases hz; exact ⟨v, rfl, ht, rfl, rfl⟩
theorem zloc_st1 {k kd : Nat} {n : Int} {ls st ls' st' : List zV} (hk : kd = 10 ∨ kd = 12) (hz : zloc (k, kd) n ls st = some (ls', st')) : ∃ v, st = v :: st' ∧ ztg (kd - 10) v.1 = true ∧ ls' = zset1 k v ls ∧ k < ls.length := by
  have e1 : Nat.blt kd 10 = false := by rcases hk with rfl | rfl <;> rfl
  have e2 : Nat.beq kd 20 = false := by rcases hk with rfl | rfl <;> rfl
  have e3 : Nat.beq kd 11 = false := by rcases hk with rfl | rfl <;> rfl
  unfold zloc at hz
  dsimp only at hz
  rw [e1, e2] at hz
  simp only [cond_false] at hz
  cases st with
  | nil => cases hz
  | cons v rest =>
    dsimp only at hz
    cases ht : ztg (kd - 10) v.1 with
    | false => rw [ht] at hz; cases hz
    | true =>
      rw [ht, e3] at hz
      simp only [cond_true, cond_false] at hz
      cases a4 : Nat.blt k ls.length with
      | false => rw [a4] at hz; cases hz
      | true => rw [a4] at hz; cases hz; exact ⟨v, rfl, ht, rfl, Nat.le_of_ble_eq_true a4⟩
theorem zloc_st2 {k : Nat} {n : Int} {ls st ls' st' : List zV} (hz : zloc (k, 11) n ls st = some (ls', st')) : ∃ v, st = v :: st' ∧ ztg 1 v.1 = true ∧ ls' = zset2 k v ls ∧ k + 1 < ls.length := by
  unfold zloc at hz
  dsimp only at hz
  rw [show Nat.blt 11 10 = false from rfl, show Nat.beq 11 20 = false from rfl] at hz
  simp only [cond_false] at hz
  cases st with
  | nil => cases hz
  | cons v rest =>
    dsimp only at hz
    cases ht : ztg (11 - 10) v.1 with
    | false => rw [ht] at hz; cases hz
    | true =>
      rw [ht, show Nat.beq 11 11 = true from rfl] at hz
      simp only [cond_true] at hz
      cases a4 : Nat.blt (k + 1) ls.length with
      | false => rw [a4] at hz; cases hz
      | true => rw [a4] at hz; cases hz; exact ⟨v, rfl, ht, rfl, Nat.le_of_ble_eq_true a4⟩
theorem zloc_inc {k : Nat} {n : Int} {ls st ls' st' : List zV} (hz : zloc (k, 20) n ls st = some (ls', st')) : ∃ x, ls[k]? = some (0, x) ∧ ls' = zset1 k (0, z32 (x + n)) ls ∧ st' = st := by
  unfold zloc at hz
  dsimp only at hz
  rw [show Nat.blt 20 10 = false from rfl, show Nat.beq 20 20 = true from rfl] at hz
  simp only [cond_false, cond_true] at hz
  cases hv : ls[k]? with
  | none => rw [hv] at hz; cases hz
  | some v =>
    rw [hv] at hz
    dsimp only at hz
    cases ht : Nat.beq v.1 0 with
    | false => rw [ht] at hz; cases hz
    | true =>
      rw [ht] at hz
      cases hz
      obtain ⟨t, x⟩ := v
      have : t = 0 := Nat.eq_of_beq_eq_true ht
      subst this
      exact ⟨x, rfl, rfl, rfl⟩
theorem zs_loc (C : zCx p s mid args meth c m D cs E nL) {pc nx r : Nat} {i : Instr} {q : Nat × Nat} {ls st ls' st' : List zV} {cls : Array Slot} {S : zS} (hc : zcd m pc = some (i, nx, r)) (hl : zlk i = some q) (hz : zloc q (zinc i) ls st = some (ls', st')) (hL : zL E nL ls cls) (hokl : ∀ w ∈ ls, zokv S.1 w)
    (k : ∀ cls', zL E nL ls' cls' → zK p l e R s mid args below meth c cells slots Q D cs E cls' nx st' S) : zK p l e R s mid args below meth c cells slots Q D cs E cls pc st S := by
  intro H locs hG hok
  obtain ⟨-, hok'⟩ := zloc_ok hz hokl hok
  obtain ⟨hx, hb, hml, hown, hts, hK, hnm, hdk, hX⟩ := C
  have hln := hL.1
  cases i <;> simp only [zlk] at hl <;> first | (cases hl; done) | skip
  all_goals cases hl
  · obtain ⟨hd, rfl, -⟩ := zdec' (n := 1) hdk hc rfl
    obtain ⟨v, h1, h2, rfl, rfl⟩ := zloc_ld rfl hz
    obtain ⟨a, ha⟩ := zvl_ref (E := E) (ztg_2 h2)
    have hh := hL.2.2.2 _ v h1 (ztg_ne h2)
    rw [ha] at hh
    have := k cls hL H locs hG hok'
    simp only [List.map_cons, ha] at this
    exact lv_aload hx hb hd hh this
  · obtain ⟨hd, rfl, -⟩ := zdec' (n := 0) hdk hc rfl
    obtain ⟨v, h1, h2, rfl, rfl⟩ := zloc_ld rfl hz
    obtain ⟨a, ha⟩ := zvl_ref (E := E) (ztg_2 h2)
    have hh := hL.2.2.2 _ v h1 (ztg_ne h2)
    rw [ha] at hh
    have := k cls hL H locs hG hok'
    simp only [List.map_cons, ha] at this
    exact lv_aload_n hx hb hd rfl hh this
  · obtain ⟨hd, rfl, -⟩ := zdec' (n := 1) hdk hc rfl
    obtain ⟨v, rfl, h2, rfl, h4⟩ := zloc_st1 (Or.inr rfl) hz
    obtain ⟨a, ha⟩ := zvl_ref (E := E) (ztg_2 h2)
    simp only [List.map_cons, ha]
    exact lv_astore hx hb hd (zL_has hL) (by omega) rfl (fun cls' h' => k cls' (zL_set1 hL (by rw [ha]; exact h')) H locs hG hok')
  · obtain ⟨hd, rfl, -⟩ := zdec' (n := 0) hdk hc rfl
    obtain ⟨v, rfl, h2, rfl, h4⟩ := zloc_st1 (Or.inr rfl) hz
    obtain ⟨a, ha⟩ := zvl_ref (E := E) (ztg_2 h2)
    simp only [List.map_cons, ha]
    exact lv_astore_n hx hb hd rfl (zL_has hL) (by omega) rfl (fun cls' h' => k cls' (zL_set1 hL (by rw [ha]; exact h')) H locs hG hok')
  · obtain ⟨hd, rfl, -⟩ := zdec' (n := 2) hdk hc rfl
    obtain ⟨x, h1, rfl, rfl⟩ := zloc_inc hz
    have hm : (_, zvl E (0, x)) ∈ zlv E ls := zlv_mem.mpr ⟨(0, x), h1, (show (0 : Nat) ≠ 9 by decide), rfl⟩
    obtain ⟨j, hj⟩ := List.getElem?_of_mem hm
    have hlt := (List.getElem?_eq_some_iff.mp h1).1
    refine lv_iinc hx hb hd (zL_has hL) hj rfl (by omega) rfl (fun cls' h' => k cls' (zL_set1 hL ?_) H locs hG hok')
    rw [zvl_i, z32_of, Int32.ofInt_add]
    exact h'
  · obtain ⟨hd, rfl, -⟩ := zdec' (n := 1) hdk hc rfl
    obtain ⟨⟨t, x⟩, h1, h2, rfl, rfl⟩ := zloc_ld rfl hz
    cases ztg_0 h2
    exact lv_iload hx hb hd (hL.2.2.2 _ _ h1 (show (0 : Nat) ≠ 9 by decide)) (k cls hL H locs hG hok')
  · obtain ⟨hd, rfl, -⟩ := zdec' (n := 0) hdk hc rfl
    obtain ⟨⟨t, x⟩, h1, h2, rfl, rfl⟩ := zloc_ld rfl hz
    cases ztg_0 h2
    exact lv_iload_n hx hb hd rfl (hL.2.2.2 _ _ h1 (show (0 : Nat) ≠ 9 by decide)) (k cls hL H locs hG hok')
  · obtain ⟨hd, rfl, -⟩ := zdec' (n := 1) hdk hc rfl
    obtain ⟨⟨t, x⟩, rfl, h2, rfl, h4⟩ := zloc_st1 (Or.inl rfl) hz
    cases ztg_0 h2
    exact lv_istore hx hb hd (zL_has hL) (by omega) rfl (fun cls' h' => k cls' (zL_set1 hL h') H locs hG hok')
  · obtain ⟨hd, rfl, -⟩ := zdec' (n := 0) hdk hc rfl
    obtain ⟨⟨t, x⟩, rfl, h2, rfl, h4⟩ := zloc_st1 (Or.inl rfl) hz
    cases ztg_0 h2
    exact lv_istore_n hx hb hd rfl (zL_has hL) (by omega) rfl (fun cls' h' => k cls' (zL_set1 hL h') H locs hG hok')
  · obtain ⟨hd, rfl, -⟩ := zdec' (n := 1) hdk hc rfl
    obtain ⟨⟨t, x⟩, h1, h2, rfl, rfl⟩ := zloc_ld rfl hz
    cases ztg_1 h2
    exact lv_lload hx hb hd (hL.2.2.2 _ _ h1 (show (1 : Nat) ≠ 9 by decide)) (k cls hL H locs hG hok')
  · obtain ⟨hd, rfl, -⟩ := zdec' (n := 0) hdk hc rfl
    obtain ⟨⟨t, x⟩, h1, h2, rfl, rfl⟩ := zloc_ld rfl hz
    cases ztg_1 h2
    exact lv_lload_n hx hb hd rfl (hL.2.2.2 _ _ h1 (show (1 : Nat) ≠ 9 by decide)) (k cls hL H locs hG hok')
  · obtain ⟨hd, rfl, -⟩ := zdec' (n := 1) hdk hc rfl
    obtain ⟨⟨t, x⟩, rfl, h2, rfl, h4⟩ := zloc_st2 hz
    cases ztg_1 h2
    exact lv_lstore hx hb hd (zL_has hL) (by omega) rfl (fun cls' h' => k cls' (zL_set2 hL h') H locs hG hok')
  · obtain ⟨hd, rfl, -⟩ := zdec' (n := 0) hdk hc rfl
    obtain ⟨⟨t, x⟩, rfl, h2, rfl, h4⟩ := zloc_st2 hz
    cases ztg_1 h2
    exact lv_lstore_n hx hb hd rfl (zL_has hL) (by omega) rfl (fun cls' h' => k cls' (zL_set2 hL h') H locs hG hok')
end ZSIM3
