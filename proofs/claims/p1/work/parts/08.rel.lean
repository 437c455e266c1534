/-! The small machine's values, objects and states, and the machine's own. E: where the objects begin, where the two arrays from outside lie (the static one, the script). -/
theorem z32_of (x : Int) : Int32.ofInt (z32 x) = Int32.ofInt x := by
  apply Int32.toInt_inj.mp
  rw [Int32.toInt_ofInt, Int32.toInt_ofInt]
  unfold z32
  simp only [Int.bmod_def, show (Int32.size : Int) = 4294967296 from rfl]
  omega
theorem z32_toInt (x : Int32) : z32 x.toInt = x.toInt := by
  have h1 := x.le_toInt
  have h2 := x.toInt_lt
  unfold z32
  omega
theorem toInt_of32 {x : Int} (h : z32 x = x) : (Int32.ofInt x).toInt = x := by
  rw [Int32.toInt_ofInt]
  unfold z32 at h
  simp only [Int.bmod_def, show (Int32.size : Int) = 4294967296 from rfl]
  omega
theorem z64_toInt (x : Int64) : z64 x.toInt = x.toInt := by
  have h1 := x.le_toInt
  have h2 := x.toInt_lt
  unfold z64
  omega
theorem toInt_of64 {x : Int} (h : z64 x = x) : (Int64.ofInt x).toInt = x := by
  rw [Int64.toInt_ofInt]
  unfold z64 at h
  simp only [Int.bmod_def, show (Int64.size : Int) = 18446744073709551616 from rfl]
  omega
theorem z64_of (x : Int) : Int64.ofInt (z64 x) = Int64.ofInt x := by
  apply Int64.toInt_inj.mp
  rw [Int64.toInt_ofInt, Int64.toInt_ofInt]
  unfold z64
  simp only [Int.bmod_def, show (Int64.size : Int) = 18446744073709551616 from rfl]
  omega
theorem z32_z32 (x : Int) : z32 (z32 x) = z32 x := by unfold z32; omega
theorem z64_z64 (x : Int) : z64 (z64 x) = z64 x := by unfold z64; omega
/-- where the objects begin; where the static array lies, and the script; the script's length and ints -/
abbrev zE : Type := Nat × Nat × Nat × Nat × (Nat → Int32)
/-- the static array's ints -/
def zfa (j : Nat) : Int := ([0, 274646895, 549293790, 820201905, 1098587580, 1361435347, 1640403810, 1905808397, -2097792136, -1834419177, -1572096602, -1307217207, -1014159676, -741088853, -483350502, -210866315] : List Int).getD j 0
def zvl (E : zE) (v : zV) : Value := bif Nat.beq v.1 0 then .int (Int32.ofInt v.2) else bif Nat.beq v.1 1 then .long (Int64.ofInt v.2) else bif Nat.beq v.1 14 then .ref (bif decide (v.2 = -8) then E.2.1 else E.2.2.1) else .ref (E.1 + v.2.toNat)
/-- a value that can be -/
def zokv (t : Nat) (v : zV) : Prop := (v.1 = 0 ∧ z32 v.2 = v.2) ∨ (v.1 = 1 ∧ z64 v.2 = v.2) ∨ v.1 = 9 ∨ (v.1 = 14 ∧ (v.2 = -8 ∨ v.2 = -7)) ∨ (10 ≤ v.1 ∧ v.1 ≠ 14 ∧ 0 ≤ v.2 ∧ v.2.toNat < zno t ∧ zob v.2.toNat = v.1)
/-- a field's value -/
def zfv (E : zE) (S : zS) (o : Int) (c k : Nat) : Value := match zfl ((zfb c).1 + k) with
  | some (_, _, ft, tg, tm) => bif Nat.ble 10 ft then (bif Nat.blt tm S.1 then .ref (E.1 + tg.toNat) else .null) else bif Nat.beq ft 1 then .long (Int64.ofInt (S.2.2 o k)) else .int (Int32.ofInt (S.2.2 o k))
  | none => .null
/-- an object's cell; cs: the classes of the four kinds of arrays -/
def zce (E : zE) (cs : ClassId × ClassId × ClassId × ClassId) (S : zS) (o : Nat) : va_E :=
  bif Nat.ble 20 (zob o) then .inr (zob o - 20, (List.range (zfb (zob o - 20)).2).map (zfv E S o (zob o - 20)))
  else bif Nat.beq (zob o) 11 then .inl (cs.2.1, (S.2.1 o).toNat, .inr (.inl (fun j => Int64.ofInt (S.2.2 o j))))
  else .inl (bif Nat.beq (zob o) 10 then cs.1 else bif Nat.beq (zob o) 12 then cs.2.2.1 else cs.2.2.2, (S.2.1 o).toNat, .inl (fun j => Int32.ofInt (S.2.2 o j)))
def zW (E : zE) (cs : ClassId × ClassId × ClassId × ClassId) (S : zS) : va_W := (List.range (zno S.1)).map (fun o => (E.1 + o, zce E cs S o))
def ztys (cs : ClassId × ClassId × ClassId × ClassId) : List (ClassId × FieldType) := [(cs.1, .int), (cs.2.1, .long), (cs.2.2.1, .byte), (cs.2.2.2, .boolean)]
/-- contents that can be -/
def zokS (E : zE) (S : zS) : Prop := ((∀ j : Nat, j < 16 → S.2.2 (-8) j = zfa j) ∧ S.2.1 (-8) = 16 ∧ (∀ j : Nat, j < E.2.2.2.1 → S.2.2 (-7) j = (E.2.2.2.2 j).toInt) ∧ S.2.1 (-7) = E.2.2.2.1) ∧ (∀ (o : Nat) (j : Int), (zob o = 11 → z64 (S.2.2 o j) = S.2.2 o j) ∧ (zob o ≠ 11 → z32 (S.2.2 o j) = S.2.2 o j)) ∧ ∀ o : Nat, 0 ≤ S.2.1 o ∧ S.2.1 o ≤ 1000000
theorem zW_at {E : zE} {cs : ClassId × ClassId × ClassId × ClassId} {S : zS} {o : Nat} (h : o < zno S.1) : (zW E cs S)[o]? = some (E.1 + o, zce E cs S o) := by
  unfold zW
  rw [List.getElem?_map, List.getElem?_range h]
  rfl
theorem zW_set {E : zE} {cs : ClassId × ClassId × ClassId × ClassId} {S S' : zS} {o : Nat} (ht : S'.1 = S.1) (hn : ∀ q : Nat, q ≠ o → zce E cs S' q = zce E cs S q) : (zW E cs S).set o (E.1 + o, zce E cs S' o) = zW E cs S' := by
  apply List.ext_getElem?
  intro i
  unfold zW
  rw [List.getElem?_set, List.getElem?_map, List.getElem?_map, List.length_map, List.length_range, ht]
  by_cases hi : i < zno S.1
  · rw [List.getElem?_range hi]
    by_cases e : o = i
    · subst e
      rw [if_pos rfl, if_pos hi]
      rfl
    · rw [if_neg e]
      show some (E.1 + i, zce E cs S i) = some (E.1 + i, zce E cs S' i)
      rw [hn i (fun q => e q.symm)]
  · have hr : (List.range (zno S.1))[i]? = none := by rw [List.getElem?_eq_none_iff, List.length_range]; omega
    rw [hr]
    by_cases e : o = i
    · subst e
      rw [if_pos rfl, if_neg hi]
      rfl
    · rw [if_neg e]
      rfl
theorem zce_upd {E : zE} {cs : ClassId × ClassId × ClassId × ClassId} {S : zS} {o : Int} {i v : Int} {q : Nat} (h : (q : Int) ≠ o) : zce E cs (S.1, S.2.1, zupd S.2.2 o i v) q = zce E cs S q := by
  have e : ∀ j : Int, zupd S.2.2 o i v q j = S.2.2 q j := fun j => by
    unfold zupd
    rw [if_neg (fun z => h z.1)]
  unfold zce zfv
  simp only [e]
