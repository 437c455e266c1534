/-! From the law's entry: the world, the makings, the loop. -/
section ZSTART
variable {p : Program} {l : Launch} {e : Env} {s : State} {m : MethodId} {below : List Frame} {meth : Method} {c : Code} {args : Array Value}
/-- the classes and their fields -/
theorem zworld (hts : ∀ w ∈ lw_tbl, w.before args s = true) : ∃ (D : va_G) (cs : ClassId × ClassId × ClassId × ClassId), va_K D zcls (ztys cs) s := by
  have h0 : ∀ k : Nat, ∃ q : ClassId × (Nat → Nat), k < 10 → u_Kn s (zcl k) (zTf k) (zfb k).2 q.1 q.2 := by
    intro k
    by_cases hk : k < 10
    · have h1 := List.all_eq_true.mp zpf_ok k (List.mem_range.mpr hk)
      have h2 := List.all_eq_true.mp zpa_ok k (List.mem_range.mpr hk)
      simp only [decide_eq_true_eq] at h2
      obtain ⟨cC, iS, h3⟩ := u_known (ws := lw_tbl) (C := zcl k) (T := zTf k) (N := (zfb k).2) (n := (zfb k).2) hts (fun w hw => by
        obtain ⟨j, j1, j2⟩ := List.mem_map.mp hw
        have h4 := List.all_eq_true.mp h1 j j1
        simp only [decide_eq_true_eq] at h4
        rw [← j2]
        exact List.mem_of_getElem? h4) (hts _ (List.mem_of_getElem? h2))
      exact ⟨(cC, iS), fun _ => h3⟩
    · exact ⟨(0, fun _ => 0), fun h => absurd h hk⟩
  obtain ⟨f, hf⟩ := Classical.axiomOfChoice h0
  obtain ⟨c1, k1, p1, a1, a2, a3⟩ := Cond.arrayClass_spec (hts (.arrayClass .int) (List.mem_of_getElem? (i := 185) (by decide +kernel)))
  obtain ⟨c2, k2, p2, b1, b2, b3⟩ := Cond.arrayClass_spec (hts (.arrayClass .long) (List.mem_of_getElem? (i := 230) (by decide +kernel)))
  obtain ⟨c3, k3, p3, d1, d2, d3⟩ := Cond.arrayClass_spec (hts (.arrayClass .byte) (List.mem_of_getElem? (i := 546) (by decide +kernel)))
  obtain ⟨c4, k4, p4, e1, e2, e3⟩ := Cond.arrayClass_spec (hts (.arrayClass .boolean) (List.mem_of_getElem? (i := 229) (by decide +kernel)))
  refine ⟨(fun k => (f k).1, fun k => (f k).2), (c1, c2, c3, c4), fun k q hq => ?_, fun k q hq => ?_⟩
  · unfold zcls at hq
    rw [List.getElem?_map] at hq
    cases hr : (List.range 10)[k]? with
    | none => rw [hr] at hq; cases hq
    | some k' =>
      rw [hr] at hq
      cases hq
      obtain ⟨hlt, hk'⟩ := List.getElem?_eq_some_iff.mp hr
      rw [List.getElem_range] at hk'
      subst hk'
      rw [List.length_range] at hlt
      exact hf k hlt
  · unfold ztys at hq
    rcases k with _ | _ | _ | _ | k
    · cases hq; exact ⟨fun n z => ⟨fun k h => (by cases h), k1, a2, p1, a3⟩, a1⟩
    · cases hq; exact ⟨fun n z => ⟨fun k h => (by cases h), k2, b2, p2, b3⟩, b1⟩
    · cases hq; exact ⟨fun n z => ⟨fun k h => (by cases h), k3, d2, p3, d3⟩, d1⟩
    · cases hq; exact ⟨fun n z => ⟨fun k h => (by cases h), k4, e2, p4, e3⟩, e1⟩
    · cases hq
/-- the static array -/
theorem zfall {b : Nat} (hgv : (Jvm.Cond.and given_1 narrow_1).before #[Value.ref b] s = true) (hts : ∀ w ∈ lw_tbl, w.before #[Value.ref b] s = true) : ∃ t : Nat, va_Z "DiskPool$Bytes" "FALLEN" "[I" (.ref t) (fun q => s.heap.size ≤ q) s s.heap ∧ va_T .int t 16 (fun j => .int (Int32.ofInt (zfa j))) (fun q => s.heap.size ≤ q) s s.heap ∧ t < s.heap.size := by
  have hs := flat_of_before _ hgv
  have h1 : ∀ j : Nat, j < 16 → (Cond.eq (.elem (.static "DiskPool$Bytes" "FALLEN" "[I") (.int (Int32.ofNat j))) (.int (Int32.ofInt (zfa j)))) ∈ flatC (Jvm.Cond.and given_1 narrow_1) := by decide +kernel
  obtain ⟨t, ht, hT⟩ := va_Tof (args := #[Value.ref b]) (s := s) (tm := .static "DiskPool$Bytes" "FALLEN" "[I") (ty := .int) (N := 16) (f := fun j => .int (Int32.ofInt (zfa j))) (A := fun q => s.heap.size ≤ q) (by decide) (hs _ (by decide +kernel)) (va_eqt (hs (Cond.eq (.length (.static "DiskPool$Bytes" "FALLEN" "[I")) (.int (Int32.ofNat 16))) (by decide +kernel))) (fun j hj => va_eqt (hs _ (h1 j hj))) (fun a ha z => Nat.not_le.mpr ha z)
  refine ⟨t, va_Zref (hts _ (List.mem_of_getElem? (i := 815) (by decide +kernel))) (hts _ (List.mem_of_getElem? (i := zpn 10) (by decide +kernel))) ht (fun a ha z => Nat.not_le.mpr ha z), hT, ?_⟩
  obtain ⟨cell, h2, -⟩ := hT
  exact (Array.getElem?_eq_some_iff.mp h2).1
/-- what throwing wants -/
theorem zthrows {b : Nat} {E : zE} (hE : E.1 = s.heap.size) (hgv : (Jvm.Cond.and given_1 narrow_1).before #[Value.ref b] s = true) (hts : ∀ w ∈ lw_tbl, w.before #[Value.ref b] s = true) : zXT s E := by
  have hs := flat_of_before _ hgv
  have hA : ∀ a : Nat, a < s.heap.size → ¬ E.1 ≤ a := fun a ha z => by rw [hE] at z; exact Nat.not_le.mpr ha z
  have w0 : (Cond.initialized Bundle.tN).before #[Value.ref b] s = true := hts _ (List.mem_of_getElem? (i := (zop 1).getD 0 0) (by decide +kernel))
  have w1 : zls1.before #[Value.ref b] s = true := hts _ (List.mem_of_getElem? (i := (zop 1).getD 20 0) (by decide +kernel))
  have w2 : zls2.before #[Value.ref b] s = true := hts _ (List.mem_of_getElem? (i := (zop 1).getD 22 0) (by decide +kernel))
  have hn0 : [(1, 2), (1, 3), (2, 1), (2, 3), (3, 1), (3, 2)].all (fun q : Nat × Nat => decide (Jvm.Cond.not (.castable (zth q.1) (zth q.2)) ∈ flatC (Jvm.Cond.and given_1 narrow_1))) = true := by decide +kernel
  have hn : ∀ k j : Nat, 1 ≤ k → k ≤ 3 → 1 ≤ j → j ≤ 3 → k ≠ j → Jvm.Cond.not (.castable (zth k) (zth j)) ∈ flatC (Jvm.Cond.and given_1 narrow_1) := by
    intro k j a1 a2 a3 a4 a5
    have hm : (k, j) ∈ [((1 : Nat), (2 : Nat)), (1, 3), (2, 1), (2, 3), (3, 1), (3, 2)] := by
      have hk : k = 1 ∨ k = 2 ∨ k = 3 := by omega
      have hj : j = 1 ∨ j = 2 ∨ j = 3 := by omega
      rcases hk with rfl | rfl | rfl <;> rcases hj with rfl | rfl | rfl <;> first | exact absurd rfl a5 | decide
    exact of_decide_eq_true (List.all_eq_true.mp hn0 _ hm)
  refine ⟨va_Zqof w1 w0 (hs _ (by decide +kernel)) hA, va_Zqof w2 w0 (hs _ (by decide +kernel)) hA, fun k j a1 a2 a3 a4 a5 => va_Nc.of (hs _ (hn k j a1 a2 a3 a4 a5)), ⟨w1, w2⟩, fun a ha hd => ?_, fun i hi => ?_⟩
  · have h1 := hts a ha
    cases a <;> first | (cases hd; done) | exact h1
  · obtain ⟨tx, hw⟩ := zsi_word hi
    have h1 := hts _ hw
    have h2 := List.all_eq_true.mp zpa_ok 0 (List.mem_range.mpr (by decide))
    simp only [decide_eq_true_eq] at h2
    obtain ⟨c1, k1, hc1, -⟩ := Cond.instantiable_spec (hts _ (List.mem_of_getElem? h2))
    obtain ⟨k, cf, i', a, -, -, -, -, -, hev⟩ := Cond.stringRef_spec hc1 h1
    exact ⟨tx, a, h1, hev⟩
/-- the small machine's start -/
def zA0 (L : Nat) : Int → Int := fun o => if o = -8 then 16 else if o = -7 then L else 0
def zH0 (L : Nat) (xs : Nat → Int32) : Int → Int → Int := fun o i => if o = -8 ∧ 0 ≤ i ∧ i < 16 then zfa i.toNat else if o = -7 ∧ 0 ≤ i ∧ i < L then (xs i.toNat).toInt else 0
def zca (L : Nat) (xs : Nat → Int32) (i : Nat) : Int := if i < L then (xs i).toInt else 0
def zlS (v1 v2 v3 v4 : zV) : List zV := [(14, -7), v1, v2, v3, v4, (9, 0), (9, 0), (9, 0)]
/-- the law's run on the small machine -/
def zRuns (L : Nat) (xs : Nat → Int32) : Prop := ∃ (n1 n2 n3 : Nat) (S1 S2 S3 : zS),
  (zex 0 n1 145 0 (zmkl 145 [(20, 0), (0, zca L xs 0), (0, zca L xs 1), (0, zca L xs 2)]) [] (1, zA0 L, zH0 L xs) = some (0, 0, S1) ∧ S1.1 = 80 ∧ (∀ j, S1.2.2 35 j = 0) ∧ (∀ j : Int, S1.2.2 (-7) j = zH0 L xs (-7) j) ∧ S1.2.1 (-7) = L) ∧
  (zex 0 n2 179 0 (zmkl 179 [(29, 35), (0, zca L xs 0), (0, zca L xs 1), (0, zca L xs 2)]) [] (81, S1.2) = some (0, 0, S2) ∧ S2.1 = 117 ∧ ∀ j, S2.2.2 54 j = 0) ∧
  zex 0 n3 287 53 (zlS (20, 0) (29, 35) (11, 54) (0, 3)) [] (118, zlen S2.2.1 54 1, S2.2.2) = some (0, 1, S3) ∧ S3.1 ≤ 1118 ∧ zus (118, zlen S2.2.1 54 1, S2.2.2) ≤ 7000000
theorem zok0 {E : zE} {L : Nat} {xs : Nat → Int32} (h1 : E.2.2.2.1 = L) (h2 : E.2.2.2.2 = xs) (hL : L ≤ 3587) : zokS E (0, zA0 L, zH0 L xs) := by
  refine ⟨⟨fun j hj => ?_, rfl, fun j hj => ?_, by rw [h1]; rfl⟩, fun o j => ⟨fun _ => ?_, fun _ => ?_⟩, fun o => ?_⟩
  · show zH0 L xs (-8) j = _
    unfold zH0
    rw [if_pos ⟨rfl, by omega, by omega⟩]
    rfl
  · show zH0 L xs (-7) j = _
    unfold zH0
    rw [if_neg (by omega), if_pos ⟨rfl, by omega, by omega⟩, h2]
    rfl
  · show z64 (zH0 L xs o j) = zH0 L xs o j
    unfold zH0
    rw [if_neg (by omega), if_neg (by omega)]
    rfl
  · show z32 (zH0 L xs o j) = zH0 L xs o j
    unfold zH0
    rw [if_neg (by omega), if_neg (by omega)]
    rfl
  · show 0 ≤ zA0 L o ∧ zA0 L o ≤ 1000000
    unfold zA0
    rw [if_neg (by omega), if_neg (by omega)]
    omega
/-- DiskPoolLaw.cell -/
theorem zcell {L i : Nat} {xs : Nat → Int32} {S : zS} (hi : i < 3) (h1 : S.2.1 (-7) = L) (h2 : ∀ j : Int, S.2.2 (-7) j = zH0 L xs (-7) j) (hL : L ≤ 3587) : ∃ n, zex 0 n 265 0 (zmkl 265 [(14, -7), (0, (i : Int))]) [] S = some (0, zca L xs i, S) := by
  have h3 : zEnds 0 265 0 [(14, -7), (0, (i : Int))] [] S (fun v S' => v = zca L xs i ∧ S' = S) (fun _ _ => False) := by
    refine zwp_sound 20 _ _ _ _ ?_
    refine And.intro (fun z => ?_) (fun z => ?_)
    · have z : S.2.1 (-7) ≤ (i : Int) := z
      refine ⟨?_, rfl⟩
      unfold zca
      rw [if_neg (by omega)]
    · have z : ¬ S.2.1 (-7) ≤ (i : Int) := z
      refine ⟨⟨Int.natCast_nonneg _, Int.not_le.mp z⟩, ?_, rfl⟩
      show S.2.2 (-7) i = _
      rw [h2]
      unfold zH0 zca
      rw [if_neg (by omega), if_pos ⟨rfl, by omega, by omega⟩, if_pos (by omega)]
      rfl
  obtain ⟨n, c, v, S', h4, h5⟩ := h3
  rcases h5 with ⟨rfl, rfl, rfl⟩ | ⟨-, h5⟩
  · exact ⟨n, h4⟩
  · exact h5.elim
end ZSTART
