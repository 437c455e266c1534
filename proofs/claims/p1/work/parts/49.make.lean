/-! Entries added; Tree.addNew. -/
def aZ (N : Int → Int) : Prop := ∀ i, 0 ≤ i → i < 64 → aTot N i = (N (20 * i + 1) + 63) / 64 ∧ (N (20 * i) = 2 → N (20 * i + 1) % 64 = 0)
def aG (B : Int) (A : aSt) : Prop := aU B A ∧ aZ A.1
theorem aG.s {B : Int} {A : aSt} (h : aG B A) : aS B A := ⟨h.1.1, h.2, h.1.2.1⟩
theorem aG.le {B : Int} {A : aSt} {i : Int} (h : aG B A) (hB : 96 ≤ B ∧ B ≤ 768) (hi : 0 ≤ i ∧ i < 64) : 0 ≤ A.1 (20 * i + 1) ∧ A.1 (20 * i + 1) ≤ 45376 := by
  have h1 := aTot_le hi (h.1.1 i hi.1 hi.2) h.1.2.2 (by omega)
  have h2 := (h.2 i hi.1 hi.2).1
  have h3 := (h.1.1 i hi.1 hi.2).2.1
  omega
/-- a size alone changes -/
theorem aU_size {B s : Int} {A : aSt} {d : Int} (h : aU B A) (hd : 0 ≤ d ∧ d < 64) (hs : 0 ≤ s ∧ s ≤ 65535) : aU B (bU A.1 (20 * d + 1) s, A.2.1, A.2.2) := by
  obtain ⟨h1, h2, h3⟩ := h
  obtain ⟨N, O, W⟩ := A
  dsimp only at h1 h2 h3 ⊢
  have q2 : ∀ i, 0 ≤ i → bU N (20 * d + 1) s (20 * i + 2) = N (20 * i + 2) := fun i i0 => bU_ne (by omega)
  have hq : ∀ i e, 0 ≤ i → i < 64 → 0 ≤ e → e < N (20 * i + 2) → bU N (20 * d + 1) s (20 * i + 3 + 2 * e) = N (20 * i + 3 + 2 * e) ∧ bU N (20 * d + 1) s (20 * i + 4 + 2 * e) = N (20 * i + 4 + 2 * e) := fun i e i0 i1 e0 e1 => by
    have := (h1 i i0 i1).2.2.1
    exact ⟨bU_ne (by omega), bU_ne (by omega)⟩
  have hin : ∀ i b, 0 ≤ i → i < 64 → aIn (bU N (20 * d + 1) s) i b → aIn N i b := fun i b i0 i1 ⟨e, e1, e2, e3, e4⟩ => by
    rw [q2 i i0] at e2
    rw [(hq i e i0 i1 e1 e2).1] at e3 e4
    rw [(hq i e i0 i1 e1 e2).2] at e4
    exact ⟨e, e1, e2, e3, e4⟩
  refine ⟨show aN B (bU N (20 * d + 1) s) from fun i i0 i1 => ?_, fun i b i0 i1 hb => h2 i b i0 i1 (hin i b i0 i1 hb), show aJ (bU N (20 * d + 1) s) from fun i e e' b i0 i1 e1 e2 e1' e2' u1 u2 u3 u4 => ?_⟩
  · obtain ⟨g1, g2, g3, g4⟩ := h1 i i0 i1
    refine ⟨by rw [bU_ne (by omega)]; exact g1, ?_, by rw [q2 i i0]; exact g3, fun e e1 e2 => ?_⟩
    · by_cases c : i = d
      · rw [c, bU_at]; exact hs
      · rw [bU_ne (by omega)]; exact g2
    · rw [q2 i i0] at e2
      rw [(hq i e i0 i1 e1 e2).1, (hq i e i0 i1 e1 e2).2]
      exact g4 e e1 e2
  · rw [q2 i i0] at e2 e2'
    rw [(hq i e i0 i1 e1 e2).1] at u1 u2
    rw [(hq i e i0 i1 e1 e2).2] at u2
    rw [(hq i e' i0 i1 e1' e2').1] at u3 u4
    rw [(hq i e' i0 i1 e1' e2').2] at u4
    exact h3 i e e' b i0 i1 e1 e2 e1' e2' u1 u2 u3 u4
theorem aTot_size {N : Int → Int} {d s i : Int} (hc : N (20 * i + 2) ≤ 8) : aTot (bU N (20 * d + 1) s) i = aTot N i := by
  unfold aTot
  rw [bU_ne (by omega)]
  exact gSum_congr _ _ (fun x x1 x2 => bU_ne (by omega))
theorem aBlk_size {N : Int → Int} {d s i k : Int} (hc : N (20 * i + 2) ≤ 8) : aBlk (bU N (20 * d + 1) s) i k = aBlk N i k := by
  unfold aBlk
  rw [bU_ne (by omega)]
  exact aBk_congr _ _ _ (fun x x1 x2 => ⟨bU_ne (by omega), bU_ne (by omega)⟩)
theorem aGd_G {B d : Int} {A A1 : aSt} (h : aG B A) (hB : 96 ≤ B ∧ B ≤ 768) (hd : 0 ≤ d ∧ d < 64) (hk : A.1 (20 * d) = 2) (ht : aTake B A d = some A1) : aG B (bU A1.1 (20 * d + 1) (A.1 (20 * d + 1) + 64), A1.2.1, A1.2.2) := by
  obtain ⟨b, -, -, -, -, -, -, hU⟩ := aTake_spec h.1 hd ht
  obtain ⟨ha, hs, hkk, htot, hoff⟩ := aTake_N h.1.1 hd ht
  have hle := h.le hB hd
  have hz := h.2 d hd.1 hd.2
  refine ⟨aU_size hU hd (by omega), fun i i0 i1 => ?_⟩
  have hc := (ha i i0 i1).2.2.1
  have hz2 := hz.2 hk
  dsimp only
  rw [aTot_size hc.2]
  by_cases c : i = d
  · rw [c, bU_at, htot]
    omega
  · rw [bU_ne (by omega), bU_ne (by omega), aTot_off hoff c (h.1.1 i i0 i1).2.2.1, hoff _ (by omega), hoff _ (by omega)]
    exact h.2 i i0 i1
noncomputable def aAdd (B : Int) (A : aSt) (d nm ino : Int) : Option aSt := if aEnt A d 0 = -1 then (match aTake B A d with
    | none => none
    | some A1 => some (aEnter (bU A1.1 (20 * d + 1) (A.1 (20 * d + 1) + 64), A1.2.1, A1.2.2) d (A.1 (20 * d + 1) / 4) nm ino))
  else some (aEnter A d (aEnt A d 0) nm ino)
/-- a way for a call's end: its answer, and the bytes behind it if it is none of a failure -/
def tPost (F : zHp) (B : Int) (t : Nat) (L : Int → Int) (r : Int × aSt) (Qr : Int → zS → Prop) : Prop := ∀ n' X' β' H', fS F B n' X' β' L H' → (0 ≤ r.1 → aE B r.2 β') → Qr r.1 (t, L, H')
noncomputable def aMake (B : Int) (A : aSt) (d nm kind : Int) : Int × aSt := if aFault A d 2 < 0 then (aFault A d 2, A) else if aEnt A d nm ≠ -1 then (-2, A) else if gFirst (fun i => A.1 (20 * i) = 0) 0 64 = -1 then (-3, A) else (match aAdd B A d nm (gFirst (fun i => A.1 (20 * i) = 0) 0 64) with
    | none => (-4, A)
    | some A' => (gFirst (fun i => A.1 (20 * i) = 0) 0 64, (bU A'.1 (20 * gFirst (fun i => A.1 (20 * i) = 0) 0 64) kind, A'.2.1, A'.2.2)))
section MAKE
variable {F : zHp} {B n : Int} {X : List Int} {β : Int → Int} {t : Nat} {L : Int → Int} {H : zHp} {Qr Qt : Int → zS → Prop} {d e nm ino kind i : Int} {A : aSt}
theorem t_addEntry (h : fS F B n X β L H) (hE : aE B A β) (hG : aG B A) (hd : 0 ≤ d ∧ d < 64) (hk : A.1 (20 * d) = 2) (hX : 25 + d / 2 ∈ X ∧ 57 ∈ X ∧ 58 ∈ X) (hn : n + 2 ≤ 24) (hnm : 0 ≤ nm ∧ nm ≤ 65535)
    (h0 : aAdd B A d nm ino = none → Qr 0 (t, L, H)) (h1 : ∀ A' n' X' β' H', aAdd B A d nm ino = some A' → n' ≤ n + 2 → (∀ x, x ∈ X → x ∈ X') → fS F B n' X' β' L H' → aE B A' β' → Qr 1 (t, L, H')) : zEnds 80 125 0 [(27, 27), (0, d), (0, nm), (0, ino), (9, 0), (9, 0)] [] (t, L, H) Qr Qt := by
  have hl := h.1.1
  have hS := hG.s
  have hle := hG.le hl hd
  have hI := hE.1 d hd.1 hd.2
  have hz := (hG.2 d hd.1 hd.2).2 hk
  unfold aAdd at h0 h1
  refine v_125 (t_entryOf h hE hS hd hk ⟨fun z => ?_, fun z => ?_⟩)
  · rw [if_neg z] at h1
    exact t_setEntry h hE hS hd hk (aEnt_rg z).1 hnm (by omega) (fun β' H' g gE => ⟨Or.inr rfl, h1 _ (n + 1) _ β' H' rfl (by omega) (fun x hx => List.mem_cons_of_mem _ hx) g gE⟩)
  · rw [if_pos (Classical.not_not.mp z)] at h0 h1
    refine n_size h hI hd (by omega) (n_takeBlock h hE hG.1.1 hd hX (by omega) (fun y => ⟨fun u => absurd rfl u, fun _ => ⟨Or.inl rfl, h0 (by rw [y])⟩⟩) (fun A1 β1 b H1 y g1 gE1 => ⟨fun _ => ?_, fun u => absurd (by decide) u⟩))
    have hG1 := aGd_G hG hl hd hk y
    rw [y] at h1
    have a1 := aTake_N hG.1.1 hd y
    dsimp only at h1
    rw [z32_id (x := A.1 (20 * d + 1) + 64) (by omega) (by omega)]
    refine n_setSize g1 hd (by omega) (List.mem_cons_of_mem _ hX.1) (fun H2 g2 => ⟨by decide, ?_⟩)
    rw [zdiv_pos hle.1 (by omega) (by decide)]
    obtain ⟨N1, O1, W1⟩ := A1
    have gE2 := aE_size (s := A.1 (20 * d + 1) + 64) gE1 a1.1 hd
    refine t_setEntry g2 gE2 hG1.s hd ?_ ?_ hnm (by omega) (fun β' H' g gE => ⟨Or.inr rfl, h1 _ (n + 1 + 1) _ β' H' rfl (by omega) (fun x hx => List.mem_cons_of_mem _ (List.mem_cons_of_mem _ hx)) g gE⟩)
    · dsimp only
      rw [bU_ne (by omega)]
      have := a1.2.2.1
      dsimp only at this
      rw [this]
      exact hk
    · dsimp only
      rw [bU_at]
      omega
theorem aE_kind {N O W : Int → Int} {k : Int} (hE : aE B (N, O, W) β) (ha : aN B N) (hi : 0 ≤ i ∧ i < 64) (hk : 0 ≤ k ∧ k < 256) : aE B (bU N (20 * i) k, O, W) (bU β (1600 + 32 * i) (k % 256)) := by
  refine aE_node hE (eN_one (i := i) ha hE.1 (fun j hj => bU_ne (by omega)) (fun j j1 j2 => bU_ne (by omega)) ?_) (fun j hj => bU_ne (by omega))
  obtain ⟨i1, i2, i3, i4, i5, i6⟩ : eI N β i := hE.1 i hi.1 hi.2
  have q : ∀ x, x ≠ 0 → bU β (1600 + 32 * i) (k % 256) (1600 + 32 * i + x) = β (1600 + 32 * i + x) := fun x x2 => bU_ne (by omega)
  refine ⟨?_, ?_, ?_, ?_, ?_, fun e e1 e2 => ?_⟩
  · rw [bU_at, bU_at]; omega
  · rw [q 1 (by omega), bU_ne (by omega)]; exact i2
  · rw [q 2 (by omega), bU_ne (by omega)]; exact i3
  · rw [q 3 (by omega), bU_ne (by omega)]; exact i4
  · rw [q 31 (by omega)]; exact i5
  · rw [q (4 + 3 * e) (by omega), q (5 + 3 * e) (by omega), q (6 + 3 * e) (by omega), bU_ne (by omega), bU_ne (by omega), bU_ne (by omega)]
    exact i6 e e1 e2
theorem aAdd_N {A' : aSt} (hG : aG B A) (hl : 96 ≤ B ∧ B ≤ 768) (hd : 0 ≤ d ∧ d < 64) (hk : A.1 (20 * d) = 2) (h : aAdd B A d nm ino = some A') : aG B A' ∧ ∀ i, 0 ≤ i → i < 64 → A'.1 (20 * i) = A.1 (20 * i) := by
  unfold aAdd at h
  by_cases c : aEnt A d 0 = -1
  · rw [if_pos c] at h
    cases ht : aTake B A d with
    | none => rw [ht] at h; cases h
    | some A1 =>
      rw [ht] at h
      have h := (Option.some.inj h).symm
      have g := aGd_G hG hl hd hk ht
      have a1 := aTake_N hG.1.1 hd ht
      subst h
      refine ⟨g, fun i i0 i1 => ?_⟩
      show bU A1.1 (20 * d + 1) (A.1 (20 * d + 1) + 64) (20 * i) = A.1 (20 * i)
      rw [bU_ne (by omega)]
      by_cases c : i = d
      · rw [c]; exact a1.2.2.1
      · exact a1.2.2.2.2 _ (by omega)
  · rw [if_neg c] at h
    have h := (Option.some.inj h).symm
    subst h
    exact ⟨hG, fun i i0 i1 => rfl⟩
theorem t_addNew (h : fS F B n X β L H) (hE : aE B A β) (hG : aG B A) (hd : 0 ≤ d ∧ d < 64) (hn : n + 6 ≤ 24) (hnm : 0 ≤ nm ∧ nm ≤ 65535) (hkd : 0 ≤ kind ∧ kind < 256)
    (hQ : tPost F B t L (aMake B A d nm kind) Qr) : zEnds 80 128 0 [(27, 27), (0, d), (0, nm), (0, kind), (9, 0), (9, 0)] [] (t, L, H) Qr Qt := by
  have hl := h.1.1
  have hS := hG.s
  unfold tPost aMake at hQ
  refine v_128 (t_faultOf h hE hd ⟨fun z => ?_, fun z => ?_⟩)
  · have z : ¬ aFault A d 2 < 0 := by omega
    have hk := (aFault_0 z).1
    rw [if_neg z] at hQ
    refine t_entryOf h hE hS hd hk ⟨fun y => ?_, fun y => ?_⟩
    · rw [if_neg (fun u => u y)] at hQ
      refine n_leastFree h hE.1 ⟨fun u => ?_, fun u => ?_⟩
      · rw [if_neg u] at hQ
        have hino : 0 ≤ gFirst (fun i => A.1 (20 * i) = 0) 0 64 ∧ gFirst (fun i => A.1 (20 * i) = 0) 0 64 < 64 := by
          rcases gFirst_spec (fun i => A.1 (20 * i) = 0) 64 0 with ⟨g, -⟩ | ⟨g1, g2, -, -⟩
          · exact absurd g u
          · exact ⟨g1, by omega⟩
        generalize gFirst (fun i => A.1 (20 * i) = 0) 0 64 = j at hQ hino u
        have h4 := (((h.more (b := 57) (by omega)).more (b := 58) (by omega)).more (b := 25 + d / 2) (by omega)).more (b := 25 + j / 2) (by omega)
        refine t_addEntry h4 hE hG hd hk ⟨List.mem_cons_of_mem _ List.mem_cons_self, List.mem_cons_of_mem _ (List.mem_cons_of_mem _ (List.mem_cons_of_mem _ List.mem_cons_self)), List.mem_cons_of_mem _ (List.mem_cons_of_mem _ List.mem_cons_self)⟩ (by omega) hnm (fun w => ⟨fun v => absurd rfl v, fun _ => ?_⟩) (fun A' n' X' β' H' w w1 w2 g gE => ⟨fun _ => ?_, fun v => absurd (by decide) v⟩)
        · rw [w] at hQ
          exact hQ n X β H h (fun v => absurd v (show ¬ (0 : Int) ≤ -4 by decide))
        · rw [w] at hQ
          have hG' := aAdd_N hG hl hd hk w
          refine n_setKind g hino (w2 _ List.mem_cons_self) (fun H2 g2 => hQ _ _ _ H2 g2 (fun _ => ?_))
          obtain ⟨N1, O1, W1⟩ := A'
          exact aE_kind gE hG'.1.1.1 hino hkd
      · rw [if_pos (Classical.not_not.mp u)] at hQ
        exact hQ n X β H h (fun v => absurd v (show ¬ (0 : Int) ≤ -3 by decide))
    · rw [if_pos y] at hQ
      exact hQ n X β H h (fun v => absurd v (show ¬ (0 : Int) ≤ -2 by decide))
  · have z : aFault A d 2 < 0 := by omega
    rw [if_pos z] at hQ
    exact hQ n X β H h (fun v => absurd v (by show ¬ 0 ≤ aFault A d 2; omega))
end MAKE
