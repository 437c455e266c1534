/-! The reference: adds, makes. -/
theorem aRes_one {B d s : Int} {A : aSt} (hs : s = A.1 (20 * d + 1)) (h6 : s % 64 = 0) (h0 : 0 ≤ s) : aRes B A d (s + 64) = (match aTake B A d with
    | none => none
    | some A1 => some (bU A1.1 (20 * d + 1) (s + 64), A1.2.1, A1.2.2)) := by
  unfold aRes
  rw [← hs, show ((s + 64 + 63) / 64 - (s + 63) / 64).toNat = 1 by omega, show ((s + 63) / 64 - (s + 64 + 63) / 64).toNat = 0 by omega]
  show (match (match aTake B A d with | none => none | some A' => some A') with | none => none | some A1 => some (aFit A1 d (s + 64))) = _
  cases aTake B A d with
  | none => rfl
  | some A1 =>
    show some (aFit A1 d (s + 64)) = some (bU A1.1 (20 * d + 1) (s + 64), A1.2.1, A1.2.2)
    unfold aFit aClr
    rw [if_pos (by omega)]
/-- the kinds don't matter to it -/
theorem aBlk_kind {N : Int → Int} {j v i k : Int} (hc : N (20 * i + 2) ≤ 8) : aBlk (bU N (20 * j) v) i k = aBlk N i k := by
  unfold aBlk
  rw [bU_ne (by omega)]
  exact aBk_congr _ _ _ (fun x x1 x2 => ⟨bU_ne (by omega), bU_ne (by omega)⟩)
theorem bU_comm {N : Int → Int} {a b x y : Int} (h : a ≠ b) : bU (bU N a x) b y = bU (bU N b y) a x := by
  funext j
  unfold bU
  by_cases c : j = a
  · rw [if_pos c, if_pos c, if_neg (fun u => h (by rw [← c, u]))]
  · rw [if_neg c, if_neg c]
theorem aEnt_kind {N O W : Int → Int} {j v d nm : Int} (hc : N (20 * d + 2) ≤ 8) : aEnt (bU N (20 * j) v, O, W) d nm = aEnt (N, O, W) d nm := by
  unfold aEnt
  dsimp only
  rw [bU_ne (by omega)]
  refine gFirst_congr _ _ (fun e e1 e2 => ?_)
  unfold aNm aGet aIx
  dsimp only
  rw [aBlk_kind hc, aBlk_kind hc]
theorem aTake_kind {B : Int} {N O W : Int → Int} {j v d : Int} (hc : 0 ≤ N (20 * d + 2) ∧ N (20 * d + 2) ≤ 8) : aTake B (bU N (20 * j) v, O, W) d = (match aTake B (N, O, W) d with
    | none => none
    | some A1 => some (bU A1.1 (20 * j) v, A1.2.1, A1.2.2)) := by
  have q2 : bU N (20 * j) v (20 * d + 2) = N (20 * d + 2) := bU_ne (by omega)
  have q3 : bU N (20 * j) v (20 * d + 3 + 2 * (N (20 * d + 2) - 1)) = N (20 * d + 3 + 2 * (N (20 * d + 2) - 1)) := bU_ne (by omega)
  have q4 : bU N (20 * j) v (20 * d + 4 + 2 * (N (20 * d + 2) - 1)) = N (20 * d + 4 + 2 * (N (20 * d + 2) - 1)) := bU_ne (by omega)
  have qg : aGrow B (bU N (20 * j) v, O, W) d ↔ aGrow B (N, O, W) d := by
    unfold aGrow
    dsimp only
    rw [q2, q3, q4]
  unfold aTake
  by_cases g : aGrow B (N, O, W) d
  · rw [if_pos g, if_pos (qg.mpr g)]
    dsimp only
    rw [q2, q3, q4, bU_comm (by omega)]
  · rw [if_neg g, if_neg (fun u => g (qg.mp u))]
    dsimp only
    by_cases c : aLeast B O = -1 ∨ 8 ≤ N (20 * d + 2)
    · rw [if_pos (by rw [q2]; exact c), if_pos c]
    · rw [if_neg (by rw [q2]; exact c), if_neg c]
      dsimp only
      rw [q2]
      have e : bU (bU (bU (bU N (20 * j) v) (20 * d + 2) (N (20 * d + 2) + 1)) (20 * d + 3 + 2 * N (20 * d + 2)) (aLeast B O)) (20 * d + 4 + 2 * N (20 * d + 2)) 1 = bU (bU (bU (bU N (20 * d + 2) (N (20 * d + 2) + 1)) (20 * d + 3 + 2 * N (20 * d + 2)) (aLeast B O)) (20 * d + 4 + 2 * N (20 * d + 2)) 1) (20 * j) v := by
        rw [bU_comm (N := N) (a := 20 * j) (by omega), bU_comm (N := bU N (20 * d + 2) (N (20 * d + 2) + 1)) (a := 20 * j) (by omega), bU_comm (N := bU (bU N (20 * d + 2) (N (20 * d + 2) + 1)) (20 * d + 3 + 2 * N (20 * d + 2)) (aLeast B O)) (a := 20 * j) (by omega)]
      rw [e]
theorem aEnter_kind {N O W : Int → Int} {j v d e nm ino : Int} (hc : N (20 * d + 2) ≤ 8) : aEnter (bU N (20 * j) v, O, W) d e nm ino = (bU (aEnter (N, O, W) d e nm ino).1 (20 * j) v, (aEnter (N, O, W) d e nm ino).2.1, (aEnter (N, O, W) d e nm ino).2.2) := by
  unfold aEnter aPut aIx
  dsimp only
  rw [aBlk_kind hc, aBlk_kind hc, aBlk_kind hc]
theorem aAdd_kind {B : Int} {N O W : Int → Int} {j v d nm ino : Int} (ha : aN B N) (hd : 0 ≤ d ∧ d < 64) : aAdd B (bU N (20 * j) v, O, W) d nm ino = (match aAdd B (N, O, W) d nm ino with
    | none => none
    | some A1 => some (bU A1.1 (20 * j) v, A1.2.1, A1.2.2)) := by
  have hc2 := (ha d hd.1 hd.2).2.2.1
  have hc := hc2.2
  unfold aAdd
  rw [aEnt_kind hc, aTake_kind hc2]
  by_cases c : aEnt (N, O, W) d 0 = -1
  · rw [if_pos c, if_pos c]
    cases ht : aTake B (N, O, W) d with
    | none => rfl
    | some A1 =>
      obtain ⟨N1, O1, W1⟩ := A1
      have a1 := aTake_N (A := (N, O, W)) ha hd ht
      have c1 := (a1.1 d hd.1 hd.2).2.2.1.2
      dsimp only at c1 ⊢
      have q1 : bU N (20 * j) v (20 * d + 1) = N (20 * d + 1) := bU_ne (by omega)
      rw [q1, bU_comm (N := N1) (a := 20 * j) (by omega), aEnter_kind (by rw [bU_ne (by omega)]; exact c1)]
  · rw [if_neg c, if_neg c]
    dsimp only
    rw [aEnter_kind hc]
def mPost (d w r : Int) (G : zHp) (t : Nat) (L : Int → Int) (x : Int × aSt) (Qr : Int → zS → Prop) : Prop := ∀ A' H', mA d w r G A' L H' → (0 ≤ x.1 → A' = x.2) → Qr x.1 (t, L, H')
section MMAKE
variable {d w r : Int} {t : Nat} {L : Int → Int} {H G : zHp} {Qr Qt : Int → zS → Prop} {i k v s nm ino : Int} {A : aSt}
theorem m_adds (h : mA d w r G A L H) (hG : aG (r * gGr d w * (w - 1)) A) (hb : aBy (r * gGr d w * (w - 1)) A) (hP : aP A.2.1) (hB : 96 ≤ r * gGr d w * (w - 1)) (hi : 0 ≤ i ∧ i < 64) (hk : A.1 (20 * i) = 2) (hnm : 0 ≤ nm ∧ nm ≤ 65535) (hino : 0 ≤ ino ∧ ino < 256)
    (h0 : aAdd (r * gGr d w * (w - 1)) A i nm ino = none → ∀ A' H', mA d w r G A' L H' → Qr 0 (t, L, H')) (h1 : ∀ A' H', aAdd (r * gGr d w * (w - 1)) A i nm ino = some A' → mA d w r G A' L H' → Qr 1 (t, L, H')) : zEnds 118 238 0 [(29, 35), (0, i), (0, nm), (0, ino), (9, 0)] [] (t, L, H) Qr Qt := by
  have hB2 := gBl_le h.1.1
  have hS := hG.s
  have hle := hG.le ⟨hB, hB2⟩ hi
  have hz := hG.2 i hi.1 hi.2
  have hz6 := hz.2 hk
  unfold aAdd at h0 h1
  refine v_238 (m_entryOf h hS hb hB2 hi hk ⟨fun z => ?_, fun z => ?_⟩)
  · have z : ¬ aEnt A i 0 = -1 := by omega
    rw [if_neg z] at h1
    exact m_enters h hS hB2 hi hk (aEnt_rg z).1 hnm hino (fun H' g => ⟨Or.inr rfl, h1 _ H' rfl g⟩)
  · have z : aEnt A i 0 = -1 := by
      by_cases c : aEnt A i 0 = -1
      · exact c
      · have := (aEnt_rg c).1; omega
    rw [if_pos z] at h0 h1
    refine m_sizeOf h hi ⟨by decide, m_sizeOf h hi ?_⟩
    rw [z32_id (x := A.1 (20 * i + 1) + 64) (by omega) (by omega), zdiv_pos hle.1 (by omega) (by decide)]
    have hr := aRes_one (B := r * gGr d w * (w - 1)) (A := A) (d := i) rfl hz6 hle.1
    refine m_sizes h hG.1.1 hP hB hi (by omega) hz.1 (fun y A' H' g => ⟨fun u => absurd rfl u, fun _ => ⟨Or.inl rfl, h0 ?_ A' H' g⟩⟩) (fun A' H' y g => ⟨fun _ => ?_, fun u => absurd (by decide) u⟩)
    · rw [hr] at y
      cases ht : aTake (r * gGr d w * (w - 1)) A i with
      | none => rfl
      | some A1 => rw [ht] at y; cases y
    · rw [hr] at y
      cases ht : aTake (r * gGr d w * (w - 1)) A i with
      | none => rw [ht] at y; cases y
      | some A1 =>
        rw [ht] at y h1
        have y := (Option.some.inj y).symm
        have hG1 := aGd_G hG ⟨hB, hB2⟩ hi hk ht
        have a1 := aTake_N hG.1.1 hi ht
        rw [y] at g
        refine m_enters g hG1.s hB2 hi ?_ ?_ hnm hino (fun H2 g2 => ⟨Or.inr rfl, h1 _ H2 rfl g2⟩)
        · dsimp only
          rw [bU_ne (by omega), a1.2.2.1]
          exact hk
        · dsimp only
          rw [bU_at]
          omega
theorem aG_kind {B j v : Int} {N O W : Int → Int} (hG : aG B (N, O, W)) (hj : 0 ≤ j ∧ j < 64) (h0 : N (20 * j) = 0) (hs : N (20 * j + 1) = 0) (hv : v = 0 ∨ v = 1 ∨ v = 2) : aG B (bU N (20 * j) v, O, W) := by
  obtain ⟨⟨h1, h2, h3⟩, h4⟩ := hG
  dsimp only at h1 h3 h4
  have q : ∀ i x, 0 ≤ i → 1 ≤ x → x < 20 → bU N (20 * j) v (20 * i + x) = N (20 * i + x) := fun i x i0 x1 x2 => bU_ne (by omega)
  have q3 : ∀ i e, 0 ≤ i → i < 64 → 0 ≤ e → e < N (20 * i + 2) → bU N (20 * j) v (20 * i + 3 + 2 * e) = N (20 * i + 3 + 2 * e) ∧ bU N (20 * j) v (20 * i + 4 + 2 * e) = N (20 * i + 4 + 2 * e) := fun i e i0 i1 e0 e1 => by
    have := (h1 i i0 i1).2.2.1
    exact ⟨bU_ne (by omega), bU_ne (by omega)⟩
  refine ⟨⟨show aN B (bU N (20 * j) v) from fun i i0 i1 => ?_, fun i b i0 i1 hb => ?_, show aJ (bU N (20 * j) v) from fun i e e' b i0 i1 e1 e2 e1' e2' u1 u2 u3 u4 => ?_⟩, show aZ (bU N (20 * j) v) from fun i i0 i1 => ?_⟩
  · obtain ⟨g1, g2, g3, g4⟩ := h1 i i0 i1
    refine ⟨?_, by rw [q i 1 i0 (by omega) (by omega)]; exact g2, by rw [q i 2 i0 (by omega) (by omega)]; exact g3, fun e e1 e2 => ?_⟩
    · by_cases c : i = j
      · rw [c, bU_at]; exact hv
      · rw [bU_ne (by omega)]; exact g1
    · rw [q i 2 i0 (by omega) (by omega)] at e2
      rw [(q3 i e i0 i1 e1 e2).1, (q3 i e i0 i1 e1 e2).2]
      exact g4 e e1 e2
  · obtain ⟨e, e1, e2, e3, e4⟩ := hb
    dsimp only at e2 e3 e4
    rw [q i 2 i0 (by omega) (by omega)] at e2
    rw [(q3 i e i0 i1 e1 e2).1] at e3 e4
    rw [(q3 i e i0 i1 e1 e2).2] at e4
    exact h2 i b i0 i1 ⟨e, e1, e2, e3, e4⟩
  · rw [q i 2 i0 (by omega) (by omega)] at e2 e2'
    rw [(q3 i e i0 i1 e1 e2).1] at u1 u2
    rw [(q3 i e i0 i1 e1 e2).2] at u2
    rw [(q3 i e' i0 i1 e1' e2').1] at u3 u4
    rw [(q3 i e' i0 i1 e1' e2').2] at u4
    exact h3 i e e' b i0 i1 e1 e2 e1' e2' u1 u2 u3 u4
  · have hc := (h1 i i0 i1).2.2.1
    have e : aTot (bU N (20 * j) v) i = aTot N i := by
      unfold aTot
      rw [q i 2 i0 (by omega) (by omega)]
      exact gSum_congr _ _ (fun x x1 x2 => bU_ne (by omega))
    rw [e, q i 1 i0 (by omega) (by omega)]
    refine ⟨(h4 i i0 i1).1, fun u => ?_⟩
    by_cases c : i = j
    · rw [c, hs]; rfl
    · rw [bU_ne (by omega)] at u
      exact (h4 i i0 i1).2 u
theorem m_makes {as : Int} (h : mA d w r G A L H) (hG : aG (r * gGr d w * (w - 1)) A) (hb : aBy (r * gGr d w * (w - 1)) A) (hP : aP A.2.1) (hF : ∀ j, 0 ≤ j → j < 64 → A.1 (20 * j) = 0 → A.1 (20 * j + 1) = 0) (hB : 96 ≤ r * gGr d w * (w - 1)) (hi : 0 ≤ i ∧ i < 64) (hnm : 0 ≤ nm ∧ nm ≤ 65535) (has : as = 0 ∨ as = 1)
    (hQ : mPost d w r G t L (aMake (r * gGr d w * (w - 1)) A i nm (if as = 0 then 1 else 2)) Qr) : zEnds 118 243 0 [(29, 35), (0, i), (0, nm), (0, as), (9, 0)] [] (t, L, H) Qr Qt := by
  have hB2 := gBl_le h.1.1
  have hS := hG.s
  have hki := (hG.1.1 i hi.1 hi.2).1
  unfold mPost aMake at hQ
  refine v_243 (m_badDirectory h hi hki ⟨fun z => ?_, fun z => ?_⟩)
  · have z : ¬ aFault A i 2 < 0 := by omega
    have hk := (aFault_0 z).1
    rw [if_neg z] at hQ
    refine m_entryOf h hS hb hB2 hi hk ⟨fun y => ?_, fun y => ?_⟩
    · have y : aEnt A i nm = -1 := by
        by_cases c : aEnt A i nm = -1
        · exact c
        · have := (aEnt_rg c).1; omega
      rw [if_neg (fun u => u y)] at hQ
      obtain ⟨N, O, W⟩ := A
      have found : ∀ j, 0 ≤ j → j < 64 → N (20 * j) = 0 → gFirst (fun i => N (20 * i) = 0) 0 64 = j → ∀ kd, (kd = if as = 0 then 1 else 2) → zEnds 118 238 0 [(29, 35), (0, i), (0, nm), (0, j), (9, 0)] [] (t, L, zupd H 45 (20 * j) kd) (fun v1 S1 => (v1 = 0 → Qr (-4) S1) ∧ (¬ (v1 = 0) → Qr j S1)) Qt := by
        intro j j0 j1 hj hf kd hkd
        dsimp only at hQ
        rw [hf, if_neg (by omega), ← hkd] at hQ
        have hji : i ≠ j := fun u => by
          have hk : N (20 * i) = 2 := hk
          rw [u, hj] at hk
          cases hk
        have hkd3 : kd = 0 ∨ kd = 1 ∨ kd = 2 := by
          rw [hkd]
          rcases has with u | u
          · rw [u]; exact Or.inr (Or.inl rfl)
          · rw [u]; exact Or.inr (Or.inr rfl)
        have hG2 := aG_kind (v := kd) hG ⟨j0, j1⟩ hj (hF j j0 j1 hj) hkd3
        have hc := aAdd_kind (B := r * gGr d w * (w - 1)) (O := O) (W := W) (j := j) (v := kd) (nm := nm) (ino := j) hG.1.1 hi
        refine m_adds h.nd hG2 hb hP hB hi (by show bU N (20 * j) kd (20 * i) = 2; rw [bU_ne (by omega)]; exact hk) hnm (by omega) (fun u A' H' g => ⟨fun _ => ?_, fun q => absurd rfl q⟩) (fun A' H' u g => ⟨fun q => absurd q (by decide), fun _ => ?_⟩)
        · rw [hc] at u
          cases ht : aAdd (r * gGr d w * (w - 1)) (N, O, W) i nm j with
          | none =>
            rw [ht] at hQ
            exact hQ A' H' g (fun q => absurd q (show ¬ (0 : Int) ≤ -4 by decide))
          | some A1 => rw [ht] at u; cases u
        · rw [hc] at u
          cases ht : aAdd (r * gGr d w * (w - 1)) (N, O, W) i nm j with
          | none => rw [ht] at u; cases u
          | some A1 =>
            rw [ht] at hQ u
            exact hQ A' H' g (fun _ => (Option.some.inj u).symm)
      have loop : ∀ (m : Nat) (j : Int), 0 ≤ j → j + m = 64 → gFirst (fun i => N (20 * i) = 0) 0 64 = gFirst (fun i => N (20 * i) = 0) j m → zEnds 118 243 29 [(29, 35), (0, i), (0, nm), (0, as), (0, j)] [] (t, L, H) Qr Qt := by
        intro m
        induction m with
        | zero =>
          intro j j0 j1 hf
          have hf : gFirst (fun i => N (20 * i) = 0) 0 64 = -1 := hf
          refine v_243_29 ⟨fun _ => ⟨fun u => absurd (by omega) u, fun _ => ?_⟩, fun u => absurd (by omega) u⟩
          dsimp only at hQ
          rw [if_pos hf] at hQ
          exact hQ _ H h (fun q => absurd q (show ¬ (0 : Int) ≤ -3 by decide))
        | succ m ih =>
          intro j j0 j1 hf
          have hl := h.l
          have hkj := (hG.1.1 j j0 (by omega)).1
          refine v_243_29 ⟨fun u => by omega, fun _ => m_kind h ⟨j0, by omega⟩ ⟨fun u => ⟨fun _ => ?_, fun q => by omega⟩, fun u => ?_⟩⟩
          · have u : N (20 * j) = 0 := by
              dsimp only at u hkj
              omega
            rw [gFirst_yes (P := fun i => N (20 * i) = 0) u] at hf
            dsimp only
            rw [z32_id (x := 20 * j) (by omega) (by omega)]
            refine ⟨fun q => ⟨by omega, found j j0 (by omega) u hf 1 ?_⟩, fun q => ⟨by omega, found j j0 (by omega) u hf 2 ?_⟩⟩
            · rw [if_pos q]
            · rw [if_neg q]
          · have u : ¬ N (20 * j) = 0 := by
              dsimp only at u hkj
              omega
            rw [gFirst_no (P := fun i => N (20 * i) = 0) u] at hf
            rw [z32_id (x := j + 1) (by omega) (by omega)]
            exact ih (j + 1) (by omega) (by omega) hf
      exact loop 64 0 (by omega) (by omega) rfl
    · rw [if_pos (by omega)] at hQ
      exact hQ A H h (fun q => absurd q (show ¬ (0 : Int) ≤ -2 by decide))
  · have z : aFault A i 2 < 0 := by omega
    rw [if_pos z] at hQ
    exact m_badDirectory h hi hki (hQ A H h (fun q => absurd q (by show ¬ 0 ≤ aFault A i 2; omega)))
end MMAKE
