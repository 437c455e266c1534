/-! One call on a new object: make, move, remove, node, sync. -/
theorem aAdd_more {B d nm ino : Int} {A A' : aSt} (ha : aN B A.1) (hP : aP A.2.1) (hd : 0 ≤ d ∧ d < 64) (h : aAdd B A d nm ino = some A') : aP A'.2.1 ∧ ∀ x, ¬ (20 * d ≤ x ∧ x < 20 * d + 20) → A'.1 x = A.1 x := by
  unfold aAdd at h
  by_cases c : aEnt A d 0 = -1
  · rw [if_pos c] at h
    cases ht : aTake B A d with
    | none => rw [ht] at h; cases h
    | some A1 =>
      rw [ht] at h
      have h := (Option.some.inj h).symm
      have a1 := aTake_N ha hd ht
      have p1 := aTake_P hP hd.1 ha hd.2 ht
      subst h
      refine ⟨p1, fun x hx => ?_⟩
      show bU A1.1 (20 * d + 1) (A.1 (20 * d + 1) + 64) x = A.1 x
      rw [bU_ne (by omega)]
      exact a1.2.2.2.2 _ hx
  · rw [if_neg c] at h
    have h := (Option.some.inj h).symm
    subst h
    exact ⟨hP, fun x _ => rfl⟩
theorem aMake_G {B d nm kind : Int} {A : aSt} (hG : aG B A) (hP : aP A.2.1) (hF : ∀ j, 0 ≤ j → j < 64 → A.1 (20 * j) = 0 → A.1 (20 * j + 1) = 0) (hB : 96 ≤ B ∧ B ≤ 768) (hd : 0 ≤ d ∧ d < 64) (hk : kind = 1 ∨ kind = 2) (h0 : 0 ≤ (aMake B A d nm kind).1) : aG B (aMake B A d nm kind).2 ∧ aP (aMake B A d nm kind).2.2.1 := by
  unfold aMake at h0 ⊢
  by_cases c1 : aFault A d 2 < 0
  · rw [if_pos c1] at h0
    have h0 : 0 ≤ aFault A d 2 := h0
    omega
  · rw [if_neg c1] at h0 ⊢
    by_cases c2 : aEnt A d nm ≠ -1
    · rw [if_pos c2] at h0
      have h0 : (0 : Int) ≤ -2 := h0
      omega
    · rw [if_neg c2] at h0 ⊢
      by_cases c3 : gFirst (fun i => A.1 (20 * i) = 0) 0 64 = -1
      · rw [if_pos c3] at h0
        have h0 : (0 : Int) ≤ -3 := h0
        omega
      · rw [if_neg c3] at h0 ⊢
        have sp := (gFirst_spec (fun i => A.1 (20 * i) = 0) 64 0).resolve_left (fun u => c3 u.1)
        generalize gFirst (fun i => A.1 (20 * i) = 0) 0 64 = j at h0 sp c3
        obtain ⟨j0, j1, j2, -⟩ := sp
        have kd : A.1 (20 * d) = 2 := by
          unfold aFault at c1
          by_cases z : A.1 (20 * d) = 0
          · rw [if_pos z] at c1; exact absurd (by decide) c1
          · rw [if_neg z] at c1
            by_cases y : A.1 (20 * d) = 2
            · exact y
            · rw [if_neg y] at c1; exact absurd (by decide) c1
        cases ht : aAdd B A d nm j with
        | none =>
          rw [ht] at h0
          have h0 : (0 : Int) ≤ -4 := h0
          omega
        | some A' =>
          obtain ⟨g1, g2⟩ := aAdd_N hG hB hd kd ht
          obtain ⟨q1, q2⟩ := aAdd_more hG.1.1 hP hd ht
          have jd : j ≠ d := fun u => by rw [u] at j2; omega
          have hj : 0 ≤ j ∧ j < 64 := by omega
          refine ⟨?_, q1⟩
          show aG B (bU A'.1 (20 * j) kind, A'.2.1, A'.2.2)
          exact aG_kind (N := A'.1) (O := A'.2.1) (W := A'.2.2) g1 hj (by rw [g2 j hj.1 hj.2]; exact j2) (by rw [q2 _ (by omega)]; exact hF j hj.1 hj.2 j2) (by omega)
theorem nA0_free {j : Int} (h0 : 0 ≤ j) (_ : j < 64) (_ : nA0.1 (20 * j) = 0) : nA0.1 (20 * j + 1) = 0 := (nN0_k h0).2 1 (by decide)
section OPS2
variable {d w r : Int} {t : Nat} {L : Int → Int} {H X : zHp} {Qr Qt : Int → zS → Prop}
/-- stored and value, as new -/
theorem p_val (h : kF d w r t L H) (hm : mF d w r L H) {b k : Int} (hb : 25 ≤ b ∧ b < r * gGr d w * (w - 1)) (hk : 0 ≤ k ∧ k < 64) : zB8 H 20 (64 * b + k) = H 43 (64 * b + k) := by
  have hB := gBl_le h.1.1.1.1
  have e : zB8 H 20 (64 * b + k) = zB8 H 19 (64 * b + k) := by
    unfold zB8
    have := h.2.1.2.2.2.2.1 b (k / 8) hb.1 hb.2 (by omega) (by omega)
    rw [show 8 * b + k / 8 = (64 * b + k) / 8 by omega] at this
    rw [this]
  by_cases c : b < 59
  · rw [e, hm.2.2.2.1.2.2.1 b k hb.1 c hk.1 hk.2]
    exact aE_by h.2.1.1 nN0_N (fun j _ => zB8_rg _ _ _) hb hB (by show 0 < nO0 b; rw [nO0_at, if_pos (by omega)]; decide) hk
  · rw [hm.2.2.2.1.2.2.2 _ (by omega)]
    have z := h.2.1.2.2.2.2.2 ((64 * b + k) / 8) (by omega) (by omega)
    unfold zB8
    rw [z]
    show (0 : Int) % 18446744073709551616 / _ % 256 = 0
    rw [show (0 : Int) % 18446744073709551616 = 0 from rfl, Int.zero_ediv]
    rfl
/-- the blocks that the reference calls changed are few -/
theorem p_few (h : kF d w r t L H) (hm : mF d w r L H) {n : Int} {Y : List Int} {β : Int → Int} {A : aSt} {H' : zHp} (hs : fS H (r * gGr d w * (w - 1)) n Y β L H') (hE : aE (r * gGr d w * (w - 1)) A β) (hG : aG (r * gGr d w * (w - 1)) A) (hP : aP A.2.1) : gCnt (mCh (r * gGr d w * (w - 1)) A (H 43)) 25 (r * gGr d w * (w - 1) - 25).toNat ≤ 24 := by
  have hB := gBl_le h.1.1.1.1
  have hB2 := gBl_ge h.1.1.1.1
  refine Int.le_trans (gCnt_mono _ _ (fun b b0 b1 hc => ?_)) (hs.few (fun b b0 b1 => h.2.1.2.2.2.1 b b0 b1))
  have hb : 25 ≤ b ∧ b < r * gGr d w * (w - 1) := by omega
  obtain ⟨k, k0, k1, k2⟩ := hc
  have on : A.2.1 b ≠ 0 := fun z => k2 (by unfold mBy; rw [if_pos (Or.inr z)])
  have op : 0 < A.2.1 b := by
    by_cases c : b < 59
    · exact hP.1 b (by omega) c
    · have := hP.2 b (by omega) (by omega)
      omega
  rw [← aE_by hE hG.1.1 (fun j hj => hs.rg j hj) hb hB op ⟨k0, k1⟩, ← p_val h hm hb ⟨k0, k1⟩, ← hs.2.2 _ (by omega)] at k2
  have e20 : ∀ i, H' 20 i = H 20 i := fun i => hs.2.1.1 20 i (by unfold iFr; omega)
  have ne : H' 19 (8 * b + k / 8) ≠ H' 20 (8 * b + k / 8) := fun u => k2 (by
    unfold zB8
    rw [show (64 * b + k) / 8 = 8 * b + k / 8 by omega, u, e20])
  refine ⟨fun z => ?_, (hE.2.1 b (by omega) (by omega)).mpr ⟨hb.2, op⟩, k / 8, by omega, by omega, ne⟩
  obtain ⟨-, z2⟩ := (hs.2.1.2.2.2.2.2.2.2.1 b (by omega) hb.2).mp z
  refine ne ?_
  rw [hs.2.1.2.2.2.2.2.1 b (by omega) hb.2 z2 (k / 8) (by omega) (by omega), e20]
  exact (h.2.1.2.2.2.2.1 b (k / 8) hb.1 hb.2 (by omega) (by omega)).symm
/-- behind Tree.addNew -/
theorem p_makeC (h : kF d w r t L H) (hm : mF d w r L H) {x y kind : Int} {R : Int → zS → Prop} (hx : 0 ≤ x ∧ x ≤ 63) (hy : 1 ≤ y ∧ y ≤ 65535) (hk : kind = 1 ∨ kind = 2) : zEnds 80 128 0 [(27, 27), (0, x), (0, y), (0, kind), (9, 0), (9, 0)] [] (t, L, H) (fun v4 S4 => zEnds 80 175 0 [(20, 0), (0, v4)] [] S4 (fun v5 S5 => (v5 = 0 → zEnds 80 177 0 [(20, 0), (0, v4)] [] S5 (fun v6 S6 => (0 ≤ (aMake (r * gGr d w * (w - 1)) nA0 x y kind).1 → gCnt (mCh (r * gGr d w * (w - 1)) (aMake (r * gGr d w * (w - 1)) nA0 x y kind).2 (H 43)) 25 (r * gGr d w * (w - 1) - 25).toNat ≤ 24) ∧ v6 = (aMake (r * gGr d w * (w - 1)) nA0 x y kind).1 ∧ ∃ H1, S6 = (t, L, H1) ∧ fC H H1) (fun _ _ => False)) ∧ (¬ (v5 = 0) → R v4 S5)) (fun _ _ => False)) (fun _ _ => False) := by
  refine t_addNew h.S h.2.1.1 (nA0_G _) (by omega) (by decide) (by omega) (by omega) (fun n' X' β' H' hs hE => ?_)
  have hB : 96 ≤ r * gGr d w * (w - 1) ∧ r * gGr d w * (w - 1) ≤ 768 := ⟨gBl_ge h.1.1.1.1, gBl_le h.1.1.1.1⟩
  have gg := aMake_G (nm := y) (kind := kind) (nA0_G (r * gGr d w * (w - 1))) nA0_P (fun j a b c => nA0_free a b c) hB (d := x) (by omega) hk
  have ff : fC H H' := fun q i hq => hs.2.1.1 q i (by unfold iFr; omega)
  generalize aMake (r * gGr d w * (w - 1)) nA0 x y kind = M at hE gg
  by_cases c : M.1 < 0
  · exact v_175 ⟨fun _ => ⟨Or.inl rfl, fun _ => v_177 ⟨fun u => by omega, fun _ => i_undo hs (fun H'' _ _ _ _ fr => ⟨fun u => by omega, rfl, H'', rfl, ff.tr (fun q i hq => fr q i (by omega) (by omega) (by omega))⟩)⟩, fun u => absurd rfl u⟩, fun u => by omega⟩
  · have hE := hE (by omega)
    obtain ⟨g1, g2⟩ := gg (by omega)
    have few := p_few h hm hs hE g1 g2
    have few2 := hs.few (fun b b0 b1 => h.2.1.2.2.2.1 b b0 b1)
    refine v_175 ⟨fun u => absurd u c, fun _ => i_countChanged hs ⟨fun u => by omega, fun _ => ⟨Or.inl rfl, fun _ => v_177 ⟨fun _ => i_forget hs (fun H'' _ _ _ fr => ⟨fun _ => few, rfl, _, rfl, (ff.tr (fun q i hq => fr q i (by omega) (by omega))).upd (by decide)⟩), fun u => absurd (by omega) u⟩, fun u => absurd rfl u⟩⟩⟩
theorem m_tries0 {S : zS} {x y as : Int} (has : as = 0 ∨ as = 1) (h : zEnds 118 243 0 [(29, 35), (0, x), (0, y), (0, as), (9, 0)] [] S Qr Qt) : zEnds 118 248 0 [(29, 35), (0, 0), (0, x), (0, y), (0, as), (0, 0)] [] S Qr Qt := by
  rcases has with e | e
  · subst e
    exact v_248 ⟨fun _ => ⟨fun _ => h, fun u => absurd (by decide) u⟩, fun u => absurd rfl u⟩
  · subst e
    exact v_248 ⟨fun _ => ⟨fun u => absurd rfl u, fun _ => h⟩, fun u => absurd rfl u⟩
theorem p_makeM {x y as : Int} (hx : 0 ≤ x ∧ x ≤ 63) (hy : 1 ≤ y ∧ y ≤ 65535) (has : as = 0 ∨ as = 1) (hk : gOK d w r) {V : Int → Int} (few : 0 ≤ (aMake (r * gGr d w * (w - 1)) nA0 x y (if as = 0 then 1 else 2)).1 → gCnt (mCh (r * gGr d w * (w - 1)) (aMake (r * gGr d w * (w - 1)) nA0 x y (if as = 0 then 1 else 2)).2 V) 25 (r * gGr d w * (w - 1) - 25).toNat ≤ 24) {H0 : zHp} (hm : mF d w r L H) (hV : ∀ j, H 43 j = V j) (f : fM H0 H) (hz : H 35 0 = 0) : zEnds 118 249 0 [(29, 35), (0, 0), (0, x), (0, y), (0, as), (0, 0), (9, 0)] [] (t, L, H) (fun b S2 => b = (aMake (r * gGr d w * (w - 1)) nA0 x y (if as = 0 then 1 else 2)).1 ∧ ∃ H2, S2 = (t, L, H2) ∧ H2 35 0 = 0 ∧ fM H0 H2) (fun _ _ => False) := by
  have hB : 96 ≤ r * gGr d w * (w - 1) ∧ r * gGr d w * (w - 1) ≤ 768 := ⟨gBl_ge hk, gBl_le hk⟩
  have gg := aMake_G (nm := y) (kind := if as = 0 then 1 else 2) (nA0_G (r * gGr d w * (w - 1))) nA0_P (fun j a b c => nA0_free a b c) hB (d := x) (by omega) (by
    rcases has with u | u
    · rw [u]; exact Or.inl rfl
    · rw [u]; exact Or.inr rfl)
  refine j_249 (m_keepsAside hm.A (fun G' H' g1 g48 g49 g50 hA => m_tries0 has (m_makes hA (nA0_G _) (nA0_by _) nA0_P (fun j a b c => nA0_free a b c) hB.1 (by omega) (by omega) has (fun A' H'' hA' hA'' => ?_))))
  generalize aMake (r * gGr d w * (w - 1)) nA0 x y (if as = 0 then 1 else 2) = M at few gg hA''
  refine ⟨fun u => ?_, fun u => m_bringsBack hA' g48 g49 g50 (fun H2 hA2 => ⟨rfl, H2, rfl, ?_, ?_⟩)⟩
  · have e := hA'' u
    subst e
    obtain ⟨q1, q2⟩ := gg u
    have ev : (fun j => G' 43 j) = V := by
      funext j
      rw [g1 43 j (by decide) (by decide) (by decide)]
      exact hV j
    have ev : G' 43 = V := ev
    refine m_changes hA' q1.1.1 hB.1 ⟨fun _ => j_249_75 ⟨rfl, _, rfl, ?_, ?_⟩, fun z => absurd (by rw [ev]; exact few u) z⟩
    · rw [zupd_no (by decide)]
      show H'' 35 0 = 0
      rw [hA'.2.2.2.2 35 0 (by decide) (by decide) (by decide), g1 35 0 (by decide) (by decide) (by decide)]; exact hz
    · exact (mF.fM hA' (f.tr (fun q i hq => g1 q i (by omega) (by omega) (by omega)))).upd (by decide)
  · rw [hA2.2.2.2.2 35 0 (by decide) (by decide) (by decide), g1 35 0 (by decide) (by decide) (by decide)]; exact hz
  · exact mF.fM hA2 (f.tr (fun q i hq => g1 q i (by omega) (by omega) (by omega)))
end OPS2
