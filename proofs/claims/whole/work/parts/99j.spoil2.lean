/-! spoil. -/
section SPOIL2
variable {d w r x o a n m : Int} {t : Nat} {L : Int → Int} {H K M N X : zHp} {Qr Qt : Int → zS → Prop} {C : Int → Int → Int}
theorem c_spoil (ht : 118 ≤ t) (h : gI d w r t L H) (q0 : ¬ sOK d r x o a n m → Qt 1 (t, L, H)) (q1 : sOK d r x o a n m → zEnds 80 160 104 [(20, 0), (0, x), (0, o), (0, a), (0, n), (1, m), (9, 0), (9, 0)] [(0, if H 0 11 = 0 then -1 else gFirst (fun s => H 13 s = x) (o * gPo d w) (gPo d w).toNat)] (t, L, H) Qr Qt) : zEnds 80 160 0 [(20, 0), (0, x), (0, o), (0, a), (0, n), (1, m), (9, 0), (9, 0)] [] (t, L, H) Qr Qt := by
  have n2 : H 1 2 = r := h.1.2.2.1.1.2.2.1
  have thr : ¬ sOK d r x o a n m → (118 ≤ t) ∧ ((1 : Int) ≠ 0 ∧ Qt 1 (t, L, H)) := fun u => ⟨ht, by decide, q0 u⟩
  refine j_160 (k_disk h.1 ht (fun hx => ⟨fun c => j_160_33 (thr (fun s => by have := s.2.1; omega)), fun c1 => ⟨fun c => j_160_33 (thr (fun s => by have := s.2.1; have c : H 1 2 ≤ o := c; omega)), fun c2 => ⟨fun c => j_160_33 (thr (fun s => by have := s.2.2.1; omega)), fun c3 => ⟨fun c4 => ⟨fun c => j_160_73 (thr (fun s => by have := s.2.2.2.1; omega)), fun c5 => ⟨fun c => j_160_73 (thr (fun s => ?_)), fun c6 => ⟨fun c7 => ⟨fun u => ?_, fun u => g_spotOn h.1 ?_ ?_⟩, fun c7 => j_160_73 (thr (fun s => c7 ((low_c s.2.2.1).mpr s.2.2.2.2)))⟩⟩⟩, fun c => j_160_33 (thr (fun s => by have := s.2.2.1; omega))⟩⟩⟩⟩) (fun u => q0 (fun s => u s.1)))
  · have := s.2.2.1
    have := s.2.2.2.1
    rw [z32_id (x := 70 - n) (by omega) (by omega)] at c
    omega
  · have c2 : ¬ H 1 2 ≤ o := c2
    rw [z32_id (x := 70 - n) (by omega) (by omega)] at c6
    have := q1 ⟨hx, by omega, by omega, by omega, (low_c (by omega)).mp c7⟩
    rw [if_pos u] at this
    exact this
  · have c2 : ¬ H 1 2 ≤ o := c2
    omega
  · have c2 : ¬ H 1 2 ≤ o := c2
    rw [z32_id (x := 70 - n) (by omega) (by omega)] at c6
    have := q1 ⟨hx, by omega, by omega, by omega, (low_c (by omega)).mp c7⟩
    rw [if_neg u] at this
    exact this
theorem m_spoilA (hm64 : z64 m = m) (hn : z32 n = n) (hm : mS d w r L M) (q0 : ¬ sOK d r x o a n m → ∀ x7, zEnds 118 212 96 [(29, 35), (0, x), (0, o), (0, a), (0, n), (1, m), (9, 0), (0, x7), (9, 0)] [(0, 1), (29, 35)] (t, L, M) Qr Qt) (q1 : sOK d r x o a n m → ∀ x7, zEnds 118 212 96 [(29, 35), (0, x), (0, o), (0, a), (0, n), (1, m), (9, 0), (0, x7), (9, 0)] [(0, 0), (29, 35)] (t, L, M) Qr Qt) : zEnds 118 212 0 [(29, 35), (0, x), (0, o), (0, a), (0, n), (1, m), (9, 0), (9, 0), (9, 0)] [] (t, L, M) Qr Qt := by
  have e1 : M 35 1 = d := hm.2.2.2.1.1
  have e3 : M 35 3 = r := hm.2.2.2.1.2.2.1
  have sz : ∀ y0 : Int, (y0 = 0 ∨ y0 = 1) → (y0 = 1 ↔ (1 ≤ n ∧ n ≤ 8) ∧ (0 ≤ a ∧ a ≤ 70 - n)) → zEnds 118 212 30 [(29, 35), (0, x), (0, o), (0, a), (0, n), (1, m), (9, 0), (9, 0), (9, 0)] [(0, y0)] (t, L, M) Qr Qt := fun y0 y01 hy => by
    refine j_212_30 ⟨fun c => j_212_91 (q0 (fun s => by have := s.1; omega) _), fun c1 => ⟨fun c => j_212_91 (q0 (fun s => by have := s.1; have c : M 35 1 ≤ x := c; omega) _), fun c2 => ⟨fun c => j_212_91 (q0 (fun s => by have := s.2.1; omega) _), fun c3 => ⟨fun c => j_212_91 (q0 (fun s => by have := s.2.1; have c : M 35 3 ≤ o := c; omega) _), fun c4 => ⟨fun c => j_212_91 (q0 (fun s => by have := hy.mpr ⟨s.2.2.1, s.2.2.2.1⟩; omega) _), fun c5 => ?_⟩⟩⟩⟩⟩
    have c2 : ¬ M 35 1 ≤ x := c2
    have c4 : ¬ M 35 3 ≤ o := c4
    obtain ⟨a1, a2⟩ := hy.mp (by omega)
    refine ⟨fun c8 => j_212_86 ⟨fun u => q1 ⟨by omega, by omega, a1, a2, (low_m a1 c8).mp u⟩ _, fun u => j_212_91 (q0 (fun s => u ((low_m a1 c8).mpr s.2.2.2.2)) _)⟩, fun c8 => ?_⟩
    have c8 : n = 8 := by omega
    subst c8
    exact j_212_86 ⟨fun u => q1 ⟨by omega, by omega, a1, a2, (low_8 hm64).mp u⟩ _, fun u => j_212_91 (q0 (fun s => u ((low_8 hm64).mpr s.2.2.2.2)) _)⟩
  have no : ¬ ((1 ≤ n ∧ n ≤ 8) ∧ (0 ≤ a ∧ a ≤ 70 - n)) → zEnds 118 212 29 [(29, 35), (0, x), (0, o), (0, a), (0, n), (1, m), (9, 0), (9, 0), (9, 0)] [] (t, L, M) Qr Qt := fun u => j_212_29 (sz 0 (Or.inl rfl) ⟨fun v => absurd v (by decide), fun v => absurd v u⟩)
  refine j_212 ⟨fun c => no (by omega), fun c1 => ⟨fun c => no (by omega), fun c2 => ⟨fun c => no (by omega), fun c3 => ⟨fun c => no ?_, fun c4 => sz 1 (Or.inr rfl) ⟨fun _ => ?_, fun _ => rfl⟩⟩⟩⟩⟩
  · rw [z32_id (x := 70 - n) (by omega) (by omega)] at c
    omega
  · rw [z32_id (x := 70 - n) (by omega) (by omega)] at c4
    omega
/-- the flaw that a cell would have -/
def sD (r x o a n m : Int) (H : zHp) : Int → Int := dB a n m (fun k => zB8 H 9 (72 * gCe r x o + k))
def sF (r x o a n m : Int) (H : zHp) : Prop := ∃ k, 0 ≤ k ∧ k < 70 ∧ sD r x o a n m H k ≠ 0
def sW (r x o a n m : Int) (H : zHp) : Prop := cRc (sD r x o a n m H) 0 66 0 = cW (sD r x o a n m H)
theorem g_forged0 (h10 : L 10 = 9) (hf : ∀ j, 0 ≤ j → j < 9 → H 10 j = 0) (hQ : Qr 0 (t, L, H)) : zEnds 80 35 0 [(22, 3), (9, 0)] [] (t, L, H) Qr Qt := by
  refine v_35 ⟨by show 0 ≤ (8 : Int) ∧ 8 < L 10; omega, g_isFlaw h10 (fun u => by obtain ⟨j, j0, j1, j2⟩ := u; exact absurd (hf j j0 j1) j2) (fun _ => ⟨fun _ => ⟨Or.inl rfl, hQ⟩, fun u => absurd rfl u⟩)⟩
/-- spoil on a cell that is a place: the class -/
theorem c_spoil1 {s : Int} (hz : zhR (t, L, H)) (ho : o ≤ 1000 ∧ 0 ≤ o) (hn32 : z32 n = n) (ha32 : z32 a = a) (hm64 : z64 m = m) (h : gI d w r t L H) (h8 : cT8 L H) (hK : rK d r H M) (ok : sOK d r x o a n m) (hs : 0 ≤ s ∧ s < r * gPo d w) (hsr : s / gPo d w = o) (hsx : H 13 s = x) (lv : M 37 x ≠ 0)
    (h0 : ∀ G, (∀ q i, q ≠ 10 → G q i = H q i) → sF r x o a n m H → (sW r x o a n m H ∨ gFault d w r H s) → Qr 0 (t, L, G))
    (h1 : ∀ G v, (∀ q i, q ≠ 6 → q ≠ 9 → q ≠ 10 → G q i = H q i) → (∀ i, G 6 i = if i = gCe r x o then v else H 6 i) → (v = 0 ∨ v = 1) → (v = 1 ↔ ∃ j, 0 ≤ j ∧ j < 9 ∧ G 9 (9 * gCe r x o + j) ≠ 0) → (v = 1 ↔ sF r x o a n m H) → (∀ j, j / 9 ≠ gCe r x o → G 9 j = H 9 j) → (∀ k, 0 ≤ k → k < 72 → zB8 G 9 (72 * gCe r x o + k) = sD r x o a n m H k) → (∀ j, z64 (G 9 j) = G 9 j) → (sF r x o a n m H → ¬ sW r x o a n m H ∧ ¬ gFault d w r H s) → gI d w r t L G → Qr 1 (t, L, G)) : zEnds 80 160 104 [(20, 0), (0, x), (0, o), (0, a), (0, n), (1, m), (9, 0), (9, 0)] [(0, s)] (t, L, H) Qr Qt := by
  have hk := h.1.1
  obtain ⟨ox, oo, on, oa, low⟩ := ok
  have l10 : L 10 = 9 := h.1.2.1.1.2.2.2.2.2.2.2.1
  have r64 := hk.2.2.2.2.2.2
  have d16 := hk.2.1
  have hc := gCe_rg hk ox (o := o) (by omega)
  have dr : zEnds 80 33 0 [(22, 3), (0, x), (0, o), (0, a), (0, n), (1, m), (9, 0), (9, 0), (9, 0)] [] (t, L, H) (fun v S1 => ∃ G, S1 = (t, L, G) ∧ gS d w r (t, L, G) ∧ (∀ q i, q ≠ 10 → G q i = H q i) ∧ ∀ k, 0 ≤ k → k < 72 → zB8 G 10 k = sD r x o a n m H k) Qt := g_draft h.1 ox (by omega) (by omega) (by omega) (fun G g1 g2 g3 => ⟨G, rfl, g1, g2, g3⟩)
  have rx : z32 x = x := z32_id (by omega) (by omega)
  have ro : z32 o = o := z32_id (by omega) (by omega)
  refine j_160_104 ⟨fun _ => (zEnds_rg (zl_c ⟨fun u => absurd u (show (22 : Nat) ≠ 0 by decide), fun u => absurd u (show (22 : Nat) ≠ 1 by decide), fun _ => ⟨fun u => absurd u (by decide), fun u => absurd u (show (22 : Nat) ≠ 11 by decide)⟩⟩ (za_i rx (za_i ro (za_i ha32 (za_i hn32 (za_l hm64 (za_9 (za_9 (za_9 za_0))))))))) za_0 hz dr).imp (fun v S1 u => ?_) (fun c S1 u => u.1), fun u => absurd (by omega) u⟩
  obtain ⟨⟨G, eS, g1, g2, g3⟩, gz⟩ := u
  subst eS
  have z10 : ∀ j, z64 (G 10 j) = G 10 j := fun j => (gz.2 10 j).1 rfl
  have d70 : ∀ k, 70 ≤ k → k < 72 → sD r x o a n m H k = 0 := fun k k0 k1 => by
    unfold sD dB
    dsimp only
    rw [if_neg (by omega), (hK.2.1 x o ox.1 ox.2 oo.1 (by omega)).2.2.1 k (by omega) k1, if_neg (fun u => by omega)]
  -- words and bytes of the draft
  have fl : (∃ j, 0 ≤ j ∧ j < 9 ∧ G 10 j ≠ 0) ↔ sF r x o a n m H := by
    constructor
    · intro ⟨j, j0, j1, j2⟩
      apply Classical.byContradiction
      intro nf
      refine j2 (zw0 (z10 j) (fun k hk8 => ?_))
      have b := g3 (8 * j + k) (by omega) (by omega)
      have y : sD r x o a n m H (8 * j + k) = 0 := by
        by_cases c : 8 * j + (k : Int) < 70
        · apply Classical.byContradiction
          intro z
          exact nf ⟨8 * j + k, by omega, c, z⟩
        · exact d70 _ (by omega) (by omega)
      rw [y] at b
      unfold zB8 at b
      rw [show (8 * j + (k : Int)) / 8 = j by omega, show (8 * j + (k : Int)) % 8 = k by omega, Int.toNat_natCast] at b
      exact b
    · intro ⟨k, k0, k1, k2⟩
      refine ⟨k / 8, by omega, by omega, fun z => k2 ?_⟩
      rw [← g3 k k0 (by omega)]
      exact zB8_0 z
  have h8G : cT8 L G := ⟨h8.1, fun i i0 i1 => by rw [g2 (-8) i (by decide)]; exact h8.2 i i0 i1⟩
  have eW : (cRc (zB8 G 10) 0 66 0 = cW (zB8 G 10)) ↔ sW r x o a n m H := by
    unfold sW
    rw [cRc_congr (E := sD r x o a n m H) 66 0 0 (fun k k0 k1 => g3 k k0 (by omega)), cW_congr (E := sD r x o a n m H) (fun k k0 k1 => g3 k (by omega) (by omega))]
  have iG : gI d w r t L G := h.keep (fun q i hq => g2 q i (by omega)) (fun q i hq => by rw [g2 q i (by omega)]; exact h.1.2.2.2 q i (by omega))
  have fault : gFault d w r G s ↔ gFault d w r H s := by
    unfold gFault
    have so : ∀ u, gSound d w r G u ↔ gSound d w r H u := fun u => gSound_of (g2 13 u (by decide)) (fun c => g2 5 c (by decide)) (fun c => g2 6 c (by decide))
    constructor
    · intro ⟨u, a, b, c, e⟩; exact ⟨u, a, b, c, fun z => e ((so u).mpr z)⟩
    · intro ⟨u, a, b, c, e⟩; exact ⟨u, a, b, c, fun z => e ((so u).mp z)⟩
  have keep : (sF r x o a n m H → ¬ sW r x o a n m H ∧ ¬ gFault d w r H s) → zEnds 80 160 162 [(20, 0), (0, x), (0, o), (9, 0), (9, 0), (9, 0), (9, 0), (9, 0)] [] (t, L, G) Qr Qt := fun hh => by
    refine j_160_162 (g_keepFlaw iG.1 ox (by omega) (fun v v01 hv => ⟨Or.inr rfl, ?_⟩))
    have K9 : ∀ j, zupd (zcpy G 10 0 9 (9 * gCe r x o) 9) 6 (gCe r x o) v 9 j = if 9 * gCe r x o ≤ j ∧ j < 9 * gCe r x o + 9 then G 10 (j - 9 * gCe r x o) else H 9 j := fun j => by
      rw [zupd_ne (by decide)]
      unfold zcpy
      by_cases c : 9 * gCe r x o ≤ j ∧ j < 9 * gCe r x o + 9
      · rw [if_pos ⟨rfl, c⟩, if_pos c, show 0 + (j - 9 * gCe r x o) = j - 9 * gCe r x o by omega]
      · rw [if_neg (fun u => c u.2), if_neg c, g2 9 j (by decide)]
    refine h1 _ v (fun q i q6 q9 q10 => by rw [zupd_ne q6, zcpy_ne q9, g2 q i q10]) (fun i => ?_) v01 ?_ (hv.trans fl) (fun j hj => by rw [K9, if_neg (by omega)]) (fun k k0 k1 => ?_) (fun j => ?_) hh ?_
    · by_cases c : i = gCe r x o
      · rw [if_pos c, c, zupd_at]
      · rw [if_neg c, zupd_no (fun u => c u.2), zcpy_ne (by decide), g2 6 i (by decide)]
    · rw [hv]
      constructor
      · intro ⟨j, j0, j1, j2⟩
        exact ⟨j, j0, j1, by rw [K9, if_pos (by omega), show 9 * gCe r x o + j - 9 * gCe r x o = j by omega]; exact j2⟩
      · intro ⟨j, j0, j1, j2⟩
        rw [K9, if_pos (by omega), show 9 * gCe r x o + j - 9 * gCe r x o = j by omega] at j2
        exact ⟨j, j0, j1, j2⟩
    · rw [← g3 k k0 k1]
      unfold zB8
      rw [K9, if_pos (by omega), show (72 * gCe r x o + k) / 8 - 9 * gCe r x o = k / 8 by omega, show (72 * gCe r x o + k) % 8 = k % 8 by omega]
    · rw [K9]
      by_cases c : 9 * gCe r x o ≤ j ∧ j < 9 * gCe r x o + 9
      · rw [if_pos c]; exact z10 _
      · rw [if_neg c]; exact hK.2.2.1 j
    · refine ⟨(iG.1.cpy (by omega)).upd (by omega) (fun _ => v01), iG.2.keep (fun i => ?_)⟩
      rw [zupd_ne (by decide), zcpy_ne (by decide)]
  by_cases F : sF r x o a n m H
  · have F10 := fl.mpr F
    refine g_forged h8G l10 F10 (fun u => ⟨fun _ => j_160_160 ⟨Or.inl rfl, h0 G g2 F (Or.inl (eW.mp u))⟩, fun z => absurd (by decide) z⟩) (fun u => ⟨fun z => absurd rfl z, fun _ => g_isFlaw l10 (fun _ => ⟨fun z => absurd z (by decide), fun _ => g_hasFault iG.1 iG.2 hs (fun f => ⟨fun z => absurd z (by decide), fun _ => j_160_160 ⟨Or.inl rfl, h0 G g2 F (Or.inr (fault.mp f))⟩⟩) (fun f => ⟨fun _ => keep (fun _ => ⟨fun z => u (eW.mpr z), fun z => f (fault.mpr z)⟩), fun z => absurd rfl z⟩)⟩) (fun z => ?_)⟩)
    obtain ⟨j, j0, j1, j2⟩ := F10
    exact absurd (z j j0 j1) j2
  · have F10 : ∀ j, 0 ≤ j → j < 9 → G 10 j = 0 := fun j j0 j1 => Classical.byContradiction (fun z => F (fl.mp ⟨j, j0, j1, z⟩))
    exact g_forged0 l10 F10 ⟨fun z => absurd rfl z, fun _ => g_isFlaw l10 (fun z => by obtain ⟨j, j0, j1, j2⟩ := z; exact absurd (F10 j j0 j1) j2) (fun _ => ⟨fun _ => keep (fun z => absurd z F), fun z => absurd rfl z⟩)⟩
end SPOIL2
