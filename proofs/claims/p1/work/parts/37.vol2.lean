/-! The volume: reckoning, loading, putting, places, counts. -/
/-- what Volume.reckon leaves -/
noncomputable def gRk (d w r : Int) (H : Int → Int → Int) (wd at' s : Int) : Int → Int → Int := gAO d w r (zfil H wd at' 8) wd at' s (s - s % w) w.toNat
theorem gRk_ne {d w r : Int} {H : Int → Int → Int} {wd at' s q i : Int} (h : q ≠ wd) : gRk d w r H wd at' s q i = H q i := by
  unfold gRk
  rw [gAO_ne h]
  unfold zfil
  rw [if_neg (fun z => h z.1)]
theorem g_reckon {d w r s wd at' : Int} {t : Nat} {L : Int → Int} {H : Int → Int → Int} {Qr Qt : Int → zS → Prop} (h : gS d w r (t, L, H)) (hp : gPl d w r H) (hs : 0 ≤ s ∧ s < r * gPo d w) (hw : gWd wd) (ha : 0 ≤ at' ∧ at' + 8 ≤ L wd ∧ L wd ≤ 1000000) (hQ : Qr 0 (t, L, gRk d w r H wd at' s)) : zEnds 80 55 0 [(23, 12), (0, s), (11, wd), (0, at')] [] (t, L, H) Qr Qt := by
  refine v_55 (s_clear ha.1 (by decide) ha.2.1 ha.2.2 ?_)
  have hne := hw.ne
  exact g_addOthers (h.fil (by have := hw.num; omega)) (fun u u1 u2 => by unfold zfil; rw [if_neg (fun z => hne.2.2.1 z.1.symm)]; exact hp u u1 u2) hs hw ha hQ
/-- what Volume.loadSpot leaves -/
noncomputable def gLd (d w r : Int) (H : Int → Int → Int) (wd at' s : Int) : Int → Int → Int := @ite _ (gSound d w r H s) (Classical.propDecidable _) (zcpy H 8 (8 * gAt d w r H s) wd at' 8) (gRk d w r H wd at' s)
theorem gLd_ne {d w r : Int} {H : Int → Int → Int} {wd at' s q i : Int} (h : q ≠ wd) : gLd d w r H wd at' s q i = H q i := by
  unfold gLd
  by_cases c : gSound d w r H s
  · rw [if_pos c]
    unfold zcpy
    rw [if_neg (fun z => h z.1)]
  · rw [if_neg c]
    exact gRk_ne h
theorem g_loadSpot {d w r s wd at' : Int} {t : Nat} {L : Int → Int} {H : Int → Int → Int} {Qr Qt : Int → zS → Prop} (h : gS d w r (t, L, H)) (hp : gPl d w r H) (hs : 0 ≤ s ∧ s < r * gPo d w) (hw : gWd wd) (ha : 0 ≤ at' ∧ at' + 8 ≤ L wd ∧ L wd ≤ 1000000) (hQ : Qr 0 (t, L, gLd d w r H wd at' s)) : zEnds 80 56 0 [(23, 12), (0, s), (11, wd), (0, at')] [] (t, L, H) Qr Qt := by
  have hl : L 13 = r * gPo d w := h.2.1.2.1.1
  have q := gSp_rg h.1 hs
  have hps := hp s hs.1 hs.2
  refine v_56 (g_isSound h hp hs (fun c => ⟨fun z => absurd z (by decide), fun _ => ⟨⟨hs.1, by show s < L 13; omega⟩, ?_⟩⟩) (fun c => ⟨fun _ => ?_, fun z => absurd rfl z⟩))
  · have c : gSound d w r H s := c
    have c1 := c.1
    refine g_rowOf h hs (g_copyTo h (x := H 13 s) (by omega) (by omega) ⟨hw.ne.1, ha.1, ha.2.1⟩ ?_)
    unfold gLd at hQ
    rw [if_pos c] at hQ
    exact hQ
  · have c : ¬ gSound d w r H s := c
    refine g_reckon h hp hs hw ha ?_
    unfold gLd at hQ
    rw [if_neg c] at hQ
    exact hQ
/-- a block's spot -/
def gSo (w b : Int) : Int := w * (b / (w - 1)) + b % (w - 1)
theorem gSo_rg {d w r b : Int} (hk : gOK d w r) (hb : 0 ≤ b ∧ b < r * gGr d w * (w - 1)) : (0 ≤ gSo w b ∧ gSo w b < r * gPo d w) ∧ gSo w b / w = b / (w - 1) ∧ gSo w b % w = b % (w - 1) ∧ gSo w b % w < w - 1 ∧ b < 800 := by
  obtain ⟨p1, p2, p3, p4⟩ := gPo_rg hk
  have h2 := hk.2.1
  have h3 := hk.2.2.1
  have h4 := hk.2.2.2.1
  have h6 := hk.2.2.2.2.2.1
  have h7 := hk.2.2.2.2.2.2
  have m1 := Int.emod_nonneg b (b := w - 1) (by omega)
  have m2 := Int.emod_lt_of_pos b (b := w - 1) (by omega)
  have m3 : 0 ≤ b / (w - 1) := Int.ediv_nonneg hb.1 (by omega)
  have m4 : b / (w - 1) < r * gGr d w := by rw [Int.ediv_lt_iff_lt_mul (by omega)]; exact hb.2
  have a1 : 0 ≤ w * (b / (w - 1)) := Int.mul_nonneg (by omega) m3
  have a2 : w * (b / (w - 1) + 1) ≤ w * (r * gGr d w) := Int.mul_le_mul_of_nonneg_left (by omega) (by omega)
  have a3 : w * (b / (w - 1) + 1) = w * (b / (w - 1)) + w := by rw [Int.mul_add]; omega
  have a4 : r * gPo d w = w * (r * gGr d w) := by unfold gPo; rw [← Int.mul_assoc, Int.mul_comm r w, Int.mul_assoc]
  have e1 : gSo w b / w = b / (w - 1) := by
    unfold gSo
    rw [Int.add_comm, Int.add_mul_ediv_left _ _ (by omega), Int.ediv_eq_zero_of_lt m1 (by omega)]
    omega
  have e2 : gSo w b % w = b % (w - 1) := by
    unfold gSo
    rw [Int.add_comm, Int.add_mul_emod_self_left, Int.emod_eq_of_lt m1 (by omega)]
  have b1 : r * gGr d w * (w - 1) ≤ 64 * gPo d w := by
    have c1 : r * gGr d w * (w - 1) ≤ r * gGr d w * w := Int.mul_le_mul_of_nonneg_left (by omega) (Int.mul_nonneg (by omega) (by omega))
    have c2 : r * gGr d w * w = r * gPo d w := by unfold gPo; rw [Int.mul_assoc, Int.mul_comm (gGr d w)]
    have c3 : r * gPo d w ≤ 64 * gPo d w := Int.mul_le_mul_of_nonneg_right h7 (by omega)
    omega
  have b2 : r * gGr d w * (w - 1) ≤ 768 := gBl_le hk
  refine ⟨⟨?_, ?_⟩, e1, e2, by omega, by omega⟩
  · unfold gSo; omega
  · unfold gSo; omega
theorem g_spotOf {d w r b : Int} {S : zS} {Qr Qt : Int → zS → Prop} (h : gS d w r S) (hb : 0 ≤ b ∧ b < r * gGr d w * (w - 1)) (hQ : Qr (gSo w b) S) : zEnds 80 12 0 [(21, 1), (0, b)] [] S Qr Qt := by
  obtain ⟨hk, hl, hn, -⟩ := h
  obtain ⟨⟨b1, b2⟩, b3, b4, b5, b6⟩ := gSo_rg hk hb
  have q := gSp_rg hk ⟨b1, b2⟩
  have h3 := hk.2.2.1
  have h4 := hk.2.2.2.1
  have m1 := Int.emod_nonneg b (b := w - 1) (by omega)
  have m2 := Int.emod_lt_of_pos b (b := w - 1) (by omega)
  have m3 : 0 ≤ b / (w - 1) := Int.ediv_nonneg hb.1 (by omega)
  have a1 : 0 ≤ w * (b / (w - 1)) := Int.mul_nonneg (by omega) m3
  refine v_12 ?_
  unfold gSo at b2 q hQ b1
  rw [hn.1.2.1, z32_id (x := w - 1) (by omega) (by omega), zdiv_pos hb.1 (by omega) (by omega), zrem_pos hb.1, z32_id (x := w * (b / (w - 1))) (by omega) (by omega), z32_id (by omega) (by omega)]
  exact ⟨by omega, by omega, hQ⟩
theorem g_load {d w r b wd at' : Int} {t : Nat} {L : Int → Int} {H : Int → Int → Int} {Qr Qt : Int → zS → Prop} (h : gS d w r (t, L, H)) (hp : gPl d w r H) (hb : 0 ≤ b ∧ b < r * gGr d w * (w - 1)) (hw : gWd wd) (ha : 0 ≤ at' ∧ at' + 8 ≤ L wd ∧ L wd ≤ 1000000) (hQ : Qr 0 (t, L, gLd d w r H wd at' (gSo w b))) : zEnds 80 57 0 [(23, 12), (0, b), (11, wd), (0, at')] [] (t, L, H) Qr Qt :=
  v_57 (g_spotOf h hb (g_loadSpot h hp (gSo_rg h.1 hb).1 hw ha hQ))
/-- Volume.putAt -/
theorem g_putAt {d w r s wd at' : Int} {t : Nat} {L : Int → Int} {H : Int → Int → Int} {Qr Qt : Int → zS → Prop} (h : gS d w r (t, L, H)) (hp : gPl d w r H) (hs : 0 ≤ s ∧ s < r * gPo d w) (hw : wd ≠ 8 ∧ wd ≠ 3 ∧ 0 ≤ at' ∧ at' + 8 ≤ L wd)
    (hn : H 13 s = -1 → Qr 1 (t, L, H)) (h0 : H 13 s ≠ -1 → H 3 11 = 1 → Qr 0 (t, L, H)) (h1 : H 13 s ≠ -1 → H 3 11 ≠ 1 → Qr 1 (t, L, gPut H (gAt d w r H s) (s % gPo d w + 1) wd at')) : zEnds 80 58 0 [(23, 12), (0, s), (11, wd), (0, at')] [] (t, L, H) Qr Qt := by
  have hl : L 13 = r * gPo d w := h.2.1.2.1.1
  have q := gSp_rg h.1 hs
  have hps := hp s hs.1 hs.2
  refine v_58 ⟨⟨hs.1, by show s < L 13; omega⟩, fun z => ⟨Or.inr rfl, hn z⟩, fun z => ⟨⟨hs.1, by show s < L 13; omega⟩, ?_⟩⟩
  have z : ¬ H 13 s = -1 := z
  refine g_rowOf h hs (g_tagOf h hs (g_put h (x := H 13 s) (by omega) (by omega) hw (fun y => ⟨fun _ => ⟨Or.inl rfl, h0 z y⟩, fun u => absurd rfl u⟩) (fun y => ⟨fun u => absurd u (by decide), fun _ => ⟨Or.inr rfl, h1 z y⟩⟩)))
/-- Volume.canMiss -/
theorem g_canMiss {d w r x : Int} {S : zS} {Qr Qt : Int → zS → Prop} (h : gS d w r S) (hp : gPl d w r S.2.2) (h1 : (∀ s, 0 ≤ s → s < r * gPo d w → S.2.2 13 s = x → ¬ gFault d w r S.2.2 s) → Qr 1 S) (h0 : (∃ s, 0 ≤ s ∧ s < r * gPo d w ∧ S.2.2 13 s = x ∧ gFault d w r S.2.2 s) → Qr 0 S) : zEnds 80 50 0 [(23, 12), (0, x), (9, 0)] [] S Qr Qt := by
  have hl : S.2.1 13 = r * gPo d w := h.2.1.2.1.1
  have hN : S.2.2 1 6 = r * gPo d w := h.2.2.1.1.2.2.2.2.2.2.1
  have p := gPo_rg h.1
  have h3 := h.1.2.2.1
  have h6 := h.1.2.2.2.2.2.1
  have key : ∀ (n : Nat) (s : Int), 0 ≤ s → s + n = r * gPo d w → (∀ u, 0 ≤ u → u < s → S.2.2 13 u = x → ¬ gFault d w r S.2.2 u) → zEnds 80 50 2 [(23, 12), (0, x), (0, s)] [] S Qr Qt := by
    intro n
    induction n with
    | zero =>
      intro s s1 s2 hall
      exact v_50_2 ⟨fun _ => ⟨Or.inr rfl, h1 (fun u u1 u2 u3 => hall u u1 (by omega) u3)⟩, fun z => absurd (by rw [hN]; omega) z⟩
    | succ n ih =>
      intro s s1 s2 hall
      have q := gSp_rg h.1 (s := s) (by omega)
      have es : z32 (s + 1) = s + 1 := z32_id (by omega) (by omega)
      refine v_50_2 ⟨fun z => absurd z (by rw [hN]; omega), fun _ => ⟨⟨s1, by omega⟩, fun z => ?_, fun z => g_hasFault h hp (by omega) (fun y => ⟨fun u => absurd u (by decide), fun _ => ⟨Or.inl rfl, h0 ⟨s, s1, by omega, Classical.not_not.mp z, y⟩⟩⟩) (fun y => ⟨fun _ => ?_, fun u => absurd rfl u⟩)⟩⟩
      · rw [es]
        refine ih (s + 1) (by omega) (by omega) (fun u u1 u2 u3 => ?_)
        by_cases e : u = s
        · rw [e] at u3; exact absurd u3 z
        · exact hall u u1 (by omega) u3
      · rw [es]
        refine ih (s + 1) (by omega) (by omega) (fun u u1 u2 u3 => ?_)
        by_cases e : u = s
        · rw [e]; exact y
        · exact hall u u1 (by omega) u3
  have hpos : 0 ≤ r * gPo d w := Int.mul_nonneg (by omega) (by omega)
  exact v_50 (key (r * gPo d w).toNat 0 (by omega) (by omega) (fun u u1 u2 => by omega))
