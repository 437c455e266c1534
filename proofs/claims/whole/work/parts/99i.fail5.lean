/-! fail: the call. -/
section FAIL5
variable {d w r x : Int} {t : Nat} {L : Int → Int} {H K M N X : zHp} {Qr Qt : Int → zS → Prop} {C : Int → Int → Int} {O : Int → Int}
theorem rAll.ao (h : rAll d w r t L H M) : ∃ C, vA d w r C H ∧ vOne d w r H := by
  rcases h.2 with ⟨C, h2⟩ | ⟨C, O, h2⟩
  · exact ⟨C, h2.1.1.1.1.2, h2.1.1.1.2.2.2.2⟩
  · exact ⟨C, h2.1.1.1.1.2.1, h2.1.1.1.2.2.2.2⟩
theorem sub_112 {a b y c e : zV} : zsub [a, b, (9, 0), c, e] [a, b, y, c, e] := ⟨rfl, fun i v hv n => by
  match i, hv with
  | 0, hv => exact hv
  | 1, hv => exact hv
  | 2, hv => exact absurd (by rw [← Option.some.inj hv]) n
  | 3, hv => exact hv
  | 4, hv => exact hv
  | _ + 5, hv => cases hv⟩
theorem q_fail (ht : 118 ≤ t) (hX : lR X H) (hz : zhR (t, L, H)) (h : rAll d w r t L H H) (x : Int) (hx32 : z32 x = x) : cOKb rP 278 158 [(20, 0), (0, x)] 208 [(29, 35), (0, x), (9, 0), (9, 0), (9, 0)] X t L H := by
  have hk := h.1.1.1.1.1
  have d16 := hk.2.1
  have w3 := hk.2.2.1
  have w8 := hk.2.2.2.1
  have po := gPo_rg hk
  refine cOKb_rel (Q := fun M v H1 => (0 ≤ x ∧ x < d) ∧ (((H 4 x = 0 ∨ ¬ ∀ s, 0 ≤ s → s < r * gPo d w → H 13 s = x → ¬ gFault d w r H s) ∧ v = 0 ∧ H1 = H) ∨ ((H 4 x ≠ 0 ∧ ∀ s, 0 ≤ s → s < r * gPo d w → H 13 s = x → ¬ gFault d w r H s) ∧ v = 1 ∧ dK r x H H1 ∧ gI d w r t L H1 ∧ (H 0 11 ≠ 0 → ∀ s, 0 ≤ s → s < r * gPo d w → H1 13 s = if H 13 s = x then -1 else H 13 s) ∧ (H 0 11 = 0 → ∀ s, 0 ≤ s → s < r * gPo d w → H1 13 s = gFound d w r H1 s)))) (TT := fun c => c = 1 ∧ ¬ (0 ≤ x ∧ x < d)) ht hX hz h (za_c (za_i hx32 za_0)) (za_m (za_i hx32 (za_9 (za_9 (za_9 za_0))))) rfl (fun M hM => ?_) (fun v H1 M hM q => ?_) (fun c q => ?_)
  · have g := hM.1.1.1
    refine v_158 (k_disk g.1 ht (fun c => g_isLive g.1 c ⟨fun u => ⟨Or.inl rfl, H, rfl, fC.rfl', Or.inl rfl, c, Or.inl ⟨Or.inl u, rfl, rfl⟩⟩, fun u => g_canMiss g.1 g.2 (fun y => ⟨fun _ => ?_, fun z => absurd (by decide) z⟩) (fun y => ⟨fun z => absurd rfl z, fun _ => ⟨Or.inl rfl, H, rfl, fC.rfl', Or.inl rfl, c, Or.inl ⟨Or.inr (fun z => by obtain ⟨s, s0, s1, s2, s3⟩ := y; exact z s s0 s1 s2 s3), rfl, rfl⟩⟩⟩)⟩) (fun c => ⟨rfl, rfl, c⟩))
    refine g_takeOut g.1 c (fun H' gS' e0 e4 e56 e9 => g_forget gS' (by omega) ?_)
    have f13 : ∀ i, H' 13 i = H 13 i := fun i => e0 13 i (by decide) (by decide) (by decide) (by decide)
    have fo : ∀ q i, q ≠ 13 → gFo d w r H' x 0 q i = H' q i := fun q i hq => by unfold gFo; rw [if_neg (fun z => hq z.1)]
    have fo13 : ∀ s, 0 ≤ s → s < r * gPo d w → gFo d w r H' x 0 13 s = if H 13 s = x then -1 else H 13 s := fun s s0 s1 => by
      unfold gFo
      rw [f13]
      by_cases z : H 13 s = x
      · rw [if_pos ⟨rfl, s0, s1, z⟩, if_pos z]
      · rw [if_neg (fun y => z y.2.2.2), if_neg z]
    have gF : gI d w r t L (gFo d w r H' x 0) := by
      obtain ⟨hk', hl, hn, hb⟩ := gS'
      refine ⟨⟨hk', hl, hn.keep (fun i => fo 1 i (by decide)) (fun i => fo 2 i (by decide)) (fo 3 0 (by decide)) (fo 3 1 (by decide)) (fo 18 1 (by decide)), fun o i ho => ?_⟩, fun s s0 s1 => ?_⟩
      · show gFo d w r H' x 0 o i = 0 ∨ gFo d w r H' x 0 o i = 1
        rw [fo o i (by omega)]; exact hb o i ho
      · rw [fo13 s s0 s1]
        have := g.2 s s0 s1
        by_cases z : H 13 s = x
        · rw [if_pos z]; omega
        · rw [if_neg z]; exact this
    have dk : ∀ G : zHp, (∀ q i, q ≠ 13 → G q i = H' q i) → dK r x H G := fun G eG => by
      refine ⟨⟨fun c' => ?_, fun i => by rw [eG 7 i (by decide)]; exact e0 7 i (by decide) (by decide) (by decide) (by decide), fun i => by rw [eG 8 i (by decide)]; exact e0 8 i (by decide) (by decide) (by decide) (by decide)⟩, fun i => ?_, fun j => ?_, fun q i a b c' e f => by rw [eG q i f]; exact e0 q i a b c' e⟩
      · rw [eG 5 c' (by decide), eG 6 c' (by decide)]; exact e56 c'
      · rw [eG 4 i (by decide)]; exact e4 i
      · rw [eG 9 j (by decide)]; exact e9 j
    have o11 : gFo d w r H' x 0 0 11 = H 0 11 := by rw [fo 0 11 (by decide)]; exact e0 0 11 (by decide) (by decide) (by decide) (by decide)
    refine ⟨fun z => ⟨Or.inr rfl, _, rfl, fun q i hq => by rw [fo q i (by omega), e0 q i (by omega) (by omega) (by omega) (by omega)], Or.inr rfl, c, Or.inr ⟨⟨u, y⟩, rfl, dk _ fo, gF, fun _ => fo13, fun z' => ?_⟩⟩, fun z => ?_⟩
    · have z : gFo d w r H' x 0 0 11 ≠ 0 := z
      rw [o11] at z
      exact absurd z' z
    · have z : gFo d w r H' x 0 0 11 = 0 := Classical.not_not.mp z
      rw [o11] at z
      refine g_findPlaces gF.1 ⟨Or.inr rfl, _, rfl, ?_, Or.inr rfl, c, Or.inr ⟨⟨u, y⟩, rfl, dk _ (fun q i hq => ?_), gI.fp gF.1, fun z' => absurd z z', fun _ s s0 s1 => ?_⟩⟩
      · intro q i hq
        unfold gFP
        rw [if_neg (by omega), fo q i (by omega), e0 q i (by omega) (by omega) (by omega) (by omega)]
      · unfold gFP
        rw [if_neg (fun y => hq y.1), fo q i hq]
      · have fp : ∀ q i, q ≠ 13 → gFP d w r (gFo d w r H' x 0) 0 q i = gFo d w r H' x 0 q i := fun q i hq => by unfold gFP; rw [if_neg (fun y => hq y.1)]
        have e1 : gFP d w r (gFo d w r H' x 0) 0 13 s = gFound d w r (gFo d w r H' x 0) s := by unfold gFP; rw [if_pos ⟨rfl, s0, s1⟩]
        rw [e1]
        exact (gFound_congr (fun i => fp 5 i (by decide)) (fun i => fp 6 i (by decide)) (fun i => fp 7 i (by decide))).symm
  · obtain ⟨c, q⟩ := q
    have hM1 : rAll d w r t L H (zupd M 35 0 0) := hM.up
    have t0 : zupd M 35 0 0 35 0 = 0 := zupd_at
    have fm0 : fM M (zupd M 35 0 0) := fM.rfl'.upd (by decide)
    have e1 : M 35 1 = d := hM.1.1.2.1.2.2.2.1.1
    refine j_208 ⟨fun z => by omega, fun _ => ⟨fun _ => j_208_18 (m_f0 ⟨fun u => absurd rfl u, fun _ => ?_⟩), fun z => absurd (by show x < M 35 1; omega) z⟩⟩
    generalize zupd M 35 0 0 = M1 at hM1 t0 fm0
    have ms := hM1.1.1.2.1
    have l37 : L 37 = 16 := ms.2.1.2.1
    have l43 : L 43 = 49152 := ms.2.1.2.2.2.2.2.2.2.1
    have l44 : L 44 = 64 := ms.2.1.2.2.2.2.2.2.2.2
    have e2 : M1 35 2 = w := ms.2.2.2.1.2.1
    have e4 : M1 35 4 = gGr d w := ms.2.2.2.1.2.2.2.1
    have hK := hM1.k
    have e37 : H 4 x = M1 37 x := hK.1 x c.1 c.2
    obtain ⟨C, hA, hO⟩ := hM1.ao
    have mi := r_miss (x := x) hk hM1.1.1.1.2 hK hM1.pl hA hO (by omega)
    have no : (H 4 x = 0 ∨ ¬ ∀ s, 0 ≤ s → s < r * gPo d w → H 13 s = x → ¬ gFault d w r H s) → v = 0 ∧ H1 = H := fun u => by
      rcases q with ⟨-, q⟩ | ⟨q1, -⟩
      · exact q
      · rcases u with u | u
        · exact absurd u q1.1
        · exact absurd q1.2 u
    have end0 : (H 4 x = 0 ∨ ¬ ∀ s, 0 ≤ s → s < r * gPo d w → H 13 s = x → ¬ gFault d w r H s) → zEnds 118 208 42 [(9, 0), (9, 0), (9, 0), (9, 0), (9, 0)] [] (t, L, M1) (fun b S2 => b = v ∧ ∃ H2, S2 = (t, L, H2) ∧ fM M H2 ∧ H2 35 0 = 0 ∧ rAll d w r t L H1 H2) (fun _ _ => False) := fun u => by
      have n := no u
      refine j_208_42 ⟨Or.inl rfl, n.1.symm, M1, rfl, fm0, t0, ?_⟩
      rw [n.2]; exact hM1
    refine ⟨by show 0 ≤ x ∧ x < L 37; omega, fun u => end0 (Or.inl (by rw [e37]; exact u)), fun u => m_isNeeded ms hM1.mok (fun y => ⟨fun z => absurd z (by decide), fun _ => end0 (Or.inr (fun z => ?_))⟩) (fun y => ⟨fun _ => ?_, fun z => absurd rfl z⟩)⟩
    · obtain ⟨row, g, r0, r1, g0, g1, g2⟩ := y
      have := mi.mp z row g r0 r1 g0 g1
      omega
    · have u : M1 37 x ≠ 0 := u
      have ok := mi.mpr y
      obtain ⟨-, q2, D, gi, qon, qoff⟩ : (H 4 x ≠ 0 ∧ ∀ s, 0 ≤ s → s < r * gPo d w → H 13 s = x → ¬ gFault d w r H s) ∧ v = 1 ∧ dK r x H H1 ∧ gI d w r t L H1 ∧ (H 0 11 ≠ 0 → ∀ s, 0 ≤ s → s < r * gPo d w → H1 13 s = if H 13 s = x then -1 else H 13 s) ∧ (H 0 11 = 0 → ∀ s, 0 ≤ s → s < r * gPo d w → H1 13 s = gFound d w r H1 s) := by
        rcases q with ⟨q, -⟩ | q
        · rcases q with q | q
          · exact absurd (by rw [← e37]; exact q) u
          · exact absurd ok q
        · exact q
      have De := D.2.2.2
      have cm : ∀ N : zHp, (∀ q i, (q = 36 ∨ q = 42 ∨ (q = 35 ∧ (i = 1 ∨ i = 2 ∨ i = 3 ∨ i = 4 ∨ i = 6 ∨ i = 15 ∨ i = 17))) → N q i = M1 q i) → rCm d w r t L H1 N := fun N eN => hM1.1.keep2 gi (fun q i hq => De q i (by omega) (by omega) (by omega) (by omega) (by omega)) eN
      have sN : mS d w r L (zupd M1 37 x 0) := ms.upd (by omega)
      have zw : z32 (M1 35 2 - 1) = w - 1 := by rw [e2]; exact z32_id (by omega) (by omega)
      refine ⟨by show z32 (M1 35 2 - 1) ≠ 0; omega, fun z => ?_, fun z => ?_⟩
      · -- on
        have z : M1 35 12 ≠ 0 := z
        have on : H 0 11 = 1 ∧ M1 35 12 = 1 := by rcases hM1.on with u | u <;> omega
        refine j_208_111 (j_208_112 ⟨⟨by show 0 ≤ x ∧ x < L 37; omega, Or.inl rfl⟩, m_fgL sN ?_⟩)
        have o12 : zupd M1 37 x 0 35 12 = 1 := by rw [zupd_ne (by decide)]; exact on.2
        rw [if_neg (by rw [o12]; decide)]
        refine j_208_184 ⟨fun u => absurd rfl u, fun _ => ⟨Or.inr rfl, q2.symm, _, rfl, fun q i hq => ?_, ?_, ?_⟩⟩
        · unfold mFg
          rw [if_neg (by omega), zupd_ne (by omega)]
          exact fm0 q i hq
        · unfold mFg
          rw [if_neg (by omega), zupd_ne (by decide)]
          exact t0
        · have eN : ∀ q i, q ≠ 37 → q ≠ 41 → mFg d w r (zupd M1 37 x 0) x (16 * r) q i = M1 q i := fun q i a b => by unfold mFg; rw [if_neg (fun u => b u.1), zupd_ne a]
          refine ⟨cm _ (fun q i hq => eN q i (by omega) (by omega)), ?_⟩
          obtain ⟨C, hn⟩ := hM1.ison on.1
          refine Or.inl ⟨C, hn.dead hk c D (qon (by omega)) ok eN (fun i => by unfold mFg; rw [if_neg (by omega)]) (fun i i0 i1 i2 => ?_)⟩
          unfold mFg
          rw [zupd_ne (by decide)]
          by_cases y : M1 41 i = x
          · rw [if_pos ⟨rfl, i0, i1, i2, y⟩, if_pos y]
          · rw [if_neg (fun u => y u.2.2.2.2), if_neg y]
      · -- off
        have z : M1 35 12 = 0 := Classical.not_not.mp z
        have of : H 0 11 = 0 := by rcases hM1.on with u | u <;> omega
        have off := qoff of
        obtain ⟨C', O, hn⟩ : ∃ C O, rOff d w r C O H M1 := by
          rcases hM1.2 with ⟨C, h2⟩ | h2
          · have := h2.2.2.2.2; omega
          · exact h2
        have fin : ∀ y0, ((y0 = 1 ∧ M1 35 20 = 1 ∧ H 13 (gSo w (M1 35 19)) = x) ∨ (y0 = 0 ∧ ¬ (M1 35 20 = 1 ∧ H 13 (gSo w (M1 35 19)) = x))) → zEnds 118 208 112 [(29, 35), (0, x), (9, 0), (9, 0), (9, 0)] [(0, y0)] (t, L, M1) (fun b S2 => b = v ∧ ∃ H2, S2 = (t, L, H2) ∧ fM M H2 ∧ H2 35 0 = 0 ∧ rAll d w r t L H1 H2) (fun _ _ => False) := fun y0 hy => by
          refine j_208_112 ⟨⟨by show 0 ≤ x ∧ x < L 37; omega, Or.inl rfl⟩, m_fgL sN ?_⟩
          rw [if_pos (by rw [zupd_ne (by decide)]; exact z)]
          rcases hy with ⟨hy, h20, hx'⟩ | ⟨hy, hno⟩
          · refine j_208_184 ⟨fun _ => ?_, fun u => absurd (by rw [hy]; decide) u⟩
            have rc : 0 ≤ M1 35 19 ∧ M1 35 19 < r * gGr d w * (w - 1) := by
              rcases hn.1.2.2.2 with ⟨a, -⟩ | ⟨-, a, -⟩
              · omega
              · exact a
            have bl := gBl_le hk
            have e19 : zupd M1 37 x 0 35 19 = M1 35 19 := zupd_ne (by decide)
            refine m_rvL l43 l44 (by rw [e19]; omega) ⟨q2.symm, _, rfl, fun q i hq => ?_, ?_, ?_⟩
            · rw [zupd_ne (by omega)]
              unfold mRv
              rw [if_neg (by omega), zupd_ne (by omega)]
              exact fm0 q i hq
            · rw [zupd_no (by decide)]
              unfold mRv
              rw [if_neg (by omega), zupd_ne (by decide)]
              exact t0
            · have eN : ∀ q i, q ≠ 37 → q ≠ 43 → ¬ (q = 35 ∧ i = 20) → zupd (mRv (zupd M1 37 x 0) 64) 35 20 0 q i = M1 q i := fun q i a b c' => by
                rw [zupd_no c']; unfold mRv; rw [if_neg (fun u => b u.1), zupd_ne a]
              refine ⟨cm _ (fun q i hq => eN q i (by omega) (by omega) (by omega)), Or.inr (hn.dead hk c D off ok eN (fun i => by rw [zupd_ne (by decide)]; unfold mRv; rw [if_neg (by omega)]) (Or.inl ⟨h20, hx', ?_, zupd_at⟩))⟩
              funext j
              rw [zupd_ne (by decide)]
              unfold mRv vRev
              rw [e19, zupd_ne (by decide), zupd_ne (by decide)]
              by_cases y : 64 * M1 35 19 ≤ j ∧ j < 64 * M1 35 19 + 64
              · rw [if_pos ⟨rfl, y⟩, if_pos y]
              · rw [if_neg (fun u => y u.2), if_neg y]
          · refine j_208_184 ⟨fun u => absurd hy u, fun _ => ⟨Or.inr rfl, q2.symm, _, rfl, fun q i hq => by rw [zupd_ne (by omega)]; exact fm0 q i hq, by rw [zupd_ne (by decide)]; exact t0, ?_⟩⟩
            have eN : ∀ q i, q ≠ 37 → q ≠ 43 → ¬ (q = 35 ∧ i = 20) → zupd M1 37 x 0 q i = M1 q i := fun q i a _ _ => zupd_ne a
            exact ⟨cm _ (fun q i hq => zupd_ne (by omega)), Or.inr (hn.dead hk c D off ok eN (fun i => rfl) (Or.inr ⟨hno, funext (fun i => zupd_ne (by decide)), zupd_ne (by decide)⟩))⟩
        refine ⟨fun y' => j_208_111 (fin 0 (Or.inr ⟨rfl, fun u => by have y' : M1 35 20 = 0 := y'; omega⟩)), fun y' => ?_⟩
        have y' : M1 35 20 ≠ 0 := y'
        obtain ⟨h20, rc⟩ : M1 35 20 = 1 ∧ (0 ≤ M1 35 19 ∧ M1 35 19 < r * gGr d w * (w - 1)) := by
          rcases hn.1.2.2.2 with ⟨a, -⟩ | ⟨a, b, -⟩
          · exact absurd a y'
          · exact ⟨a, b⟩
        have sr := gSo_row hk rc
        obtain ⟨hs, -, -, g3, b800⟩ := gSo_rg hk rc
        have qs := gSp_rg hk hs
        refine ⟨by show M1 35 4 ≠ 0; omega, by show M1 35 4 ≠ 0; omega, by show z32 (M1 35 2 - 1) ≠ 0; omega, ?_⟩
        have n0 : 0 ≤ M1 35 19 / (w - 1) := Int.ediv_nonneg rc.1 (by omega)
        have n1 : M1 35 19 / (w - 1) ≤ M1 35 19 := Int.ediv_le_self _ rc.1
        have gm := Int.emod_nonneg (M1 35 19 / (w - 1)) (show gGr d w ≠ 0 by omega)
        have gl := Int.emod_lt_of_pos (M1 35 19 / (w - 1)) (show 0 < gGr d w by omega)
        have wb : 0 ≤ w * (M1 35 19 / (w - 1) % gGr d w) := Int.mul_nonneg (by omega) gm
        have wm := Int.emod_nonneg (M1 35 19) (show w - 1 ≠ 0 by omega)
        dsimp only
        rw [zw, e2, e4, zdiv_pos (a := M1 35 19) rc.1 (by omega) (by omega), zdiv_pos (a := M1 35 19 / (w - 1)) n0 (by omega) (by omega), zrem_pos n0, zrem_pos rc.1, z32_id (x := w * (M1 35 19 / (w - 1) % gGr d w)) (by omega) (by omega), z32_id (x := w * (M1 35 19 / (w - 1) % gGr d w) + M1 35 19 % (w - 1)) (by omega) (by omega), sr.1, sr.2.1]
        have ep : mFound d w M1 (gSo w (M1 35 19) / gPo d w) (gSo w (M1 35 19) % gPo d w) = H 13 (gSo w (M1 35 19)) := by
          rw [hM1.pl _ hs.1 hs.2]
          unfold mPs mPl
          rw [if_pos z]
        refine m_found ms qs.1 qs.2.1 ?_
        rw [ep]
        exact ⟨fun y2 => j_208_111 (fin 0 (Or.inr ⟨rfl, fun u => y2 u.2⟩)), fun y2 => (fin 1 (Or.inl ⟨rfl, h20, Classical.not_not.mp y2⟩)).sub sub_112⟩
  · obtain ⟨e, c⟩ := q
    have e1 : H 35 1 = d := h.1.1.2.1.2.2.2.1.1
    refine ⟨1, by rw [e]; rfl, by decide, fun t' ht' => ?_⟩
    have q : zEnds 118 208 18 [(29, 35), (0, x), (9, 0), (9, 0), (9, 0)] [(0, 1), (29, 35)] (t', L, H) (fun _ S2 => S2 = (t', L, zupd H 35 0 1)) (fun _ _ => False) := j_208_18 (m_f1 ⟨fun _ => j_208_42 ⟨Or.inl rfl, rfl⟩, fun u => absurd (by decide) u⟩)
    exact j_208 ⟨fun _ => j_208_13 q, fun _ => ⟨fun z => absurd z (by show ¬ x < H 35 1; omega), fun _ => j_208_13 q⟩⟩
end FAIL5
