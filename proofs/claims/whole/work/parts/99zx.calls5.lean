/-! write, move. -/
section CALLS5
variable {d w r : Int} {t : Nat} {L : Int → Int} {H M X : zHp} {Qr Qt : Int → zS → Prop}
theorem q_move (ht : 118 ≤ t) (hX : lR X H) (hz : zhR (t, L, H)) (h : rAll d w r t L H H) (x y u v : Int) (hx : z32 x = x) (hy : z32 y = y) (hu : z32 u = u) (hv : z32 v = v) : cOK rP 272 152 [(20, 0), (0, x), (0, y), (0, u), (0, v), (9, 0)] 257 [(29, 35), (0, x), (0, y), (0, u), (0, v), (9, 0)] X t L H := by
  have l28 : L 28 = 64 := h.1.1.1.1.2.1.2.2.2.2.2.2.2.2.2.1
  refine cOK_rel (Q := fun M a H1 => ((0 ≤ x ∧ x ≤ 63) ∧ (1 ≤ y ∧ y ≤ 65535) ∧ (0 ≤ u ∧ u ≤ 63) ∧ (1 ≤ v ∧ v ≤ 65535) ∧ H 0 11 = 1) ∧ oQ d w r t L 3 x y u v M (zupd M 35 0 0) a H1) (TT := fun k => (k = 1 ∧ ¬ ((0 ≤ x ∧ x ≤ 63) ∧ (1 ≤ y ∧ y ≤ 65535) ∧ (0 ≤ u ∧ u ≤ 63) ∧ (1 ≤ v ∧ v ≤ 65535))) ∨ (k = 2 ∧ ((0 ≤ x ∧ x ≤ 63) ∧ (1 ≤ y ∧ y ≤ 65535) ∧ (0 ≤ u ∧ u ≤ 63) ∧ (1 ≤ v ∧ v ≤ 65535)) ∧ H 0 11 = 0)) ht hX hz h (za_c (za_i hx (za_i hy (za_i hu (za_i hv (za_9 za_0)))))) (za_m (za_i hx (za_i hy (za_i hu (za_i hv (za_9 za_0)))))) rfl (fun M hM => ?_) (fun a H1 M hM q => ?_) (fun k q => ?_)
  · refine v_152 (k_inode ht (fun cx => k_name ht (fun cy => k_inode ht (fun cu => k_name ht (fun cv => k_on2 ht (fun on0 => ?_) (fun off => ⟨rfl, Or.inr ⟨rfl, ⟨cx, cy, cu, cv⟩, off⟩⟩)) (fun c => ⟨rfl, Or.inl ⟨rfl, fun z => c z.2.2.2⟩⟩)) (fun c => ⟨rfl, Or.inl ⟨rfl, fun z => c z.2.2.1⟩⟩)) (fun c => ⟨rfl, Or.inl ⟨rfl, fun z => c z.2.1⟩⟩)) (fun c => ⟨rfl, Or.inl ⟨rfl, fun z => c z.1⟩⟩))
    have on : H 0 11 = 1 := by rcases hM.on with z | z <;> omega
    have hM1 : rAll d w r t L H (zupd M 35 0 0) := hM.up
    obtain ⟨C, hn⟩ := hM1.ison on
    have op := o_move (d := d) (w := w) (r := r) (t := t) (L := L) (H := H) (G := zupd M 35 0 0) l28 hn.g (x := x) (nm := y) (to := u) (tn := v) (by omega) cy (by omega) cv
    exact o_does (za_o ⟨by decide, by decide⟩ (za_i hx (za_i hy (za_i hu (za_i hv (za_9 (za_9 (za_9 (za_9 za_0))))))))) hz hM1.1 hn op.1 op.2 (fun _ => aMov_good hn.g ⟨gBl_ge h.1.1.1.1.1, gBl_le h.1.1.1.1.1⟩ (by omega) cy (by omega) cv) (fun a H1 fc q => ⟨H1, rfl, fc, ⟨cx, cy, cu, cv, on⟩, oQ.of (fM.rfl'.upd (by decide)) zupd_at q⟩)
  · obtain ⟨⟨cx, cy, cu, cv, on⟩, q⟩ := q
    have onM : zupd M 35 0 0 35 12 = 1 := by rcases (hM.up (k := 0)).on with z | z <;> omega
    refine j_257 (m_isBad (fun _ => ⟨fun z => absurd rfl z, fun _ => m_isBadName (fun _ => ⟨fun z => absurd rfl z, fun _ => m_isBad (fun _ => ⟨fun z => absurd rfl z, fun _ => m_isBadName (fun _ => ⟨fun _ => j_257_34 (m_f0 ⟨fun z => absurd rfl z, fun _ => ⟨fun _ => j_257_59 (m_f0 ⟨fun _ => ?_, fun z => absurd rfl z⟩), fun z => absurd (by show zupd M 35 0 0 35 12 ≠ 0; omega) z⟩⟩), fun z => absurd rfl z⟩) (fun z => absurd cv z)⟩) (fun z => absurd cu z)⟩) (fun z => absurd cy z)⟩) (fun z => absurd cx z))
    rw [zupd_zupd]
    exact q
  · have bad : ∀ t' : Nat, zEnds 118 257 29 [(29, 35), (0, x), (0, y), (0, u), (0, v), (9, 0)] [] (t', L, H) (fun _ S2 => S2 = (t', L, zupd H 35 0 1)) (fun _ _ => False) := fun t' => j_257_29 (j_257_34 (m_f1 ⟨fun _ => j_257_66 rfl, fun z => absurd (by decide) z⟩))
    rcases q with ⟨e, c⟩ | ⟨e, c, off⟩
    · refine ⟨1, by rw [e]; rfl, by decide, fun t' ht' => j_257 (m_isBad (fun cx => ⟨fun z => absurd rfl z, fun _ => m_isBadName (fun cy => ⟨fun z => absurd rfl z, fun _ => m_isBad (fun cu => ⟨fun z => absurd rfl z, fun _ => m_isBadName (fun cv => absurd ⟨cx, cy, cu, cv⟩ c) (fun _ => ⟨fun z => absurd z (by decide), fun _ => bad t'⟩)⟩) (fun _ => ⟨fun _ => bad t', fun z => absurd (by decide) z⟩)⟩) (fun _ => ⟨fun _ => bad t', fun z => absurd (by decide) z⟩)⟩) (fun _ => ⟨fun _ => bad t', fun z => absurd (by decide) z⟩))⟩
    · have offM : H 35 12 = 0 := by rcases h.on with z | z <;> omega
      exact ⟨2, by rw [e]; rfl, by decide, fun t' ht' => j_257 (m_isBad (fun _ => ⟨fun z => absurd rfl z, fun _ => m_isBadName (fun _ => ⟨fun z => absurd rfl z, fun _ => m_isBad (fun _ => ⟨fun z => absurd rfl z, fun _ => m_isBadName (fun _ => ⟨fun _ => j_257_34 (m_f0 ⟨fun z => absurd rfl z, fun _ => ⟨fun z => absurd (by show zupd H 35 0 0 35 12 = 0; rw [zupd_no (by decide)]; exact offM) z, fun _ => j_257_59 (m_f1 ⟨fun z => absurd z (by decide), fun _ => j_257_66 (by rw [zupd_zupd])⟩)⟩⟩), fun z => absurd rfl z⟩) (fun z => absurd c.2.2.2 z)⟩) (fun z => absurd c.2.2.1 z)⟩) (fun z => absurd c.2.1 z)⟩) (fun z => absurd c.1 z))⟩
/-- the tape is emptied -/
theorem rAll.tape (h : rAll d w r t L H M) : rAll d w r t L (zupd H 0 10 0) (zupd M 35 17 0) := by
  have eH : ∀ q i, ¬ (q = 0 ∧ i = 10) → zupd H 0 10 0 q i = H q i := fun q i y => zupd_no y
  have eM : ∀ q i, ¬ (q = 35 ∧ i = 17) → zupd M 35 17 0 q i = M q i := fun q i y => zupd_no y
  obtain ⟨hm, ho⟩ := h
  have gi : gI d w r t L (zupd H 0 10 0) := hm.1.1.keep (fun q i hq => eH q i (by omega)) (fun q i hq => by rw [eH q i (by omega)]; exact hm.1.1.1.2.2.2 q i (by omega))
  refine ⟨⟨⟨gi, hm.1.2.1.upd (by omega), hm.1.2.2.1, fun i i0 i1 => by rw [eH (-8) i (by omega)]; exact hm.1.2.2.2 i i0 i1⟩, ⟨by rw [zupd_at, zupd_at], by rw [zupd_at]; decide, fun k k0 k1 => ?_⟩, ⟨by rw [eH 16 4 (by omega), eM 35 15 (by omega)]; exact hm.2.2.1.1, by rw [eH 16 4 (by omega)]; exact hm.2.2.1.2.1, by rw [eH 16 5 (by omega)]; exact hm.2.2.1.2.2⟩, by rw [eH 18 8 (by omega)]; exact hm.2.2.2.1, fun b b0 b1 => by rw [eH 23 b (by omega)]; exact hm.2.2.2.2 b b0 b1⟩, ?_⟩
  · rw [zupd_at] at k1
    omega
  · rcases ho with ⟨C, on⟩ | ⟨C, O, off⟩
    · exact Or.inl ⟨C, on.keep (fun q i hq => eH q i (by omega)) (fun q i hq => eM q i (by omega)) (fun q i hq => eH q i (by omega)) (fun q i hq => eM q i (by omega)) (eH 0 11 (by omega))⟩
    · refine Or.inr ⟨C, O, off.keep (fun q i hq => eH q i (by omega)) (fun q i hq => eM q i (by omega)) ?_⟩
      have l := off.2.1
      unfold rL at l ⊢
      rw [eH 3 11 (by omega), eH 3 10 (by omega), eM 35 13 (by omega), eM 35 14 (by omega)]
      exact l
theorem q_write (ht : 118 ≤ t) (hX : lR X H) (hz : zhR (t, L, H)) (h : rAll d w r t L H H) (x y : Int) (hx : z32 x = x) (hy : z32 y = y) : cOK rP 269 149 [(20, 0), (0, x), (0, y), (9, 0), (9, 0)] 254 [(29, 35), (0, x), (0, y), (9, 0)] X t L H := by
  have l33 : L 33 = 512 := h.1.1.1.1.2.1.2.2.2.2.2.2.2.2.2.2.2.2.2.1
  refine cOK_rel (Q := fun M v H1 => ((0 ≤ x ∧ x ≤ 63) ∧ H 0 11 = 1) ∧ oQ d w r t L 1 x y (H 0 10) 0 M (zupd (zupd M 35 0 0) 35 17 0) v H1) (TT := fun c => (c = 1 ∧ ¬ (0 ≤ x ∧ x ≤ 63)) ∨ (c = 2 ∧ (0 ≤ x ∧ x ≤ 63) ∧ H 0 11 = 0)) ht hX hz h (za_c (za_i hx (za_i hy (za_9 (za_9 za_0))))) (za_m (za_i hx (za_i hy (za_9 za_0)))) rfl (fun M hM => ?_) (fun v H1 M hM q => ?_) (fun c q => ?_)
  · refine v_149 (k_inode ht (fun cx => k_on2 ht (fun u => ?_) (fun u => ⟨rfl, Or.inr ⟨rfl, cx, u⟩⟩)) (fun cx => ⟨rfl, Or.inl ⟨rfl, cx⟩⟩))
    have on : H 0 11 = 1 := by rcases hM.on with z | z <;> omega
    have hM1 : rAll d w r t L (zupd H 0 10 0) (zupd (zupd M 35 0 0) 35 17 0) := hM.up.tape
    obtain ⟨C, hn⟩ := hM1.ison (by rw [zupd_no (by decide)]; exact on)
    have tp := hM.1.2.1
    have n512 := tp.2.1
    have hzn : z32 (H 0 10) = H 0 10 := z32_id (by omega) (by omega)
    have hB : 96 ≤ r * gGr d w * (w - 1) ∧ r * gGr d w * (w - 1) ≤ 768 := ⟨gBl_ge h.1.1.1.1.1, gBl_le h.1.1.1.1.1⟩
    have op1 : oC (r * gGr d w * (w - 1)) t L (zupd H 0 10 0) (mTr (zupd (zupd M 35 0 0) 35 17 0)) 129 [(27, 27), (0, x), (0, y), (12, 33), (0, H 0 10), (9, 0), (9, 0), (9, 0), (9, 0), (9, 0)] (aFill (r * gGr d w * (w - 1)) (mTr (zupd (zupd M 35 0 0) 35 17 0)) x y (H 0 10) (M 42)) := fun F f33 hF hE Qr Qt hQ => t_writeBytes l33 hF hE hn.g (by omega) n512 (fun k k0 k1 => by rw [f33 k, zupd_no (by omega)]; exact (tp.2.2 k k0 k1).symm) hy hQ
    have op2 : oM d w r t L (zupd (zupd M 35 0 0) 35 17 0) (mTr (zupd (zupd M 35 0 0) 35 17 0)) 1 x y (H 0 10) 0 (aFill (r * gGr d w * (w - 1)) (mTr (zupd (zupd M 35 0 0) 35 17 0)) x y (H 0 10) (M 42)) := fun G' N g42 hA Qr Qt hQ => v_248 ⟨fun z => absurd z (by decide), fun _ => ⟨fun _ => m_fills hA hn.g (by omega) n512 (fun k k0 k1 => by rw [g42 k, zupd_no (by omega), zupd_no (by omega)]) hQ, fun z => absurd rfl z⟩⟩
    have zz : zhR (t, L, zupd H 0 10 0) := hz.upd rfl rfl (fun z => absurd z (by decide)) (fun _ => rfl)
    refine o_does (za_o ⟨by decide, by decide⟩ (za_i hx (za_i hy (za_o ⟨by decide, by decide⟩ (za_i hzn (za_9 (za_9 (za_9 (za_9 (za_9 za_0)))))))))) zz hM1.1 hn op1 op2 (aFill_good hn.g hB (by omega) n512 (fun k k0 k1 => by rw [tp.2.2 k k0 k1]; omega)) (fun v H1 fc q => ⟨H1, rfl, fun q i hq => by rw [fc q i hq, zupd_no (by omega)], ⟨cx, on⟩, oQ.of ((fM.rfl'.upd (by decide)).upd (by decide)) (by rw [zupd_no (by decide), zupd_at]) q⟩)
  · obtain ⟨⟨cx, on⟩, q⟩ := q
    have onM : zupd M 35 0 0 35 12 = 1 := by rcases (hM.up (k := 0)).on with z | z <;> omega
    have e17 : M 35 17 = H 0 10 := hM.1.2.1.1.symm
    refine j_254 (m_isBad (fun _ => m_f0 ⟨fun u => absurd rfl u, fun _ => ⟨fun _ => j_254_25 (m_f0 ⟨fun _ => ?_, fun u => absurd rfl u⟩), fun u => absurd (by show zupd M 35 0 0 35 12 ≠ 0; omega) u⟩⟩) (fun u => absurd cx u))
    rw [zupd_zupd]
    show zEnds 118 249 0 [(29, 35), (0, 1), (0, x), (0, y), (0, zupd M 35 0 0 35 17), (0, 0), (9, 0)] [] (t, L, zupd (zupd M 35 0 0) 35 17 0) _ _
    rw [zupd_no (show ¬ ((35 : Int) = 35 ∧ (17 : Int) = 0) by decide), e17]
    exact q
  · rcases q with ⟨e, c⟩ | ⟨e, c, off⟩
    · exact ⟨1, by rw [e]; rfl, by decide, fun t' ht' => j_254 (m_isBad (fun cx => absurd cx c) (fun _ => m_f1 ⟨fun _ => j_254_32 rfl, fun u => absurd (by decide) u⟩))⟩
    · have offM : H 35 12 = 0 := by rcases h.on with z | z <;> omega
      exact ⟨2, by rw [e]; rfl, by decide, fun t' ht' => j_254 (m_isBad (fun _ => m_f0 ⟨fun u => absurd rfl u, fun _ => ⟨fun u => absurd (by show zupd H 35 0 0 35 12 = 0; rw [zupd_no (by decide)]; exact offM) u, fun _ => j_254_25 (m_f1 ⟨fun u => absurd u (by decide), fun _ => j_254_32 (by rw [zupd_zupd])⟩)⟩⟩) (fun u => absurd c u))⟩
end CALLS5
