/-! cut. -/
section QCUT
variable {d w r : Int} {t : Nat} {L : Int → Int} {H M X : zHp} {Qr Qt : Int → zS → Prop}
/-- what is left to show of does -/
def oQ (d w r : Int) (t : Nat) (L : Int → Int) (wh a b c e : Int) (M0 M : zHp) (v : Int) (H1 : zHp) : Prop := zEnds 118 249 0 [(29, 35), (0, wh), (0, a), (0, b), (0, c), (0, e), (9, 0)] [] (t, L, M) (fun y S2 => y = v ∧ ∃ M1, S2 = (t, L, M1) ∧ fM M0 M1 ∧ M1 35 0 = 0 ∧ rAll d w r t L H1 M1) (fun _ _ => False)
theorem oQ.of {wh a b c e v : Int} {M0 H1 : zHp} (f : fM M0 M) (h0 : M 35 0 = 0) (h : zEnds 118 249 0 [(29, 35), (0, wh), (0, a), (0, b), (0, c), (0, e), (9, 0)] [] (t, L, M) (fun b S2 => b = v ∧ ∃ M1, S2 = (t, L, M1) ∧ fM M M1 ∧ M1 35 0 = M 35 0 ∧ rAll d w r t L H1 M1) (fun _ _ => False)) : oQ d w r t L wh a b c e M0 M v H1 := by
  refine h.imp (fun y S2 u => ?_) (fun _ _ u => u)
  obtain ⟨e1, M1, e2, a1, a2, a3⟩ := u
  exact ⟨e1, M1, e2, f.tr a1, a2.trans h0, a3⟩
theorem q_cut (ht : 118 ≤ t) (hX : lR X H) (hz : zhR (t, L, H)) (h : rAll d w r t L H H) (x y : Int) (hx : z32 x = x) (hy : z32 y = y) : cOK rP 270 150 [(20, 0), (0, x), (0, y), (9, 0)] 255 [(29, 35), (0, x), (0, y)] X t L H := by
  refine cOK_rel (Q := fun M v H1 => ((0 ≤ x ∧ x ≤ 63) ∧ H 0 11 = 1) ∧ oQ d w r t L 2 x y 0 0 M (zupd M 35 0 0) v H1) (TT := fun c => (c = 1 ∧ ¬ (0 ≤ x ∧ x ≤ 63)) ∨ (c = 2 ∧ (0 ≤ x ∧ x ≤ 63) ∧ H 0 11 = 0)) ht hX hz h (za_c (za_i hx (za_i hy (za_9 za_0)))) (za_m (za_i hx (za_i hy za_0))) rfl (fun M hM => ?_) (fun v H1 M hM q => ?_) (fun c q => ?_)
  · refine v_150 (k_inode ht (fun cx => k_on2 ht (fun u => ?_) (fun u => ⟨rfl, Or.inr ⟨rfl, cx, u⟩⟩)) (fun cx => ⟨rfl, Or.inl ⟨rfl, cx⟩⟩))
    have on : H 0 11 = 1 := by rcases hM.on with z | z <;> omega
    have hM1 : rAll d w r t L H (zupd M 35 0 0) := hM.up
    obtain ⟨C, hn⟩ := hM1.ison on
    have op := o_cut (d := d) (w := w) (r := r) (t := t) (L := L) (H := H) (G := zupd M 35 0 0) (s := y) hn.g (i := x) (by omega)
    exact o_does (za_o ⟨by decide, by decide⟩ (za_i hx (za_i hy (za_9 za_0)))) hz hM1.1 hn op.1 op.2 (aCut_good hn.g ⟨gBl_ge h.1.1.1.1.1, gBl_le h.1.1.1.1.1⟩ (by omega)) (fun v H1 fc q => ⟨H1, rfl, fc, ⟨cx, on⟩, oQ.of (fM.rfl'.upd (by decide)) zupd_at q⟩)
  · obtain ⟨⟨cx, on⟩, q⟩ := q
    have onM : zupd M 35 0 0 35 12 = 1 := by rcases (hM.up (k := 0)).on with z | z <;> omega
    refine j_255 (m_isBad (fun _ => m_f0 ⟨fun u => absurd rfl u, fun _ => ⟨fun _ => j_255_25 (m_f0 ⟨fun _ => ?_, fun u => absurd rfl u⟩), fun u => absurd (by show zupd M 35 0 0 35 12 ≠ 0; omega) u⟩⟩) (fun u => absurd cx u))
    rw [zupd_zupd]
    exact q
  · rcases q with ⟨e, c⟩ | ⟨e, c, off⟩
    · exact ⟨1, by rw [e]; rfl, by decide, fun t' ht' => j_255 (m_isBad (fun cx => absurd cx c) (fun _ => m_f1 ⟨fun _ => j_255_32 rfl, fun u => absurd (by decide) u⟩))⟩
    · have offM : H 35 12 = 0 := by rcases h.on with z | z <;> omega
      exact ⟨2, by rw [e]; rfl, by decide, fun t' ht' => j_255 (m_isBad (fun _ => m_f0 ⟨fun u => absurd rfl u, fun _ => ⟨fun u => absurd (by show zupd H 35 0 0 35 12 = 0; rw [zupd_no (by decide)]; exact offM) u, fun _ => j_255_25 (m_f1 ⟨fun u => absurd u (by decide), fun _ => j_255_32 (by rw [zupd_zupd])⟩)⟩⟩) (fun u => absurd c u))⟩
end QCUT
