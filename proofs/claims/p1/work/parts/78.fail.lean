/-! One call on a new object: fail. -/
section FAIL
variable {d w r : Int} {t : Nat} {L : Int → Int} {H X : zHp} {Qr Qt : Int → zS → Prop}
theorem p_failC (ht : 118 ≤ t) (h : kF d w r t L H) {x : Int} (hx : 0 ≤ x ∧ x < d) : cR 158 [(20, 0), (0, x)] t L H 1 := by
  have on : H 0 11 = 1 := h.2.2.2.1
  have e4 : H 4 x = 1 := h.1.2.1.1.2.2.2.2 x hx.1 hx.2
  have nf : ∀ s, 0 ≤ s → s < r * gPo d w → ¬ gFault d w r H s := fun s s0 s1 u => by
    obtain ⟨o, o0, o1, o2, o3⟩ := u
    have hs := gStripe h.1.1.1.1 ⟨s0, s1⟩
    exact o3 (p_sound h (by omega))
  refine v_158 (k_disk h.1.1.1 ht (fun _ => g_isLive h.1.1.1 hx ⟨fun u => absurd u (by show ¬ H 4 x = 0; omega), fun _ => g_canMiss h.1.1.1 h.1.1.2 (fun _ => ⟨fun _ => g_takeOut h.1.1.1 hx (fun H1 g1 g2 g3 g4 g5 => g_forget g1 (by omega) ⟨fun _ => ⟨Or.inr rfl, rfl, _, rfl, fun q i hq => ?_⟩, fun u => absurd ?_ u⟩), fun u => absurd (by decide) u⟩) (fun u => by
    obtain ⟨s, s0, s1, -, s3⟩ := u
    exact absurd s3 (nf s s0 s1))⟩) (fun u => absurd hx u))
  · unfold gFo
    rw [if_neg (by omega)]
    exact g2 q i (by omega) (by omega) (by omega) (by omega)
  · show gFo d w r H1 x 0 0 11 ≠ 0
    unfold gFo
    rw [if_neg (by omega), g2 0 11 (by decide) (by decide) (by decide) (by decide), on]
    decide
theorem p_failM {x : Int} (hx : 0 ≤ x ∧ x < d) : mR 208 [(29, 35), (0, x), (9, 0), (9, 0), (9, 0)] L (mF d w r L) 1 := by
  intro t H ht hm
  have hk := hm.1.1
  have po := gPo_rg hk
  obtain ⟨d1, d2, w1, w2, wd, r1, r2⟩ := hk
  have hk := hm.1.1
  have hm2 : mF d w r L (zupd H 35 0 0) := hm.up
  have e1 : H 35 1 = d := hm.1.2.2.2.1.1
  have l37 : L 37 = 16 := hm.1.2.1.2.1
  have l41 : L 41 = 1024 := hm.1.2.1.2.2.2.2.2.1
  have e37 : zupd H 35 0 0 37 x ≠ 0 := (p_mval hm2 hx (o := 0) (by omega)).1
  have e12 : zupd H 35 0 0 35 12 = 1 := hm2.2.1.1
  have e2 : zupd H 35 0 0 35 2 = w := hm2.1.2.2.2.1.2.1
  have need : ∀ row g, 0 ≤ row → row < r → 0 ≤ g → g < gGr d w → gCnt (mBd d w (zupd H 35 0 0) row x) (g * w) w.toNat ≤ 1 := fun row g a b c e => by
    have m1 : (g + 1) * w ≤ gGr d w * w := Int.mul_le_mul_of_nonneg_right (by omega) (by omega)
    have m2 : 0 ≤ g * w := Int.mul_nonneg c (by omega)
    have m3 : gPo d w = gGr d w * w := Int.mul_comm _ _
    rw [Int.add_mul, Int.one_mul] at m1
    have one : ∀ p, g * w ≤ p → p < g * w + w → mBd d w (zupd H 35 0 0) row x p → gDk d row p = x := fun p p0 p1 q => by
      have pl := p_mpl hm2 (row := row) (p := p) ⟨a, b⟩ (by omega)
      have dg := gDk_rg (row := row) (pos := p) hk
      rcases q with q | q | q
      · omega
      · omega
      · exact absurd q (p_mspt hm2 ⟨a, b⟩ (by omega))
    refine gCnt_le1 _ _ (fun i j i0 i1 j0 j1 p q => ?_)
    have a1 := one i i0 (by omega) p
    have a2 := one j j0 (by omega) q
    exact gDk_inj hk (row := row) (by omega) (by omega) (by omega)
  have key : ∀ (n : Nat) (k : Int) (G : zHp), 0 ≤ k → k + n = 16 * r → fM H G → G 35 0 = 0 → (∀ i, G 35 i = zupd H 35 0 0 35 i) → zEnds 118 208 123 [(29, 35), (0, x), (9, 0), (0, 0), (0, k)] [] (t, L, G) (fun b S2 => b = 1 ∧ ∃ H2, S2 = (t, L, H2) ∧ H2 35 0 = 0 ∧ fM H H2) (fun _ _ => False) := by
    intro n
    induction n with
    | zero =>
      intro k G k0 k1 f g0 g35
      refine j_208_123 ⟨fun _ => j_208_184 ⟨fun u => absurd rfl u, fun _ => ⟨Or.inr rfl, rfl, G, rfl, g0, f⟩⟩, fun u => absurd ?_ u⟩
      show z32 (16 * G 35 3) ≤ k
      rw [g35, hm2.1.2.2.2.1.2.2.1, z32_id (x := 16 * r) (by omega) (by omega)]
      omega
    | succ n ih =>
      intro k G k0 k1 f g0 g35
      have nx : ∀ G' : zHp, fM H G' → G' 35 0 = 0 → (∀ i, G' 35 i = zupd H 35 0 0 35 i) → zEnds 118 208 178 [(29, 35), (0, x), (9, 0), (0, 0), (0, k)] [] (t, L, G') (fun b S2 => b = 1 ∧ ∃ H2, S2 = (t, L, H2) ∧ H2 35 0 = 0 ∧ fM H H2) (fun _ _ => False) := fun G' a b c => j_208_178 (by
        rw [z32_id (x := k + 1) (by omega) (by omega)]
        exact ih (k + 1) G' (by omega) (by omega) a b c)
      refine j_208_123 ⟨fun u => absurd u ?_, fun _ => ⟨fun u => absurd u ?_, fun _ => ⟨by decide, fun _ => nx G f g0 g35, fun _ => ⟨by show 0 ≤ k ∧ k < L 41; omega, fun _ => nx G f g0 g35, fun _ => ⟨by show 0 ≤ k ∧ k < L 41; omega, nx _ (f.upd (by decide)) (by rw [zupd_ne (by decide)]; exact g0) (fun i => by rw [zupd_ne (by decide)]; exact g35 i)⟩⟩⟩⟩⟩
      · show ¬ z32 (16 * G 35 3) ≤ k
        rw [g35, hm2.1.2.2.2.1.2.2.1, z32_id (x := 16 * r) (by omega) (by omega)]
        omega
      · show ¬ G 35 12 = 0
        rw [g35, e12]
        decide
  refine j_208 ⟨fun u => by omega, fun _ => ⟨fun _ => j_208_18 (m_f0 ⟨fun u => absurd rfl u, fun _ => ⟨by show 0 ≤ x ∧ x < L 37; omega, fun u => absurd u e37, fun _ => m_isNeeded hm2.1 (p_mok hm2) (fun u => ?_) (fun _ => ⟨fun _ => ⟨?_, fun _ => j_208_111 (j_208_112 ⟨⟨by show 0 ≤ x ∧ x < L 37; omega, Or.inl rfl⟩, ?_⟩), fun u => absurd (by show zupd H 35 0 0 35 12 ≠ 0; omega) u⟩, fun u => absurd rfl u⟩)⟩⟩), fun u => absurd (by show x < H 35 1; omega) u⟩⟩
  · obtain ⟨row, g, a, b, c, e, q⟩ := u
    have := need row g a b c e
    omega
  · show z32 (zupd H 35 0 0 35 2 - 1) ≠ 0
    rw [e2, z32_id (x := w - 1) (by omega) (by omega)]
    omega
  · refine key (16 * r).toNat 0 _ (by omega) (by omega) ((fM.rfl'.upd (by decide)).upd (by decide)) ?_ (fun i => zupd_ne (by decide))
    rw [zupd_ne (by decide)]
    show zupd H 35 0 0 35 0 = 0
    exact zupd_at
theorem p_fail (ht : 118 ≤ t) (hX : lR X H) (h : kF d w r t L H) (hm : mF d w r L H) (x : Int) : cOKb pT 278 158 [(20, 0), (0, x)] 208 [(29, 35), (0, x), (9, 0), (9, 0), (9, 0)] X t L H := by
  by_cases c : 0 ≤ x ∧ x < d
  · exact cOKb_ret (v := 1) ht hX hm (Or.inr rfl) (p_failC ht h c) (p_failM c)
  · refine cOKb_thr (c := 1) (k := 1) ht hX hm (v_158 (k_disk h.1.1.1 ht (fun u => absurd u c) (fun _ => ⟨rfl, H, rfl, fC.rfl'⟩))) rfl (by decide) (fun t' H' ht' hm' => ?_)
    have e1 : H' 35 1 = d := hm'.1.2.2.2.1.1
    have q : zEnds 118 208 18 [(29, 35), (0, x), (9, 0), (9, 0), (9, 0)] [(0, 1), (29, 35)] (t', L, H') (fun _ S2 => ∃ H2, S2 = (t', L, H2) ∧ H2 35 0 = 1 ∧ fM H' H2) (fun _ _ => False) := j_208_18 (m_f1 ⟨fun _ => j_208_42 ⟨Or.inl rfl, _, rfl, zupd_at, fM.rfl'.upd (by decide)⟩, fun u => absurd (by decide) u⟩)
    exact j_208 ⟨fun _ => j_208_13 q, fun _ => ⟨fun z => absurd z (by show ¬ x < H' 35 1; omega), fun _ => j_208_13 q⟩⟩
end FAIL
