/-! A commit ahead of an operation. -/
section FIRST3
variable {d w r : Int} {t : Nat} {L : Int → Int} {H M X : zHp} {Qr Qt : Int → zS → Prop} {C : Int → Int → Int}
/-- DiskPool.commitFirst -/
theorem c_first (hz : zhR (t, L, H)) (h : rAll d w r t L H M) (hn : rOn d w r C H M)
    (hok : ∀ C1 H1 M1 v, 0 ≤ v → (∀ b, 25 ≤ b → b < r * gGr d w * (w - 1) → H1 22 b = 0) → rOn d w r C1 H1 (zupd M1 35 29 (z32 (M1 35 29 + 1))) → rCm d w r t L H1 (zupd M1 35 29 (z32 (M1 35 29 + 1))) → (∀ q i, (35 ≤ q ∨ q < 0 ∨ q = 33) → H1 q i = H q i) → (∀ q i, (q < 35 ∨ 54 ≤ q ∨ q = 42 ∨ (45 ≤ q ∧ q < 51)) → M1 q i = M q i) → M1 35 0 = M 35 0 → mRet t L 204 0 [(29, 35), (9, 0), (9, 0), (9, 0)] M v M1 → Qr 1 (t, L, H1))
    (hbad : ∀ H1 M1, rAll d w r t L H1 M1 → H1 0 11 = 0 → (∀ q i, (35 ≤ q ∨ q < 0) → H1 q i = H q i) → (∀ q i, (q < 35 ∨ 54 ≤ q ∨ q = 42 ∨ (45 ≤ q ∧ q < 51)) → M1 q i = M q i) → M1 35 0 = M 35 0 → mRet t L 204 0 [(29, 35), (9, 0), (9, 0), (9, 0)] M (-9) M1 → Qr 0 (t, L, H1)) : zEnds 80 176 0 [(20, 0)] [] (t, L, H) Qr Qt := by
  refine v_176 (c_commit hz h hn (fun C1 H1 M1 v v0 a0 a1 a2 a3 a4 a5 a6 a7 => ?_) (fun H1 M1 a1 a2 a3 a4 a5 a7 => ?_))
  · refine v_174 ⟨fun _ => ⟨fun _ => ⟨Or.inr rfl, ?_⟩, fun y => absurd (by omega) y⟩, fun y => absurd (by omega) y⟩
    have e13 : H1 0 13 = M1 35 29 := by
      rw [a3 0 13 (by decide) (by decide) (by decide) (by decide) (by decide) (by decide) (by decide) (by decide) (by decide) (by decide) (by decide) (by decide) (by decide) (by decide), a5 29 (by decide) (by decide) (by decide) (by decide) (by decide) (by decide)]
      exact hn.2.2.1.2.2.2.2.2.2
    show Qr 1 (t, L, zupd (zupd H1 0 12 0) 0 13 (z32 (zupd H1 0 12 0 0 13 + 1)))
    rw [zupd_no (show ¬ ((0 : Int) = 0 ∧ (13 : Int) = 12) by decide), e13]
    have eH : ∀ q i, ¬ (q = 0 ∧ (i = 12 ∨ i = 13)) → zupd (zupd H1 0 12 0) 0 13 (z32 (M1 35 29 + 1)) q i = H1 q i := fun q i y => by rw [zupd_no (by omega), zupd_no (by omega)]
    have eM : ∀ q i, ¬ (q = 35 ∧ i = 29) → zupd M1 35 29 (z32 (M1 35 29 + 1)) q i = M1 q i := fun q i y => zupd_no y
    have gi : gI d w r t L (zupd (zupd H1 0 12 0) 0 13 (z32 (M1 35 29 + 1))) := a2.1.1.keep (fun q i hq => eH q i (by omega)) (fun q i hq => by rw [eH q i (by omega)]; exact a2.1.1.1.2.2.2 q i (by omega))
    refine hok C1 _ M1 v v0 (fun b b0 b1 => by rw [eH 22 b (by omega)]; exact a0 b b0 b1) (a1.on (fun q i y => eH q i y) (fun q i y => eM q i (by omega)) ⟨?_, by rw [zupd_at, zupd_at]⟩) (a2.keep2 gi (fun q i hq => eH q i (by omega)) (fun q i hq => eM q i (by omega))) (fun q i hq => ?_) (fun q i hq => ?_) ?_ a7
    · rw [zupd_no (by decide), zupd_at, eM 35 28 (by decide), a6]
    · rw [eH q i (by omega)]
      exact a3 q i (by omega) (by omega) (by omega) (by omega) (by omega) (by omega) (by omega) (by omega) (by omega) (by omega) (by omega) (by omega) (by omega) (by omega)
    · exact a4 q i (by omega) (by omega) (by omega) (by omega) (by omega) (by omega) (by omega) (by omega) (by omega)
    · exact a5 0 (by decide) (by decide) (by decide) (by decide) (by decide) (by decide)
  · refine v_174 ⟨fun y => absurd rfl y, fun _ => r_gone a2 a1 (fun H2 b1 b2 => ⟨fun y => absurd rfl y, fun _ => ⟨Or.inl rfl, hbad H2 M1 b1 ?_ (fun q i hq => ?_) (fun q i hq => ?_) ?_ a7⟩⟩)⟩
    · obtain ⟨C', O, x1, -⟩ := a1
      rcases b1.on with u | u
      · have := x1.2.2.2.1.1
        omega
      · exact u.1
    · rw [b2 q i hq]
      exact a3 q i (by omega) (by omega) (by omega) (by omega) (by omega) (by omega) (by omega) (by omega) (by omega) (by omega) (by omega) (by omega) (by omega) (by omega)
    · exact a4 q i (by omega) (by omega) (by omega) (by omega) (by omega) (by omega) (by omega) (by omega) (by omega)
    · exact a5 0 (by decide) (by decide) (by decide) (by decide) (by decide) (by decide)
end FIRST3
