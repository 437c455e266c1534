/-! The start: a new class and a new reference go together. -/
theorem gDk_sur {d w r row x : Int} (hk : gOK d w r) (hx : 0 ≤ x ∧ x < d) : ∃ p, (0 ≤ p ∧ p < d) ∧ gDk d row p = x := by
  apply Classical.byContradiction
  intro z
  have nx : ∀ p, 0 ≤ p → p < d → gDk d row p ≠ x := fun p p0 p1 e => z ⟨p, ⟨p0, p1⟩, e⟩
  have q := zpigeon (f := fun k => if x < gDk d row k then gDk d row k - 1 else gDk d row k) (a := 0) (m := (d - 1).toNat) d.toNat (fun k k0 k1 => ?_) (fun k j k0 k1 j0 j1 e => ?_)
  · have := hk.1
    omega
  · have g := gDk_rg (row := row) (pos := k) hk
    have n := nx k k0 (by omega)
    show 0 ≤ (if x < gDk d row k then gDk d row k - 1 else gDk d row k) ∧ (if x < gDk d row k then gDk d row k - 1 else gDk d row k) < 0 + ((d - 1).toNat : Int)
    by_cases c : x < gDk d row k
    · rw [if_pos c]; omega
    · rw [if_neg c]; omega
  · have e : (if x < gDk d row k then gDk d row k - 1 else gDk d row k) = (if x < gDk d row j then gDk d row j - 1 else gDk d row j) := e
    have n1 := nx k k0 (by omega)
    have n2 := nx j j0 (by omega)
    refine gDk_inj hk (row := row) ⟨k0, by omega⟩ ⟨j0, by omega⟩ ?_
    by_cases c : x < gDk d row k
    · rw [if_pos c] at e
      by_cases c2 : x < gDk d row j
      · rw [if_pos c2] at e; omega
      · rw [if_neg c2] at e; omega
    · rw [if_neg c] at e
      by_cases c2 : x < gDk d row j
      · rw [if_pos c2] at e; omega
      · rw [if_neg c2] at e; omega
theorem nA0_good (B : Int) : aGood B nA0 := by
  have nd : ∀ d e, ¬ aNd nA0 d e := fun d e h => by
    have a := h.2.2.1
    have b : nA0.1 (20 * d + 1) = 0 := (nN0_k h.1.1).2 1 (by decide)
    rw [b] at a
    omega
  refine ⟨nA0_G B, nA0_by B, ⟨fun b b0 b1 => ?_, fun b b0 b1 => Or.inl ?_⟩, fun i i0 _ z => ⟨(nN0_k i0).2 1 (by decide), ?_⟩, fun i k i0 i1 k0 k1 => ?_, fun d e h => absurd h (nd d e), fun d e d' e' h => absurd h (nd d e), fun j j0 j1 => ⟨1, ?_⟩⟩
  · show nO0 b = 100
    rw [nO0_at, if_pos ⟨b0, b1⟩]
  · show nO0 b = 0
    rw [nO0_at, if_neg (by omega)]
  · have z : nN0 (20 * i) = 0 := z
    rw [nN0_at] at z
    by_cases c : 20 * i = 0
    · rw [if_pos c] at z; omega
    · omega
  · have s0 : nA0.1 (20 * i + 1) = 0 := (nN0_k i0).2 1 (by decide)
    have t0 := ((nA0_G B).2 i i0 i1).1
    rw [s0] at k0 t0
    omega
  · show (if j = -1 then -1 else aPar nA0 j) = -1
    rw [if_neg (by omega)]
    unfold aPar
    rcases gFirst_spec (fun d => ∃ e, aNd nA0 d e ∧ aNo nA0 d e = j) 64 0 with u | ⟨-, -, ⟨e, u, -⟩, -⟩
    · exact u.1
    · exact absurd u (nd _ _)
section START
variable {d w r : Int} {t : Nat} {L : Int → Int} {H : zHp} {C : Int → Int → Int}
theorem r_new (h : kF d w r t L H) (hm : mF d w r L H) (h8 : cT8 L H) (hP : kPar d w r C H) : rAll d w r t L H H := by
  have hk := h.1.1.1.1
  have bl := gBl_le hk
  have hB2 := gBl_ge hk
  have po := gPo_rg hk
  have w3 := hk.2.2.1
  have r48 := hk.2.2.2.2.2.1
  have r64 := hk.2.2.2.2.2.2
  have d16 := hk.2.1
  obtain ⟨⟨gi, fr, dat⟩, ⟨k1, k2, k3, k4, k5, k6⟩, c10, c11, c12, c13, c310, c164, c165, c296⟩ := h
  obtain ⟨ms, ⟨m12, m13, m19, m35⟩, ⟨m37, m38, m41, m39, m39r⟩, ⟨m45, m46, m43, m43z⟩, mz⟩ := hm
  have v1 := vS_new hk fr hP
  have sp := gBl_ge hk
  have C20 : ∀ b i, 0 ≤ b → b < r * gGr d w * (w - 1) → 0 ≤ i → i < 8 → C (gSo w b) i = H 20 (8 * b + i) := fun b i b0 b1 i0 i1 => by
    obtain ⟨g0, g1, g2, g3, g4⟩ := gSo_rg hk ⟨b0, b1⟩
    rw [← hP.2.2 (gSo w b) i g0.1 g0.2 i0 i1, dat (gSo w b) i g0.1 g0.2 g3 i0 i1, gBk_so w3 b0]
  have zb : ∀ y : Nat, (0 : Int) % 18446744073709551616 / (y : Int) % 256 = 0 := fun y => by rw [show (0 : Int) % 18446744073709551616 = 0 from rfl, Int.zero_ediv]; rfl
  have own : ∀ b, 25 ≤ b → 0 < nO0 b → b < 59 := fun b b0 o => by
    rw [nO0_at] at o
    by_cases c : b < 59
    · exact c
    · rw [if_neg (by omega)] at o
      omega
  have eV : ∀ b k, 25 ≤ b → b < 59 → 0 ≤ k → k < 64 → ∀ V, mBy (r * gGr d w * (w - 1)) nA0 V b k = H 43 (64 * b + k) := fun b k b0 b1 k0 k1 V => by
    rw [m43 b k b0 b1 k0 k1]
    exact mBy_V b0 (by show nO0 b ≠ 0; rw [nO0_at, if_pos (by omega)]; decide)
  have e19 : ∀ b k, 25 ≤ b → b < 59 → 0 ≤ k → k < 64 → zB8 H 19 (64 * b + k) = H 43 (64 * b + k) := fun b k b0 b1 k0 k9 => by
    rw [aE_by (V := H 43) k1 nN0_N (fun j _ => by unfold zB8; omega) ⟨b0, by omega⟩ bl (by show 0 < nO0 b; rw [nO0_at, if_pos (by omega)]; decide) ⟨k0, k9⟩]
    exact eV b k b0 b1 k0 k9 _
  have by20 : ∀ b k, 0 ≤ b → b < r * gGr d w * (w - 1) → 0 ≤ k → k < 64 → by8 (H 20 (8 * b + k / 8)) (k % 8) = H 43 (64 * b + k) := fun b k b0 b1 k0 k1' => by
    by_cases c : 25 ≤ b ∧ b < 59
    · rw [k5 b (k / 8) c.1 b1 (by omega) (by omega), ← zB8_by ⟨k0, k1'⟩]
      exact e19 b k c.1 c.2 k0 k1'
    · rw [k6 _ (by omega) (by omega), m43z _ (by omega)]
      unfold by8
      exact zb _
  have vv : vVal d w r C (H 43) := fun b k b0 b1 k0 k1' _ => by
    rw [C20 b (k / 8) b0 b1 (by omega) (by omega)]
    exact by20 b k b0 b1 k0 k1'
  have z4 : H 43 4 = 0 := m43z 4 (by decide)
  have J : Jr (r * gGr d w * (w - 1)) (H 43) := ⟨Or.inl z4, nA0, nA0_good _, fun b k b0 b1 k0 k1' o => ⟨fun i i0 i1 _ => by omega, fun _ => eV b k b0 (own b b0 o) k0 k1' _⟩⟩
  have sm : aSame (r * gGr d w * (w - 1)) nA0 (H 45, H 46, H 47) := by
    refine ⟨fun i i0 i1 => ⟨⟨m45 _ (by omega) (by omega), m45 _ (by omega) (by omega), m45 _ (by omega) (by omega)⟩, fun e e0 e1 => ?_⟩, m46, fun b k b0 b1 o _ _ => ?_⟩
    · have e1 : e < nN0 (20 * i + 2) := e1
      rw [(nN0_k i0).2 2 (by decide)] at e1
      omega
    · have := own b (by omega) o
      omega
  have gd := sm.good bl (nA0_good _)
  have vs : vS d w r C H H := by
    refine ⟨v1.1, ⟨fun x x0 x1 => ?_, fun x o x0 x1 o0 o1 => ?_, v1.2.1.2.2.1, fun j => by rw [mz 40 j (by omega)]; decide⟩, ⟨by rw [fr.1.1, m13]; rfl, by rw [fr.1.1]; decide, by rw [c310]; exact (m35 14 (by decide) (by decide) (by decide) (by decide) (by decide) (by decide) (by decide) (by decide) (by decide)).symm⟩, ⟨m12, m35 20 (by decide) (by decide) (by decide) (by decide) (by decide) (by decide) (by decide) (by decide) (by decide)⟩, fun s s0 s1 => ?_⟩
    · rw [fr.1.2.2.2.2 x x0 x1, m37 x, if_pos ⟨x0, x1⟩]
    · have a := v1.2.1.2.1 x o x0 x1 o0 o1
      have l1 : H 37 x = 1 := by rw [m37 x, if_pos ⟨x0, x1⟩]
      have l2 := m38 x o x0 x1 o0 o1
      have cr := gCe_rg hk ⟨x0, x1⟩ ⟨o0, o1⟩
      have s1 : H 4 x = 1 := fr.1.2.2.2.2 x x0 x1
      refine ⟨⟨fun _ => ⟨by rw [l1]; decide, by rw [l2]; decide⟩, fun _ => by rw [fr.1.2.1 _ cr.1 (by omega)]; decide⟩, fun _ _ => ?_, fun k k0 k1' => ?_, a.2.2.2⟩
      · by_cases c : o = r
        · rw [c, fr.2.2.2 x x0 x1, m39r x x0 x1]
        · obtain ⟨p, hp, e⟩ := gDk_sur (row := o) hk ⟨x0, x1⟩
          rw [← e, fr.2.2.1 o p o0 (by omega) hp.1 hp.2, m39 o p o0 (by omega) hp.1 hp.2]
      · have q := a.2.2.1 k k0 k1'
        rw [q]
        have e40 : mStar d r H 40 (70 * (65 * x + o) + k) = H 40 (70 * (65 * x + o) + k) := (mz 40 _ (by omega)).symm
        have e37 : mStar d r H 37 x = H 37 x := by rw [l1]; exact s1
        rw [e40, e37]
    · have q := gSp_rg hk ⟨s0, s1⟩
      rw [fr.2.1 s s0 s1]
      unfold mPs mPl
      rw [if_neg (by rw [m12]; decide)]
      exact (m41 (s / gPo d w) (s % gPo d w) q.1.1 q.1.2 q.2.1.1 q.2.1.2).symm
  have rg0 : 0 < r * gGr d w := Int.mul_pos (by omega) (by omega)
  refine ⟨⟨⟨gi, ms, h8⟩, ⟨by rw [c10]; exact (m35 17 (by decide) (by decide) (by decide) (by decide) (by decide) (by decide) (by decide) (by decide) (by decide)).symm, by rw [c10]; decide, fun k k0 k1' => by omega⟩, ⟨by rw [c164]; exact (m35 15 (by decide) (by decide) (by decide) (by decide) (by decide) (by decide) (by decide) (by decide) (by decide)).symm, by rw [c164]; omega, c165⟩, k2, k3⟩, Or.inl ⟨C, vs, vv, ⟨⟨aE_of (V := H 43) gd ⟨hB2, bl⟩ (fun b k b0 b1 k0 k1' o => ?_), gd⟩, fun b j b0 b1 j0 j1 => (C20 b j (by omega) b1 j0 j1).symm, fun b b0 b1 _ _ j j0 j1 => (k5 b j b0 b1 j0 j1).symm, ?_, ⟨z4, ?_⟩, ⟨by rw [c12]; exact (m35 28 (by decide) (by decide) (by decide) (by decide) (by decide) (by decide) (by decide) (by decide) (by decide)).symm, by rw [c13]; exact (m35 29 (by decide) (by decide) (by decide) (by decide) (by decide) (by decide) (by decide) (by decide) (by decide)).symm⟩⟩, J, c11⟩⟩
  · have o' : 0 < nO0 b := by
      have := m46 b (by omega) (by omega)
      rw [← this]
      exact o
    have b59 := own b b0 o'
    rw [e19 b k b0 b59 k0 k1', sm.mby bl ⟨b0, b1⟩ ⟨k0, k1'⟩ o']
    exact (eV b k b0 b59 k0 k1' _).symm
  · rw [gCnt_none _ _ (fun b b0 b1 u => ?_)]
    · decide
    · obtain ⟨k, k0, k1', u⟩ := u
      refine u ?_
      by_cases c : b < 59
      · have o' : 0 < nA0.2.1 b := by show 0 < nO0 b; rw [nO0_at, if_pos (by omega)]; decide
        rw [sm.mby bl ⟨b0, by omega⟩ ⟨k0, k1'⟩ o']
        exact eV b k b0 c k0 k1' _
      · unfold mBy
        rw [if_pos (Or.inr (by show H 46 b = 0; rw [m46 b (by omega) (by omega), nO0_at, if_neg (by omega)]))]
  · rw [c296]
    unfold jSq
    rw [m43z 0 (by decide), m43z 1 (by decide), m43z 2 (by decide), m43z 3 (by decide)]
    rfl
end START
