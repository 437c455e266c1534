/-! One call on a new object: what is common. -/
theorem h80 : zmdT 80 80 := fun _ _ _ _ _ _ _ _ h => Nat.le_of_ble_eq_true h
theorem h118 : zmdT 118 118 := fun _ _ _ _ _ _ _ _ h => Nat.le_of_ble_eq_true h
theorem zupd_zupd {H : zHp} {o i a b : Int} : zupd (zupd H o i a) o i b = zupd H o i b := by
  funext q j
  unfold zupd
  by_cases c : q = o ∧ j = i
  · rw [if_pos c, if_pos c]
  · rw [if_neg c, if_neg c, if_neg c]
/-- the class as new, as a state -/
def kF (d w r : Int) (t : Nat) (L : Int → Int) (H : zHp) : Prop :=
  (gI d w r t L H ∧ gFr d w r H ∧ gDat d w r (fun b i => H 20 (8 * b + i)) H) ∧
  (aE (r * gGr d w * (w - 1)) nA0 (zB8 H 19) ∧ H 18 8 = 0 ∧ (∀ b, 0 ≤ b → b < r * gGr d w * (w - 1) → H 23 b = 0) ∧ (∀ b, 25 ≤ b → b < r * gGr d w * (w - 1) → H 22 b = 0) ∧ (∀ b j, 25 ≤ b → b < r * gGr d w * (w - 1) → 0 ≤ j → j < 8 → H 20 (8 * b + j) = H 19 (8 * b + j)) ∧ ∀ i, (i < 200 ∨ 472 ≤ i) → i < 8 * (r * gGr d w * (w - 1)) → H 20 i = 0) ∧
  (H 0 10 = 0 ∧ H 0 11 = 1 ∧ H 0 12 = 0 ∧ H 0 13 = 0 ∧ H 3 10 = 0 ∧ H 16 4 = 0 ∧ H 16 5 = 0 ∧ H 29 6 = 0)
/-- the reference as new, as a state -/
def mF (d w r : Int) (L : Int → Int) (H : zHp) : Prop := mS d w r L H ∧ (H 35 12 = 1 ∧ H 35 13 = -1 ∧ H 35 19 = -1 ∧ ∀ j, j ≠ 0 → j ≠ 1 → j ≠ 2 → j ≠ 3 → j ≠ 4 → j ≠ 6 → j ≠ 12 → j ≠ 13 → j ≠ 19 → H 35 j = 0) ∧
  ((∀ x, H 37 x = if 0 ≤ x ∧ x < d then 1 else 0) ∧ (∀ x o, 0 ≤ x → x < d → 0 ≤ o → o ≤ r → H 38 (65 * x + o) = 1) ∧ mPt0 d w r H) ∧
  ((∀ j, 0 ≤ j → j < 1280 → H 45 j = nN0 j) ∧ (∀ j, 0 ≤ j → j < 768 → H 46 j = nO0 j) ∧ (∀ b k, 25 ≤ b → b < 59 → 0 ≤ k → k < 64 → H 43 (64 * b + k) = mBy (r * gGr d w * (w - 1)) nA0 (fun _ => 0) b k) ∧ ∀ j, (j < 1600 ∨ 3776 ≤ j) → H 43 j = 0) ∧
  ∀ o j, (o = 40 ∨ o = 42 ∨ o = 44 ∨ (47 ≤ o ∧ o < 54)) → H o j = 0
theorem mF.of {d w r : Int} {L : Int → Int} {H H' : zHp} (h : mF d w r L H) (e : ∀ q i, 35 ≤ q → q < 54 → ¬ (q = 35 ∧ i = 0) → H' q i = H q i) : mF d w r L H' := by
  obtain ⟨h1, ⟨a1, a2, a3, a4⟩, ⟨b1, b2, b3, b4, b5⟩, ⟨c1, c2, c3, c4⟩, h5⟩ := h
  refine ⟨h1.of (fun i hi => e 35 i (by decide) (by decide) (by omega)) (fun i => e 36 i (by decide) (by decide) (by omega)), ⟨by rw [e 35 12 (by decide) (by decide) (by decide)]; exact a1, by rw [e 35 13 (by decide) (by decide) (by decide)]; exact a2, by rw [e 35 19 (by decide) (by decide) (by decide)]; exact a3, fun j j0 j1 j2 j3 j4 j6 j12 j13 j19 => by rw [e 35 j (by decide) (by decide) (by omega)]; exact a4 j j0 j1 j2 j3 j4 j6 j12 j13 j19⟩, ⟨fun x => by rw [e 37 x (by decide) (by decide) (by omega)]; exact b1 x, fun x o x0 x1 o0 o1 => by rw [e 38 _ (by decide) (by decide) (by omega)]; exact b2 x o x0 x1 o0 o1, fun row p u0 u1 u2 u3 => by rw [e 41 _ (by decide) (by decide) (by omega)]; exact b3 row p u0 u1 u2 u3, fun row p u0 u1 u2 u3 => by rw [e 39 _ (by decide) (by decide) (by omega)]; exact b4 row p u0 u1 u2 u3, fun x x0 x1 => by rw [e 39 _ (by decide) (by decide) (by omega)]; exact b5 x x0 x1⟩, ⟨fun j j0 j1 => by rw [e 45 j (by decide) (by decide) (by omega)]; exact c1 j j0 j1, fun j j0 j1 => by rw [e 46 j (by decide) (by decide) (by omega)]; exact c2 j j0 j1, fun b k u0 u1 u2 u3 => by rw [e 43 _ (by decide) (by decide) (by omega)]; exact c3 b k u0 u1 u2 u3, fun j hj => by rw [e 43 j (by decide) (by decide) (by omega)]; exact c4 j hj⟩, fun o j ho => by rw [e o j (by omega) (by omega) (by omega)]; exact h5 o j ho⟩
theorem mNew.F {d w r : Int} {L0 L : Int → Int} {H0 H : zHp} (h : mNew d w r L0 L H0 H) : mF d w r L H := by
  obtain ⟨h1, ⟨a1, a2, a3, a4⟩, h3, h4, h5, -⟩ := h
  exact ⟨h1, ⟨a1, a2, a3, fun j _ j1 j2 j3 j4 j6 j12 j13 j19 => a4 j j1 j2 j3 j4 j6 j12 j13 j19⟩, h3, h4, fun o j ho => h5 o j (by omega)⟩
theorem kNew.F {d w r : Int} {L0 L1 L2 : Int → Int} {H0 H1 H2 : zHp} {t : Nat} (h : kNew d w r L0 L1 H0 H1) (hm : mNew d w r L1 L2 H1 H2) : kF d w r t (zlen L2 54 1) H2 := by
  obtain ⟨⟨a1, a2, a3⟩, ⟨b1, b2, b3, b4, b5, b6⟩, ⟨c1, c2, c3, c4, c5, c6, c7, c8⟩, -⟩ := h
  have e : ∀ o j, o < 35 → H2 o j = H1 o j := hm.2.2.2.2.2.1
  have el : ∀ o, o < 35 → zlen L2 54 1 o = L1 o := fun o ho => by rw [zlen_ne (by omega)]; exact hm.2.2.2.2.2.2 o (Or.inl ho)
  refine ⟨⟨?_, a2.keep (fun q i hq => e q i (by omega)), a3.keep (fun i => e 8 i (by decide)) (fun b i _ _ => (e 20 _ (by decide)).symm)⟩, ⟨?_, by rw [e 18 8 (by decide)]; exact b2, fun b b0 b1' => by rw [e 23 b (by decide)]; exact b3 b b0 b1', fun b b0 b1' => by rw [e 22 b (by decide)]; exact b4 b b0 b1', fun b j u0 u1 u2 u3 => by rw [e 20 _ (by decide), e 19 _ (by decide)]; exact b5 b j u0 u1 u2 u3, fun i u0 u1 => by rw [e 20 _ (by decide)]; exact b6 i u0 u1⟩, ⟨by rw [e 0 10 (by decide)]; exact c1, by rw [e 0 11 (by decide)]; exact c2, by rw [e 0 12 (by decide)]; exact c3, by rw [e 0 13 (by decide)]; exact c4, by rw [e 3 10 (by decide)]; exact c5, by rw [e 16 4 (by decide)]; exact c6, by rw [e 16 5 (by decide)]; exact c7, by rw [e 29 6 (by decide)]; exact c8⟩⟩
  · obtain ⟨⟨q1, q2, q3, q4⟩, q5⟩ := a1
    refine ⟨⟨q1, ?_, q3.keep (fun i => e 1 i (by decide)) (fun i => e 2 i (by decide)) (e 3 0 (by decide)) (e 3 1 (by decide)) (e 18 1 (by decide)), fun o i ho => by show H2 o i = 0 ∨ H2 o i = 1; rw [e o i (by omega)]; exact q4 o i ho⟩, q5.keep (fun i => e 13 i (by decide))⟩
    show gLen d w r (zlen L2 54 1)
    have g : gLen d w r L1 := q2
    unfold gLen at g ⊢
    rw [el 2 (by decide), el 4 (by decide), el 5 (by decide), el 6 (by decide), el 7 (by decide), el 8 (by decide), el 9 (by decide), el 10 (by decide), el 11 (by decide), el 13 (by decide), el 14 (by decide), el 15 (by decide), el 17 (by decide), el 19 (by decide), el 20 (by decide), el 21 (by decide), el 22 (by decide), el 23 (by decide), el 24 (by decide), el 25 (by decide), el 28 (by decide), el 30 (by decide), el 31 (by decide), el 32 (by decide), el 33 (by decide), el 34 (by decide)]
    exact g
  · have e8 : zB8 H2 19 = zB8 H1 19 := by
      funext j
      unfold zB8
      rw [e 19 _ (by decide)]
    rw [e8]
    exact b1
/-- nothing is asked of what is behind the call -/
abbrev pT : zS → Prop := fun _ => True
/-- what the class leaves alone -/
def fC (H H1 : zHp) : Prop := ∀ q i, (35 ≤ q ∨ q < 0) → H1 q i = H q i
/-- what the reference leaves alone -/
def fM (H H2 : zHp) : Prop := ∀ q i, (q < 35 ∨ 54 ≤ q) → H2 q i = H q i
/-- the class answers v, or throws c -/
def cR (cm : Nat) (ca : List zV) (t : Nat) (L : Int → Int) (H : zHp) (v : Int) : Prop := zEnds 80 cm 0 ca [] (t, L, H) (fun v' S1 => v' = v ∧ ∃ H1, S1 = (t, L, H1) ∧ fC H H1) (fun _ _ => False)
def cT (cm : Nat) (ca : List zV) (t : Nat) (L : Int → Int) (H : zHp) (c : Int) : Prop := zEnds 80 cm 0 ca [] (t, L, H) (fun _ _ => False) (fun c' S1 => c' = c ∧ ∃ H1, S1 = (t, L, H1) ∧ fC H H1)
/-- the reference answers v, or tells k, from every heap of which Q holds -/
def mR (mm : Nat) (ma : List zV) (L : Int → Int) (Q : zHp → Prop) (v : Int) : Prop := ∀ t H, 118 ≤ t → Q H → zEnds 118 mm 0 ma [] (t, L, H) (fun b S2 => b = v ∧ ∃ H2, S2 = (t, L, H2) ∧ H2 35 0 = 0 ∧ fM H H2) (fun _ _ => False)
def mT' (mm : Nat) (ma : List zV) (L : Int → Int) (Q : zHp → Prop) (k : Int) : Prop := ∀ t H, 118 ≤ t → Q H → zEnds 118 mm 0 ma [] (t, L, H) (fun _ S2 => ∃ H2, S2 = (t, L, H2) ∧ H2 35 0 = k ∧ fM H H2) (fun _ _ => False)
section FIRST
variable {d w r : Int} {t : Nat} {L : Int → Int} {H X : zHp} {hd cm mm : Nat} {ca ma : List zV} {v c k : Int}
theorem fC.F {H1 : zHp} (hm : mF d w r L H) (h : fC H H1) : mF d w r L H1 := hm.of (fun q i q0 _ _ => h q i (Or.inl q0))
theorem fC.F54 {H1 : zHp} {y : Int} (hm : mF d w r L H) (h : fC H H1) : mF d w r L (zupd H1 54 0 y) := hm.of (fun q i q0 q1 _ => by rw [zupd_ne (by omega)]; exact h q i (Or.inl q0))
theorem cOK_ret (ht : 118 ≤ t) (hX : lR X H) (hm : mF d w r L H) (hC : cR cm ca t L H v) (hM : mR mm ma L (mF d w r L) v) : cOK pT hd cm ca mm ma X t L H := by
  refine zEnds_md h80 (show 80 ≤ t by omega) (hC.imp (fun v' S1 h => ?_) (fun _ _ h => h.elim))
  obtain ⟨e1, H1, e2, f1⟩ := h
  subst e1
  refine ⟨H1, e2, fun j => by rw [f1 (-7) j (Or.inr (by decide))]; exact hX j, zEnds_md h118 ht ((hM t _ ht (f1.F54 hm)).imp (fun b S2 h => ?_) (fun _ _ h => h))⟩
  obtain ⟨e3, H2, e4, z, f2⟩ := h
  refine ⟨H2, e4, fun j => ?_, z, ?_, e3, trivial⟩
  · rw [f2 (-7) j (Or.inl (by decide)), zupd_ne (by decide), f1 (-7) j (Or.inr (by decide))]; exact hX j
  · rw [f2 54 0 (Or.inr (by decide)), zupd_at]
theorem cOK_thr (ht : 118 ≤ t) (hX : lR X H) (hm : mF d w r L H) (hC : cT cm ca t L H c) (hk : zhd hd c = some k) (k0 : k ≠ 0) (hM : mT' mm ma L (mF d w r L) k) : cOK pT hd cm ca mm ma X t L H := by
  refine zEnds_md h80 (show 80 ≤ t by omega) (hC.imp (fun _ _ h => h.elim) (fun c' S1 h => ?_))
  obtain ⟨e1, H1, e2, f1⟩ := h
  subst e1
  refine ⟨H1, k, e2, fun j => by rw [f1 (-7) j (Or.inr (by decide))]; exact hX j, hk, k0, zEnds_md h118 (show 118 ≤ t + 1 by omega) ((hM (t + 1) _ (by omega) (f1.F hm)).imp (fun b S2 h => ?_) (fun _ _ h => h))⟩
  obtain ⟨H2, e4, z, f2⟩ := h
  exact ⟨H2, e4, fun j => by rw [f2 (-7) j (Or.inl (by decide)), f1 (-7) j (Or.inr (by decide))]; exact hX j, z, trivial⟩
theorem cOKb_ret (ht : 118 ≤ t) (hX : lR X H) (hm : mF d w r L H) (hv : v = 0 ∨ v = 1) (hC : cR cm ca t L H v) (hM : mR mm ma L (mF d w r L) v) : cOKb pT hd cm ca mm ma X t L H := by
  refine zEnds_md h80 (show 80 ≤ t by omega) (hC.imp (fun v' S1 h => ?_) (fun _ _ h => h.elim))
  obtain ⟨e1, H1, e2, f1⟩ := h
  subst e1
  refine ⟨H1, e2, fun j => by rw [f1 (-7) j (Or.inr (by decide))]; exact hX j, hv, zEnds_md h118 ht ((hM t _ ht (f1.F54 hm)).imp (fun b S2 h => ?_) (fun _ _ h => h))⟩
  obtain ⟨e3, H2, e4, z, f2⟩ := h
  refine ⟨H2, e4, fun j => ?_, z, ?_, e3, trivial⟩
  · rw [f2 (-7) j (Or.inl (by decide)), zupd_ne (by decide), f1 (-7) j (Or.inr (by decide))]; exact hX j
  · rw [f2 54 0 (Or.inr (by decide)), zupd_at]
theorem cOKb_thr (ht : 118 ≤ t) (hX : lR X H) (hm : mF d w r L H) (hC : cT cm ca t L H c) (hk : zhd hd c = some k) (k0 : k ≠ 0) (hM : mT' mm ma L (mF d w r L) k) : cOKb pT hd cm ca mm ma X t L H := by
  refine zEnds_md h80 (show 80 ≤ t by omega) (hC.imp (fun _ _ h => h.elim) (fun c' S1 h => ?_))
  obtain ⟨e1, H1, e2, f1⟩ := h
  subst e1
  refine ⟨H1, k, e2, fun j => by rw [f1 (-7) j (Or.inr (by decide))]; exact hX j, hk, k0, zEnds_md h118 (show 118 ≤ t + 1 by omega) ((hM (t + 1) _ (by omega) (f1.F hm)).imp (fun b S2 h => ?_) (fun _ _ h => h))⟩
  obtain ⟨H2, e4, z, f2⟩ := h
  exact ⟨H2, e4, fun j => by rw [f2 (-7) j (Or.inl (by decide)), f1 (-7) j (Or.inr (by decide))]; exact hX j, z, trivial⟩
theorem cOKv_ret (ht : 118 ≤ t) (hX : lR X H) (hm : mF d w r L H) (hC : cR cm ca t L H v) (hM : mT' mm ma L (mF d w r L) 0) : cOKv pT hd cm ca mm ma X t L H := by
  refine zEnds_md h80 (show 80 ≤ t by omega) (hC.imp (fun v' S1 h => ?_) (fun _ _ h => h.elim))
  obtain ⟨e1, H1, e2, f1⟩ := h
  refine ⟨H1, e2, fun j => by rw [f1 (-7) j (Or.inr (by decide))]; exact hX j, zEnds_md h118 ht ((hM t _ ht (f1.F hm)).imp (fun b S2 h => ?_) (fun _ _ h => h))⟩
  obtain ⟨H2, e4, z, f2⟩ := h
  exact ⟨H2, e4, fun j => by rw [f2 (-7) j (Or.inl (by decide)), f1 (-7) j (Or.inr (by decide))]; exact hX j, z, trivial⟩
theorem cOKv_thr (ht : 118 ≤ t) (hX : lR X H) (hm : mF d w r L H) (hC : cT cm ca t L H c) (hk : zhd hd c = some k) (k0 : k ≠ 0) (hM : mT' mm ma L (mF d w r L) k) : cOKv pT hd cm ca mm ma X t L H := by
  refine zEnds_md h80 (show 80 ≤ t by omega) (hC.imp (fun _ _ h => h.elim) (fun c' S1 h => ?_))
  obtain ⟨e1, H1, e2, f1⟩ := h
  subst e1
  refine ⟨H1, k, e2, fun j => by rw [f1 (-7) j (Or.inr (by decide))]; exact hX j, hk, k0, zEnds_md h118 (show 118 ≤ t + 1 by omega) ((hM (t + 1) _ (by omega) (f1.F hm)).imp (fun b S2 h => ?_) (fun _ _ h => h))⟩
  obtain ⟨H2, e4, z, f2⟩ := h
  exact ⟨H2, e4, fun j => by rw [f2 (-7) j (Or.inl (by decide)), f1 (-7) j (Or.inr (by decide))]; exact hX j, z, trivial⟩
theorem fC.rfl' : fC H H := fun _ _ _ => rfl
theorem fC.upd {H1 : zHp} {o i y : Int} (h : fC H H1) (ho : 0 ≤ o ∧ o < 35) : fC H (zupd H1 o i y) := fun q j hq => by rw [zupd_ne (by omega)]; exact h q j hq
theorem fM.rfl' : fM H H := fun _ _ _ => rfl
theorem fM.upd {H1 : zHp} {o i y : Int} (h : fM H H1) (ho : 35 ≤ o ∧ o < 54) : fM H (zupd H1 o i y) := fun q j hq => by rw [zupd_ne (by omega)]; exact h q j hq
end FIRST
section FAILS
variable {S : zS} {t : Nat} {L : Int → Int} {H : zHp} {Qr Qt : Int → zS → Prop} {x c : Int}
theorem m_f0 (hQ : Qr 0 (t, L, zupd H 35 0 0)) : zEnds 118 181 0 [(29, 35), (0, 0), (0, c)] [] (t, L, H) Qr Qt := v_181 ⟨fun _ => ⟨Or.inl rfl, hQ⟩, fun u => absurd rfl u⟩
theorem m_f1 (hQ : Qr 1 (t, L, zupd H 35 0 c)) : zEnds 118 181 0 [(29, 35), (0, 1), (0, c)] [] (t, L, H) Qr Qt := v_181 ⟨fun u => absurd u (by decide), fun _ => ⟨Or.inr rfl, hQ⟩⟩
theorem m_in {a b : Int} (h1 : a ≤ x ∧ x ≤ b → Qr 1 S) (h0 : ¬ (a ≤ x ∧ x ≤ b) → Qr 0 S) : zEnds 118 182 0 [(0, x), (0, a), (0, b)] [] S Qr Qt := v_182 ⟨fun u => ⟨Or.inl rfl, h0 (by omega)⟩, fun u => ⟨fun y => ⟨Or.inl rfl, h0 (by omega)⟩, fun y => ⟨Or.inr rfl, h1 (by omega)⟩⟩⟩
theorem m_isBad (h0 : 0 ≤ x ∧ x ≤ 63 → Qr 0 S) (h1 : ¬ (0 ≤ x ∧ x ≤ 63) → Qr 1 S) : zEnds 118 250 0 [(0, x)] [] S Qr Qt := v_250 (m_in (fun u => ⟨fun _ => ⟨Or.inl rfl, h0 u⟩, fun y => absurd (by decide) y⟩) (fun u => ⟨fun y => absurd rfl y, fun _ => ⟨Or.inr rfl, h1 u⟩⟩))
theorem m_isBadName (h0 : 1 ≤ x ∧ x ≤ 65535 → Qr 0 S) (h1 : ¬ (1 ≤ x ∧ x ≤ 65535) → Qr 1 S) : zEnds 118 251 0 [(0, x)] [] S Qr Qt := v_251 (m_in (fun u => ⟨fun _ => ⟨Or.inl rfl, h0 u⟩, fun y => absurd (by decide) y⟩) (fun u => ⟨fun y => absurd rfl y, fun _ => ⟨Or.inr rfl, h1 u⟩⟩))
theorem k_inode (ht : 118 ≤ S.1) (h1 : 0 ≤ x ∧ x ≤ 63 → Qr 0 S) (h0 : ¬ (0 ≤ x ∧ x ≤ 63) → Qt 1 S) : zEnds 80 169 0 [(20, 0), (0, x)] [] S Qr Qt := v_169 ⟨fun u => ⟨ht, by decide, h0 (by omega)⟩, fun u => ⟨fun y => h1 (by omega), fun y => ⟨ht, by decide, h0 (by omega)⟩⟩⟩
theorem k_name (ht : 118 ≤ S.1) (h1 : 1 ≤ x ∧ x ≤ 65535 → Qr 0 S) (h0 : ¬ (1 ≤ x ∧ x ≤ 65535) → Qt 1 S) : zEnds 80 170 0 [(20, 0), (0, x)] [] S Qr Qt := v_170 ⟨fun u => ⟨ht, by decide, h0 (by omega)⟩, fun u => ⟨fun y => h1 (by omega), fun y => ⟨ht, by decide, h0 (by omega)⟩⟩⟩
theorem k_disk {d w r : Int} (hg : gS d w r S) (ht : 118 ≤ S.1) (h1 : 0 ≤ x ∧ x < d → Qr 0 S) (h0 : ¬ (0 ≤ x ∧ x < d) → Qt 1 S) : zEnds 80 171 0 [(20, 0), (0, x)] [] S Qr Qt := by
  have e : S.2.2 1 0 = d := hg.2.2.1.1.1
  exact v_171 ⟨fun u => ⟨ht, by decide, h0 (by omega)⟩, fun u => ⟨fun y => h1 (by omega), fun y => ⟨ht, by decide, h0 (by omega)⟩⟩⟩
theorem k_on (ho : S.2.2 0 11 = 1) (hQ : Qr 0 S) : zEnds 80 172 0 [(20, 0)] [] S Qr Qt := v_172 ⟨fun _ => hQ, fun u => absurd (by omega) u⟩
end FAILS
