/-! Writing a block: what holds there and here, with power and without. -/
/-- on: the class's volume has the content C, and the reference agrees -/
def vS (d w r : Int) (C : Int → Int → Int) (H M : zHp) : Prop := (vB d w r C H ∧ vL d r H ∧ ∀ f, 0 ≤ f → f + w ≤ r * gPo d w → f % w = 0 → vP w C f) ∧ rK d r H M ∧ rL H M ∧ (M 35 12 = 1 ∧ M 35 20 = 0) ∧ ∀ s, 0 ≤ s → s < r * gPo d w → H 13 s = mPs d w M s
/-- the xor of the data of a stripe but s -/
noncomputable def vQ (w : Int) (C : Int → Int → Int) (s i : Int) : Int := gXs (fun u => u ≠ s) (fun u => C u i) (s - s % w) (w - 1).toNat 0
/-- one log is told, at x: of the spot s -/
def vT (d w r : Int) (C : Int → Int → Int) (x s : Int) (G : zHp) : Prop := (G 5 (gCe r x r) ≠ 0 ∧ G 7 (gCe r x r) = 1 + 8 * (s / w) + s % w ∧ ∀ i, 0 ≤ i → i < 8 → G 8 (8 * gCe r x r + i) = vQ w C s i) ∧ ∀ y, 0 ≤ y → y < d → y ≠ x → G 5 (gCe r y r) ≠ 0 → G 7 (gCe r y r) = 0
/-- logs that are told -/
def vLog (d w r : Int) (C : Int → Int → Int) (H : zHp) : Prop := vL d r H ∨ ∃ x s, (0 ≤ x ∧ x < d) ∧ (0 ≤ s ∧ s < r * gPo d w) ∧ s % w < w - 1 ∧ vT d w r C x s H
/-- a write that power ended between data and parity: s the spot, O what it had -/
def vDeep (d w r : Int) (C : Int → Int → Int) (O : Int → Int) (H : zHp) (s : Int) : Prop := gSound d w r H s ∧ (H 13 (s - s % w + w - 1) ≠ -1 → H 5 (gCe r (H 13 (s - s % w + w - 1)) r) ≠ 0 ∧ H 7 (gCe r (H 13 (s - s % w + w - 1)) r) = 1 + 8 * (s / w) + s % w) ∧ ((∀ i, z64 (O i) = O i) ∧ ∀ x, 0 ≤ x → x < d → H 5 (gCe r x r) ≠ 0 → H 7 (gCe r x r) ≠ 0 → H 7 (gCe r x r) = 1 + 8 * (s / w) + s % w) ∧ ∀ f, 0 ≤ f → f + w ≤ r * gPo d w → f % w = 0 → (f ≠ s - s % w → vP w C f) ∧ (f = s - s % w → vP w (vUp C s O) f)
/-- power has just gone; the places are as they were -/
def vX (d w r : Int) (C : Int → Int → Int) (O : Int → Int) (H M : zHp) : Prop := (vB d w r C H ∧ vLog d w r C H) ∧ rK d r H M ∧ H 3 10 = M 35 14 ∧ (M 35 12 = 0 ∧ M 35 13 = -1) ∧
  ((M 35 20 = 0 ∧ ∀ f, 0 ≤ f → f + w ≤ r * gPo d w → f % w = 0 → vP w C f) ∨ (M 35 20 = 1 ∧ (0 ≤ M 35 19 ∧ M 35 19 < r * gGr d w * (w - 1)) ∧ vDeep d w r C O H (gSo w (M 35 19))))
theorem vL.log {d w r : Int} {C : Int → Int → Int} {H : zHp} (h : vL d r H) : vLog d w r C H := Or.inl h
theorem vQ_64 {w s i : Int} {C : Int → Int → Int} : z64 (vQ w C s i) = vQ w C s i := gXs_64 _ _ _ rfl
/-- the content behind a write -/
noncomputable def vN (w : Int) (C : Int → Int → Int) (s : Int) (W : Int → Int) : Int → Int → Int := vUp (vUp C s W) (s - s % w + w - 1) (fun i => zlxor (vQ w C s i) (W i))
theorem gXs_snoc {P : Int → Prop} {f : Int → Int} : ∀ (n : Nat) (a v : Int), gXs P f a (n + 1) v = @ite _ (P (a + n)) (Classical.propDecidable _) (zlxor (gXs P f a n v) (f (a + n))) (gXs P f a n v) := by
  intro n
  induction n with
  | zero =>
    intro a v
    show gXs P f (a + 1) 0 (@ite _ (P a) (Classical.propDecidable (P a)) (zlxor v (f a)) v) = _
    rw [show a + ((0 : Nat) : Int) = a by omega]
    rfl
  | succ n ih =>
    intro a v
    show gXs P f (a + 1) (n + 1) (@ite _ (P a) (Classical.propDecidable (P a)) (zlxor v (f a)) v) = _
    rw [ih, show a + 1 + (n : Int) = a + ((n + 1 : Nat) : Int) by omega]
    rfl
theorem vN_P {d w r s : Int} {C : Int → Int → Int} {W : Int → Int} (hk : gOK d w r) (hC : vR C) (hW : ∀ i, 0 ≤ i → i < 8 → z64 (W i) = W i) (hs : s % w < w - 1) (hP : ∀ f, 0 ≤ f → f + w ≤ r * gPo d w → f % w = 0 → vP w C f) : ∀ f, 0 ≤ f → f + w ≤ r * gPo d w → f % w = 0 → vP w (vN w C s W) f := by
  have w3 := hk.2.2.1
  have m0 := Int.emod_nonneg s (show w ≠ 0 by omega)
  intro f f0 f1 f2 i i0 i1
  by_cases c : f = s - s % w
  · -- the stripe itself
    have e1 : gXs (fun _ => True) (fun u => vN w C s W u i) f w.toNat 0 = zlxor (gXs (fun _ => True) (fun u => vN w C s W u i) f (w - 1).toNat 0) (vN w C s W (f + ((w - 1).toNat : Int)) i) := by
      have q := gXs_snoc (P := fun _ => True) (f := fun u => vN w C s W u i) (w - 1).toNat f 0
      rw [if_pos trivial, show (w - 1).toNat + 1 = w.toNat by omega] at q
      exact q
    have e2 : gXs (fun _ => True) (fun u => vN w C s W u i) f (w - 1).toNat 0 = zlxor (vQ w C s i) (W i) := by
      rw [gXs_split (o := s) (w - 1).toNat f 0 (by omega) (by omega)]
      have a : vN w C s W s i = W i := by
        unfold vN
        rw [vUp_ne (by omega), vUp_at ⟨i0, i1⟩]
      rw [a]
      congr 1
      unfold vQ
      rw [c]
      exact gXs_congr _ _ _ (fun u u0 u1 => ⟨Iff.rfl, fun q => by
        show vN w C s W u i = C u i
        unfold vN
        rw [vUp_ne (by omega), vUp_ne q]⟩)
    have e3 : vN w C s W (f + ((w - 1).toNat : Int)) i = zlxor (vQ w C s i) (W i) := by
      rw [show f + ((w - 1).toNat : Int) = s - s % w + w - 1 by omega]
      unfold vN
      rw [vUp_at ⟨i0, i1⟩]
    rw [e1, e2, e3, zlxor_self]
  · -- another
    refine Eq.trans ?_ (hP f f0 f1 f2 i i0 i1)
    have sm : (s - s % w) % w = 0 := by
      rw [show s - s % w = 0 + w * (s / w) by have := Int.mul_ediv_add_emod s w; omega, Int.add_mul_emod_self_left]
      rfl
    refine gXs_congr _ _ _ (fun u u0 u1 => ⟨Iff.rfl, fun _ => ?_⟩)
    have far : ¬ (s - s % w ≤ u ∧ u < s - s % w + w) := fun q => c (by
      have a := (gStr w3 f2 (o := u) ⟨u0, by omega⟩).2
      have b := (gStr w3 sm (o := u) q).2
      omega)
    show vN w C s W u i = C u i
    unfold vN
    rw [vUp_ne (by omega), vUp_ne (by omega)]
theorem vUp_comm {C : Int → Int → Int} {s p : Int} {W V : Int → Int} (h : s ≠ p) : vUp (vUp C p V) s W = vUp (vUp C s W) p V := by
  funext u i
  by_cases c : u = s
  · rw [c, vUp_ne h]
    unfold vUp
    rw [if_pos rfl, if_pos rfl]
  · rw [vUp_ne c]
    by_cases e : u = p
    · rw [e]
      unfold vUp
      rw [if_pos rfl, if_pos rfl]
    · rw [vUp_ne e, vUp_ne e, vUp_ne c]
theorem vUp_self {C : Int → Int → Int} {s : Int} {W : Int → Int} {u i : Int} (hi : 0 ≤ i ∧ i < 8) : vUp (vUp C s W) s (C s) u i = C u i := by
  by_cases c : u = s
  · rw [c, vUp_at hi]
  · rw [vUp_ne c, vUp_ne c]
/-- what the class's store leaves alone; what the reference's writes leave alone -/
def kSt (H H' : zHp) : Prop := (∀ q i, q ≠ 3 → q ≠ 5 → q ≠ 6 → q ≠ 7 → q ≠ 8 → q ≠ 9 → q ≠ 14 → q ≠ 15 → H' q i = H q i) ∧ ∀ i, i ≠ 10 → i ≠ 11 → H' 3 i = H 3 i
def kMw (M M' : zHp) : Prop := (∀ q i, q ≠ 35 → q ≠ 38 → q ≠ 39 → q ≠ 40 → q ≠ 43 → q ≠ 44 → M' q i = M q i) ∧ ∀ i, i ≠ 12 → i ≠ 13 → i ≠ 14 → i ≠ 19 → i ≠ 20 → M' 35 i = M 35 i
theorem kSt.rfl' {H : zHp} : kSt H H := ⟨fun _ _ _ _ _ _ _ _ _ _ => rfl, fun _ _ _ => rfl⟩
theorem kSt.put {H G : zHp} {c tag wd at' : Int} (h : kSt H G) (hw : wd ≠ 3 ∧ wd ≠ 8) : kSt H (gPut G c tag wd at') := by
  obtain ⟨g0, -, -, -, -, -, g3⟩ := gPut_all (H := G) (c := c) (tag := tag) (wd := wd) (at' := at') hw
  exact ⟨fun q i a b e f g k l m => by rw [g0 q i a b e f g k]; exact h.1 q i a b e f g k l m, fun i a b => by rw [g3, if_neg a, if_neg b]; exact h.2 i a b⟩
theorem kMw.rfl' {M : zHp} : kMw M M := ⟨fun _ _ _ _ _ _ _ _ => rfl, fun _ _ _ _ _ _ => rfl⟩
theorem kMw.put {M G : zHp} {x o as : Int} (h : kMw M G) : kMw M (mPw G x o as) := by
  obtain ⟨m0, -, -, -, m35⟩ := mPw_all (M := G) (x := x) (o := o) (as := as)
  exact ⟨fun q i a b c e f g => by rw [m0 q i a b c e]; exact h.1 q i a b c e f g, fun i a b c e f => by rw [m35, if_neg c, if_neg b]; exact h.2 i a b c e f⟩
theorem kMw.off {M G : zHp} (h : kMw M G) : kMw M (mOff G) := ⟨fun q i a b c e f g => by unfold mOff; rw [zupd_ne a, zupd_ne a]; exact h.1 q i a b c e f g, fun i a b c e f => by unfold mOff; rw [zupd_no (fun u => b u.2), zupd_no (fun u => a u.2)]; exact h.2 i a b c e f⟩
theorem kMw.bc {M G : zHp} {b wd fr : Int} (h : kMw M G) : kMw M (mBc G b wd fr) := ⟨fun q i a e c f g k => by rw [mBc_ne ⟨g, k⟩]; exact h.1 q i a e c f g k, fun i a e c f g => by rw [mBc_ne (by decide)]; exact h.2 i a e c f g⟩
theorem kMw.up {M G : zHp} {i v : Int} (h : kMw M G) (hi : i = 19 ∨ i = 20) : kMw M (zupd G 35 i v) := ⟨fun q j a b c e f g => by rw [zupd_ne a]; exact h.1 q j a b c e f g, fun j a b c e f => by rw [zupd_no (by omega)]; exact h.2 j a b c e f⟩
theorem mPs_of {d w s : Int} {M M' : zHp} (on : M 35 12 = 1) (on' : M' 35 12 = 1) (e : ∀ i, M' 41 i = M 41 i) : mPs d w M' s = mPs d w M s := by
  unfold mPs mPl
  rw [if_neg (by omega), if_neg (by omega), e]
/-- what Volume.store reckons -/
theorem v_gath {d w r s wd at' : Int} {C : Int → Int → Int} {H : zHp} (hk : gOK d w r) (hB : vB d w r C H) (hs : 0 ≤ s ∧ s < r * gPo d w) (hP : vP w C (s - s % w)) (hw : wd ≠ 14 ∧ wd ≠ 15) : (∀ q i, q ≠ 14 → q ≠ 15 → fWh (fGa d w r s (s - s % w) (w - 1).toNat (zfil H 14 0 8)) wd at' 0 q i = H q i) ∧ (∀ i, 0 ≤ i → i < 8 → fWh (fGa d w r s (s - s % w) (w - 1).toNat (zfil H 14 0 8)) wd at' 0 14 i = vQ w C s i) ∧ ∀ i, 0 ≤ i → i < 8 → fWh (fGa d w r s (s - s % w) (w - 1).toNat (zfil H 14 0 8)) wd at' 0 15 i = zlxor (vQ w C s i) (H wd (at' + i)) := by
  have w3 := hk.2.2.1
  obtain ⟨s1, s2, s3, s4⟩ := gStripe hk hs
  have sm : (s - s % w) % w = 0 := by
    rw [show s - s % w = 0 + w * (s / w) by have := Int.mul_ediv_add_emod s w; omega, Int.add_mul_emod_self_left]
    rfl
  have z14 : ∀ i, 0 ≤ i → i < 8 → zfil H 14 0 8 14 i = 0 := fun i i0 i1 => by
    unfold zfil
    rw [if_pos ⟨rfl, by omega, by omega⟩]
  have g := v_ga (s := s) hk hB.1.2 hB.2.2.2.2 hP hB.1.1 ⟨s1, s4, sm⟩ (w - 1).toNat (s - s % w) (zfil H 14 0 8) (Int.le_refl _) (by omega) (fun q i hq => zfil_ne hq) (fun i i0 i1 => by rw [z14 i i0 i1]; rfl)
  have e14 : ∀ i, 0 ≤ i → i < 8 → fGa d w r s (s - s % w) (w - 1).toNat (zfil H 14 0 8) 14 i = vQ w C s i := fun i i0 i1 => by rw [g i i0 i1, z14 i i0 i1]; rfl
  have eo : ∀ q i, q ≠ 14 → fGa d w r s (s - s % w) (w - 1).toNat (zfil H 14 0 8) q i = H q i := fun q i hq => by rw [fGa_ne _ _ _ _ _ hq, zfil_ne hq]
  refine ⟨fun q i a b => ?_, fun i i0 i1 => ?_, fun i i0 i1 => ?_⟩
  · unfold fWh
    rw [if_neg (fun u => b u.1)]
    exact eo q i a
  · unfold fWh
    rw [if_neg (by omega)]
    exact e14 i i0 i1
  · unfold fWh
    rw [if_pos ⟨rfl, by omega, by omega⟩, e14 i i0 i1, eo wd _ hw.1]
