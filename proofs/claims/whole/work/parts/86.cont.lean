/-! The content of the volume: xors of stripes. -/
theorem gXs_64 {P : Int → Prop} {f : Int → Int} : ∀ (n : Nat) (a v : Int), z64 v = v → z64 (gXs P f a n v) = gXs P f a n v := by
  intro n
  induction n with
  | zero => intro a v h; exact h
  | succ n ih =>
    intro a v h
    by_cases e : P a
    · rw [gXs_yes e]; exact ih _ _ (zlxor_64 _ _)
    · rw [gXs_no e]; exact ih _ _ h
theorem gXs_split {f : Int → Int} {o : Int} : ∀ (n : Nat) (a v : Int), a ≤ o → o < a + n → gXs (fun _ => True) f a n v = zlxor (gXs (fun u => u ≠ o) f a n v) (f o) := by
  intro n
  induction n with
  | zero => intro a v h1 h2; omega
  | succ n ih =>
    intro a v h1 h2
    rw [gXs_yes (P := fun _ => True) (a := a) trivial]
    by_cases e : a = o
    · rw [gXs_no (P := fun u => u ≠ o) (a := a) (fun u => u e), gXs_pull, e]
      congr 1
      exact gXs_congr n (o + 1) v (fun i i0 i1 => ⟨⟨fun _ => by omega, fun _ => trivial⟩, fun _ => rfl⟩)
    · rw [gXs_yes (P := fun u => u ≠ o) (a := a) e]
      exact ih (a + 1) _ (by omega) (by omega)
theorem zlxor_eq0 {x y : Int} (hx : z64 x = x) (hy : z64 y = y) (h : zlxor x y = 0) : x = y := by
  have e : zlxor (zlxor x y) y = y := by rw [h, zlxor_zero' hy]
  rw [zlxor_assoc, zlxor_self, zlxor_zero hx] at e
  exact e
theorem gXs_acc {P : Int → Prop} {f : Int → Int} {n : Nat} {a v : Int} (hv : z64 v = v) : gXs P f a n v = zlxor v (gXs P f a n 0) := by
  have e := gXs_pull (P := P) (f := f) v n a 0
  rw [zlxor_zero' hv] at e
  rw [e, zlxor_comm]
theorem gStr {w f o : Int} (hw : 3 ≤ w) (hf : f % w = 0) (ho : f ≤ o ∧ o < f + w) : o / w = f / w ∧ o % w = o - f := by
  have e : o = (o - f) + w * (f / w) := by
    have := Int.mul_ediv_add_emod f w
    omega
  constructor
  · have q : o / w = ((o - f) + w * (f / w)) / w := by rw [← e]
    rw [q, Int.add_mul_ediv_left _ _ (by omega), Int.ediv_eq_zero_of_lt (by omega) (by omega), Int.zero_add]
  · have q : o % w = ((o - f) + w * (f / w)) % w := by rw [← e]
    rw [q, Int.add_mul_emod_self_left, Int.emod_eq_of_lt (by omega) (by omega)]
/-- the stripe from f on adds up -/
def vP (w : Int) (C : Int → Int → Int) (f : Int) : Prop := ∀ i, 0 ≤ i → i < 8 → gXs (fun _ => True) (fun u => C u i) f w.toNat 0 = 0
def vR (C : Int → Int → Int) : Prop := ∀ s i, z64 (C s i) = C s i
theorem vP.rec {w f o i v : Int} {C : Int → Int → Int} (h : vP w C f) (hC : vR C) (ho : f ≤ o ∧ o < f + w) (hi : 0 ≤ i ∧ i < 8) (hv : z64 v = v) : gXs (fun u => u ≠ o) (fun u => C u i) f w.toNat v = zlxor v (C o i) := by
  have e := h i hi.1 hi.2
  rw [gXs_split (o := o) w.toNat f 0 ho.1 (by omega)] at e
  rw [gXs_acc hv, zlxor_eq0 (gXs_64 _ _ _ rfl) (hC o i) e]
/-- the class's cells and places have the content C; log tags and parities aside -/
def vA (d w r : Int) (C : Int → Int → Int) (H : zHp) : Prop := ∀ s, 0 ≤ s → s < r * gPo d w → H 13 s ≠ -1 → (H 5 (gAt d w r H s) ≠ 0 ∧ H 7 (gAt d w r H s) = s % gPo d w + 1 ∧ (H 13 s = gHome d w s ∨ ∃ q, gPo d w ≤ q ∧ q < d ∧ H 13 s = gDk d (s / gPo d w) q)) ∧ ∀ i, 0 ≤ i → i < 8 → H 8 (8 * gAt d w r H s + i) = C s i
/-- at most one bad spot a stripe -/
def vOne (d w r : Int) (H : zHp) : Prop := ∀ s u, 0 ≤ s → s < r * gPo d w → 0 ≤ u → u < r * gPo d w → s / w = u / w → s ≠ u → gSound d w r H s ∨ gSound d w r H u
theorem vA.ne {d w r s u : Int} {C : Int → Int → Int} {H : zHp} (hk : gOK d w r) (h : vA d w r C H) (hs : 0 ≤ s ∧ s < r * gPo d w) (hu : 0 ≤ u ∧ u < r * gPo d w) (ps : H 13 s ≠ -1) (pu : H 13 u ≠ -1) (ne : s ≠ u) : gAt d w r H s ≠ gAt d w r H u := by
  intro e
  have a := (h s hs.1 hs.2 ps).1.2.1
  have b := (h u hu.1 hu.2 pu).1.2.1
  have qs := gSp_rg hk hs
  have qu := gSp_rg hk hu
  unfold gAt at e
  obtain ⟨-, e2⟩ := gCe_inj hk (by omega) (by omega) e
  unfold gAt at a b
  rw [e] at a
  have em : s % gPo d w = u % gPo d w := by omega
  have p := gPo_rg hk
  have w3 := hk.2.2.1
  have m1 := Int.mul_ediv_add_emod s (gPo d w)
  have m2 := Int.mul_ediv_add_emod u (gPo d w)
  rw [e2, em] at m1
  omega
theorem gSound_of {d w r s : Int} {H G : zHp} (e13 : G 13 s = H 13 s) (e5 : ∀ c, G 5 c = H 5 c) (e6 : ∀ c, G 6 c = H 6 c) : gSound d w r G s ↔ gSound d w r H s := by
  unfold gSound gVal gAt
  rw [e13, e5, e6]
/-- what Volume.gatherOtherData leaves in 'partial' -/
theorem v_ga {d w r s f : Int} {C : Int → Int → Int} {H : zHp} (hk : gOK d w r) (hA : vA d w r C H) (hU : vOne d w r H) (hP : vP w C f) (hC : vR C) (hf : 0 ≤ f ∧ f + w ≤ r * gPo d w ∧ f % w = 0) : ∀ (n : Nat) (o : Int) (G : zHp), f ≤ o → o + n ≤ f + w → (∀ q i, q ≠ 14 → G q i = H q i) → (∀ i, 0 ≤ i → i < 8 → z64 (G 14 i) = G 14 i) → ∀ i, 0 ≤ i → i < 8 → fGa d w r s o n G 14 i = gXs (fun u => u ≠ s) (fun u => C u i) o n (G 14 i) := by
  have w3 := hk.2.2.1
  intro n
  induction n with
  | zero => intro o G _ _ _ _ i _ _; rfl
  | succ n ih =>
    intro o G o0 o1 e z i i0 i1
    have e13 : ∀ u, G 13 u = H 13 u := fun u => e 13 u (by decide)
    have so : ∀ u, gSound d w r G u ↔ gSound d w r H u := fun u => gSound_of (e13 u) (fun c => e 5 c (by decide)) (fun c => e 6 c (by decide))
    have at' : ∀ u, gAt d w r G u = gAt d w r H u := fun u => by unfold gAt; rw [e13]
    have om : o % w = o - f := (gStr w3 hf.2.2 ⟨o0, by omega⟩).2
    show fGa d w r s (o + 1) n (@ite _ (o = s) (Classical.propDecidable _) G (@ite _ (gSound d w r G o) (Classical.propDecidable _) (gAdd G 14 0 (gAt d w r G o)) (gAO d w r G 14 0 o (o - o % w) w.toNat))) 14 i = _
    by_cases c : o = s
    · rw [if_pos c, gXs_no (P := fun u => u ≠ s) (fun u => u c)]
      exact ih (o + 1) G (by omega) (by omega) e z i i0 i1
    · rw [if_neg c, gXs_yes (P := fun u => u ≠ s) c]
      by_cases g : gSound d w r G o
      · rw [if_pos g]
        have v : ∀ i, 0 ≤ i → i < 8 → gAdd G 14 0 (gAt d w r G o) 14 i = zlxor (G 14 i) (C o i) := fun i i0 i1 => by
          unfold gAdd
          rw [if_pos ⟨rfl, by omega, by omega⟩, e 8 _ (by decide), at', show i - 0 = i by omega, (hA o (by omega) (by omega) ((so o).mp g).1).2 i i0 i1]
        rw [ih (o + 1) _ (by omega) (by omega) (fun q i hq => by rw [gAdd_ne hq]; exact e q i hq) (fun i i0 i1 => by rw [v i i0 i1]; exact zlxor_64 _ _) i i0 i1, v i i0 i1]
      · rw [if_neg g]
        have gH : ¬ gSound d w r H o := fun u => g ((so o).mpr u)
        have v : ∀ i, 0 ≤ i → i < 8 → gAO d w r G 14 0 o (o - o % w) w.toNat 14 i = zlxor (G 14 i) (C o i) := fun i i0 i1 => by
          unfold gAO
          rw [if_pos ⟨rfl, by omega, by omega⟩, ← hP.rec hC ⟨o0, by omega⟩ ⟨i0, i1⟩ (z i i0 i1), om, show o - (o - f) = f by omega]
          refine gXs_congr _ _ _ (fun u u0 u1 => ⟨⟨fun q => q.1, fun q => ⟨q, ?_⟩⟩, fun q => ?_⟩)
          · have su := (hU o u (by omega) (by omega) (by omega) (by omega) ?_ (fun z => q z.symm)).resolve_left gH
            · rw [e13]; exact su.1
            · rw [(gStr w3 hf.2.2 ⟨o0, by omega⟩).1, (gStr w3 hf.2.2 (o := u) ⟨u0, by omega⟩).1]
          · rw [e 8 _ (by decide), at', show i - 0 = i by omega]
            exact (hA u (by omega) (by omega) (by have := q.2; rw [e13] at this; exact this)).2 i i0 i1
        rw [ih (o + 1) _ (by omega) (by omega) (fun q i hq => by rw [gAO_ne hq]; exact e q i hq) (fun i i0 i1 => by rw [v i i0 i1]; exact zlxor_64 _ _) i i0 i1, v i i0 i1]
