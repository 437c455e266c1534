/-! An operation, there and here. -/
section DOES
variable {d w r : Int} {t : Nat} {L : Int → Int} {H M K N : zHp} {Qr Qt : Int → zS → Prop} {C : Int → Int → Int} {x : Int × aSt} {A' : aSt} {β' : Int → Int} {n : Int} {X : List Int}
theorem za_o {c : Nat} {o : Int} (h : 12 ≤ c ∧ lg o = false) {l : List zV} (hl : zlR l) : zlR ((c, o) :: l) := zl_c ⟨fun u => absurd (show c = 0 from u) (by omega), fun u => absurd (show c = 1 from u) (by omega), fun _ => ⟨fun u => absurd (show lg o = true from u) (by rw [h.2]; decide), fun u => absurd (show c = 11 from u) (by omega)⟩⟩ hl
/-- what an operation that is over leaves -/
theorem o_end (hm : rCm d w r t L H M) (hn : rOn d w r C H M) (gd : aGood (r * gGr d w * (w - 1)) A') (e : aE (r * gGr d w * (w - 1)) A' β') (eb : ∀ j, 0 ≤ j → j < 64 * (r * gGr d w * (w - 1)) → zB8 K 19 j = β' j)
    (eK : ∀ q i, ¬ (q = 19 ∨ (22 ≤ q ∧ q ≤ 25) ∨ q = 28 ∨ (q = 18 ∧ i = 8) ∨ (q = 0 ∧ i = 12)) → K q i = H q i) (k8 : K 18 8 = 0) (k23 : ∀ b, 0 ≤ b → b < r * gGr d w * (w - 1) → K 23 b = 0) (bo : ∀ b, (K 22 b = 0 ∨ K 22 b = 1) ∧ (K 23 b = 0 ∨ K 23 b = 1))
    (mN : mS d w r L N) (n45 : ∀ j, 0 ≤ j → j < 1280 → N 45 j = A'.1 j) (n46 : ∀ j, 0 ≤ j → j < 768 → N 46 j = A'.2.1 j) (n47 : ∀ j, 0 ≤ j → j < 49152 → N 47 j = A'.2.2 j) (eN : ∀ q i, ¬ (45 ≤ q ∧ q ≤ 50) → ¬ (q = 35 ∧ i = 28) → N q i = M q i)
    (um : ∀ b, 25 ≤ b → b < r * gGr d w * (w - 1) → K 22 b = 0 → 0 < A'.2.1 b → ∀ j, 0 ≤ j → j < 8 → K 19 (8 * b + j) = K 20 (8 * b + j))
    (few : gCnt (mCh (r * gGr d w * (w - 1)) A' (M 43)) 25 (r * gGr d w * (w - 1) - 25).toNat ≤ 24) (c12 : K 0 12 = N 35 28) : rAll d w r t L K N ∧ rOn d w r C K N := by
  have e43 : N 43 = M 43 := funext (fun j => eN 43 j (by omega) (by omega))
  have gi : gI d w r t L K := hm.1.1.keep (fun q i hq => eK q i (by omega)) (fun q i hq => by
    rcases hq with u | u | ⟨u, v⟩
    · rw [u]; exact (bo i).1
    · rw [u]; exact (bo i).2
    · rw [u, v, eK 0 11 (by omega)]; exact hm.1.1.1.2.2.2 0 11 (by omega))
  have on : rOn d w r C K N := by
    refine rOn_tree hm.1.1.1.1 (hn.1.keep (fun q i hq => eK q i (by omega)) (fun q i hq => eN q i (by omega) (by omega))) (by rw [e43]; exact hn.2.1) (by rw [e43]; exact hn.2.2.2.1) (by rw [eK 0 11 (by omega)]; exact hn.2.2.2.2) gd e eb n45 n46 n47 (fun b j b0 b1 j0 j1 => by rw [eK 20 _ (by omega)]; exact hn.2.2.1.2.1 b j b0 b1 j0 j1) um (by rw [e43]; exact few) ⟨by rw [e43]; exact hn.2.2.1.2.2.2.2.1.1, by rw [e43, eK 29 6 (by omega)]; exact hn.2.2.1.2.2.2.2.1.2⟩ ⟨c12, ?_⟩
    rw [eK 0 13 (by omega), eN 35 29 (by omega) (by omega)]
    exact hn.2.2.1.2.2.2.2.2.2
  refine ⟨⟨⟨⟨gi, mN, hm.1.2.2.1, fun i i0 i1 => by rw [eK (-8) i (by omega)]; exact hm.1.2.2.2 i i0 i1⟩, ⟨by rw [eK 0 10 (by omega), eN 35 17 (by omega) (by omega)]; exact hm.2.1.1, by rw [eK 0 10 (by omega)]; exact hm.2.1.2.1, fun k k0 k1 => ?_⟩, ⟨by rw [eK 16 4 (by omega), eN 35 15 (by omega) (by omega)]; exact hm.2.2.1.1, by rw [eK 16 4 (by omega)]; exact hm.2.2.1.2.1, by rw [eK 16 5 (by omega)]; exact hm.2.2.1.2.2⟩, k8, k23⟩, Or.inl ⟨C, on⟩⟩, on⟩
  rw [eK 0 10 (by omega)] at k1
  rw [eN 42 k (by omega) (by omega), eK 33 k (by omega)]
  exact hm.2.1.2.2 k k0 k1
/-- what is in use and not marked is as it is stored -/
theorem o_um (hn : rOn d w r C H M) (hk : gOK d w r) (hs : fS H (r * gGr d w * (w - 1)) n X β' L K) (e : aE (r * gGr d w * (w - 1)) A' β') : ∀ b, 25 ≤ b → b < r * gGr d w * (w - 1) → K 22 b = 0 → 0 < A'.2.1 b → ∀ j, 0 ≤ j → j < 8 → K 19 (8 * b + j) = K 20 (8 * b + j) := by
  intro b b0 b1 u o j j0 j1
  have hB := gBl_le hk
  obtain ⟨u1, u2⟩ := (hs.2.1.2.2.2.2.2.2.2.1 b (by omega) b1).mp u
  rw [hs.2.1.2.2.2.2.2.1 b (by omega) b1 u2 j j0 j1, hs.2.1.1 20 _ (by unfold iFr; omega)]
  refine hn.2.2.1.2.2.1 b b0 b1 u1 ?_ j j0 j1
  by_cases c : b < 59
  · have := hn.2.2.1.1.2.2.2.1.1 b (by omega) c
    have this : M 46 b = 100 := this
    omega
  · have t1 := (e.2.1 b (by omega) (by omega)).mpr ⟨b1, o⟩
    have t2 : mT (zB8 K 19) b := by
      unfold mT
      rw [hs.2.2 _ (by omega)]
      exact t1
    rcases hs.2.1.2.2.2.2.2.2.2.2 b (by omega) (by omega) (by omega) t2 with v | v
    · exact ((hn.2.2.1.1.1.2.1 b (by omega) (by omega)).mp v).2
    · exact absurd u2 v
theorem o_cnt (hn : rOn d w r C H M) (hk : gOK d w r) (hs : fS H (r * gGr d w * (w - 1)) n X β' L K) (e : aE (r * gGr d w * (w - 1)) A' β') (gd : aGood (r * gGr d w * (w - 1)) A') (hz : zhR (t, L, K)) : gCnt (iCh β' K) 25 (r * gGr d w * (w - 1) - 25).toNat = gCnt (mCh (r * gGr d w * (w - 1)) A' (M 43)) 25 (r * gGr d w * (w - 1) - 25).toNat := by
  have hB := gBl_le hk
  have hB2 := gBl_ge hk
  refine gCnt_congr _ _ (fun b b0 b1 => ch_iff ⟨hB2, hB⟩ gd e hs.2.2 (fun j => (hz.2 19 j).1 (by decide)) (fun j => (hz.2 20 j).1 (by decide)) (fun k k0 k1 => ?_) (o_um hn hk hs e b b0 (by omega)) ⟨b0, by omega⟩)
  rw [hs.2.1.1 20 _ (by unfold iFr; omega), hn.2.2.1.2.1 b (k / 8) b0 (by omega) (by omega) (by omega)]
  exact hn.2.1 b k (by omega) (by omega) k0 k1 (by omega)
/-- numbers that are the tree's, and all else as it was -/
def oP (d w r : Int) (L : Int → Int) (M N : zHp) : Prop := mS d w r L N ∧ (∀ j, 0 ≤ j → j < 1280 → N 45 j = M 45 j) ∧ (∀ j, 0 ≤ j → j < 768 → N 46 j = M 46 j) ∧ (∀ j, 0 ≤ j → j < 49152 → N 47 j = M 47 j) ∧ ∀ q i, ¬ (45 ≤ q ∧ q ≤ 50) → N q i = M q i
/-- undone -/
theorem o_undo (hm : rCm d w r t L H M) (hn : rOn d w r C H M) (hs : fS H (r * gGr d w * (w - 1)) n X β' L K) (hz : zhR (t, L, K))
    (hQ : ∀ K2, (∀ N, oP d w r L M N → rAll d w r t L K2 N ∧ rOn d w r C K2 N) → fC H K2 → (∀ i, K2 33 i = H 33 i) → zhR (t, L, K2) → Qr 0 (t, L, K2)) : zEnds 80 97 0 [(25, 18), (9, 0)] [] (t, L, K) Qr (fun _ _ => False) := by
  refine (zEnds_rg (za_o ⟨by decide, by decide⟩ (za_9 za_0)) za_0 hz (i_undo (Qr := fun v S => v = 0 ∧ ∃ K2, S = (t, L, K2) ∧ ((∀ N, oP d w r L M N → rAll d w r t L K2 N ∧ rOn d w r C K2 N) ∧ fC H K2 ∧ ∀ i, K2 33 i = H 33 i)) (Qt := fun _ _ => False) hs (fun K2 k8 k23 k23' e19 fr => ⟨rfl, K2, rfl, ?_⟩))).imp (fun v S u => ?_) (fun c S u => u.1)
  · have hB := gBl_le hm.1.1.1.1
    have eK : ∀ q i, ¬ (q = 19 ∨ (22 ≤ q ∧ q ≤ 25) ∨ q = 28 ∨ (q = 18 ∧ i = 8) ∨ (q = 0 ∧ i = 12)) → K2 q i = H q i := fun q i y => by
      rw [fr q i (by omega) (by omega) (by omega)]
      exact hs.2.1.1 q i (by unfold iFr; omega)
    refine ⟨fun N hN => o_end hm hn hn.g hn.e (fun j j0 j1 => ?_) eK k8 k23 (fun b => ⟨by rw [fr 22 b (by omega) (by omega) (by omega)]; exact (hs.2.1.2.2.2.2.2.2.1 b).1, k23' b⟩) hN.1 hN.2.1 hN.2.2.1 hN.2.2.2.1 (fun q i y1 _ => hN.2.2.2.2 q i y1) (fun b b0 b1 u o j j0 j1 => ?_) hn.2.2.1.2.2.2.1 ?_, fun q i hq => eK q i (by omega), fun i => eK 33 i (by omega)⟩
    · have := e19 (j / 64) (j / 8 % 8) (by omega) (by omega) (by omega) (by omega)
      rw [show 8 * (j / 64) + j / 8 % 8 = j / 8 by omega] at this
      unfold zB8
      rw [this]
    · rw [fr 22 b (by omega) (by omega) (by omega)] at u
      obtain ⟨u1, u2⟩ := (hs.2.1.2.2.2.2.2.2.2.1 b (by omega) b1).mp u
      rw [e19 b j (by omega) b1 j0 j1, eK 20 _ (by omega)]
      exact hn.2.2.1.2.2.1 b b0 b1 u1 o j j0 j1
    · rw [hN.2.2.2.2 35 28 (by omega), fr 0 12 (by omega) (by omega) (by omega), hs.2.1.1 0 12 (by unfold iFr; omega)]
      exact hn.2.2.1.2.2.2.2.2.1
  · obtain ⟨⟨e, K2, e2, a1, a2, a3⟩, zz⟩ := u
    subst e
    subst e2
    exact hQ K2 a1 a2 a3 zz
/-- off, and undone -/
theorem o_off (h : rAll d w r t L H M) (h0 : H 0 11 = 0) (k8 : K 18 8 = 0) (k23 : ∀ b, 0 ≤ b → b < r * gGr d w * (w - 1) → K 23 b = 0) (bo : ∀ b, K 23 b = 0 ∨ K 23 b = 1) (fr : ∀ q i, q ≠ 19 → q ≠ 23 → (q = 18 → i ≠ 8) → K q i = H q i) : rAll d w r t L K M := by
  have hm := h.1
  have gi : gI d w r t L K := hm.1.1.keep (fun q i hq => fr q i (by omega) (by omega) (by omega)) (fun q i hq => by
    rcases hq with u | u | ⟨u, v⟩
    · rw [u, fr 22 i (by omega) (by omega) (by omega)]; exact hm.1.1.1.2.2.2 22 i (by omega)
    · rw [u]; exact bo i
    · rw [u, v, fr 0 11 (by omega) (by omega) (by omega)]; exact hm.1.1.1.2.2.2 0 11 (by omega))
  refine ⟨⟨⟨gi, hm.1.2.1, hm.1.2.2.1, fun i i0 i1 => by rw [fr (-8) i (by omega) (by omega) (by omega)]; exact hm.1.2.2.2 i i0 i1⟩, ⟨by rw [fr 0 10 (by omega) (by omega) (by omega)]; exact hm.2.1.1, by rw [fr 0 10 (by omega) (by omega) (by omega)]; exact hm.2.1.2.1, fun k k0 k1 => ?_⟩, ⟨by rw [fr 16 4 (by omega) (by omega) (by omega)]; exact hm.2.2.1.1, by rw [fr 16 4 (by omega) (by omega) (by omega)]; exact hm.2.2.1.2.1, by rw [fr 16 5 (by omega) (by omega) (by omega)]; exact hm.2.2.1.2.2⟩, k8, k23⟩, Or.inr ?_⟩
  · rw [fr 0 10 (by omega) (by omega) (by omega)] at k1
    rw [fr 33 k (by omega) (by omega) (by omega)]
    exact hm.2.1.2.2 k k0 k1
  · rcases h.2 with ⟨C, on⟩ | ⟨C, O, off⟩
    · have := on.2.2.2.2
      omega
    · refine ⟨C, O, off.keep (fun q i hq => fr q i (by omega) (by omega) (by omega)) (fun _ _ _ => rfl) ?_⟩
      have l := off.2.1
      unfold rL at l ⊢
      rw [fr 3 11 (by omega) (by omega) (by omega), fr 3 10 (by omega) (by omega) (by omega)]
      exact l
/-- what commitFirst leaves, with the reference's numbers N ahead of it -/
def oW (d w r : Int) (t : Nat) (L : Int → Int) (K2 N : zHp) (v7 : Int) (S7 : zS) : Prop := ∃ H1 M1, S7 = (t, L, H1) ∧ (∀ q i, (35 ≤ q ∨ q < 0) → H1 q i = K2 q i) ∧ (∀ q i, (q < 35 ∨ 54 ≤ q ∨ q = 42 ∨ (45 ≤ q ∧ q < 51)) → M1 q i = N q i) ∧ M1 35 0 = N 35 0 ∧
  ((v7 = 1 ∧ (∀ i, H1 33 i = K2 33 i) ∧ ∃ C1 v, 0 ≤ v ∧ (∀ b, 25 ≤ b → b < r * gGr d w * (w - 1) → H1 22 b = 0) ∧ rOn d w r C1 H1 (zupd M1 35 29 (z32 (M1 35 29 + 1))) ∧ rCm d w r t L H1 (zupd M1 35 29 (z32 (M1 35 29 + 1))) ∧ mRet t L 204 0 [(29, 35), (9, 0), (9, 0), (9, 0)] N v M1) ∨
   (v7 = 0 ∧ rAll d w r t L H1 M1 ∧ H1 0 11 = 0 ∧ mRet t L 204 0 [(29, 35), (9, 0), (9, 0), (9, 0)] N (-9) M1))
theorem oP.rfl' (h : mS d w r L M) : oP d w r L M M := ⟨h, fun _ _ _ => rfl, fun _ _ _ => rfl, fun _ _ _ => rfl, fun _ _ _ => rfl⟩
theorem o_first (hM : mS d w r L M) (hA : ∀ N, oP d w r L M N → rAll d w r t L K N ∧ rOn d w r C K N) (hz : zhR (t, L, K)) : zEnds 80 176 0 [(20, 0)] [] (t, L, K) (fun v S => (∀ N, oP d w r L M N → oW d w r t L K N v S) ∧ zhR S) (fun _ _ => False) := by
  refine (zEnds_rg (za_c za_0) za_0 hz (zEnds_all (P := fun N => oP d w r L M N) (Q := fun N v S => oW d w r t L K N v S) (T := fun _ _ _ => False) ⟨M, oP.rfl' hM⟩ (fun N hN => ?_))).imp (fun v S u => u) (fun c S u => u.1 M (oP.rfl' hM))
  refine c_first hz (hA N hN).1 (hA N hN).2 (fun C1 H1 M1 v v0 mk on cm f1 f2 f3 mr => ?_) (fun H1 M1 ra off f1 f2 f3 mr => ?_)
  · exact ⟨H1, M1, rfl, fun q i hq => f1 q i (by omega), f2, f3, Or.inl ⟨rfl, fun i => f1 33 i (by omega), C1, v, v0, mk, on, cm, mr⟩⟩
  · exact ⟨H1, M1, rfl, f1, f2, f3, Or.inr ⟨rfl, ra, off, mr⟩⟩
end DOES
