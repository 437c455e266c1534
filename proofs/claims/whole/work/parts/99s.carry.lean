/-! What a commit announced is carried out, there and here. -/
def kJ (H H1 : zHp) : Prop := (∀ q i, q ≠ 3 → q ≠ 5 → q ≠ 6 → q ≠ 7 → q ≠ 8 → q ≠ 9 → q ≠ 14 → q ≠ 15 → q ≠ 32 → ¬ (q = 29 ∧ i = 6) → H1 q i = H q i) ∧ ∀ i, i ≠ 10 → i ≠ 11 → H1 3 i = H 3 i
def kJm (M M1 : zHp) : Prop := (∀ q i, q ≠ 35 → q ≠ 38 → q ≠ 39 → q ≠ 40 → q ≠ 43 → q ≠ 44 → q ≠ 53 → M1 q i = M q i) ∧ ∀ i, i ≠ 12 → i ≠ 13 → i ≠ 14 → i ≠ 19 → i ≠ 20 → M1 35 i = M 35 i
theorem kJ.rfl' {H : zHp} : kJ H H := ⟨fun _ _ _ _ _ _ _ _ _ _ _ _ => rfl, fun _ _ _ => rfl⟩
theorem kJm.rfl' {M : zHp} : kJm M M := ⟨fun _ _ _ _ _ _ _ _ _ => rfl, fun _ _ _ _ _ _ => rfl⟩
theorem kJ.st {H G G1 : zHp} (h : kJ H G) (e : kSt G G1) : kJ H G1 := ⟨fun q i a b c d f g u v x y => (e.1 q i a b c d f g u v).trans (h.1 q i a b c d f g u v x y), fun i a b => (e.2 i a b).trans (h.2 i a b)⟩
theorem kJ.hd {H G G1 : zHp} (h : kJ H G) (e : ∀ q i, q ≠ 32 → G1 q i = G q i) : kJ H G1 := ⟨fun q i a b c d f g u v x y => (e q i x).trans (h.1 q i a b c d f g u v x y), fun i a b => (e 3 i (by decide)).trans (h.2 i a b)⟩
theorem kJ.sq {H G : zHp} {v : Int} (h : kJ H G) : kJ H (zupd G 29 6 v) := ⟨fun q i a b c d f g u v x y => by rw [zupd_no y]; exact h.1 q i a b c d f g u v x y, fun i a b => by rw [zupd_ne (by decide)]; exact h.2 i a b⟩
theorem kJm.st {M G G1 : zHp} (h : kJm M G) (e : kMw G G1) : kJm M G1 := ⟨fun q i a b c d f g u => (e.1 q i a b c d f g).trans (h.1 q i a b c d f g u), fun i a b c d f => (e.2 i a b c d f).trans (h.2 i a b c d f)⟩
theorem kJm.hd {M G : zHp} {n s : Int} (h : kJm M G) : kJm M (hdM G n s) := ⟨fun q i a b c d f g u => by rw [hdM_ne u]; exact h.1 q i a b c d f g u, fun i a b c d f => by rw [hdM_ne (by decide)]; exact h.2 i a b c d f⟩
/-- k of the targets have their payload -/
def jM (B : Int) (V0 T : Int → Int) (k : Int) (V : Int → Int) : Prop := (∀ j, 0 ≤ j → j < 1600 → V j = V0 j) ∧ ∀ b c, 25 ≤ b → b < B → 0 ≤ c → c < 64 → (∀ i, 0 ≤ i → i < k → T i = b → V (64 * b + c) = V0 (64 * (1 + i) + c)) ∧ ((∀ i, 0 ≤ i → i < k → T i ≠ b) → V (64 * b + c) = V0 (64 * b + c))
theorem jM.z {B : Int} {V0 T : Int → Int} : jM B V0 T 0 V0 := ⟨fun _ _ _ => rfl, fun b c _ _ _ _ => ⟨fun i i0 i1 _ => by omega, fun _ => rfl⟩⟩
theorem jM.s {B k : Int} {V0 T V R : Int → Int} (h : jM B V0 T k V) (hk : 0 ≤ k) (hT : 25 ≤ T k) (hd : ∀ i, 0 ≤ i → i < k → T i ≠ T k) (hR : ∀ c, 0 ≤ c → c < 64 → R c = V0 (64 * (1 + k) + c)) : jM B V0 T (k + 1) (vPut V (T k) R) := by
  refine ⟨fun j j0 j1 => ?_, fun b c b0 b1 c0 c1 => ⟨fun i i0 i1 e => ?_, fun u => ?_⟩⟩
  · unfold vPut
    rw [if_neg (by omega)]
    exact h.1 j j0 j1
  · by_cases y : i = k
    · subst y
      rw [← e, vPut_at ⟨c0, c1⟩]
      exact hR c c0 c1
    · rw [vPut_ne ⟨c0, c1⟩ (by rw [← e]; exact hd i i0 (by omega))]
      exact (h.2 b c b0 b1 c0 c1).1 i i0 (by omega) e
  · rw [vPut_ne ⟨c0, c1⟩ (fun z => u k hk (by omega) z.symm)]
    exact (h.2 b c b0 b1 c0 c1).2 (fun i i0 i1 => u i i0 (by omega))
theorem jT_of {V V' : Int → Int} {i : Int} (h : ∀ j, 0 ≤ j → j < 1600 → V' j = V j) (hi : 0 ≤ i ∧ i < 24) : jT V' i = jT V i := by
  unfold jT
  rw [h _ (by omega) (by omega), h _ (by omega) (by omega)]
theorem Jr.m {B k : Int} {V0 T V : Int → Int} (J : Jr B V0) (hT : ∀ i, 0 ≤ i → i < V0 4 → jT V0 i = T i) (h0 : 0 ≤ V0 4) (hk : k ≤ V0 4) (h : jM B V0 T k V) : Jr B V := by
  obtain ⟨hh, A, g, tr⟩ := J
  have e4 : V 4 = V0 4 := h.1 4 (by decide) (by decide)
  have n24 : V0 4 ≤ 24 := by
    rcases hh with u | u
    · omega
    · exact u.1.2
  have eT : ∀ i, 0 ≤ i → i < V0 4 → jT V i = jT V0 i := fun i i0 i1 => jT_of h.1 ⟨i0, by omega⟩
  refine ⟨?_, A, g, fun b c b0 b1 c0 c1 o => ?_⟩
  · rcases hh with u | ⟨u1, u2, u3⟩
    · exact Or.inl (by rw [e4]; exact u)
    · refine Or.inr ⟨by rw [e4]; exact u1, fun i i0 i1 => ?_, fun i j i0 i1 j0 j1 e => ?_⟩
      · rw [e4] at i1
        rw [eT i i0 i1]
        exact u2 i i0 i1
      · rw [e4] at i1 j1
        rw [eT i i0 i1, eT j j0 j1] at e
        exact u3 i j i0 i1 j0 j1 e
  · obtain ⟨t1, t2⟩ := tr b c b0 b1 c0 c1 o
    have hmb : mBy B A V b c = mBy B A V0 b c := mBy_V b0 (by omega)
    rw [hmb, e4]
    refine ⟨fun i i0 i1 e => ?_, fun u => ?_⟩
    · rw [eT i i0 i1] at e
      rw [t1 i i0 i1 e, h.1 _ (by omega) (by omega)]
    · have u' : ∀ i, 0 ≤ i → i < V0 4 → jT V0 i ≠ b := fun i i0 i1 e => u i i0 i1 (by rw [eT i i0 i1]; exact e)
      rw [t2 u', (h.2 b c b0 b1 c0 c1).2 (fun i i0 i1 e => u' i i0 (by omega) (by rw [hT i i0 (by omega)]; exact e))]
theorem Jr.e {B : Int} {V0 T V : Int → Int} (J : Jr B V0) (hT : ∀ i, 0 ≤ i → i < V0 4 → jT V0 i = T i) (h4 : V 4 = 0) (h : ∀ b c, 25 ≤ b → b < B → 0 ≤ c → c < 64 → (∀ i, 0 ≤ i → i < V0 4 → T i = b → V (64 * b + c) = V0 (64 * (1 + i) + c)) ∧ ((∀ i, 0 ≤ i → i < V0 4 → T i ≠ b) → V (64 * b + c) = V0 (64 * b + c))) : Jr B V := by
  obtain ⟨hh, A, g, tr⟩ := J
  refine ⟨Or.inl h4, A, g, fun b c b0 b1 c0 c1 o => ⟨fun i i0 i1 _ => by omega, fun _ => ?_⟩⟩
  obtain ⟨t1, t2⟩ := tr b c b0 b1 c0 c1 o
  rw [mBy_V (V' := V0) b0 (by omega)]
  by_cases y : ∃ i, 0 ≤ i ∧ i < V0 4 ∧ T i = b
  · obtain ⟨i, i0, i1, e⟩ := y
    rw [t1 i i0 i1 (by rw [hT i i0 i1]; exact e), (h b c b0 b1 c0 c1).1 i i0 i1 e]
  · have y : ∀ i, 0 ≤ i → i < V0 4 → T i ≠ b := fun i i0 i1 e => y ⟨i, i0, i1, e⟩
    rw [t2 (fun i i0 i1 e => y i i0 i1 (by rw [← hT i i0 i1]; exact e)), (h b c b0 b1 c0 c1).2 y]
theorem hB_0 {s k : Int} {T : Int → Int} (h : 4 ≤ k) : hB 0 s T k = 0 := by
  unfold hB
  rw [if_neg (by omega)]
  by_cases c : k = 4
  · rw [if_pos c]
  · rw [if_neg c, if_neg (by omega)]
section CARRY
variable {d w r : Int} {t : Nat} {L : Int → Int} {H M X : zHp} {Qr Qt : Int → zS → Prop} {C : Int → Int → Int}
/-- the sequence, as DiskPoolModel.sequence reckons it -/
def qq (M : zHp) : Int := zlor (zor (zor (M 43 0) (zshl (M 43 1) 8)) (zshl (M 43 2) 16)) (zlshl (M 43 3) 24)
theorem vVal.byte {V : Int → Int} {k : Int} (hk : gOK d w r) (h : vVal d w r C V) (hk2 : 0 ≤ k ∧ k < 59) : 0 ≤ V k ∧ V k < 256 := by
  have hB2 := gBl_ge hk
  have q := h 0 k (by decide) (by omega) hk2.1 (by omega) (fun _ => by omega)
  rw [show 64 * 0 + k = k by omega] at q
  rw [← q]
  exact by8_rg _ _
theorem vVal.sq (hk : gOK d w r) (h : vVal d w r C (M 43)) : z32 (qq M) = jSq (M 43) := sq_eq (h.byte hk (by decide)) (h.byte hk (by decide)) (h.byte hk (by decide)) (h.byte hk (by decide))
theorem m_seq (l43 : L 43 = 49152) (hQ : Qr (qq M) (t, L, M)) : zEnds 118 203 0 [(29, 35)] [] (t, L, M) Qr Qt := v_203 ⟨⟨by decide, by show 0 < L 43; omega⟩, ⟨by decide, by show 1 < L 43; omega⟩, ⟨by decide, by show 2 < L 43; omega⟩, ⟨by decide, by show 3 < L 43; omega⟩, hQ⟩
/-- Journal.carryOut -/
theorem c_carry {n wm o bad good : Int} {fin : zHp → zHp} {V0 : Int → Int} {H0 M0 : zHp} {G : Int → zHp → (Int → zS → Prop) → (Int → zS → Prop) → Prop}
    (h8 : cT8 L H0) (hn4 : V0 4 = n) (hn : 0 ≤ n ∧ n ≤ 24) (hT : ∀ i, 0 ≤ i → i < n → 25 ≤ H0 30 i ∧ H0 30 i < r * gGr d w * (w - 1)) (hTV : ∀ i, 0 ≤ i → i < n → jT V0 i = H0 30 i) (hdi : ∀ i j, 0 ≤ i → i < n → 0 ≤ j → j < n → H0 30 i = H0 30 j → i = j)
    (hP : ∀ i k, 0 ≤ i → i < n → 0 ≤ k → k < 64 → by8 (H0 31 (8 * i + k / 8)) (k % 8) = V0 (64 * (1 + i) + k)) (hW : ∀ i j, 0 ≤ i → i < n → 0 ≤ j → j < 8 → z64 (H0 31 (8 * i + j)) = H0 31 (8 * i + j))
    (hm : (wm = 52 ∧ o = 0 ∧ ∀ i k, 0 ≤ i → i < n → 0 ≤ k → k < 64 → M0 52 (64 * i + k) = V0 (64 * (1 + i) + k)) ∨ (wm = 43 ∧ o = 1)) (J : Jr (r * gGr d w * (w - 1)) V0) (hs : H0 29 6 = jSq V0)
    (gok : ∀ i M M1, 0 ≤ i → i < n → mS d w r L M → kJm M0 M → (∀ j, 0 ≤ j → j < 1600 → M 43 j = V0 j) → (∀ F FT : Int → zS → Prop, F 1 (t, L, M1) → zEnds 118 197 0 [(29, 35), (0, H0 30 i), (10, wm), (0, 64 * (o + i)), (9, 0), (9, 0), (9, 0), (9, 0), (9, 0), (9, 0), (9, 0)] [] (t, L, M) F FT) → ∀ F FT, G (i + 1) M1 F FT → G i M F FT)
    (gbad : ∀ i M M1, 0 ≤ i → i < n → mS d w r L M → kJm M0 M → (∀ j, 0 ≤ j → j < 1600 → M 43 j = V0 j) → (∀ F FT : Int → zS → Prop, F 0 (t, L, M1) → zEnds 118 197 0 [(29, 35), (0, H0 30 i), (10, wm), (0, 64 * (o + i)), (9, 0), (9, 0), (9, 0), (9, 0), (9, 0), (9, 0), (9, 0)] [] (t, L, M) F FT) → ∀ F FT, F bad (t, L, M1) → G i M F FT)
    (eok : ∀ M M1, mS d w r L M → kJm M0 M → (∀ F FT : Int → zS → Prop, F 1 (t, L, M1) → zEnds 118 197 0 [(29, 35), (0, 0), (10, 53), (0, 0), (9, 0), (9, 0), (9, 0), (9, 0), (9, 0), (9, 0), (9, 0)] [] (t, L, hdM M 0 (z64 (qq M + 1))) F FT) → ∀ F FT, F good (t, L, fin M1) → G n M F FT)
    (ebad : ∀ M M1, mS d w r L M → kJm M0 M → (∀ F FT : Int → zS → Prop, F 0 (t, L, M1) → zEnds 118 197 0 [(29, 35), (0, 0), (10, 53), (0, 0), (9, 0), (9, 0), (9, 0), (9, 0), (9, 0), (9, 0), (9, 0)] [] (t, L, hdM M 0 (z64 (qq M + 1))) F FT) → ∀ F FT, F bad (t, L, M1) → G n M F FT)
    (hok : ∀ C1 H1 M1, gI d w r t L H1 → mS d w r L M1 → vS d w r C1 H1 M1 → vVal d w r C1 (M1 43) → kJ H0 H1 → kJm M0 M1 → (∀ k, 0 ≤ k → k < 4 → M1 43 k = sY (jSq V0 + 1) k) → M1 43 4 = 0 → H1 29 6 = z32 (jSq V0 + 1) → (∀ b c, 25 ≤ b → b < r * gGr d w * (w - 1) → 0 ≤ c → c < 64 → (∀ i, 0 ≤ i → i < n → H0 30 i = b → M1 43 (64 * b + c) = V0 (64 * (1 + i) + c)) ∧ ((∀ i, 0 ≤ i → i < n → H0 30 i ≠ b) → M1 43 (64 * b + c) = V0 (64 * b + c))) → Jr (r * gGr d w * (w - 1)) (M1 43) → (∀ F FT, F good (t, L, fin M1) → G 0 M0 F FT) → Qr 1 (t, L, H1))
    (hbad : ∀ H1 M1, gI d w r t L H1 → mS d w r L M1 → jX d w r H1 M1 → kJ H0 H1 → kJm M0 M1 → (∀ F FT, F bad (t, L, M1) → G 0 M0 F FT) → Qr 0 (t, L, H1))
    (i0 : gI d w r t L H0) (m0 : mS d w r L M0) (s0 : vS d w r C H0 M0) (v0 : vVal d w r C (M0 43)) (e0 : M0 43 = V0) : zEnds 80 141 0 [(28, 29), (0, n), (9, 0)] [] (t, L, H0) Qr Qt := by
  have hk := i0.1.1
  have bl := gBl_le hk
  have hB2 := gBl_ge hk
  have l30 : L 30 = 24 := i0.1.2.1.2.2.2.2.2.2.2.2.2.2.1
  have l31 : L 31 = 192 := i0.1.2.1.2.2.2.2.2.2.2.2.2.2.2.1
  have l32 : L 32 = 8 := i0.1.2.1.2.2.2.2.2.2.2.2.2.2.2.2.1
  have l43 : L 43 = 49152 := m0.2.1.2.2.2.2.2.2.2.1
  have l52 : L 52 = 3072 := m0.2.2.1.2.2.2.2.2.2.2.1
  have l53 : L 53 = 64 := m0.2.2.1.2.2.2.2.2.2.2.2
  have key : ∀ (m : Nat) (i : Int) (C : Int → Int → Int) (H M : zHp), 0 ≤ i → i + m = n → gI d w r t L H → mS d w r L M → vS d w r C H M → vVal d w r C (M 43) → kJ H0 H → kJm M0 M → jM (r * gGr d w * (w - 1)) V0 (H0 30) i (M 43) → H 29 6 = H0 29 6 → (∀ F FT, G i M F FT → G 0 M0 F FT) → zEnds 80 141 2 [(28, 29), (0, n), (0, i)] [] (t, L, H) Qr Qt := by
    intro m
    induction m with
    | zero =>
      intro i C H M i0 i1 hi hM hS hv hH hMm hj h29 go
      have e : i = n := by omega
      subst e
      refine v_141_2 ⟨fun _ => ?_, fun u => absurd (Int.le_refl _) u⟩
      have e29 : zupd H 29 6 (z32 (H 29 6 + 1)) 29 6 = z32 (jSq V0 + 1) := by rw [zupd_at, h29, hs]
      refine c_fillHead (H := zupd H 29 6 (z32 (H 29 6 + 1))) ⟨h8.1, fun j j0 j1 => ?_⟩ l30 l31 l32 (by decide) (fun j j0 j1 => by omega) (by rw [e29]; exact z32_z32 _) (fun H' g1 g2 g3 => ?_)
      · rw [zupd_ne (by decide), hH.1 (-8) j (by decide) (by decide) (by decide) (by decide) (by decide) (by decide) (by decide) (by decide) (by decide) (by omega)]
        exact h8.2 j j0 j1
      have kH' : kJ H0 H' := (kJ.sq hH).hd g1
      have hi' : gI d w r t L H' := by
        have a : gI d w r t L (zupd H 29 6 (z32 (H 29 6 + 1))) := hi.keep (fun q i hq => zupd_ne (by omega)) (fun q i hq => by rw [zupd_ne (by omega)]; exact hi.1.2.2.2 q i (by omega))
        exact a.keep (fun q i hq => g1 q i (by omega)) (fun q i hq => by rw [g1 q i (by omega)]; exact a.1.2.2.2 q i (by omega))
      have eH' : ∀ q i, q ≠ 32 → q ≠ 29 → H' q i = H q i := fun q i a b => by rw [g1 q i a, zupd_ne b]
      have eSq : z32 (jSq V0 + 1) = z32 (z64 (qq M + 1)) := by
        have a := hv.sq hk
        have b : jSq (M 43) = jSq V0 := by
          unfold jSq
          rw [hj.1 0 (by decide) (by decide), hj.1 1 (by decide) (by decide), hj.1 2 (by decide) (by decide), hj.1 3 (by decide) (by decide)]
        rw [b] at a
        rw [← a]
        unfold z64 z32
        omega
      have hS' : vS d w r C H' (hdM M 0 (z64 (qq M + 1))) := hS.keep (fun q i hq => eH' q i (by omega) (by omega)) (fun q i hq => hdM_ne (by omega))
      have e43 : (hdM M 0 (z64 (qq M + 1))) 43 = M 43 := funext (fun j => hdM_ne (by decide))
      have rows : ∀ k, 0 ≤ k → k < 64 → vPut (M 43) 0 (fun k => hdM M 0 (z64 (qq M + 1)) 53 (0 + k)) k = hB 0 (jSq V0 + 1) (M 51) k := fun k k0 k1 => by
        have q := vPut_at (V := M 43) (R := fun k => hdM M 0 (z64 (qq M + 1)) 53 (0 + k)) (b := 0) (k := k) ⟨k0, k1⟩
        rw [show 64 * 0 + k = k by omega] at q
        rw [q]
        show hdM M 0 (z64 (qq M + 1)) 53 (0 + k) = _
        rw [show 0 + k = k by omega, hdM_at ⟨k0, k1⟩]
        exact hB_mod k0 eSq.symm (fun j j0 j1 => by omega)
      have tgt : ∀ b c, 25 ≤ b → b < r * gGr d w * (w - 1) → 0 ≤ c → c < 64 → (∀ j, 0 ≤ j → j < i → H0 30 j = b → vPut (M 43) 0 (fun k => hdM M 0 (z64 (qq M + 1)) 53 (0 + k)) (64 * b + c) = V0 (64 * (1 + j) + c)) ∧ ((∀ j, 0 ≤ j → j < i → H0 30 j ≠ b) → vPut (M 43) 0 (fun k => hdM M 0 (z64 (qq M + 1)) 53 (0 + k)) (64 * b + c) = V0 (64 * b + c)) := fun b c b0 b1 c0 c1 => by
        rw [vPut_ne ⟨c0, c1⟩ (by omega)]
        exact hj.2 b c b0 b1 c0 c1
      have J0 : Jr (r * gGr d w * (w - 1)) (M 43) := J.m (T := H0 30) (k := i) (by rw [hn4]; exact hTV) (by omega) (by omega) hj
      have r4 : vPut (M 43) 0 (fun k => hdM M 0 (z64 (qq M + 1)) 53 (0 + k)) 4 = 0 := by rw [rows 4 (by decide) (by decide)]; exact hB_0 (show (4 : Int) ≤ 4 by decide)
      have J1 : Jr (r * gGr d w * (w - 1)) (vPut (M 43) 0 (fun k => hdM M 0 (z64 (qq M + 1)) 53 (0 + k))) := J.e (T := H0 30) (by rw [hn4]; exact hTV) r4 (by rw [hn4]; exact tgt)
      refine j_step (wm := 53) (fr := 0) hi' (hM.of (fun j _ => hdM_ne (by decide)) (fun j => hdM_ne (by decide))) hS' (by rw [e43]; exact hv) (by omega) (by decide) (fun j j0 j1 => by rw [Int.zero_add]; exact g2 j j0 j1) (by decide) (fun k k0 k1 nk => ?_) (by rw [e43]; exact J0) (by rw [e43]; exact J1) (by show (0 : Int) ≤ 0 ∧ 0 + 8 ≤ L 32 ∧ L 32 ≤ 1000000; omega) (by show (0 : Int) ≤ 0 ∧ 0 + 64 ≤ L 53 ∧ L 53 ≤ 1000000; omega) (fun u => by omega) (fun H1 M1 a1 a2 a3 a4 a5 a6 a7 a8 => ⟨Or.inr rfl, ?_⟩) (fun H1 M1 a1 a2 a3 a4 a5 a6 => ⟨Or.inl rfl, ?_⟩)
      · have q := zB8_by (G := H') (o := 32) (b := 0) (k := k) ⟨k0, k1⟩
        rw [show 64 * 0 + k = k by omega, show 8 * 0 + k / 8 = k / 8 by omega] at q
        rw [Int.zero_add, Int.zero_add, ← q, g3 k k0 k1 (nk rfl), hdM_at ⟨k0, k1⟩, e29]
        exact hB_mod k0 (by rw [z32_z32]; exact eSq) (fun j j0 j1 => by omega)
      · rw [e43] at a5
        refine hok _ H1 M1 a1 a2 a3 a4 (kH'.st a6) ((kJm.hd hMm).st a7) (fun k k0 k1 => ?_) (by rw [a5]; exact r4) ?_ (by rw [a5]; exact tgt) (by rw [a5]; exact J1) (fun F FT hF => go F FT (eok M M1 hM hMm a8 F FT hF))
        · rw [a5, rows k k0 (by omega)]
          unfold hB
          rw [if_pos k1]
        · rw [a6.1 29 6 (by decide) (by decide) (by decide) (by decide) (by decide) (by decide) (by decide) (by decide), g1 29 6 (by decide)]
          exact e29
      · exact hbad H1 M1 a1 a2 a3 (kH'.st a4) ((kJm.hd hMm).st a5) (fun F FT hF => go F FT (ebad M M1 hM hMm a6 F FT hF))
    | succ m ih =>
      intro i C H M i0 i1 hi hM hS hv hH hMm hj h29 go
      have hin : i < n := by omega
      have hT2 := hT i i0 hin
      have e30 : ∀ j, H 30 j = H0 30 j := fun j => hH.1 30 j (by decide) (by decide) (by decide) (by decide) (by decide) (by decide) (by decide) (by decide) (by decide) (by omega)
      have e31 : ∀ j, H 31 j = H0 31 j := fun j => hH.1 31 j (by decide) (by decide) (by decide) (by decide) (by decide) (by decide) (by decide) (by decide) (by decide) (by omega)
      refine v_141_2 ⟨fun u => by omega, fun _ => ⟨by show 0 ≤ i ∧ i < L 30; omega, ?_⟩⟩
      show zEnds 80 60 0 [(23, 12), (0, H 30 i), (11, 31), (0, z32 (8 * i)), (9, 0), (9, 0), (9, 0), (9, 0)] [] _ _ _
      rw [e30 i, z32_id (x := 8 * i) (by omega) (by omega), z32_id (x := i + 1) (by omega) (by omega)]
      have src : ∀ k, 0 ≤ k → k < 64 → M wm (64 * (o + i) + k) = V0 (64 * (1 + i) + k) := fun k k0 k1 => by
        rcases hm with ⟨w1, w2, w4⟩ | ⟨w1, w2⟩
        · rw [w1, w2, Int.zero_add, hMm.1 52 _ (by decide) (by decide) (by decide) (by decide) (by decide) (by decide) (by decide)]
          exact w4 i k i0 hin k0 k1
        · rw [w1, w2]
          exact hj.1 _ (by omega) (by omega)
      have J0 : Jr (r * gGr d w * (w - 1)) (M 43) := J.m (T := H0 30) (k := i) (by rw [hn4]; exact hTV) (by omega) (by omega) hj
      have jn : jM (r * gGr d w * (w - 1)) V0 (H0 30) (i + 1) (vPut (M 43) (H0 30 i) (fun k => M wm (64 * (o + i) + k))) := hj.s i0 hT2.1 (fun j j0 j1 e => by have := hdi j i j0 (by omega) i0 hin e; omega) src
      have J1 : Jr (r * gGr d w * (w - 1)) (vPut (M 43) (H0 30 i) (fun k => M wm (64 * (o + i) + k))) := J.m (T := H0 30) (k := i + 1) (by rw [hn4]; exact hTV) (by omega) (by omega) jn
      refine j_step (wm := wm) (fr := 64 * (o + i)) hi hM hS hv (by omega) (by decide) (fun j j0 j1 => by rw [e31]; exact hW i j i0 hin j0 j1) (by omega) (fun k k0 k1 nk => by rw [e31, src k k0 k1]; exact hP i k i0 hin k0 k1) J0 J1 (by show 0 ≤ 8 * i ∧ 8 * i + 8 ≤ L 31 ∧ L 31 ≤ 1000000; omega) (by rcases hm with ⟨w1, w2, -⟩ | ⟨w1, w2⟩ <;> rw [w1, w2] <;> omega) (fun u => by omega) (fun H1 M1 a1 a2 a3 a4 a5 a6 a7 a8 => ⟨fun _ => ?_, fun u => absurd (by decide) u⟩) (fun H1 M1 a1 a2 a3 a4 a5 a6 => ⟨fun u => absurd rfl u, fun _ => ⟨Or.inl rfl, ?_⟩⟩)
      · exact ih (i + 1) _ H1 M1 (by omega) (by omega) a1 a2 a3 a4 (hH.st a6) (hMm.st a7) (by rw [a5]; exact jn) (by rw [a6.1 29 6 (by decide) (by decide) (by decide) (by decide) (by decide) (by decide) (by decide) (by decide)]; exact h29) (fun F FT hG => go F FT (gok i M M1 i0 hin hM hMm hj.1 a8 F FT hG))
      · exact hbad H1 M1 a1 a2 a3 (hH.st a4) (hMm.st a5) (fun F FT hF => go F FT (gbad i M M1 i0 hin hM hMm hj.1 a6 F FT hF))
  exact v_141 (key n.toNat 0 C H0 M0 (by decide) (by omega) i0 m0 s0 v0 kJ.rfl' kJm.rfl' (by rw [e0]; exact jM.z) rfl (fun _ _ u => u))
end CARRY
