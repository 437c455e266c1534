/-! A commit, there and here. -/
/-- the reference's run from M gives b and leaves M1 -/
def mRet (t : Nat) (L : Int → Int) (m pc : Nat) (ls : List zV) (M : zHp) (b : Int) (M1 : zHp) : Prop := ∀ F FT : Int → zS → Prop, F b (t, L, M1) → zEnds 118 m pc ls [] (t, L, M) F FT
theorem cN_congr {P Q : Int → Prop} {b B : Int} (h : ∀ x, 25 ≤ x → x < B → (P x ↔ Q x)) (hb : 25 ≤ b ∧ b ≤ B) : cN P b = cN Q b := gCnt_congr _ _ (fun i i0 i1 => h i i0 (by omega))
section COMMIT
variable {d w r : Int} {t : Nat} {L : Int → Int} {H M X : zHp} {Qr Qt : Int → zS → Prop} {C : Int → Int → Int}
theorem m_cut {n i : Int} (hn : 0 < n) (hQ : Qr (-9) (t, L, M)) : zEnds 118 204 134 [(29, 35), (0, n), (0, 0), (0, i)] [] (t, L, M) Qr Qt :=
  v_204_134 ⟨fun _ => ⟨fun u => by omega, fun _ => ⟨fun _ => ⟨fun u => absurd rfl u, fun _ => hQ⟩, fun u => absurd rfl u⟩⟩, fun _ => ⟨fun _ => ⟨fun u => by omega, fun _ => ⟨fun _ => ⟨fun u => absurd rfl u, fun _ => hQ⟩, fun u => absurd rfl u⟩⟩, fun u => absurd rfl u⟩⟩
theorem m_cut75 {n i : Int} (hn : 0 < n) (hQ : Qr (-9) (t, L, M)) : zEnds 118 204 75 [(29, 35), (0, n), (0, 0), (0, i)] [] (t, L, M) Qr Qt :=
  v_204_75 ⟨fun _ => ⟨fun u => by omega, fun _ => ⟨fun _ => m_cut hn hQ, fun u => absurd rfl u⟩⟩, fun _ => ⟨fun _ => ⟨fun u => by omega, fun _ => ⟨fun _ => m_cut hn hQ, fun u => absurd rfl u⟩⟩, fun u => absurd rfl u⟩⟩
theorem Jr.a {B : Int} {V V' : Int → Int} (J : Jr B V) (h0 : V 4 = 0) (h4 : V' 4 = 0) (h : ∀ j, 1600 ≤ j → V' j = V j) : Jr B V' := J.e (T := fun _ => 0) (fun i i0 i1 => by omega) h4 (fun b c b0 b1 c0 c1 => ⟨fun i i0 i1 _ => by omega, fun _ => h _ (by omega)⟩)
/-- Journal.announce -/
theorem c_ann {n : Int} {V0 : Int → Int} {H0 M0 : zHp} (h8 : cT8 L H0) (hn : 0 < n ∧ n ≤ 24) (hT : ∀ i, 0 ≤ i → i < n → (25 ≤ H0 30 i ∧ H0 30 i < r * gGr d w * (w - 1)) ∧ M0 51 i = H0 30 i)
    (hP : ∀ i k, 0 ≤ i → i < n → 0 ≤ k → k < 64 → by8 (H0 31 (8 * i + k / 8)) (k % 8) = M0 52 (64 * i + k)) (hW : ∀ i j, 0 ≤ i → i < n → 0 ≤ j → j < 8 → z64 (H0 31 (8 * i + j)) = H0 31 (8 * i + j))
    (J0 : Jr (r * gGr d w * (w - 1)) V0) (h4 : V0 4 = 0) (hs : H0 29 6 = jSq V0)
    (J1 : ∀ V', (∀ k, 0 ≤ k → k < 64 → V' k = hB n (jSq V0) (H0 30) k) → (∀ i k, 0 ≤ i → i < n → 0 ≤ k → k < 64 → V' (64 * (1 + i) + k) = M0 52 (64 * i + k)) → (∀ j, 1600 ≤ j → V' j = V0 j) → Jr (r * gGr d w * (w - 1)) V')
    (hok : ∀ C1 H1 M1, gI d w r t L H1 → mS d w r L M1 → vS d w r C1 H1 M1 → vVal d w r C1 (M1 43) → kJ H0 H1 → kJm M0 M1 → H1 29 6 = H0 29 6 → (∀ k, 0 ≤ k → k < 64 → M1 43 k = hB n (jSq V0) (H0 30) k) → (∀ i k, 0 ≤ i → i < n → 0 ≤ k → k < 64 → M1 43 (64 * (1 + i) + k) = M0 52 (64 * i + k)) → (∀ j, 1600 ≤ j → M1 43 j = V0 j) → Jr (r * gGr d w * (w - 1)) (M1 43) → (∀ F FT, zEnds 118 204 134 [(29, 35), (0, n), (0, 1), (0, 0)] [] (t, L, M1) F FT → zEnds 118 204 75 [(29, 35), (0, n), (0, 1), (0, 0)] [] (t, L, M0) F FT) → Qr 1 (t, L, H1))
    (hbad : ∀ H1 M1, gI d w r t L H1 → mS d w r L M1 → jX d w r H1 M1 → kJ H0 H1 → kJm M0 M1 → mRet t L 204 75 [(29, 35), (0, n), (0, 1), (0, 0)] M0 (-9) M1 → Qr 0 (t, L, H1))
    (i0 : gI d w r t L H0) (m0 : mS d w r L M0) (s0 : vS d w r C H0 M0) (v0 : vVal d w r C (M0 43)) (e0 : M0 43 = V0) : zEnds 80 140 0 [(28, 29), (0, n), (9, 0)] [] (t, L, H0) Qr Qt := by
  have hk := i0.1.1
  have bl := gBl_le hk
  have hB2 := gBl_ge hk
  have l30 : L 30 = 24 := i0.1.2.1.2.2.2.2.2.2.2.2.2.2.1
  have l31 : L 31 = 192 := i0.1.2.1.2.2.2.2.2.2.2.2.2.2.2.1
  have l32 : L 32 = 8 := i0.1.2.1.2.2.2.2.2.2.2.2.2.2.2.2.1
  have l43 : L 43 = 49152 := m0.2.1.2.2.2.2.2.2.2.1
  have l51 : L 51 = 48 := m0.2.2.1.2.2.2.2.2.2.1
  have l52 : L 52 = 3072 := m0.2.2.1.2.2.2.2.2.2.2.1
  have l53 : L 53 = 64 := m0.2.2.1.2.2.2.2.2.2.2.2
  have key : ∀ (m : Nat) (i : Int) (C : Int → Int → Int) (H M : zHp), 0 ≤ i → i + m = n → gI d w r t L H → mS d w r L M → vS d w r C H M → vVal d w r C (M 43) → kJ H0 H → kJm M0 M → (∀ k, k < 64 → M 43 k = V0 k) → (∀ j, 1600 ≤ j → M 43 j = V0 j) → (∀ j k, 0 ≤ j → j < i → 0 ≤ k → k < 64 → M 43 (64 * (1 + j) + k) = M0 52 (64 * j + k)) → H 29 6 = H0 29 6 → (∀ F FT, zEnds 118 204 75 [(29, 35), (0, n), (0, 1), (0, i)] [] (t, L, M) F FT → zEnds 118 204 75 [(29, 35), (0, n), (0, 1), (0, 0)] [] (t, L, M0) F FT) → zEnds 80 140 2 [(28, 29), (0, n), (0, i)] [] (t, L, H) Qr Qt := by
    intro m
    induction m with
    | zero =>
      intro i C H M i0 i1 hi hM hS hv hH hMm hz hj hp h29 go
      have e : i = n := by omega
      subst e
      have JM : Jr (r * gGr d w * (w - 1)) (M 43) := J0.a h4 (by rw [hz 4 (by decide)]; exact h4) hj
      have e30 : ∀ j, H 30 j = H0 30 j := fun j => hH.1 30 j (by decide) (by decide) (by decide) (by decide) (by decide) (by decide) (by decide) (by decide) (by decide) (by omega)
      have e51 : ∀ j, M 51 j = M0 51 j := fun j => hMm.1 51 j (by decide) (by decide) (by decide) (by decide) (by decide) (by decide) (by decide)
      have z29 : z32 (H 29 6) = H 29 6 := by rw [h29, hs]; exact z32_z32 _
      refine v_140_2 ⟨fun _ => ?_, fun u => absurd (Int.le_refl _) u⟩
      refine c_fillHead (H := H) ⟨h8.1, fun j j0 j1 => ?_⟩ l30 l31 l32 (by omega) (fun j j0 j1 => by have := hT j j0 j1; rw [e30]; omega) z29 (fun H' g1 g2 g3 => ?_)
      · rw [hH.1 (-8) j (by decide) (by decide) (by decide) (by decide) (by decide) (by decide) (by decide) (by decide) (by decide) (by omega)]
        exact h8.2 j j0 j1
      have hi' : gI d w r t L H' := hi.keep (fun q i hq => g1 q i (by omega)) (fun q i hq => by rw [g1 q i (by omega)]; exact hi.1.2.2.2 q i (by omega))
      have eSq : z32 (qq M) = jSq V0 := by
        rw [hv.sq hk]
        unfold jSq
        rw [hz 0 (by decide), hz 1 (by decide), hz 2 (by decide), hz 3 (by decide)]
      have eS2 : z32 (jSq V0) = z32 (qq M) := by rw [eSq]; exact z32_z32 _
      have hS' : vS d w r C H' (hdM M i (qq M)) := hS.keep (fun q i hq => g1 q i (by omega)) (fun q i hq => hdM_ne (by omega))
      have e43 : (hdM M i (qq M)) 43 = M 43 := funext (fun j => hdM_ne (by decide))
      have rows : ∀ k, 0 ≤ k → k < 64 → vPut (M 43) 0 (fun k => hdM M i (qq M) 53 (0 + k)) k = hB i (jSq V0) (H0 30) k := fun k k0 k1 => by
        have q := vPut_at (V := M 43) (R := fun k => hdM M i (qq M) 53 (0 + k)) (b := 0) (k := k) ⟨k0, k1⟩
        rw [show 64 * 0 + k = k by omega] at q
        rw [q]
        show hdM M i (qq M) 53 (0 + k) = _
        rw [show 0 + k = k by omega, hdM_at ⟨k0, k1⟩]
        exact hB_mod k0 eS2.symm (fun j j0 j1 => by rw [e51, (hT j j0 j1).2])
      have r1 : ∀ j k, 0 ≤ j → j < i → 0 ≤ k → k < 64 → vPut (M 43) 0 (fun k => hdM M i (qq M) 53 (0 + k)) (64 * (1 + j) + k) = M0 52 (64 * j + k) := fun j k j0 j1 k0 k1 => by
        rw [vPut_ne ⟨k0, k1⟩ (by omega)]
        exact hp j k j0 j1 k0 k1
      have r2 : ∀ j, 1600 ≤ j → vPut (M 43) 0 (fun k => hdM M i (qq M) 53 (0 + k)) j = V0 j := fun j j0 => by
        have q := vPut_ne (V := M 43) (R := fun k => hdM M i (qq M) 53 (0 + k)) (b := 0) (c := j / 64) (k := j % 64) (by omega) (by omega)
        rw [show 64 * (j / 64) + j % 64 = j by omega] at q
        rw [q]
        exact hj j j0
      have JN := J1 _ rows r1 r2
      refine j_step (wm := 53) (fr := 0) hi' (hM.of (fun j _ => hdM_ne (by decide)) (fun j => hdM_ne (by decide))) hS' (by rw [e43]; exact hv) (by omega) (by decide) (fun j j0 j1 => by rw [Int.zero_add]; exact g2 j j0 j1) (by decide) (fun k k0 k1 nk => ?_) (by rw [e43]; exact JM) (by rw [e43]; exact JN) (by show (0 : Int) ≤ 0 ∧ 0 + 8 ≤ L 32 ∧ L 32 ≤ 1000000; omega) (by show (0 : Int) ≤ 0 ∧ 0 + 64 ≤ L 53 ∧ L 53 ≤ 1000000; omega) (fun u => by omega) (fun H1 M1 a1 a2 a3 a4 a5 a6 a7 a8 => ⟨Or.inr rfl, ?_⟩) (fun H1 M1 a1 a2 a3 a4 a5 a6 => ⟨Or.inl rfl, ?_⟩)
      · have q := zB8_by (G := H') (o := 32) (b := 0) (k := k) ⟨k0, k1⟩
        rw [show 64 * 0 + k = k by omega, show 8 * 0 + k / 8 = k / 8 by omega] at q
        rw [Int.zero_add, Int.zero_add, ← q, g3 k k0 k1 (nk rfl), hdM_at ⟨k0, k1⟩, h29, hs]
        exact hB_mod k0 eS2 (fun j j0 j1 => by rw [e30, e51, (hT j j0 j1).2])
      · rw [e43] at a5
        refine hok _ H1 M1 a1 a2 a3 a4 ((kJ.hd hH g1).st a6) ((kJm.hd hMm).st a7) ?_ (by rw [a5]; exact rows) (by rw [a5]; exact r1) (by rw [a5]; exact r2) (by rw [a5]; exact JN) (fun F FT hF => go F FT ?_)
        · rw [a6.1 29 6 (by decide) (by decide) (by decide) (by decide) (by decide) (by decide) (by decide) (by decide), g1 29 6 (by decide)]
          exact h29
        · refine v_204_75 ⟨fun _ => ⟨fun u => by omega, fun _ => ⟨fun u => absurd u (by decide), fun _ => m_seq l43 (m_heads l51 l53 (by omega) (fun j j0 j1 => by have := hT j j0 j1; rw [e51, this.2]; omega) (a8 _ _ ⟨Or.inr rfl, fun u => absurd u (by decide), fun _ => hF⟩))⟩⟩, fun u => absurd (Int.le_refl _) u⟩
      · refine hbad H1 M1 a1 a2 a3 ((kJ.hd hH g1).st a4) ((kJm.hd hMm).st a5) (fun F FT hF => go F FT ?_)
        refine v_204_75 ⟨fun _ => ⟨fun u => by omega, fun _ => ⟨fun u => absurd u (by decide), fun _ => m_seq l43 (m_heads l51 l53 (by omega) (fun j j0 j1 => by have := hT j j0 j1; rw [e51, this.2]; omega) (a6 _ _ ⟨Or.inl rfl, fun _ => m_cut hn.1 hF, fun u => absurd rfl u⟩))⟩⟩, fun u => absurd (Int.le_refl _) u⟩
    | succ m ih =>
      intro i C H M i0 i1 hi hM hS hv hH hMm hz hj hp h29 go
      have hin : i < n := by omega
      have JM : Jr (r * gGr d w * (w - 1)) (M 43) := J0.a h4 (by rw [hz 4 (by decide)]; exact h4) hj
      have e31 : ∀ j, H 31 j = H0 31 j := fun j => hH.1 31 j (by decide) (by decide) (by decide) (by decide) (by decide) (by decide) (by decide) (by decide) (by decide) (by omega)
      have e52 : ∀ j, M 52 j = M0 52 j := fun j => hMm.1 52 j (by decide) (by decide) (by decide) (by decide) (by decide) (by decide) (by decide)
      refine v_140_2 ⟨fun u => by omega, fun _ => ?_⟩
      rw [z32_id (x := 1 + i) (by omega) (by omega), z32_id (x := 8 * i) (by omega) (by omega), z32_id (x := i + 1) (by omega) (by omega)]
      have q1 : ∀ k, k < 64 → vPut (M 43) (1 + i) (fun k => M 52 (64 * i + k)) k = V0 k := fun k k1 => by
        unfold vPut
        rw [if_neg (by omega)]
        exact hz k k1
      have q2 : ∀ j, 1600 ≤ j → vPut (M 43) (1 + i) (fun k => M 52 (64 * i + k)) j = V0 j := fun j j0 => by
        unfold vPut
        rw [if_neg (by omega)]
        exact hj j j0
      have q3 : ∀ j k, 0 ≤ j → j < i + 1 → 0 ≤ k → k < 64 → vPut (M 43) (1 + i) (fun k => M 52 (64 * i + k)) (64 * (1 + j) + k) = M0 52 (64 * j + k) := fun j k j0 j1 k0 k1 => by
        by_cases c : j = i
        · rw [c, vPut_at ⟨k0, k1⟩, e52]
        · rw [vPut_ne ⟨k0, k1⟩ (by omega)]
          exact hp j k j0 (by omega) k0 k1
      have JN : Jr (r * gGr d w * (w - 1)) (vPut (M 43) (1 + i) (fun k => M 52 (64 * i + k))) := J0.a h4 (by rw [q1 4 (by decide)]; exact h4) q2
      have stepR : ∀ {M1 : zHp} {v : Int} {F FT : Int → zS → Prop}, (∀ F FT : Int → zS → Prop, F v (t, L, M1) → zEnds 118 197 0 [(29, 35), (0, 1 + i), (10, 52), (0, 64 * i), (9, 0), (9, 0), (9, 0), (9, 0), (9, 0), (9, 0), (9, 0)] [] (t, L, M) F FT) → zEnds 118 204 75 [(29, 35), (0, n), (0, v), (0, i + 1)] [] (t, L, M1) F FT → zEnds 118 204 75 [(29, 35), (0, n), (0, 1), (0, i)] [] (t, L, M) F FT := fun {M1 v F FT} a8 hF => by
        refine v_204_75 ⟨fun u => by omega, fun _ => ⟨fun u => absurd u (by decide), fun _ => ?_⟩⟩
        rw [z32_id (x := 1 + i) (by omega) (by omega), z32_id (x := 64 * i) (by omega) (by omega), z32_id (x := i + 1) (by omega) (by omega)]
        exact a8 _ _ hF
      refine j_step (wm := 52) (fr := 64 * i) hi hM hS hv (by omega) (by decide) (fun j j0 j1 => by rw [e31]; exact hW i j i0 hin j0 j1) (by decide) (fun k k0 k1 nk => by rw [e31, e52]; exact hP i k i0 hin k0 k1) JM JN (by show 0 ≤ 8 * i ∧ 8 * i + 8 ≤ L 31 ∧ L 31 ≤ 1000000; omega) (by show 0 ≤ 64 * i ∧ 64 * i + 64 ≤ L 52 ∧ L 52 ≤ 1000000; omega) (fun u => by omega) (fun H1 M1 a1 a2 a3 a4 a5 a6 a7 a8 => ⟨fun _ => ?_, fun u => absurd (by decide) u⟩) (fun H1 M1 a1 a2 a3 a4 a5 a6 => ⟨fun u => absurd rfl u, fun _ => ⟨Or.inl rfl, ?_⟩⟩)
      · exact ih (i + 1) _ H1 M1 (by omega) (by omega) a1 a2 a3 a4 (hH.st a6) (hMm.st a7) (by rw [a5]; exact q1) (by rw [a5]; exact q2) (by rw [a5]; exact q3) (by rw [a6.1 29 6 (by decide) (by decide) (by decide) (by decide) (by decide) (by decide) (by decide) (by decide)]; exact h29) (fun F FT hG => go F FT (stepR a8 hG))
      · exact hbad H1 M1 a1 a2 a3 (hH.st a4) (hMm.st a5) (fun F FT hF => go F FT (stepR a6 (m_cut75 hn.1 hF)))
  exact v_140 (key n.toNat 0 C H0 M0 (by decide) (by omega) i0 m0 s0 v0 kJ.rfl' kJm.rfl' (fun k _ => by rw [e0]) (fun k _ => by rw [e0]) (fun j k j0 j1 => by omega) rfl (fun _ _ u => u))
end COMMIT
