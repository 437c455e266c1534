/-! One write of the journal, there and here. -/
section JSTEP
variable {d w r : Int} {t : Nat} {L : Int → Int} {H M X : zHp} {Qr Qt : Int → zS → Prop} {C : Int → Int → Int}
theorem gSo_ne {a b : Int} (w3 : 3 ≤ w) (ha : 0 ≤ a) (hb : 0 ≤ b) (h : a ≠ b) : gSo w a ≠ gSo w b := fun e => h (by rw [← gBk_so w3 ha, e, gBk_so w3 hb])
/-- a value with a block's row -/
def vPut (V : Int → Int) (b : Int) (R : Int → Int) : Int → Int := fun j => if 64 * b ≤ j ∧ j < 64 * b + 64 then R (j - 64 * b) else V j
theorem vPut_at {V R : Int → Int} {b k : Int} (hk : 0 ≤ k ∧ k < 64) : vPut V b R (64 * b + k) = R k := by
  unfold vPut
  rw [if_pos (by omega), show 64 * b + k - 64 * b = k by omega]
theorem vPut_ne {V R : Int → Int} {b c k : Int} (hk : 0 ≤ k ∧ k < 64) (h : c ≠ b) : vPut V b R (64 * c + k) = V (64 * c + k) := by
  unfold vPut
  rw [if_neg (by omega)]
theorem mBc_put {b wm fr : Int} : mBc M b wm fr 43 = vPut (M 43) b (fun k => M wm (fr + k)) := funext (fun j => by
  unfold mBc vPut
  rw [if_neg (by omega)]
  by_cases c : 64 * b ≤ j ∧ j < 64 * b + 64
  · rw [if_pos ⟨rfl, c.1, c.2⟩, if_pos c]
  · rw [if_neg (fun z => c z.2), if_neg c])
theorem vVal.up {b : Int} {V W R : Int → Int} (w3 : 3 ≤ w) (h : vVal d w r C V) (hb : 0 ≤ b) (e : ∀ k, 0 ≤ k → k < 64 → (b = 0 → ¬ (59 ≤ k ∧ k < 63)) → by8 (W (k / 8)) (k % 8) = R k) : vVal d w r (vUp C (gSo w b) W) (vPut V b R) := by
  intro c k c0 c1 k0 k1 nk
  unfold vUp
  by_cases y : c = b
  · subst y
    rw [if_pos rfl, if_pos (by omega), vPut_at ⟨k0, k1⟩]
    exact e k k0 k1 nk
  · rw [if_neg (gSo_ne w3 c0 hb y), vPut_ne ⟨k0, k1⟩ y]
    exact h c k c0 c1 k0 k1 nk
theorem vVal.par {p : Int} {V W : Int → Int} (hk : gOK d w r) (h : vVal d w r C V) (hp : p % w = w - 1) : vVal d w r (vUp C p W) V := by
  intro c k c0 c1 k0 k1 nk
  have g := gSo_rg hk ⟨c0, c1⟩
  unfold vUp
  rw [if_neg (fun z => by rw [z] at g; omega)]
  exact h c k c0 c1 k0 k1 nk
theorem gPar_mod {s : Int} (w3 : 3 ≤ w) : (s - s % w + w - 1) % w = w - 1 := by
  have e : s - s % w + w - 1 = (w - 1) + w * (s / w) := by have := Int.mul_ediv_add_emod s w; omega
  rw [e, Int.add_mul_emod_self_left]
  exact Int.emod_eq_of_lt (by omega) (by omega)
theorem vVal.nw {b : Int} {V W R : Int → Int} (hk : gOK d w r) (h : vVal d w r C V) (hb : 0 ≤ b) (e : ∀ k, 0 ≤ k → k < 64 → (b = 0 → ¬ (59 ≤ k ∧ k < 63)) → by8 (W (k / 8)) (k % 8) = R k) : vVal d w r (vN w C (gSo w b) W) (vPut V b R) := by
  unfold vN
  exact (h.up hk.2.2.1 hb e).par hk (gPar_mod hk.2.2.1)
theorem vVal.eq {V : Int → Int} {C' : Int → Int → Int} (h : vVal d w r C V) (e : ∀ u i, 0 ≤ i → i < 8 → C' u i = C u i) : vVal d w r C' V := by
  intro c k c0 c1 k0 k1 nk
  rw [e _ _ (by omega) (by omega)]
  exact h c k c0 c1 k0 k1 nk
theorem vS.mok (hi : gI d w r t L H) (h : vS d w r C H M) : mOk d w r M := fun row p r0 r1 p0 p1 => by
  have hk := hi.1.1
  have rg := gRow_of (row := row) hk ⟨p0, p1⟩
  have sr := gSpot_rg hk ⟨r0, r1⟩ ⟨p0, p1⟩
  have e := h.2.2.2.2 _ sr.1 sr.2
  unfold mPs at e
  rw [rg.1, rg.2] at e
  rw [← e]
  exact hi.2 _ sr.1 sr.2
theorem vS.lone {b : Int} (hi : gI d w r t L H) (h : vS d w r C H M) (hb : 0 ≤ b ∧ b < r * gGr d w * (w - 1)) : ¬ (mPs d w M (gSo w b) < 0 ∧ mPs d w M (gSo w b - gSo w b % w + w - 1) < 0) := by
  have hk := hi.1.1
  have w3 := hk.2.2.1
  obtain ⟨hs, g1, g2, g3, g4⟩ := gSo_rg hk hb
  have hp := gPar_mod (w := w) (s := gSo w b) w3
  obtain ⟨f0, f1, f2, f3⟩ : (0 ≤ gSo w b - gSo w b % w + w - 1 ∧ gSo w b - gSo w b % w + w - 1 < r * gPo d w) ∧ gSo w b / w = (gSo w b - gSo w b % w + w - 1) / w ∧ gSo w b ≠ gSo w b - gSo w b % w + w - 1 ∧ True := by
    have rw4 := gSo_row hk hb
    have m0 := Int.emod_nonneg (gSo w b) (show w ≠ 0 by omega)
    have e : gSo w b - gSo w b % w + w - 1 = (w - 1) + w * (gSo w b / w) := by have := Int.mul_ediv_add_emod (gSo w b) w; omega
    refine ⟨⟨by omega, ?_⟩, ?_, fun z => by rw [← z] at hp; omega, trivial⟩
    · have po := gPo_rg hk
      have q := (gSp_rg (s := gSo w b) hk hs)
      have a1 := Int.emod_lt_of_pos (gSo w b - gSo w b % w + w - 1) (show 0 < gPo d w by omega)
      have a2 := Int.mul_ediv_add_emod (gSo w b - gSo w b % w + w - 1) (gPo d w)
      rw [rw4.2.2.1] at a2
      have a3 : gPo d w * (gSo w b / gPo d w) ≤ gPo d w * (r - 1) := Int.mul_le_mul_of_nonneg_left (by omega) (by omega)
      have a4 : gPo d w * (r - 1) = r * gPo d w - gPo d w := by rw [Int.mul_sub, Int.mul_one, Int.mul_comm]
      omega
    · rw [e, Int.add_mul_ediv_left _ _ (by omega), Int.ediv_eq_zero_of_lt (a := w - 1) (b := w) (by omega) (by omega)]
      omega
  rintro ⟨u, v⟩
  rw [← h.2.2.2.2 _ hs.1 hs.2] at u
  rw [← h.2.2.2.2 _ f0.1 f0.2] at v
  rcases h.1.1.2.2.2.2 _ _ hs.1 hs.2 f0.1 f0.2 f1 f2 with y | y
  · have := y.1
    have := hi.2 _ hs.1 hs.2
    omega
  · have := y.1
    have := hi.2 _ f0.1 f0.2
    omega
/-- power has gone: all but the places -/
def jX (d w r : Int) (H M : zHp) : Prop := ∃ C O, vX d w r C O H M ∧ vVal d w r C (M 43) ∧ Jr (r * gGr d w * (w - 1)) (M 43) ∧ (M 35 20 = 1 → vVal d w r (vUp C (gSo w (M 35 19)) O) (vRev M) ∧ Jr (r * gGr d w * (w - 1)) (vRev M))
theorem r_gone (hc : rCm d w r t L H M) (hx : jX d w r H M) (hq : ∀ H', rAll d w r t L H' M → (∀ q i, (35 ≤ q ∨ q < 0) → H' q i = H q i) → Qr 0 (t, L, H')) : zEnds 80 173 0 [(20, 0)] [] (t, L, H) Qr Qt := by
  have hk := hc.1.1.1.1
  obtain ⟨C, O, x1, x2, x3, x4⟩ := hx
  refine c_goOff hc.1.1.1 (fun H' g f e1 e2 e3 => hq H' ⟨hc.keep2 g (fun q i hq => e3 q i (by omega) (by omega) (by omega)) (fun _ _ _ => rfl), Or.inr ⟨C, O, x1.off hk f, ⟨?_, by rw [e2]; decide, ?_⟩, ⟨x1.2.2.2.1.1, e1⟩, x2, x3, x4⟩⟩ (fun q i hq => e3 q i (by omega) (by omega) (by omega)))
  · rw [e2, x1.2.2.2.1.2]; rfl
  · rw [e3 3 10 (by decide) (by decide) (by decide)]; exact x1.2.2.1
/-- one write -/
theorem j_step {b wd at' wm fr : Int} (hi : gI d w r t L H) (hm0 : mS d w r L M) (hS : vS d w r C H M) (hv : vVal d w r C (M 43)) (hb : 0 ≤ b ∧ b < r * gGr d w * (w - 1)) (hw : wd = 19 ∨ wd = 31 ∨ wd = 32) (hW : ∀ i, 0 ≤ i → i < 8 → z64 (H wd (at' + i)) = H wd (at' + i)) (hm : wm = 51 ∨ wm = 52 ∨ wm = 53 ∨ wm = 43)
    (hr : ∀ k, 0 ≤ k → k < 64 → (b = 0 → ¬ (59 ≤ k ∧ k < 63)) → by8 (H wd (at' + k / 8)) (k % 8) = M wm (fr + k)) (J0 : Jr (r * gGr d w * (w - 1)) (M 43)) (J1 : Jr (r * gGr d w * (w - 1)) (vPut (M 43) b (fun k => M wm (fr + k)))) (ha : 0 ≤ at' ∧ at' + 8 ≤ L wd ∧ L wd ≤ 1000000) (hf : 0 ≤ fr ∧ fr + 64 ≤ L wm ∧ L wm ≤ 1000000) (hd : wm = 43 → fr + 64 ≤ 64 * b ∨ 64 * b + 64 ≤ fr)
    (hok : ∀ H1 M1, gI d w r t L H1 → mS d w r L M1 → vS d w r (vN w C (gSo w b) (fun i => H wd (at' + i))) H1 M1 → vVal d w r (vN w C (gSo w b) (fun i => H wd (at' + i))) (M1 43) → M1 43 = vPut (M 43) b (fun k => M wm (fr + k)) → kSt H H1 → kMw M M1 → (∀ F FT : Int → zS → Prop, F 1 (t, L, M1) → zEnds 118 197 0 [(29, 35), (0, b), (10, wm), (0, fr), (9, 0), (9, 0), (9, 0), (9, 0), (9, 0), (9, 0), (9, 0)] [] (t, L, M) F FT) → Qr 1 (t, L, H1))
    (hbad : ∀ H1 M1, gI d w r t L H1 → mS d w r L M1 → jX d w r H1 M1 → kSt H H1 → kMw M M1 → (∀ F FT : Int → zS → Prop, F 0 (t, L, M1) → zEnds 118 197 0 [(29, 35), (0, b), (10, wm), (0, fr), (9, 0), (9, 0), (9, 0), (9, 0), (9, 0), (9, 0), (9, 0)] [] (t, L, M) F FT) → Qr 0 (t, L, H1)) : zEnds 80 60 0 [(23, 12), (0, b), (11, wd), (0, at'), (9, 0), (9, 0), (9, 0), (9, 0)] [] (t, L, H) Qr Qt := by
  have hk := hi.1.1
  have w3 := hk.2.2.1
  have hl := rL.l hS.2.2.1
  obtain ⟨alt, s1, s2, s3⟩ := v_store (wm := wm) (fr := fr) hi hS hb hw hW (by omega)
  have mS1 : mS d w r L (mWr d w r M b (gSo w b) (gSo w b - gSo w b % w + w - 1) wm fr).2 := hm0.of (fun i hq => s2.2 i (by omega) (by omega) (by omega) (by omega) (by omega)) (fun i => s2.1 36 i (by decide) (by decide) (by decide) (by decide) (by decide) (by decide))
  have run : ∀ F FT : Int → zS → Prop, F (mWr d w r M b (gSo w b) (gSo w b - gSo w b % w + w - 1) wm fr).1 (t, L, (mWr d w r M b (gSo w b) (gSo w b - gSo w b % w + w - 1) wm fr).2) → zEnds 118 197 0 [(29, 35), (0, b), (10, wm), (0, fr), (9, 0), (9, 0), (9, 0), (9, 0), (9, 0), (9, 0), (9, 0)] [] (t, L, M) F FT := fun F FT hF => m_writes hm0 (hS.mok hi) hl hb (by omega) hf hd (hS.lone hi hb) hF
  refine f_store hi hb hw ha ?_
  generalize (mWr d w r M b (gSo w b) (gSo w b - gSo w b % w + w - 1) wm fr) = N at alt s2 mS1 run
  generalize (fSt d w r H (gSo w b) wd at') = K at alt s1 s3
  obtain ⟨k1, K1⟩ := K
  obtain ⟨n1, N1⟩ := N
  dsimp only at alt s1 s2 s3 mS1 run ⊢
  rcases alt with ⟨e1, e2, e3, e4⟩ | ⟨e1, e2, C', e3, e4⟩
  · subst e1 e2
    have e43 : N1 43 = vPut (M 43) b (fun k => M wm (fr + k)) := (funext e4).trans mBc_put
    exact hok K1 N1 s3 mS1 e3 (by rw [e43]; exact hv.nw hk hb.1 hr) e43 s1 s2 run
  · subst e1 e2
    refine hbad K1 N1 s3 mS1 ⟨C', _, e3, ?_⟩ s1 s2 run
    rcases e4 with ⟨f1, f2, f3⟩ | ⟨f1, ⟨f2, f3⟩, f4⟩ | ⟨f1, f2, f3⟩
    · have e43 : N1 43 = M 43 := funext f3
      rw [e43, f1]
      exact ⟨hv, J0, fun u => by rw [f2] at u; cases u⟩
    · have e43 : N1 43 = vPut (M 43) b (fun k => M wm (fr + k)) := (funext (fun j => f4 43 j (Or.inl rfl))).trans mBc_put
      have eR : vRev N1 = M 43 := funext (fun j => by
        unfold vRev
        rw [f3]
        by_cases c : 64 * b ≤ j ∧ j < 64 * b + 64
        · rw [if_pos c, f4 44 _ (Or.inr rfl)]
          unfold mBc
          rw [if_pos ⟨rfl, by omega, by omega⟩]
          congr 1
          omega
        · rw [if_neg c, e43]
          unfold vPut
          rw [if_neg c])
      refine ⟨by rw [e43, f1]; exact hv.up w3 hb.1 hr, by rw [e43]; exact J1, fun _ => ?_⟩
      rw [eR, f3, f1]
      exact ⟨hv.eq (fun u i i0 i1 => vUp_self ⟨i0, i1⟩), J0⟩
    · have e43 : N1 43 = vPut (M 43) b (fun k => M wm (fr + k)) := (funext f3).trans mBc_put
      rw [e43, f1]
      exact ⟨hv.nw hk hb.1 hr, J1, fun u => by rw [f2] at u; cases u⟩
end JSTEP
