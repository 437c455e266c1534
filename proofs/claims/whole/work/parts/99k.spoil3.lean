/-! spoil: the reference, the call. -/
theorem X8_X8 (a b : Int) : X8 (X8 a b) b = a % 256 := by
  have r := X8_rg a b
  have e : (X8 a b % 256).toNat = (a % 256).toNat ^^^ (b % 256).toNat := by
    rw [Int.emod_eq_of_lt r.1 r.2]
    unfold X8
    exact Int.toNat_natCast _
  show (((X8 a b % 256).toNat ^^^ (b % 256).toNat : Nat) : Int) = a % 256
  rw [e, Nat.xor_assoc, Nat.xor_self, Nat.xor_zero]
  omega
section SPOIL3
variable {d w r x o a n m : Int} {t : Nat} {L : Int → Int} {H K M N X : zHp} {Qr Qt : Int → zS → Prop} {C : Int → Int → Int}
/-- what turning leaves -/
def mTn (x o a n m : Int) (M N : zHp) : Prop := (∀ q i, q ≠ 40 → N q i = M q i) ∧ (∀ i, ¬ (70 * (65 * x + o) + a ≤ i ∧ i < 70 * (65 * x + o) + a + n) → N 40 i = M 40 i) ∧ ∀ i, 70 * (65 * x + o) + a ≤ i → i < 70 * (65 * x + o) + a + n → N 40 i % 256 = X8 (M 40 i) (by8 m (i - (70 * (65 * x + o) + a))) ∧ -128 ≤ N 40 i ∧ N 40 i ≤ 127
theorem mTn.back {N2 : zHp} (h : mTn x o a n m M N) (h2 : mTn x o a n m N N2) (hr : ∀ j, -128 ≤ M 40 j ∧ M 40 j ≤ 127) : ∀ q i, N2 q i = M q i := fun q i => by
  by_cases c : q = 40
  · rw [c]
    by_cases z : 70 * (65 * x + o) + a ≤ i ∧ i < 70 * (65 * x + o) + a + n
    · have a1 := h.2.2 i z.1 z.2
      have a2 := h2.2.2 i z.1 z.2
      have a3 := hr i
      have e : N2 40 i % 256 = M 40 i % 256 := by
        rw [a2.1, X8_l (x' := X8 (M 40 i) (by8 m (i - (70 * (65 * x + o) + a)))) (by rw [a1.1, Int.emod_eq_of_lt (X8_rg _ _).1 (X8_rg _ _).2]), X8_X8]
      omega
    · rw [h2.2.1 i z, h.2.1 i z]
  · rw [h2.1 q i c, h.1 q i c]
theorem mTn.by (hk : gOK d w r) (hK : rK d r H M) (lv : M 37 x ≠ 0) (ok : sOK d r x o a n m) (h : mTn x o a n m M N) : ∀ k, 0 ≤ k → k < 70 → N 40 (70 * (65 * x + o) + k) % 256 = sD r x o a n m H k := fun k k0 k1 => by
  obtain ⟨ox, oo, on, oa, -⟩ := ok
  have e := (hK.2.1 x o ox.1 ox.2 oo.1 (by omega)).2.2.1 k k0 (by omega)
  rw [if_pos ⟨lv, k1⟩] at e
  unfold sD dB
  dsimp only
  by_cases c : a ≤ k ∧ k < a + n
  · rw [if_pos c, (h.2.2 _ (by omega) (by omega)).1, show 70 * (65 * x + o) + k - (70 * (65 * x + o) + a) = k - a by omega, e]
    exact X8_l (by omega)
  · rw [if_neg c, h.2.1 _ (by omega), e]
theorem mTn.val (hk : gOK d w r) (hK : rK d r H M) (lv : M 37 x ≠ 0) (ok : sOK d r x o a n m) (h : mTn x o a n m M N) (fi : M 38 (65 * x + o) ≠ 0) : mVal N x o ↔ ¬ sF r x o a n m H := by
  have hb := h.by hk hK lv ok
  have rg : ∀ j, -128 ≤ N 40 j ∧ N 40 j ≤ 127 := fun j => by
    by_cases z : 70 * (65 * x + o) + a ≤ j ∧ j < 70 * (65 * x + o) + a + n
    · exact (h.2.2 j z.1 z.2).2
    · rw [h.2.1 j z]; exact hK.2.2.2 j
  unfold mVal sF
  rw [h.1 37 x (by decide), h.1 38 _ (by decide)]
  constructor
  · rintro ⟨-, -, u⟩ ⟨k, k0, k1, k2⟩
    have := hb k k0 k1
    rw [u k k0 k1] at this
    exact k2 this.symm
  · intro u
    refine ⟨lv, fi, fun k k0 k1 => ?_⟩
    have z : sD r x o a n m H k = 0 := Classical.byContradiction (fun z => u ⟨k, k0, k1, z⟩)
    have := hb k k0 k1
    have := rg (70 * (65 * x + o) + k)
    omega
/-- spoil on a place: the reference -/
theorem m_spoil1 {p : Int} (hk : gOK d w r) (hg : gPl d w r H) (ms : mS d w r L M) (hO : mOk d w r M) (on : M 35 12 = 1) (hK : rK d r H M) (pl : ∀ s, 0 ≤ s → s < r * gPo d w → H 13 s = mPs d w M s) (hA : vA d w r C H) (hU : vOne d w r H) (ok : sOK d r x o a n m) (hp : 0 ≤ p ∧ p < gPo d w) (hx : H 13 (o * gPo d w + p) = x) (lv : M 37 x ≠ 0)
    (h0 : ∀ N, (∀ q i, N q i = M q i) → sF r x o a n m H → (sW r x o a n m H ∨ gFault d w r H (o * gPo d w + p)) → Qr 0 (t, L, N))
    (h1 : ∀ N, mTn x o a n m M N → (sF r x o a n m H → ¬ sW r x o a n m H ∧ ¬ gFault d w r H (o * gPo d w + p)) → Qr 1 (t, L, N)) : zEnds 118 183 0 [(0, x), (0, o)] [] (t, L, M) (fun v3 S3 => zEnds 118 210 0 [(29, 35), (0, z32 (z32 (70 * v3) + a)), (0, n), (1, m), (9, 0), (9, 0)] [] S3 (fun v4 S4 => zEnds 118 190 0 [(29, 35), (0, o), (0, p), (0, (-1)), (9, 0), (9, 0), (9, 0), (9, 0)] [] S4 (fun v5 S5 => ((2 : Int) ≤ v5 → zEnds 118 212 182 [(29, 35), (0, x), (0, o), (0, a), (0, n), (1, m), (9, 0), (9, 0), (9, 0)] [] S5 Qr Qt) ∧ (¬ ((2 : Int) ≤ v5) → zEnds 118 183 0 [(0, x), (0, o)] [] S5 (fun v6 S6 => zEnds 118 211 0 [(29, 35), (0, v6), (9, 0), (9, 0), (9, 0), (9, 0)] [] S6 (fun v7 S7 => (v7 ≠ 0 → zEnds 118 212 182 [(29, 35), (0, x), (0, o), (0, a), (0, n), (1, m), (9, 0), (9, 0), (9, 0)] [] S7 Qr Qt) ∧ (¬ (v7 ≠ 0) → ((1 : Int) = 0 ∨ (1 : Int) = 1) ∧ Qr 1 S7)) Qt) Qt)) Qt) Qt) Qt := by
  have po := gPo_rg hk
  have w3 := hk.2.2.1
  have d16 := hk.2.1
  have r64 := hk.2.2.2.2.2.2
  have ok0 := ok
  obtain ⟨ox, oo, onn, oa, low⟩ := ok
  have l40 : L 40 = 72800 := ms.2.1.2.2.2.2.1
  have sr := gSpot_rg hk oo hp
  have rg := gRow_of (row := o) hk hp
  have pn : H 13 (o * gPo d w + p) ≠ -1 := by omega
  have aa := hA _ sr.1 sr.2 pn
  unfold gAt at aa
  rw [hx, rg.1] at aa
  have fi : M 38 (65 * x + o) ≠ 0 := ((hK.2.1 x o ox.1 ox.2 oo.1 (by omega)).1.mp aa.1.1).2
  have turn : ∀ {N0 : zHp} {Q : Int → zS → Prop}, (∀ N, mTn x o a n m N0 N → Q 0 (t, L, N)) → zEnds 118 210 0 [(29, 35), (0, 70 * (65 * x + o) + a), (0, n), (1, m), (9, 0), (9, 0)] [] (t, L, N0) Q Qt := fun {N0 Q} hq => m_turn l40 (by omega) (by omega) (fun N a b c => hq N ⟨a, b, c⟩)
  refine m_at (by omega) (by omega) ?_
  rw [z32_id (x := 70 * (65 * x + o)) (by omega) (by omega), z32_id (x := 70 * (65 * x + o) + a) (by omega) (by omega)]
  refine turn (fun N hT => ?_)
  have kS : mS d w r L N := ms.of (fun i _ => hT.1 35 i (by decide)) (fun i => hT.1 36 i (by decide))
  have kp : ∀ row q, mPl d w N row q = mPl d w M row q := fun row q => by
    unfold mPl
    rw [hT.1 35 12 (by decide), hT.1 41 _ (by decide), if_neg (by rw [on]; decide), if_neg (by rw [on]; decide)]
  have kO : mOk d w r N := fun row q a b c e => by rw [kp]; exact hO row q a b c e
  have vN := hT.val hk hK lv ok0 fi
  have hb := hT.by hk hK lv ok0
  -- back
  have back : sF r x o a n m H → (sW r x o a n m H ∨ gFault d w r H (o * gPo d w + p)) → zEnds 118 212 182 [(29, 35), (0, x), (0, o), (0, a), (0, n), (1, m), (9, 0), (9, 0), (9, 0)] [] (t, L, N) Qr Qt := fun F why => by
    refine j_212_182 (m_at (by omega) (by omega) ?_)
    rw [z32_id (x := 70 * (65 * x + o)) (by omega) (by omega), z32_id (x := 70 * (65 * x + o) + a) (by omega) (by omega)]
    exact turn (fun N2 h2 => ⟨Or.inl rfl, h0 N2 (hT.back h2 hK.2.2.2) F why⟩)
  -- the stripe's first position
  have pw : gPo d w = gGr d w * w := by unfold gPo; exact Int.mul_comm _ _
  have g0 : 0 ≤ p / w := Int.ediv_nonneg hp.1 (by omega)
  have g1 : p / w * w + w ≤ gPo d w := by
    have e : p / w < gGr d w := Int.ediv_lt_of_lt_mul (by omega) (by omega)
    have m1 : (p / w + 1) * w ≤ gGr d w * w := Int.mul_le_mul_of_nonneg_right (by omega) (by omega)
    rw [Int.add_mul, Int.one_mul] at m1
    omega
  have g2 : 0 ≤ p / w * w := Int.mul_nonneg g0 (by omega)
  have g3 : p / w * w ≤ p ∧ p < p / w * w + w := by
    have a := Int.mul_ediv_add_emod p w
    have b := Int.emod_nonneg p (show w ≠ 0 by omega)
    have c := Int.emod_lt_of_pos p (show 0 < w by omega)
    rw [Int.mul_comm] at a
    omega
  have fm : (o * gPo d w + p / w * w) % w = 0 := by
    rw [pw, ← Int.mul_assoc, ← Int.add_mul]
    exact Int.mul_emod_left _ _
  have dv : ∀ q, p / w * w ≤ q → q < p / w * w + w → (o * gPo d w + q) / w = (o * gPo d w + p) / w := fun q q0 q1 => by
    rw [(gStr w3 fm (o := o * gPo d w + q) (by omega)).1, (gStr w3 fm (o := o * gPo d w + p) (by omega)).1]
  -- bad ones, behind the turning
  have bo : ∀ q, p / w * w ≤ q → q < p / w * w + w → q ≠ p → (mBd d w N o (-1) q ↔ ¬ gSound d w r H (o * gPo d w + q)) := fun q q0 q1 qp => by
    have hq : 0 ≤ q ∧ q < gPo d w := by omega
    have sq := gSpot_rg hk oo hq
    have rq := gRow_of (row := o) hk hq
    have e := pl _ sq.1 sq.2
    unfold mPs at e
    rw [rq.1, rq.2] at e
    have bnd := hg _ sq.1 sq.2
    have bd := r_bd (x := -1) hk hg hK pl oo hq
    have same : mBd d w N o (-1) q ↔ mBd d w M o (-1) q := by
      unfold mBd mSpt
      rw [kp, ← e]
      by_cases c : H 13 (o * gPo d w + q) = -1
      · exact ⟨fun _ => Or.inl (by omega), fun _ => Or.inl (by omega)⟩
      · have nx : H 13 (o * gPo d w + q) ≠ x := by
          rw [← hx]
          exact hA.apart hk sq sr (by omega) (by rw [rq.1, rg.1]) c pn
        have mv : mVal N (H 13 (o * gPo d w + q)) o ↔ mVal M (H 13 (o * gPo d w + q)) o := by
          unfold mVal
          rw [hT.1 37 _ (by decide), hT.1 38 _ (by decide)]
          have : ∀ k, 0 ≤ k → k < 70 → N 40 (70 * (65 * H 13 (o * gPo d w + q) + o) + k) = M 40 (70 * (65 * H 13 (o * gPo d w + q) + o) + k) := fun k k0 k1 => hT.2.1 _ (by omega)
          constructor
          · intro ⟨a, b, c⟩; exact ⟨a, b, fun k k0 k1 => by rw [← this k k0 k1]; exact c k k0 k1⟩
          · intro ⟨a, b, c⟩; exact ⟨a, b, fun k k0 k1 => by rw [this k k0 k1]; exact c k k0 k1⟩
        rw [mv]
    rw [same, bd]
    constructor
    · rintro (u | u)
      · exact u
      · exact fun z => z.1 u
    · exact Or.inl
  have bp : mBd d w N o (-1) p ↔ sF r x o a n m H := by
    have e := pl _ sr.1 sr.2
    unfold mPs at e
    rw [rg.1, rg.2] at e
    unfold mBd mSpt
    rw [kp, ← e, hx, vN]
    constructor
    · rintro (u | u | u)
      · omega
      · omega
      · exact Classical.not_not.mp u.2
    · intro u
      exact Or.inr (Or.inr ⟨by omega, fun z => z u⟩)
  have two : sF r x o a n m H → gFault d w r H (o * gPo d w + p) → 2 ≤ gCnt (mBd d w N o (-1)) (p / w * w) w.toNat := fun F ⟨u, u0, u1, u2, u3⟩ => by
    have sm := (gStr w3 fm (o := o * gPo d w + p) (by omega)).2
    have uq : o * gPo d w + (u - o * gPo d w) = u := by omega
    exact gCnt_two w.toNat (p / w * w) p (u - o * gPo d w) (by omega) (by omega) (by omega) (by omega) (by omega) (bp.mpr F) ((bo _ (by omega) (by omega) (by omega)).mpr (by rw [uq]; exact u3))
  have one : ¬ (sF r x o a n m H ∧ gFault d w r H (o * gPo d w + p)) → gCnt (mBd d w N o (-1)) (p / w * w) w.toNat ≤ 1 := fun nf => by
    refine gCnt_le1 _ _ (fun i j i0 i1 j0 j1 bi bj => ?_)
    apply Classical.byContradiction
    intro ne
    have sm := (gStr w3 fm (o := o * gPo d w + p) (by omega)).2
    have key : ∀ k, p / w * w ≤ k → k < p / w * w + w → k ≠ p → mBd d w N o (-1) k → sF r x o a n m H → False := fun k k0 k1 kp bk F => nf ⟨F, o * gPo d w + k, by omega, by omega, by omega, (bo k k0 k1 kp).mp bk⟩
    by_cases ci : i = p
    · rw [ci] at bi
      exact key j j0 (by omega) (by omega) bj (bp.mp bi)
    · by_cases cj : j = p
      · rw [cj] at bj
        exact key i i0 (by omega) ci bi (bp.mp bj)
      · have si := gSpot_rg hk oo (p := i) (by omega)
        have sj := gSpot_rg hk oo (p := j) (by omega)
        rcases hU _ _ si.1 si.2 sj.1 sj.2 (by rw [dv i i0 (by omega), dv j j0 (by omega)]) (by omega) with z | z
        · exact (bo i i0 (by omega) ci).mp bi z
        · exact (bo j j0 (by omega) cj).mp bj z
  have us : ((∃ k, 0 ≤ k ∧ k < 70 ∧ N 40 (70 * (65 * x + o) + k) ≠ 0) ∧ cRc (fun k => N 40 (70 * (65 * x + o) + k) % 256) 0 66 0 = cW (fun k => N 40 (70 * (65 * x + o) + k) % 256)) ↔ (sF r x o a n m H ∧ sW r x o a n m H) := by
    have rg40 : ∀ j, -128 ≤ N 40 j ∧ N 40 j ≤ 127 := fun j => by
      by_cases z : 70 * (65 * x + o) + a ≤ j ∧ j < 70 * (65 * x + o) + a + n
      · exact (hT.2.2 j z.1 z.2).2
      · rw [hT.2.1 j z]; exact hK.2.2.2 j
    rw [cRc_congr (E := sD r x o a n m H) 66 0 0 (fun k k0 k1 => hb k k0 (by omega)), cW_congr (E := sD r x o a n m H) (fun k k0 k1 => hb k (by omega) (by omega))]
    unfold sF sW
    constructor
    · intro ⟨⟨k, k0, k1, k2⟩, u⟩
      refine ⟨⟨k, k0, k1, fun z => k2 ?_⟩, u⟩
      have := hb k k0 k1
      have := rg40 (70 * (65 * x + o) + k)
      omega
    · intro ⟨⟨k, k0, k1, k2⟩, u⟩
      refine ⟨⟨k, k0, k1, fun z => k2 ?_⟩, u⟩
      have := hb k k0 k1
      rw [z] at this
      exact this.symm
  refine m_bad kS kO oo hp ⟨fun u => ?_, fun u => m_at (by omega) (by omega) (m_unseen l40 (by omega) (fun y => ⟨fun _ => back (us.mp y).1 (Or.inl (us.mp y).2), fun z => absurd (by decide) z⟩) (fun y => ⟨fun z => absurd rfl z, fun _ => ⟨Or.inr rfl, h1 N hT (fun F => ⟨fun z => y (us.mpr ⟨F, z⟩), fun z => u (two F z)⟩)⟩⟩))⟩
  have both : sF r x o a n m H ∧ gFault d w r H (o * gPo d w + p) := Classical.byContradiction (fun z => by have := one z; omega)
  exact back both.1 (Or.inr both.2)
/-- a flaw of a place -/
theorem rOn.flaw {s v : Int} (hk : gOK d w r) (h : rOn d w r C H M) (ok : sOK d r x o a n m) (hs : 0 ≤ s ∧ s < r * gPo d w) (hsr : s / gPo d w = o) (hsx : H 13 s = x) (lv : M 37 x ≠ 0) (hT : mTn x o a n m M N) (e : ∀ q i, q ≠ 6 → q ≠ 9 → q ≠ 10 → K q i = H q i) (e6 : ∀ i, K 6 i = if i = gCe r x o then v else H 6 i) (v01 : v = 0 ∨ v = 1) (ev : v = 1 ↔ ∃ j, 0 ≤ j ∧ j < 9 ∧ K 9 (9 * gCe r x o + j) ≠ 0) (evF : v = 1 ↔ sF r x o a n m H) (e9 : ∀ j, j / 9 ≠ gCe r x o → K 9 j = H 9 j) (eb : ∀ k, 0 ≤ k → k < 72 → zB8 K 9 (72 * gCe r x o + k) = sD r x o a n m H k) (z9 : ∀ j, z64 (K 9 j) = K 9 j) (hh : sF r x o a n m H → ¬ sW r x o a n m H ∧ ¬ gFault d w r H s) : rOn d w r C K N := by
  obtain ⟨⟨⟨hB, hL, hP⟩, hK, hR, ⟨on, nc⟩, pl⟩, hv, ht, hj, o1⟩ := h
  obtain ⟨⟨hR', hA⟩, hH, hS, hF, hO⟩ := hB
  have ok0 := ok
  obtain ⟨ox, oo, onn, oa, low⟩ := ok
  have r64 := hk.2.2.2.2.2.2
  have r48 := hk.2.2.2.2.2.1
  have d16 := hk.2.1
  have pn : H 13 s ≠ -1 := by omega
  have aa := hA s hs.1 hs.2 pn
  unfold gAt at aa
  rw [hsx, hsr] at aa
  have e13 : ∀ u, K 13 u = H 13 u := fun u => e 13 u (by decide) (by decide) (by decide)
  have cin : ∀ y p, 0 ≤ p → p ≤ r → gCe r y p = gCe r x o → y = x ∧ p = o := fun y p p0 p1 c => gCe_inj hk ⟨p0, p1⟩ ⟨oo.1, by omega⟩ c
  have ne : ∀ u, 0 ≤ u → u < r * gPo d w → u ≠ s → H 13 u ≠ -1 → gCe r (H 13 u) (u / gPo d w) ≠ gCe r x o := fun u u0 u1 n pu c => by
    have q := gSp_rg hk ⟨u0, u1⟩
    obtain ⟨c1, c2⟩ := cin _ _ q.1.1 (by omega) c
    exact hA.apart hk ⟨u0, u1⟩ hs n (by rw [c2, hsr]) pu pn (by rw [c1, hsx])
  have so : ∀ u, 0 ≤ u → u < r * gPo d w → u ≠ s → (gSound d w r K u ↔ gSound d w r H u) := fun u u0 u1 n => by
    unfold gSound gVal gAt
    rw [e13, e 5 _ (by decide) (by decide) (by decide), e6]
    by_cases pu : H 13 u = -1
    · exact ⟨fun z => absurd pu z.1, fun z => absurd pu z.1⟩
    · rw [if_neg (ne u u0 u1 n pu)]
  have ss : gSound d w r K s ↔ v = 0 := by
    unfold gSound gVal gAt
    rw [e13, e 5 _ (by decide) (by decide) (by decide), e6, hsx, hsr, if_pos rfl]
    exact ⟨fun z => z.2.2, fun z => ⟨by omega, aa.1.1, z⟩⟩
  have hB' : vB d w r C K := by
    refine ⟨⟨hR', fun u u0 u1 pu => ?_⟩, fun u u0 u1 a => ?_, fun row q a b c f v' t' => ?_, fun y y0 y1 => ?_, fun u u' u0 u1 u0' u1' hw nu => ?_⟩
    · rw [e13] at pu
      have y := hA u u0 u1 pu
      have ea : gAt d w r K u = gAt d w r H u := gAt_of (e13 u)
      rw [ea, e 5 _ (by decide) (by decide) (by decide), e 7 _ (by decide) (by decide) (by decide), e13]
      exact ⟨y.1, fun i i0 i1 => by rw [e 8 _ (by decide) (by decide) (by decide)]; exact y.2 i i0 i1⟩
    · rw [e 5 _ (by decide) (by decide) (by decide)] at a
      rw [e13]
      exact hH u u0 u1 a
    · rw [e 7 _ (by decide) (by decide) (by decide)] at t' ⊢
      by_cases cc : gCe r (gDk d row q) row = gCe r x o
      · obtain ⟨c1, c2⟩ := cin _ _ a (by omega) cc
        have qs := gSp_rg hk hs
        rw [cc]
        refine ⟨s % gPo d w, qs.2.1, aa.1.2.1, ?_⟩
        rw [e13, c2, ← hsr, gSpot_of hk, hsx, ← c1, c2, hsr]
      · unfold gVal at v'
        rw [e 5 _ (by decide) (by decide) (by decide), e6, if_neg cc] at v'
        obtain ⟨p, p0, p1, p2⟩ := hS row q a b c f v' t'
        exact ⟨p, p0, p1, by rw [e13]; exact p2⟩
    · rw [e6, if_neg (fun c => by have := (cin _ _ (by omega) (by omega) c).2; omega)]
      exact hF y y0 y1
    · by_cases c : u = s
      · by_cases c' : v = 0
        · rw [c]; exact Or.inl (ss.mpr c')
        · right
          have nf := (hh (evF.mp (v01.resolve_left c'))).2
          rw [c] at hw nu
          have k := gStr_row hk hs ⟨u0', u1'⟩ hw
          exact (so u' u0' u1' (fun z => nu z.symm)).mpr (Classical.byContradiction (fun z => nf ⟨u', k.1.1, k.1.2, fun y => nu y.symm, z⟩))
      · by_cases c2 : u' = s
        · by_cases c' : v = 0
          · rw [c2]; exact Or.inr (ss.mpr c')
          · left
            have nf := (hh (evF.mp (v01.resolve_left c'))).2
            rw [c2] at hw nu
            have k := gStr_row hk hs ⟨u0, u1⟩ hw.symm
            exact (so u u0 u1 c).mpr (Classical.byContradiction (fun z => nf ⟨u, k.1.1, k.1.2, c, z⟩))
        · exact (hO u u' u0 u1 u0' u1' hw nu).imp (so u u0 u1 c).mpr (so u' u0' u1' c2).mpr
  have hK' : rK d r K N := by
    obtain ⟨h1, h2, h3, h4⟩ := hK
    refine ⟨fun y y0 y1 => by rw [e 4 y (by decide) (by decide) (by decide), hT.1 37 y (by decide)]; exact h1 y y0 y1, fun y p y0 y1 p0 p1 => ?_, z9, fun j => ?_⟩
    · obtain ⟨a1, a2, a3, a4⟩ := h2 y p y0 y1 p0 p1
      rw [e 5 _ (by decide) (by decide) (by decide), e 7 _ (by decide) (by decide) (by decide), e6, hT.1 37 y (by decide), hT.1 38 _ (by decide), hT.1 39 _ (by decide)]
      by_cases cc : gCe r y p = gCe r x o
      · obtain ⟨c1, c2⟩ := cin _ _ p0 p1 cc
        subst c1 c2
        rw [if_pos rfl]
        refine ⟨a1, a2, fun k k0 k1 => ?_, ?_⟩
        · rw [eb k k0 k1]
          by_cases k70 : k < 70
          · rw [if_pos ⟨lv, k70⟩, hT.by hk ⟨h1, h2, h3, h4⟩ lv ok0 k k0 k70]
          · rw [if_neg (fun u => k70 u.2)]
            unfold sD dB
            dsimp only
            rw [if_neg (by omega), a3 k k0 k1, if_neg (fun u => k70 u.2)]
        · rw [← ev]
          constructor
          · intro u; exact v01.resolve_left u
          · intro u; rw [u]; decide
      · have nn : ¬ (y = x ∧ p = o) := fun u => cc (by rw [u.1, u.2])
        rw [if_neg cc]
        have b0 : ∀ k, 0 ≤ k → k < 72 → zB8 K 9 (72 * gCe r y p + k) = zB8 H 9 (72 * gCe r y p + k) := fun k k0 k1 => by
          unfold zB8
          rw [e9 _ (by omega)]
        refine ⟨a1, a2, fun k k0 k1 => ?_, ?_⟩
        · rw [b0 k k0 k1, a3 k k0 k1]
          by_cases k70 : M 37 y ≠ 0 ∧ k < 70
          · rw [if_pos k70, if_pos k70, hT.2.1 _ (by omega)]
          · rw [if_neg k70, if_neg k70]
        · rw [a4]
          exact ⟨fun ⟨j, j0, j1, j2⟩ => ⟨j, j0, j1, by rw [e9 _ (by omega)]; exact j2⟩, fun ⟨j, j0, j1, j2⟩ => ⟨j, j0, j1, by rw [e9 _ (by omega)] at j2; exact j2⟩⟩
    · by_cases z : 70 * (65 * x + o) + a ≤ j ∧ j < 70 * (65 * x + o) + a + n
      · exact (hT.2.2 j z.1 z.2).2
      · rw [hT.2.1 j z]; exact h4 j
  have f43 : N 43 = M 43 := funext (fun i => hT.1 43 i (by decide))
  have on' : N 35 12 = 1 := by rw [hT.1 35 12 (by decide)]; exact on
  refine ⟨⟨⟨hB', hL.of (fun q i hq => e q i (by omega) (by omega) (by omega)), hP⟩, hK', hR.of (fun i _ => e 3 i (by decide) (by decide) (by decide)) (fun i _ => hT.1 35 i (by decide)), ⟨on', by rw [hT.1 35 20 (by decide)]; exact nc⟩, fun u u0 u1 => ?_⟩, by rw [f43]; exact hv, ht.keep (fun q i hq => e q i (by omega) (by omega) (by omega)) (fun q i hq => hT.1 q i (by omega)), by rw [f43]; exact hj, by rw [e 0 11 (by decide) (by decide) (by decide)]; exact o1⟩
  rw [e13, pl u u0 u1]
  exact (mPs_of on on' (fun i => hT.1 41 i (by decide))).symm
theorem q_spoil (ht : 118 ≤ t) (hX : lR X H) (hz : zhR (t, L, H)) (h : rAll d w r t L H H) (x o a n m : Int) (hx32 : z32 x = x) (ho32 : z32 o = o) (ha32 : z32 a = a) (hn : z32 n = n) (hm64 : z64 m = m) : cOKb rP 280 160 [(20, 0), (0, x), (0, o), (0, a), (0, n), (1, m), (9, 0), (9, 0)] 212 [(29, 35), (0, x), (0, o), (0, a), (0, n), (1, m), (9, 0), (9, 0), (9, 0)] X t L H := by
  have hk := h.1.1.1.1.1
  have po := gPo_rg hk
  have w3 := hk.2.2.1
  have d16 := hk.2.1
  have r64 := hk.2.2.2.2.2.2
  refine cOKb_rel (Q := fun M v H1 => sOK d r x o a n m ∧ ((v = 0 ∧ (∀ q i, q ≠ 10 → H1 q i = H q i) ∧ (H 0 11 = 0 ∨ (H 0 11 = 1 ∧ ∀ p, 0 ≤ p → p < gPo d w → H 13 (o * gPo d w + p) ≠ x) ∨ (H 0 11 = 1 ∧ ∃ p, (0 ≤ p ∧ p < gPo d w) ∧ H 13 (o * gPo d w + p) = x ∧ sF r x o a n m H ∧ (sW r x o a n m H ∨ gFault d w r H (o * gPo d w + p))))) ∨ (v = 1 ∧ H 0 11 = 1 ∧ gI d w r t L H1 ∧ (∀ q i, q ≠ 6 → q ≠ 9 → q ≠ 10 → H1 q i = H q i) ∧ ∃ p, (0 ≤ p ∧ p < gPo d w) ∧ H 13 (o * gPo d w + p) = x ∧ (sF r x o a n m H → ¬ sW r x o a n m H ∧ ¬ gFault d w r H (o * gPo d w + p)) ∧ ∀ N, mTn x o a n m M N → ∀ C, rOn d w r C H M → rOn d w r C H1 N))) (TT := fun c => c = 1 ∧ ¬ sOK d r x o a n m) ht hX hz h (za_c (za_i hx32 (za_i ho32 (za_i ha32 (za_i hn (za_l hm64 (za_9 (za_9 za_0)))))))) (za_m (za_i hx32 (za_i ho32 (za_i ha32 (za_i hn (za_l hm64 (za_9 (za_9 (za_9 za_0))))))))) rfl (fun M hM => ?_) (fun v H1 M hM q => ?_) (fun c q => ?_)
  · have g := hM.1.1.1
    refine c_spoil ht g (fun u => ⟨rfl, rfl, u⟩) (fun ok => ?_)
    rcases hM.on with ⟨on, onM⟩ | ⟨off, -⟩
    · rw [if_neg (by omega)]
      obtain ⟨C, hn'⟩ := hM.ison on
      obtain ⟨⟨hB, hL, hP⟩, hK, hR, -, pl⟩ := hn'.1
      have ok0 := ok
      obtain ⟨ox, oo, -⟩ := ok
      rcases gFirst_spec (fun s => H 13 s = x) (gPo d w).toNat (o * gPo d w) with u | ⟨u0, u1, u2, -⟩
      · rw [u.1]
        exact j_160_104 ⟨fun z => absurd rfl z, fun _ => ⟨Or.inl rfl, H, rfl, fC.rfl', Or.inl rfl, ok0, Or.inl ⟨rfl, fun _ _ _ => rfl, Or.inr (Or.inl ⟨on, fun p p0 p1 z => u.2 (o * gPo d w + p) (by omega) (by omega) z⟩)⟩⟩⟩
      · generalize gFirst (fun s => H 13 s = x) (o * gPo d w) (gPo d w).toNat = s at *
        have hp : 0 ≤ s - o * gPo d w ∧ s - o * gPo d w < gPo d w := by omega
        have es : o * gPo d w + (s - o * gPo d w) = s := by omega
        have rg := gRow_of (row := o) hk hp
        have sr := gSpot_rg hk oo hp
        rw [es] at rg sr
        have u2 : H 13 s = x := u2
        have lv : M 37 x ≠ 0 := by
          have := (hB.1.2.live hk g.2 hK sr (by rw [u2]; omega)).2
          rw [u2] at this
          exact this
        refine c_spoil1 hz (by omega) hn ha32 hm64 g hM.1.1.2.2 hK ok0 sr rg.1 u2 lv (fun G e F why => ⟨G, rfl, fun q i hq => e q i (by omega), Or.inl rfl, ok0, Or.inl ⟨rfl, e, Or.inr (Or.inr ⟨on, s - o * gPo d w, hp, by rw [es]; exact u2, F, by rw [es]; exact why⟩)⟩⟩) (fun G v' e e6 v01 ev evF e9 eb z9 hh gi => ⟨G, rfl, fun q i hq => e q i (by omega) (by omega) (by omega), Or.inr rfl, ok0, Or.inr ⟨rfl, on, gi, e, s - o * gPo d w, hp, by rw [es]; exact u2, by rw [es]; exact hh, fun N hT C' hC' => hC'.flaw hk ok0 sr rg.1 u2 lv hT e e6 v01 ev evF e9 eb z9 hh⟩⟩)
    · rw [if_pos off]
      exact j_160_104 ⟨fun z => absurd rfl z, fun _ => ⟨Or.inl rfl, H, rfl, fC.rfl', Or.inl rfl, ok, Or.inl ⟨rfl, fun _ _ _ => rfl, Or.inl off⟩⟩⟩
  · obtain ⟨ok, q⟩ := q
    have hM1 : rAll d w r t L H (zupd M 35 0 0) := hM.up
    have t0 : zupd M 35 0 0 35 0 = 0 := zupd_at
    have fm0 : fM M (zupd M 35 0 0) := fM.rfl'.upd (by decide)
    have up1 : ∀ C, rOn d w r C H (zupd M 35 0 0) → rOn d w r C H M := fun C u => u.keep (fun _ _ _ => rfl) (fun q i hq => (zupd_no (by omega)).symm) (fun _ _ _ => rfl) (fun q i hq => (zupd_no (by omega)).symm) rfl
    have ms := hM1.1.1.2.1
    have l37 : L 37 = 16 := ms.2.1.2.1
    have same : (∀ q i, q ≠ 10 → H1 q i = H q i) → ∀ N : zHp, (∀ q i, N q i = zupd M 35 0 0 q i) → rAll d w r t L H1 N := fun e N eN => by
      have g := hM1.1.1.1
      refine ⟨hM1.1.keep2 (g.keep (fun q i hq => e q i (by omega)) (fun q i hq => by rw [e q i (by omega)]; exact g.1.2.2.2 q i (by omega))) (fun q i hq => e q i (by omega)) (fun q i hq => eN q i), ?_⟩
      rcases hM1.2 with ⟨C, h2⟩ | ⟨C, O, h2⟩
      · exact Or.inl ⟨C, h2.keep (fun q i hq => e q i (by omega)) (fun q i hq => eN q i) (fun q i hq => e q i (by omega)) (fun q i hq => eN q i) (e 0 11 (by decide))⟩
      · exact Or.inr ⟨C, O, h2.keep (fun q i hq => e q i (by omega)) (fun q i hq => eN q i) (h2.2.1.of (fun i _ => e 3 i (by decide)) (fun i _ => eN 35 i))⟩
    refine m_spoilA hm64 hn hM.1.1.2.1 (fun u => absurd ok u) (fun _ x7 => j_212_96 (m_f0 ⟨fun _ => ⟨fun u => ?_, fun u => ⟨by show 0 ≤ x ∧ x < L 37; have := ok.1; omega, fun lv => ?_, fun lv => ?_⟩⟩, fun u => absurd rfl u⟩))
    · have u : zupd M 35 0 0 35 12 = 0 := u
      have of : H 0 11 = 0 := by rcases hM1.on with z | z <;> omega
      rcases q with ⟨q1, q2, -⟩ | ⟨-, q2, -⟩
      · exact j_212_121 ⟨Or.inl rfl, q1.symm, _, rfl, fm0, t0, same q2 _ (fun _ _ => rfl)⟩
      · omega
    · have u : ¬ zupd M 35 0 0 35 12 = 0 := u
      have on : H 0 11 = 1 ∧ zupd M 35 0 0 35 12 = 1 := by rcases hM1.on with z | z <;> omega
      obtain ⟨C, hn'⟩ := hM1.ison on.1
      obtain ⟨⟨hB, hL, hP⟩, hK, hR, -, pl⟩ := hn'.1
      refine m_holder ms ok.2.1 ?_
      have pp : ∀ p, 0 ≤ p → p < gPo d w → mPl d w (zupd M 35 0 0) o p = H 13 (o * gPo d w + p) := fun p p0 p1 => by
        have rg := gRow_of (row := o) hk ⟨p0, p1⟩
        have sr := gSpot_rg hk ok.2.1 ⟨p0, p1⟩
        have := pl _ sr.1 sr.2
        unfold mPs at this
        rw [rg.1, rg.2] at this
        exact this.symm
      have uniq : ∀ p p', (0 ≤ p ∧ p < gPo d w) → (0 ≤ p' ∧ p' < gPo d w) → H 13 (o * gPo d w + p) = x → H 13 (o * gPo d w + p') = x → p = p' := fun p p' hp hp' e e' => by
        apply Classical.byContradiction
        intro z
        have sr := gSpot_rg hk ok.2.1 hp
        have sr' := gSpot_rg hk ok.2.1 hp'
        have ox := ok.1
        exact hB.1.2.apart hk sr sr' (by omega) (by rw [(gRow_of (row := o) hk hp).1, (gRow_of (row := o) hk hp').1]) (by omega) (by omega) (by rw [e, e'])
      rcases gFirst_spec (fun p => mPl d w (zupd M 35 0 0) o p = x) (gPo d w).toNat 0 with y | ⟨y0, y1, y2, -⟩
      · rw [y.1]
        refine ⟨fun z => absurd z (by decide), fun _ => ⟨Or.inl rfl, ?_⟩⟩
        have no : ∀ p, 0 ≤ p → p < gPo d w → H 13 (o * gPo d w + p) ≠ x := fun p p0 p1 z => y.2 p p0 (by omega) (by rw [pp p p0 p1]; exact z)
        rcases q with ⟨q1, q2, -⟩ | ⟨-, -, -, -, p, hp, hpx, -⟩
        · exact ⟨q1.symm, _, rfl, fm0, t0, same q2 _ (fun _ _ => rfl)⟩
        · exact absurd hpx (no p hp.1 hp.2)
      · have hp0 : 0 ≤ gFirst (fun p => mPl d w (zupd M 35 0 0) o p = x) 0 (gPo d w).toNat ∧ gFirst (fun p => mPl d w (zupd M 35 0 0) o p = x) 0 (gPo d w).toNat < gPo d w := by omega
        generalize gFirst (fun p => mPl d w (zupd M 35 0 0) o p = x) 0 (gPo d w).toNat = p0 at *
        rw [pp p0 hp0.1 hp0.2] at y2
        refine ⟨fun _ => m_spoil1 hk hM1.1.1.1.2 ms hM1.mok on.2 hK pl hB.1.2 hB.2.2.2.2 ok hp0 y2 lv (fun N eN F why => ?_) (fun N hT hh => ?_), fun z => absurd hp0.1 z⟩
        · have fN : fM M N ∧ N 35 0 = 0 := ⟨fun q' i hq => by rw [eN]; exact fm0 q' i hq, by rw [eN]; exact t0⟩
          rcases q with ⟨q1, q2, -⟩ | ⟨-, -, -, -, p, hp, hpx, hh, -⟩
          · exact ⟨q1.symm, N, rfl, fN.1, fN.2, same q2 N eN⟩
          · have ep := uniq p p0 hp hp0 hpx y2
            rw [ep] at hh
            rcases why with z | z
            · exact absurd z (hh F).1
            · exact absurd z (hh F).2
        · have fN : fM M N ∧ N 35 0 = 0 := ⟨fun q' i hq => by rw [hT.1 q' i (by omega)]; exact fm0 q' i hq, by rw [hT.1 35 0 (by decide)]; exact t0⟩
          rcases q with ⟨q1, q2, q3⟩ | ⟨q1, -, gi, e, p, hp, hpx, -, fl⟩
          · rcases q3 with q3 | ⟨-, q3⟩ | ⟨-, p, hp, hpx, F, why⟩
            · omega
            · exact absurd y2 (q3 p0 hp0.1 hp0.2)
            · have ep := uniq p p0 hp hp0 hpx y2
              rw [ep] at why
              rcases why with z | z
              · exact absurd z (hh F).1
              · exact absurd z (hh F).2
          · refine ⟨q1.symm, N, rfl, fN.1, fN.2, hM1.1.keep2 gi (fun q i hq => e q i (by omega) (by omega) (by omega)) (fun q i hq => hT.1 q i (by omega)), Or.inl ⟨C, ?_⟩⟩
            -- the turning from M itself
            have hT0 : mTn x o a n m M (zupd N 35 0 (M 35 0)) := by
              refine ⟨fun q' i hq => ?_, fun i hi => by rw [zupd_ne (by decide), hT.2.1 i hi, zupd_ne (by decide)], fun i i0 i1 => by rw [zupd_ne (by decide)]; have := hT.2.2 i i0 i1; rw [zupd_ne (by decide)] at this; exact this⟩
              by_cases c : q' = 35 ∧ i = 0
              · rw [c.1, c.2, zupd_at]
              · rw [zupd_no c, hT.1 q' i hq, zupd_no c]
            have := fl _ hT0 C (up1 C hn')
            exact this.keep (fun _ _ _ => rfl) (fun q i hq => (zupd_no (by omega)).symm) (fun _ _ _ => rfl) (fun q i hq => (zupd_no (by omega)).symm) rfl
    · have lv : zupd M 35 0 0 37 x = 0 := Classical.not_not.mp lv
      have u : ¬ zupd M 35 0 0 35 12 = 0 := u
      have on : H 0 11 = 1 := by rcases hM1.on with z | z <;> omega
      obtain ⟨C, hn'⟩ := hM1.ison on
      obtain ⟨⟨hB, hL, hP⟩, hK, hR, -, pl⟩ := hn'.1
      rcases q with ⟨q1, q2, -⟩ | ⟨-, -, -, -, p, hp, hpx, -⟩
      · exact j_212_121 ⟨Or.inl rfl, q1.symm, _, rfl, fm0, t0, same q2 _ (fun _ _ => rfl)⟩
      · have sr := gSpot_rg hk ok.2.1 hp
        have ox := ok.1
        have := (hB.1.2.live hk hM1.1.1.1.2 hK sr (by omega)).2
        rw [hpx] at this
        exact absurd lv this
  · obtain ⟨e, c⟩ := q
    exact ⟨1, by rw [e]; rfl, by decide, fun t' ht' => m_spoilA hm64 hn h.1.1.2.1 (fun _ x7 => j_212_96 (m_f1 ⟨fun u => absurd u (by decide), fun _ => ⟨Or.inl rfl, rfl⟩⟩)) (fun u => absurd u c)⟩
end SPOIL3
