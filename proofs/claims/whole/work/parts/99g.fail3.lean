/-! fail: the call. -/
theorem gCnt_pos {P : Int → Prop} : ∀ (n : Nat) (a i : Int), a ≤ i → i < a + n → P i → 1 ≤ gCnt P a n := by
  intro n
  induction n with
  | zero => intro a i h1 h2; omega
  | succ n ih =>
    intro a i h1 h2 h
    by_cases c : P a
    · rw [gCnt_yes c]
      have := gCnt_rg P n (a + 1)
      omega
    · rw [gCnt_no c]
      exact ih (a + 1) i (by have : a ≠ i := fun e => c (by rw [e]; exact h); omega) (by omega) h
theorem gCnt_two {P : Int → Prop} : ∀ (n : Nat) (a i j : Int), a ≤ i → i < a + n → a ≤ j → j < a + n → i ≠ j → P i → P j → 2 ≤ gCnt P a n := by
  intro n
  induction n with
  | zero => intro a i j h1 h2; omega
  | succ n ih =>
    intro a i j h1 h2 h3 h4 ne hi hj
    by_cases c : P a
    · rw [gCnt_yes c]
      by_cases e : a = i
      · have := gCnt_pos n (a + 1) j (by omega) (by omega) hj
        omega
      · have := gCnt_pos n (a + 1) i (by omega) (by omega) hi
        omega
    · rw [gCnt_no c]
      have e1 : a ≠ i := fun e => c (by rw [e]; exact hi)
      have e2 : a ≠ j := fun e => c (by rw [e]; exact hj)
      exact ih (a + 1) i j (by omega) (by omega) (by omega) (by omega) ne hi hj
section FAIL3
variable {d w r x : Int} {t : Nat} {L : Int → Int} {H K M N X : zHp} {Qr Qt : Int → zS → Prop} {C : Int → Int → Int} {O : Int → Int}
theorem r_bd {row p : Int} (hk : gOK d w r) (hp : gPl d w r H) (hK : rK d r H M) (pl : ∀ s, 0 ≤ s → s < r * gPo d w → H 13 s = mPs d w M s) (hr : 0 ≤ row ∧ row < r) (hq : 0 ≤ p ∧ p < gPo d w) : mBd d w M row x p ↔ ¬ gSound d w r H (row * gPo d w + p) ∨ H 13 (row * gPo d w + p) = x := by
  have rg := gRow_of (row := row) hk hq
  have sr := gSpot_rg hk hr hq
  have e := pl _ sr.1 sr.2
  have sp := r_spt hk hp hK pl sr
  have b := hp _ sr.1 sr.2
  unfold mSps at sp
  unfold mPs at e
  rw [rg.1, rg.2] at e sp
  unfold mBd
  rw [← e, ← sp]
  unfold gSpoilt
  constructor
  · rintro (u | u | u)
    · exact Or.inl (fun z => z.1 (by omega))
    · exact Or.inr u
    · exact Or.inl u.2
  · rintro (u | u)
    · by_cases c : H 13 (row * gPo d w + p) = -1
      · exact Or.inl (by omega)
      · exact Or.inr (Or.inr ⟨c, u⟩)
    · exact Or.inr (Or.inl u)
/-- a disk may be missed there as here -/
theorem r_miss (hk : gOK d w r) (hp : gPl d w r H) (hK : rK d r H M) (pl : ∀ s, 0 ≤ s → s < r * gPo d w → H 13 s = mPs d w M s) (hA : vA d w r C H) (hO : vOne d w r H) (x1 : x ≠ -1) : (∀ s, 0 ≤ s → s < r * gPo d w → H 13 s = x → ¬ gFault d w r H s) ↔ ∀ row g, 0 ≤ row → row < r → 0 ≤ g → g < gGr d w → gCnt (mBd d w M row x) (g * w) w.toNat ≤ 1 := by
  have w3 := hk.2.2.1
  have po := gPo_rg hk
  have pw : gPo d w = gGr d w * w := by unfold gPo; exact Int.mul_comm _ _
  constructor
  · intro hm row g r0 r1 g0 g1
    have gw : 0 ≤ g * w ∧ g * w + w ≤ gPo d w := by
      refine ⟨Int.mul_nonneg g0 (by omega), ?_⟩
      have := Int.mul_le_mul_of_nonneg_right (show g + 1 ≤ gGr d w by omega) (show 0 ≤ w by omega)
      rw [Int.add_mul] at this
      omega
    have fm : (row * gPo d w + g * w) % w = 0 := by
      rw [pw, ← Int.mul_assoc, ← Int.add_mul]
      exact Int.mul_emod_left _ _
    refine gCnt_le1 _ _ (fun i j i0 i1 j0 j1 pi pj => ?_)
    apply Classical.byContradiction
    intro ne
    have hi : 0 ≤ i ∧ i < gPo d w := by omega
    have hj : 0 ≤ j ∧ j < gPo d w := by omega
    have si := gSpot_rg hk ⟨r0, r1⟩ hi
    have sj := gSpot_rg hk ⟨r0, r1⟩ hj
    have di := (gStr w3 fm (o := row * gPo d w + i) (by omega)).1
    have dj := (gStr w3 fm (o := row * gPo d w + j) (by omega)).1
    have bi := (r_bd hk hp hK pl ⟨r0, r1⟩ hi).mp pi
    have bj := (r_bd hk hp hK pl ⟨r0, r1⟩ hj).mp pj
    have nij : row * gPo d w + i ≠ row * gPo d w + j := by omega
    have rw' := gStr_row hk si sj (by rw [di, dj])
    have key : ∀ a b, (0 ≤ a ∧ a < r * gPo d w) → (0 ≤ b ∧ b < r * gPo d w) → a ≠ b → a / w = b / w → H 13 a = x → (¬ gSound d w r H b ∨ H 13 b = x) → False := fun a b ha hb nab e ax bb => by
      have k := gStr_row hk ha hb e
      have sb : gSound d w r H b := Classical.byContradiction (fun c => hm a ha.1 ha.2 ax ⟨b, k.1.1, k.1.2, fun z => nab z.symm, c⟩)
      rcases bb with bb | bb
      · exact bb sb
      · exact hA.apart hk ha hb nab k.2 (by rw [ax]; exact x1) sb.1 (by rw [ax, bb])
    rcases bi with bi | bi
    · rcases bj with bj | bj
      · rcases hO _ _ si.1 si.2 sj.1 sj.2 (by rw [di, dj]) nij with z | z
        · exact bi z
        · exact bj z
      · exact key _ _ sj si (fun z => nij z.symm) (by rw [di, dj]) bj (Or.inl bi)
    · exact key _ _ si sj nij (by rw [di, dj]) bi bj
  · intro hc s s0 s1 hx ⟨o, o0, o1, on, os⟩
    have q := gSp_rg hk ⟨s0, s1⟩
    have st := gStripe hk ⟨s0, s1⟩
    have ro : o / gPo d w = s / gPo d w := gRow_same hk ⟨s0, s1⟩ o0 (by omega)
    have qo := gSp_rg hk (s := o) ⟨by omega, by omega⟩
    have es := gSpot_of (s := s) hk
    have eo := gSpot_of (s := o) hk
    rw [ro] at eo
    -- the stripe's first position
    have F0 : (s - s % w) / gPo d w = s / gPo d w := gRow_same hk ⟨s0, s1⟩ (by omega) (by omega)
    have eF := gSpot_of (s := s - s % w) hk
    rw [F0] at eF
    have Fm : (s - s % w) % w = 0 := by
      have := Int.mul_ediv_add_emod s w
      rw [show s - s % w = 0 + w * (s / w) by omega, Int.add_mul_emod_self_left]
      rfl
    have Fp : (s - s % w) % gPo d w % w = 0 := by
      rw [Int.emod_emod_of_dvd _ (show w ∣ gPo d w from ⟨gGr d w, rfl⟩)]
      exact Fm
    have Fr := Int.emod_nonneg (s - s % w) (show gPo d w ≠ 0 by omega)
    have Fl := Int.emod_lt_of_pos (s - s % w) (show 0 < gPo d w by omega)
    generalize (s - s % w) % gPo d w = P at *
    have eg : P / w * w = P := by
      have := Int.mul_ediv_add_emod P w
      rw [Int.mul_comm] at this
      omega
    have g0 : 0 ≤ P / w := Int.ediv_nonneg Fr (by omega)
    have g1 : P / w < gGr d w := by
      apply Int.lt_of_mul_lt_mul_right (a := w) _ (by omega)
      rw [eg, ← pw]; exact Fl
    have two := gCnt_two (P := mBd d w M (s / gPo d w) x) w.toNat (P / w * w) (s % gPo d w) (o % gPo d w) (by omega) (by omega) (by omega) (by omega) (by omega) ((r_bd hk hp hK pl q.1 q.2.1).mpr (Or.inr (by rw [es]; exact hx))) ((r_bd hk hp hK pl q.1 qo.2.1).mpr (Or.inl (by rw [eo]; exact os)))
    have := hc (s / gPo d w) (P / w) q.1.1 q.1.2 g0 g1
    omega
/-- the reference's places on a disk forgotten -/
def mFg (d w r : Int) (M : zHp) (x k : Int) : zHp := fun q i => if q = 41 ∧ 0 ≤ i ∧ i < k ∧ i % 16 < gPo d w ∧ M 41 i = x then -1 else M q i
/-- the cut block as it was, up to k -/
def mRv (M : zHp) (k : Int) : zHp := fun q i => if q = 43 ∧ 64 * M 35 19 ≤ i ∧ i < 64 * M 35 19 + k then M 44 (i - 64 * M 35 19) else M q i
theorem m_fgL {y0 : Int} (h : mS d w r L M) (hQ : zEnds 118 208 184 [(29, 35), (9, 0), (9, 0), (0, y0), (9, 0)] [] (t, L, if M 35 12 = 0 then M else mFg d w r M x (16 * r)) Qr Qt) : zEnds 118 208 123 [(29, 35), (0, x), (9, 0), (0, y0), (0, 0)] [] (t, L, M) Qr Qt := by
  have hk := h.1
  have r64 := hk.2.2.2.2.2.2
  have r48 := hk.2.2.2.2.2.1
  have e3 : M 35 3 = r := h.2.2.2.1.2.2.1
  have l41 : L 41 = 1024 := h.2.1.2.2.2.2.2.1
  have pm := mPo_z h
  by_cases on : M 35 12 = 0
  · rw [if_pos on] at hQ
    exact j_208_123 ⟨fun _ => hQ, fun _ => ⟨fun _ => hQ, fun u => absurd on u⟩⟩
  · rw [if_neg on] at hQ
    have key : ∀ (n : Nat) (k : Int), 0 ≤ k → k + n = 16 * r → zEnds 118 208 123 [(29, 35), (0, x), (9, 0), (0, y0), (0, k)] [] (t, L, mFg d w r M x k) Qr Qt := by
      intro n
      induction n with
      | zero =>
        intro k k0 k1
        have ek : k = 16 * r := by omega
        have e : mFg d w r M x k 35 3 = r := by unfold mFg; rw [if_neg (by omega)]; exact e3
        rw [← ek] at hQ
        exact j_208_123 ⟨fun _ => hQ, fun u => absurd (by show z32 (16 * mFg d w r M x k 35 3) ≤ k; rw [e, z32_id (x := 16 * r) (by omega) (by omega)]; omega) u⟩
      | succ n ih =>
        intro k k0 k1
        have e : ∀ q i, q ≠ 41 → mFg d w r M x k q i = M q i := fun q i hq => by unfold mFg; rw [if_neg (fun u => hq u.1)]
        have ek : mFg d w r M x k 41 k = M 41 k := by unfold mFg; rw [if_neg (by omega)]
        have er : zrem k 16 = k % 16 := zrem_pos k0
        have go : mFg d w r M x k = mFg d w r M x (k + 1) → zEnds 118 208 178 [(29, 35), (0, x), (9, 0), (0, y0), (0, k)] [] (t, L, mFg d w r M x k) Qr Qt := fun u => by
          refine j_208_178 ?_
          rw [z32_id (x := k + 1) (by omega) (by omega), u]
          exact ih (k + 1) (by omega) (by omega)
        have same : ¬ (k % 16 < gPo d w ∧ M 41 k = x) → mFg d w r M x k = mFg d w r M x (k + 1) := fun u => by
          funext q i
          unfold mFg
          by_cases c : q = 41 ∧ 0 ≤ i ∧ i < k ∧ i % 16 < gPo d w ∧ M 41 i = x
          · rw [if_pos c, if_pos ⟨c.1, c.2.1, by omega, c.2.2.2⟩]
          · rw [if_neg c]
            by_cases c2 : q = 41 ∧ 0 ≤ i ∧ i < k + 1 ∧ i % 16 < gPo d w ∧ M 41 i = x
            · exfalso
              have ei : i = k := Classical.byContradiction (fun z => c ⟨c2.1, c2.2.1, by omega, c2.2.2.2⟩)
              rw [ei] at c2
              exact u c2.2.2.2
            · rw [if_neg c2]
        refine j_208_123 ⟨fun u => absurd u (by show ¬ z32 (16 * mFg d w r M x k 35 3) ≤ k; rw [e 35 3 (by decide), e3, z32_id (x := 16 * r) (by omega) (by omega)]; omega), fun _ => ⟨fun u => absurd u (by show ¬ mFg d w r M x k 35 12 = 0; rw [e 35 12 (by decide)]; exact on), fun _ => ⟨by decide, fun u => ?_, fun u => ⟨by show 0 ≤ k ∧ k < L 41; omega, fun v => ?_, fun v => ⟨by show 0 ≤ k ∧ k < L 41; omega, ?_⟩⟩⟩⟩⟩
        · have u : z32 (mFg d w r M x k 35 2 * mFg d w r M x k 35 4) ≤ zrem k 16 := u
          rw [e 35 2 (by decide), e 35 4 (by decide), pm, er] at u
          exact go (same (fun z => by omega))
        · have v : mFg d w r M x k 41 k ≠ x := v
          rw [ek] at v
          exact go (same (fun z => v z.2))
        · have u : ¬ z32 (mFg d w r M x k 35 2 * mFg d w r M x k 35 4) ≤ zrem k 16 := u
          rw [e 35 2 (by decide), e 35 4 (by decide), pm, er] at u
          have v : mFg d w r M x k 41 k = x := Classical.not_not.mp v
          rw [ek] at v
          refine j_208_178 ?_
          rw [z32_id (x := k + 1) (by omega) (by omega)]
          have ez : zupd (mFg d w r M x k) 41 k (-1) = mFg d w r M x (k + 1) := by
            funext q i
            by_cases c : q = 41 ∧ i = k
            · rw [c.1, c.2, zupd_at]
              unfold mFg
              rw [if_pos ⟨rfl, k0, by omega, by omega, v⟩]
            · rw [zupd_no c]
              unfold mFg
              by_cases c1 : q = 41 ∧ 0 ≤ i ∧ i < k ∧ i % 16 < gPo d w ∧ M 41 i = x
              · rw [if_pos c1, if_pos ⟨c1.1, c1.2.1, by omega, c1.2.2.2⟩]
              · rw [if_neg c1]
                have c2 : ¬ (q = 41 ∧ 0 ≤ i ∧ i < k + 1 ∧ i % 16 < gPo d w ∧ M 41 i = x) := fun z => c1 ⟨z.1, z.2.1, by omega, z.2.2.2⟩
                rw [if_neg c2]
          show zEnds 118 208 123 [(29, 35), (0, x), (9, 0), (0, y0), (0, k + 1)] [] (t, L, zupd (mFg d w r M x k) 41 k (-1)) Qr Qt
          rw [ez]
          exact ih (k + 1) (by omega) (by omega)
    have e0 : mFg d w r M x 0 = M := by
      funext q i
      unfold mFg
      rw [if_neg (by omega)]
    have := key (16 * r).toNat 0 (by omega) (by omega)
    rw [e0] at this
    exact this
theorem m_rvL (l43 : L 43 = 49152) (l44 : L 44 = 64) (hc : 0 ≤ M 35 19 ∧ M 35 19 < 768) (hQ : Qr 1 (t, L, zupd (mRv M 64) 35 20 0)) : zEnds 118 208 193 [(29, 35), (9, 0), (9, 0), (9, 0), (0, 0)] [] (t, L, M) Qr Qt := by
  have key : ∀ (n : Nat) (k : Int), 0 ≤ k → k + n = 64 → zEnds 118 208 193 [(29, 35), (9, 0), (9, 0), (9, 0), (0, k)] [] (t, L, mRv M k) Qr Qt := by
    intro n
    induction n with
    | zero =>
      intro k k0 k1
      have ek : k = 64 := by omega
      rw [ek]
      exact j_208_193 ⟨fun _ => ⟨Or.inl rfl, Or.inr rfl, hQ⟩, fun u => absurd (by decide) u⟩
    | succ n ih =>
      intro k k0 k1
      have e19 : mRv M k 35 19 = M 35 19 := by unfold mRv; rw [if_neg (by omega)]
      have e44 : mRv M k 44 k = M 44 k := by unfold mRv; rw [if_neg (by omega)]
      refine j_208_193 ⟨fun u => by omega, fun _ => ?_⟩
      dsimp only
      rw [e19, e44, z32_id (x := 64 * M 35 19) (by omega) (by omega), z32_id (x := 64 * M 35 19 + k) (by omega) (by omega), z32_id (x := k + 1) (by omega) (by omega)]
      have ez : zupd (mRv M k) 43 (64 * M 35 19 + k) (M 44 k) = mRv M (k + 1) := by
        funext q i
        by_cases c : q = 43 ∧ i = 64 * M 35 19 + k
        · rw [c.1, c.2, zupd_at]
          unfold mRv
          rw [if_pos ⟨rfl, by omega, by omega⟩, show 64 * M 35 19 + k - 64 * M 35 19 = k by omega]
        · rw [zupd_no c]
          unfold mRv
          by_cases c1 : q = 43 ∧ 64 * M 35 19 ≤ i ∧ i < 64 * M 35 19 + k
          · rw [if_pos c1, if_pos ⟨c1.1, c1.2.1, by omega⟩]
          · have c2 : ¬ (q = 43 ∧ 64 * M 35 19 ≤ i ∧ i < 64 * M 35 19 + (k + 1)) := fun z => c1 ⟨z.1, z.2.1, by omega⟩
            rw [if_neg c1, if_neg c2]
      rw [ez]
      exact ⟨by omega, by omega, ih (k + 1) (by omega) (by omega)⟩
  have e0 : mRv M 0 = M := by
    funext q i
    unfold mRv
    rw [if_neg (by omega)]
  have := key 64 0 (by omega) (by omega)
  rw [e0] at this
  exact this
end FAIL3
