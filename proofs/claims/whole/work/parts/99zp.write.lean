/-! write: bytes of files. -/
section WRITE
variable {d w r : Int} {t : Nat} {L : Int → Int} {H G F : zHp} {Qr Qt : Int → zS → Prop} {A : aSt} {i k v o n B : Int} {β τ : Int → Int}
theorem aPut_good (g : aGood B A) (hi : 0 ≤ i ∧ i < 64) (hk1 : A.1 (20 * i) = 1) (hk : 0 ≤ k ∧ k < A.1 (20 * i + 1)) (hv : 0 ≤ v ∧ v < 256) : aGood B (aPut A i k v) := by
  have tot := (g.1.2 i hi.1 hi.2).1
  have hin := aBlk_in (g.1.1.1 i hi.1 hi.2) (k := k / 64) (by omega)
  have ob := g.1.1.2.1 i _ hi.1 hi.2 hin
  have q := aOne (A' := aPut A i k v) g.go hi g.1.1 (fun _ _ => rfl) (g.1.2 i hi.1 hi.2) (fun _ _ _ => Or.inl rfl) (fun b u _ => u) (fun b x b0 b1 ow x0 x1 => ?_) (fun b b0 b1 ow ne x x0 x1 => ?_) (fun z => ?_) (fun k' k0 k1 => ?_)
  · exact q.1.good (aTr_file g q.1.1 ⟨hk1, hk1⟩ q.2 (fun _ _ => rfl))
  · show (bU A.2.2 (aIx A.1 i k) v (64 * b + x) = A.2.2 (64 * b + x) ∧ 0 < A.2.1 b) ∨ (0 ≤ bU A.2.2 (aIx A.1 i k) v (64 * b + x) ∧ bU A.2.2 (aIx A.1 i k) v (64 * b + x) < 256)
    by_cases c : 64 * b + x = aIx A.1 i k
    · rw [c, bU_at]; exact Or.inr hv
    · rw [bU_ne c]; exact Or.inl ⟨rfl, ow⟩
  · show bU A.2.2 (aIx A.1 i k) v (64 * b + x) = A.2.2 (64 * b + x)
    refine bU_ne (fun c => ?_)
    unfold aIx at c
    have eb : b = aBlk A.1 i (k / 64) := by omega
    rw [← eb] at ob
    exact ne ob
  · have z : A.1 (20 * i) = 0 := z
    omega
  · have k0 : A.1 (20 * i + 1) ≤ k' := k0
    have k1 : k' < 64 * aTot A.1 i := k1
    show bU A.2.2 (aIx A.1 i k) v (aIx A.1 i k') = 0
    rw [bU_ne (fun c => by have := (aIx_inj g.1.1 hi hi ⟨by omega, k1⟩ ⟨hk.1, by omega⟩ c).2; omega)]
    exact g.2.2.2.2.1 i k' hi.1 hi.2 k0 k1
/-- so many bytes put -/
def aPuts (A : aSt) (i o : Int) (τ : Int → Int) : Nat → aSt
  | 0 => A
  | m + 1 => aPut (aPuts A i o τ m) i (o + m) (τ m)
theorem aPuts_fst (m : Nat) : (aPuts A i o τ m).1 = A.1 ∧ (aPuts A i o τ m).2.1 = A.2.1 := by
  induction m with
  | zero => exact ⟨rfl, rfl⟩
  | succ m ih => exact ih
theorem aPuts_good (g : aGood B A) (hi : 0 ≤ i ∧ i < 64) (hk1 : A.1 (20 * i) = 1) (ho : 0 ≤ o) (m : Nat) (hm : o + m ≤ A.1 (20 * i + 1)) (hv : ∀ x : Int, 0 ≤ x → x < m → 0 ≤ τ x ∧ τ x < 256) : aGood B (aPuts A i o τ m) := by
  induction m with
  | zero => exact g
  | succ m ih =>
    have f := aPuts_fst (A := A) (i := i) (o := o) (τ := τ) m
    exact aPut_good (ih (by omega) (fun x x0 x1 => hv x x0 (by omega))) hi (by rw [f.1]; exact hk1) (by rw [f.1]; omega) (hv m (by omega) (by omega))
noncomputable def aFill (B : Int) (A : aSt) (i o n : Int) (τ : Int → Int) : Int × aSt := if aFault A i 1 < 0 then (aFault A i 1, A) else if o < 0 ∨ A.1 (20 * i + 1) < o then (-8, A) else if o + n ≤ A.1 (20 * i + 1) then (A.1 (20 * i + 1), aPuts A i o τ n.toNat) else (match aRes B A i (o + n) with
    | none => (-4, A)
    | some A' => (o + n, aPuts A' i o τ n.toNat))
theorem aFill_good (g : aGood B A) (hB : 96 ≤ B ∧ B ≤ 768) (hi : 0 ≤ i ∧ i < 64) (hn : 0 ≤ n ∧ n ≤ 512) (hv : ∀ x : Int, 0 ≤ x → x < n → 0 ≤ τ x ∧ τ x < 256) (h0 : 0 ≤ (aFill B A i o n τ).1) : aGood B (aFill B A i o n τ).2 := by
  have le := g.1.le hB hi
  unfold aFill at h0 ⊢
  by_cases c1 : aFault A i 1 < 0
  · rw [if_pos c1]; exact g
  · rw [if_neg c1] at h0 ⊢
    have k1 := (aFault_0 c1).1
    by_cases c2 : o < 0 ∨ A.1 (20 * i + 1) < o
    · rw [if_pos c2]; exact g
    · rw [if_neg c2] at h0 ⊢
      by_cases c3 : o + n ≤ A.1 (20 * i + 1)
      · rw [if_pos c3]
        exact aPuts_good g hi k1 (by omega) _ (by omega) (fun x x0 x1 => hv x x0 (by omega))
      · rw [if_neg c3] at h0 ⊢
        cases hr : aRes B A i (o + n) with
        | none => exact g
        | some A' =>
          obtain ⟨g1, g2, g3⟩ := aRes_good g hi (by omega) k1 hr
          exact aPuts_good g1 hi g3 (by omega) _ (by omega) (fun x x0 x1 => hv x x0 (by omega))
/-- the bytes of Tree.writeBytes -/
theorem t_bytes {sz : Int} (hL : L 33 = 512) (g : aG B A) (hi : 0 ≤ i ∧ i < 64) (ho : 0 ≤ o) (hn : 0 ≤ n ∧ n ≤ 512) (hs : o + n ≤ A.1 (20 * i + 1)) (hs2 : A.1 (20 * i + 1) ≤ 65535) (hτ : ∀ x : Int, 0 ≤ x → x < n → F 33 x % 256 = τ x) (ez : (if sz ≤ o + n then o + n else sz) = v)
    (hQ : ∀ n' X' β' H', fS F B n' X' β' L H' → aE B (aPuts A i o τ n.toNat) β' → Qr v (t, L, H')) : ∀ (m' m : Nat) (n' : Int) (X' : List Int) (β' : Int → Int) (H' : zHp) (bk : Int), (m : Int) + m' = n → fS F B n' X' β' L H' → aE B (aPuts A i o τ m) β' → n' + ((o + n + 63) / 64 - (o + m + 63) / 64) + (if m = 0 ∧ o % 64 ≠ 0 then 1 else 0) ≤ 24 → (m ≠ 0 → (o + m) % 64 ≠ 0 → bk = aBlk A.1 i ((o + m) / 64) ∧ bk ∈ X') →
    zEnds 80 129 75 [(27, 27), (0, i), (0, o), (12, 33), (9, 0), (9, 0), (0, sz), (0, o + n), (0, bk), (0, o + m)] [] (t, L, H') Qr Qt := by
  intro m'
  induction m' with
  | zero =>
    intro m n' X' β' H' bk hm h hE _ _
    refine v_129_75 ⟨fun _ => ?_, fun z => absurd (by omega) z⟩
    rw [ez]
    rw [show m = n.toNat by omega] at hE
    exact hQ n' X' β' H' h hE
  | succ m' ih =>
    intro m n' X' β' H' bk hm h hE hb hbk
    have hB := h.1.1
    have f := aPuts_fst (A := A) (i := i) (o := o) (τ := τ) m
    have hS : aS B (aPuts A i o τ m) := by
      have := aS_W (W' := (aPuts A i o τ m).2.2) g.s
      rw [← f.1, ← f.2] at this
      exact this
    have tot := (g.2 i hi.1 hi.2).1
    have h33 : H' 33 m = F 33 m := h.2.1.1 33 m (by unfold iFr; omega)
    have blk := g.s.blk hi (k := (o + m) / 64) (by omega)
    have zd : zdiv (o + m) 64 = (o + m) / 64 := zdiv_pos (by omega) (by omega) (by omega)
    have zr : zrem (o + m) 64 = (o + m) % 64 := zrem_pos (by omega)
    have zm : z32 (o + m - o) = m := by rw [show o + (m : Int) - o = m by omega]; exact z32_id (by omega) (by omega)
    have z1 : z32 (o + m + 1) = o + ((m + 1 : Nat) : Int) := by rw [z32_id (by omega) (by omega)]; omega
    -- one byte
    have one : ∀ (n2 : Int) (X2 : List Int), fS F B n2 X2 β' L H' → aBlk A.1 i ((o + m) / 64) ∈ X2 → n2 + ((o + n + 63) / 64 - (o + ((m + 1 : Nat) : Int) + 63) / 64) ≤ 24 → zEnds 80 80 0 [(25, 18), (0, aBlk A.1 i ((o + m) / 64)), (0, zrem (o + m) 64), (0, H' 33 m)] [] (t, L, H') (fun v2 S2 => zEnds 80 129 75 [(27, 27), (0, i), (0, o), (12, 33), (9, 0), (9, 0), (0, sz), (0, o + n), (0, aBlk A.1 i ((o + m) / 64)), (0, z32 (o + m + 1))] [] S2 Qr Qt) Qt := by
      intro n2 X2 h2 hx2 hb2
      rw [zr]
      refine i_setByte h2 (by omega) (by omega) hx2 (fun H2 h2' => ?_) (by omega)
      rw [z1]
      refine ih (m + 1) n2 X2 _ H2 _ (by omega) h2' ?_ ?_ (fun _ _ => ⟨?_, hx2⟩)
      · rw [h33, hτ m (by omega) (by omega)]
        show aE B (aPut (aPuts A i o τ m) i (o + m) (τ m)) _
        unfold aPut aIx
        rw [f.1]
        have := aE_put (v := τ m) hE hS hi (b := (o + m) / 64) (by rw [f.1]; omega) (x := (o + m) % 64) (by omega) rfl
        rw [f.1] at this
        exact this
      · rw [if_neg (show ¬ (m + 1 = 0 ∧ o % 64 ≠ 0) by omega)]
        omega
      · rename_i y1 y2
        rw [show (o + ((m + 1 : Nat) : Int)) / 64 = (o + m) / 64 by omega]
    have hEi : eI A.1 β' i := by
      have := hE.1 i hi.1 hi.2
      rw [f.1] at this
      exact this
    have fresh : (m = 0 ∨ (o + m) % 64 = 0) → zEnds 80 113 0 [(26, 26), (0, i), (0, zdiv (o + m) 64), (9, 0), (9, 0), (9, 0), (9, 0)] [] (t, L, H') (fun v1 S1 => ((64 : Int) ≠ 0) ∧ ((0 ≤ z32 (o + m - o) ∧ z32 (o + m - o) < S1.2.1 33) ∧ zEnds 80 80 0 [(25, 18), (0, v1), (0, zrem (o + m) 64), (0, S1.2.2 33 (z32 (o + m - o)))] [] S1 (fun v2 S2 => zEnds 80 129 75 [(27, 27), (0, i), (0, o), (12, 33), (9, 0), (9, 0), (0, sz), (0, o + n), (0, v1), (0, z32 (o + m + 1))] [] S2 Qr Qt) Qt)) Qt := by
      intro c
      rw [zd]
      refine n_blockOf h hEi (g.1.1 i hi.1 hi.2) hi (by omega) ⟨by decide, ?_⟩
      rw [zm]
      refine ⟨⟨by omega, by show (m : Int) < L 33; omega⟩, one (n' + 1) (aBlk A.1 i ((o + m) / 64) :: X') (h.more ?_) List.mem_cons_self ?_⟩
      · by_cases c0 : m = 0 ∧ o % 64 ≠ 0
        · rw [if_pos c0] at hb; omega
        · rw [if_neg c0] at hb; omega
      · by_cases c0 : m = 0 ∧ o % 64 ≠ 0
        · rw [if_pos c0] at hb; omega
        · rw [if_neg c0] at hb; omega
    refine v_129_75 ⟨fun z => absurd z (by omega), fun _ => ⟨fun e => ⟨by decide, fresh (Or.inl (by omega))⟩, fun e => ⟨by decide, fun z => ⟨by decide, ?_⟩, fun z => ⟨by decide, fresh (Or.inr (by rw [zr] at z; omega))⟩⟩⟩⟩
    rw [zr] at z
    obtain ⟨b1, b2⟩ := hbk (by omega) z
    rw [zm]
    refine ⟨⟨by omega, by show (m : Int) < L 33; omega⟩, ?_⟩
    subst b1
    refine one n' X' h b2 ?_
    rw [if_neg (show ¬ (m = 0 ∧ o % 64 ≠ 0) by omega)] at hb
    omega
/-- Tree.writeBytes -/
theorem t_writeBytes (hL : L 33 = 512) (h : fS F B 0 [] β L H) (hE : aE B A β) (g : aGood B A) (hi : 0 ≤ i ∧ i < 64) (hn : 0 ≤ n ∧ n ≤ 512) (hτ : ∀ x : Int, 0 ≤ x → x < n → F 33 x % 256 = τ x) (zo : z32 o = o) (hQ : tPost F B t L (aFill B A i o n τ) Qr) : zEnds 80 129 0 [(27, 27), (0, i), (0, o), (12, 33), (0, n), (9, 0), (9, 0), (9, 0), (9, 0), (9, 0)] [] (t, L, H) Qr Qt := by
  have hB := h.1.1
  have le := g.1.le hB hi
  unfold aFill at hQ
  refine v_129 (t_faultOf h hE hi ⟨fun u => ?_, fun u => ?_⟩)
  · rw [if_neg (show ¬ aFault A i 1 < 0 by omega)] at hQ
    have k1 := (aFault_0 (show ¬ aFault A i 1 < 0 by omega)).1
    refine n_size h (hE.1 i hi.1 hi.2) hi (by omega) ⟨fun c => ?_, fun c => ⟨fun c2 => ?_, fun c2 => ?_⟩⟩
    · rw [if_pos (show o < 0 ∨ A.1 (20 * i + 1) < o from Or.inl c)] at hQ
      exact hQ 0 [] β H h (fun _ => hE)
    · rw [if_neg (show ¬ (o < 0 ∨ A.1 (20 * i + 1) < o) by omega)] at hQ
      rw [z32_id (by omega) (by omega)]
      refine ⟨fun c3 => ?_, fun c3 => ?_⟩
      · rw [if_pos c3] at hQ
        have := t_bytes (Qt := Qt) (sz := A.1 (20 * i + 1)) (v := A.1 (20 * i + 1)) hL g.1 hi (by omega) hn c3 (by omega) hτ (by by_cases z : A.1 (20 * i + 1) ≤ o + n; rw [if_pos z]; omega; rw [if_neg z]) (fun n' X' β' H' h' hE' => hQ n' X' β' H' h' (fun _ => hE')) n.toNat 0 0 [] β H 25 (by omega) h hE (by by_cases z : (0 : Nat) = 0 ∧ o % 64 ≠ 0; rw [if_pos z]; omega; rw [if_neg z]; omega) (fun z => absurd rfl z)
        rw [show o + ((0 : Nat) : Int) = o by omega] at this
        exact this
      · rw [if_neg c3] at hQ
        have h3 := ((h.more (b := 58) (by decide)).more (b := 57) (by decide)).more (b := 25 + i / 2) (by decide)
        refine n_resize h3 hE g.1.1.1 hi ⟨List.mem_cons_self, List.mem_cons_of_mem _ List.mem_cons_self, List.mem_cons_of_mem _ (List.mem_cons_of_mem _ List.mem_cons_self)⟩ (by omega) (g.1.2 i hi.1 hi.2).1 (by omega) (fun A1 l1 l2 => aClr_id g.go hi l1 l2) (fun e n' X' β' H' h' => ⟨fun z => absurd rfl z, fun _ => ?_⟩) (fun A' n' X' β' H' e le' _ h' hE' => ⟨fun _ => ?_, fun z => absurd (by decide) z⟩)
        · rw [e] at hQ
          exact hQ n' X' β' H' h' (fun y => absurd y (by show ¬ (0 : Int) ≤ -4; decide))
        · rw [e] at hQ
          obtain ⟨g1, g2, g3⟩ := aRes_good g hi (by omega) k1 e
          have := t_bytes (Qt := Qt) (sz := A.1 (20 * i + 1)) (v := o + n) hL g1.1 hi (by omega) hn (by omega) (by omega) hτ (if_pos (by omega)) (fun n' X' β' H' h' hE' => hQ n' X' β' H' h' (fun _ => hE')) n.toNat 0 n' X' β' H' 25 (by omega) h' hE' (by by_cases z : (0 : Nat) = 0 ∧ o % 64 ≠ 0; rw [if_pos z]; omega; rw [if_neg z]; omega) (fun z => absurd rfl z)
          rw [show o + ((0 : Nat) : Int) = o by omega] at this
          exact this
    · rw [if_pos (show o < 0 ∨ A.1 (20 * i + 1) < o by omega)] at hQ
      exact hQ 0 [] β H h (fun _ => hE)
  · rw [if_pos (show aFault A i 1 < 0 by omega)] at hQ
    exact hQ 0 [] β H h (fun _ => hE)
/-- the bytes of DiskPoolModel.fills -/
theorem m_bytes {B : Int} (g : aG B A) (hB : B ≤ 768) (hi : 0 ≤ i ∧ i < 64) (ho : 0 ≤ o) (hn : 0 ≤ n ∧ n ≤ 512) (hs : o + n ≤ A.1 (20 * i + 1)) (hs2 : A.1 (20 * i + 1) ≤ 65535) (hτ : ∀ x : Int, 0 ≤ x → x < n → G 42 x = τ x)
    (hQ : ∀ H', mA d w r G (aPuts A i o τ n.toNat) L H' → Qr (A.1 (20 * i + 1)) (t, L, H')) : ∀ (m' m : Nat) (H' : zHp), (m : Int) + m' = n → mA d w r G (aPuts A i o τ m) L H' → zEnds 118 244 59 [(29, 35), (0, i), (0, o), (0, n), (9, 0), (0, (m : Int))] [] (t, L, H') Qr Qt := by
  intro m'
  induction m' with
  | zero =>
    intro m H' hm h
    have f := aPuts_fst (A := A) (i := i) (o := o) (τ := τ) m
    refine v_244_59 ⟨fun _ => m_sizeOf h hi ?_, fun z => absurd (by omega) z⟩
    rw [f.1]
    rw [show m = n.toNat by omega] at h
    exact hQ H' h
  | succ m' ih =>
    intro m H' hm h
    have f := aPuts_fst (A := A) (i := i) (o := o) (τ := τ) m
    have tot := (g.2 i hi.1 hi.2).1
    have e42 : H' 42 m = τ m := by rw [h.2.2.2.2 42 m (by decide) (by decide) (by decide)]; exact hτ m (by omega) (by omega)
    refine v_244_59 ⟨fun z => absurd z (by omega), fun _ => ⟨⟨by omega, by show (m : Int) < L 42; rw [h.1.2.1.2.2.2.2.2.2.1]; omega⟩, ?_⟩⟩
    rw [z32_id (by omega) (by omega)]
    show zEnds 118 233 0 [(29, 35), (0, i), (0, o + (m : Int)), (0, H' 42 m)] [] (t, L, H') _ Qt
    rw [e42]
    refine m_put h (by rw [f.1]; exact g.1.1 i hi.1 hi.2) hB hi (by rw [f.1]; omega) (fun H2 h2 => ?_)
    rw [show z32 ((m : Int) + 1) = ((m + 1 : Nat) : Int) by rw [z32_id (by omega) (by omega)]; omega]
    exact ih (m + 1) H2 (by omega) h2
/-- DiskPoolModel.fills -/
theorem m_fills (h : mA d w r G A L H) (g : aGood (r * gGr d w * (w - 1)) A) (hi : 0 ≤ i ∧ i < 64) (hn : 0 ≤ n ∧ n ≤ 512) (hτ : ∀ x : Int, 0 ≤ x → x < n → G 42 x = τ x) (hQ : mPost d w r G t L (aFill (r * gGr d w * (w - 1)) A i o n τ) Qr) : zEnds 118 244 0 [(29, 35), (0, i), (0, o), (0, n), (9, 0), (9, 0)] [] (t, L, H) Qr Qt := by
  have hB : 96 ≤ r * gGr d w * (w - 1) ∧ r * gGr d w * (w - 1) ≤ 768 := ⟨gBl_ge h.1.1, gBl_le h.1.1⟩
  have le := g.1.le hB hi
  have kd := (g.1.1.1 i hi.1 hi.2).1
  unfold aFill at hQ
  refine v_244 (m_badFile h hi kd ⟨fun u => ?_, fun u => m_badFile h hi kd ?_⟩)
  · rw [if_neg (show ¬ aFault A i 1 < 0 by omega)] at hQ
    have k1 := (aFault_0 (show ¬ aFault A i 1 < 0 by omega)).1
    refine m_sizeOf h hi (m_in (fun c => ⟨fun _ => ?_, fun z => absurd (by decide) z⟩) (fun c => ⟨fun z => absurd rfl z, fun _ => ?_⟩))
    · rw [if_neg (show ¬ (o < 0 ∨ A.1 (20 * i + 1) < o) by omega)] at hQ
      rw [z32_id (by omega) (by omega)]
      refine ⟨fun c3 => ?_, fun c3 => m_sizes h g.1.1.1 g.2.2.1.p hB.1 hi (by omega) (g.1.2 i hi.1 hi.2).1 (fun e A' H' h' => ⟨fun z => absurd rfl z, fun _ => ?_⟩) (fun A' H' e h' => ⟨fun _ => ?_, fun z => absurd (by decide) z⟩)⟩
      · rw [if_pos c3] at hQ
        exact m_bytes g.1 hB.2 hi (by omega) hn c3 (by omega) hτ (fun H' h' => hQ _ H' h' (fun _ => rfl)) n.toNat 0 H (by omega) h
      · rw [if_neg c3, e] at hQ
        exact hQ A' H' h' (fun y => absurd y (by show ¬ (0 : Int) ≤ -4; decide))
      · rw [if_neg c3, e] at hQ
        obtain ⟨g1, g2, g3⟩ := aRes_good g hi (by omega) k1 e
        refine m_bytes g1.1 hB.2 hi (by omega) hn (by omega) (by omega) hτ (fun H' h' => ?_) n.toNat 0 H' (by omega) h'
        rw [g2]
        exact hQ _ H' h' (fun _ => rfl)
    · rw [if_pos (show o < 0 ∨ A.1 (20 * i + 1) < o by omega)] at hQ
      exact hQ A H h (fun _ => rfl)
  · rw [if_pos (show aFault A i 1 < 0 by omega)] at hQ
    exact hQ A H h (fun _ => rfl)
end WRITE
