/-! The tree: entries of directories. -/
/-- what inodes, owners and sizes have to do with each other -/
def aS (B : Int) (A : aSt) : Prop := aN B A.1 ∧ (∀ i, 0 ≤ i → i < 64 → aTot A.1 i = (A.1 (20 * i + 1) + 63) / 64 ∧ (A.1 (20 * i) = 2 → A.1 (20 * i + 1) % 64 = 0)) ∧ ∀ i b, 0 ≤ i → i < 64 → aIn A.1 i b → A.2.1 b = i + 1
/-- a byte of an inode -/
def aIx (N : Int → Int) (i k : Int) : Int := 64 * aBlk N i (k / 64) + k % 64
def aGet (A : aSt) (i k : Int) : Int := A.2.2 (aIx A.1 i k)
def aPut (A : aSt) (i k v : Int) : aSt := (A.1, A.2.1, bU A.2.2 (aIx A.1 i k) v)
def aNm (A : aSt) (d e : Int) : Int := aGet A d (4 * e) + 256 * aGet A d (4 * e + 1)
def aNo (A : aSt) (d e : Int) : Int := aGet A d (4 * e + 2)
noncomputable def aEnt (A : aSt) (d nm : Int) : Int := gFirst (fun e => aNm A d e = nm) 0 (A.1 (20 * d + 1) / 4).toNat
def aEnter (A : aSt) (d e nm ino : Int) : aSt := aPut (aPut (aPut A d (4 * e) (nm % 256)) d (4 * e + 1) (nm / 256 % 256)) d (4 * e + 2) (ino % 256)
def aFault (A : aSt) (i kind : Int) : Int := if A.1 (20 * i) = 0 then -1 else if A.1 (20 * i) = kind then 0 else -5
noncomputable def aFind (A : aSt) (d nm : Int) : Int := if aFault A d 2 < 0 then aFault A d 2 else if aEnt A d nm = -1 then -1 else aNo A d (aEnt A d nm) % 64
theorem aS.blk {B : Int} {A : aSt} {i k : Int} (h : aS B A) (hi : 0 ≤ i ∧ i < 64) (hk : 0 ≤ k ∧ 64 * k < A.1 (20 * i + 1)) : (59 ≤ aBlk A.1 i k ∧ aBlk A.1 i k < B) ∧ A.2.1 (aBlk A.1 i k) = i + 1 := by
  have hA := h.1 i hi.1 hi.2
  have ht := (h.2.1 i hi.1 hi.2).1
  have hin := aBlk_in hA (k := k) (by omega)
  exact ⟨aIn_rg hA hin, h.2.2 i _ hi.1 hi.2 hin⟩
/-- a byte in a block of an inode, as the image has it -/
theorem aE.get {B : Int} {A : aSt} {β : Int → Int} {i b x : Int} (hE : aE B A β) (h : aS B A) (hi : 0 ≤ i ∧ i < 64) (hb : 0 ≤ b ∧ 64 * b < A.1 (20 * i + 1)) (hx : 0 ≤ x ∧ x < 64) : β (64 * aBlk A.1 i b + x) = aGet A i (64 * b + x) := by
  have g := h.blk hi hb
  have e := hE.2.2 (aBlk A.1 i b) x g.1.1 g.1.2 (by rw [g.2]; omega) hx.1 hx.2
  rw [e]
  unfold aGet aIx
  rw [show (64 * b + x) / 64 = b by omega, show (64 * b + x) % 64 = x by omega]
theorem aEnt_rg {A : aSt} {d nm : Int} (h : aEnt A d nm ≠ -1) : (0 ≤ aEnt A d nm ∧ aEnt A d nm < A.1 (20 * d + 1) / 4) ∧ aNm A d (aEnt A d nm) = nm := by
  unfold aEnt at h ⊢
  rcases gFirst_spec (fun e => aNm A d e = nm) (A.1 (20 * d + 1) / 4).toNat 0 with ⟨g, -⟩ | ⟨g1, g2, g3, -⟩
  · exact absurd g h
  · exact ⟨⟨g1, by omega⟩, g3⟩
theorem aFault_le (A : aSt) (i k : Int) : aFault A i k = 0 ∨ aFault A i k = -1 ∨ aFault A i k = -5 := by
  unfold aFault
  by_cases c : A.1 (20 * i) = 0
  · rw [if_pos c]; omega
  · rw [if_neg c]
    by_cases c2 : A.1 (20 * i) = k
    · rw [if_pos c2]; omega
    · rw [if_neg c2]; omega
theorem aFault_0 {A : aSt} {i k : Int} (h : ¬ aFault A i k < 0) : A.1 (20 * i) = k ∧ A.1 (20 * i) ≠ 0 := by
  unfold aFault at h
  by_cases c : A.1 (20 * i) = 0
  · rw [if_pos c] at h; omega
  · rw [if_neg c] at h
    by_cases c2 : A.1 (20 * i) = k
    · exact ⟨c2, c⟩
    · rw [if_neg c2] at h; omega
section TREE
variable {F : zHp} {B n : Int} {X : List Int} {β : Int → Int} {t : Nat} {L : Int → Int} {H : zHp} {Qr Qt : Int → zS → Prop} {d e nm ino kind i : Int} {A : aSt}
theorem t_faultOf (h : fS F B n X β L H) (hE : aE B A β) (hd : 0 ≤ d ∧ d < 64) (hQ : Qr (aFault A d kind) (t, L, H)) : zEnds 80 121 0 [(27, 27), (0, d), (0, kind), (9, 0)] [] (t, L, H) Qr Qt := by
  unfold aFault at hQ
  refine v_121 (n_kind h (hE.1 d hd.1 hd.2) hd ⟨fun z => ⟨fun y => ?_, fun y => ?_⟩, fun z => ?_⟩)
  · rw [if_neg z, if_neg y] at hQ; exact hQ
  · rw [if_neg z, if_pos (Classical.not_not.mp y)] at hQ; exact hQ
  · rw [if_pos (Classical.not_not.mp z)] at hQ; exact hQ
theorem t_entryOf (h : fS F B n X β L H) (hE : aE B A β) (hS : aS B A) (hd : 0 ≤ d ∧ d < 64) (hk : A.1 (20 * d) = 2) (hQ : Qr (aEnt A d nm) (t, L, H)) : zEnds 80 122 0 [(27, 27), (0, d), (0, nm), (9, 0), (9, 0), (9, 0), (9, 0)] [] (t, L, H) Qr Qt := by
  have hA := hS.1 d hd.1 hd.2
  have h64 := (hS.2.1 d hd.1 hd.2).2 hk
  have hsz := hA.2.1
  have hI := hE.1 d hd.1 hd.2
  have hl := h.1.1
  unfold aEnt at hQ
  generalize hs : A.1 (20 * d + 1) = s at hQ h64 hsz
  have key : ∀ (m : Nat) (x : Int), 0 ≤ x → 16 * (s / 64) = x + m → Qr (gFirst (fun e => aNm A d e = nm) x m) (t, L, H) →
      (x % 16 = 0 → zEnds 80 122 15 [(27, 27), (0, d), (0, nm), (0, s / 64), (0, x / 16), (9, 0), (9, 0)] [] (t, L, H) Qr Qt) ∧
      (m ≠ 0 → zEnds 80 122 36 [(27, 27), (0, d), (0, nm), (0, s / 64), (0, x / 16), (0, aBlk A.1 d (x / 16)), (0, x % 16)] [] (t, L, H) Qr Qt) := by
    intro m
    induction m with
    | zero =>
      intro x x1 x2 hq
      exact ⟨fun _ => v_122_15 ⟨fun _ => hq, fun z => absurd (by omega) z⟩, fun u => absurd rfl u⟩
    | succ m ih =>
      intro x x1 x2 hq
      have hb : 0 ≤ x / 16 ∧ 64 * (x / 16) < A.1 (20 * d + 1) := by omega
      have gb := hS.blk hd hb
      have step : zEnds 80 122 36 [(27, 27), (0, d), (0, nm), (0, s / 64), (0, x / 16), (0, aBlk A.1 d (x / 16)), (0, x % 16)] [] (t, L, H) Qr Qt := by
        refine v_122_36 ⟨fun z => by omega, fun _ => ?_⟩
        rw [z32_id (x := 4 * (x % 16)) (by omega) (by omega), z32_id (x := 16 * (x / 16)) (by omega) (by omega), z32_id (x := 16 * (x / 16) + x % 16) (by omega) (by omega), z32_id (x := x % 16 + 1) (by omega) (by omega)]
        refine i_pairAt h (by omega) (by omega) ?_
        have en : β (64 * aBlk A.1 d (x / 16) + 4 * (x % 16)) + 256 * β (64 * aBlk A.1 d (x / 16) + 4 * (x % 16) + 1) = aNm A d x := by
          unfold aNm
          rw [hE.get hS hd hb (by omega), Int.add_assoc (64 * aBlk A.1 d (x / 16)), hE.get hS hd hb (by omega), show 64 * (x / 16) + 4 * (x % 16) = 4 * x by omega, show 64 * (x / 16) + (4 * (x % 16) + 1) = 4 * x + 1 by omega]
        rw [en]
        refine ⟨fun z => ?_, fun z => ?_⟩
        · rw [gFirst_no (P := fun e => aNm A d e = nm) z] at hq
          have g := ih (x + 1) (by omega) (by omega) hq
          by_cases c : x % 16 = 15
          · refine v_122_36 ⟨fun _ => ?_, fun u => absurd (by omega) u⟩
            rw [z32_id (x := x / 16 + 1) (by omega) (by omega), show x / 16 + 1 = (x + 1) / 16 by omega]
            exact g.1 (by omega)
          · have g2 := g.2 (by omega)
            rw [show (x + 1) / 16 = x / 16 by omega, show (x + 1) % 16 = x % 16 + 1 by omega] at g2
            exact g2
        · rw [gFirst_yes (P := fun e => aNm A d e = nm) (Classical.not_not.mp z)] at hq
          rw [show 16 * (x / 16) + x % 16 = x by omega]
          exact hq
      refine ⟨fun c => v_122_15 ⟨fun z => by omega, fun _ => n_blockOf h hI hA hd (by omega) ?_⟩, fun _ => step⟩
      rw [c] at step
      exact step
  refine v_122 (n_size h hI hd (by omega) ⟨by decide, ?_⟩)
  rw [hs, zdiv_pos (by omega) (by omega) (by decide)]
  have g := (key (s / 4).toNat 0 (by omega) (by omega) hQ).1 (by decide)
  exact g
theorem t_inodeAt (h : fS F B n X β L H) (hE : aE B A β) (hS : aS B A) (hd : 0 ≤ d ∧ d < 64) (hk : A.1 (20 * d) = 2) (he : 0 ≤ e ∧ e < A.1 (20 * d + 1) / 4) (hQ : Qr (aNo A d e % 64) (t, L, H)) : zEnds 80 123 0 [(27, 27), (0, d), (0, e), (9, 0)] [] (t, L, H) Qr Qt := by
  have hA := hS.1 d hd.1 hd.2
  have h64 := (hS.2.1 d hd.1 hd.2).2 hk
  have hsz := hA.2.1
  have hI := hE.1 d hd.1 hd.2
  have hb : 0 ≤ e / 16 ∧ 64 * (e / 16) < A.1 (20 * d + 1) := by omega
  have gb := hS.blk hd hb
  have hl := h.1.1
  refine v_123 ?_
  rw [zdiv_pos he.1 (by omega) (by decide), zrem_pos he.1, z32_id (x := 4 * (e % 16)) (by omega) (by omega), z32_id (x := 4 * (e % 16) + 2) (by omega) (by omega)]
  refine ⟨by decide, n_blockOf h hI hA hd (by omega) ⟨by decide, i_byteAt h (by omega) (by omega) ⟨by decide, ?_⟩⟩⟩
  have r := h.rg (64 * aBlk A.1 d (e / 16) + (4 * (e % 16) + 2)) (by omega)
  rw [zrem_pos r.1, hE.get hS hd hb (by omega), show 64 * (e / 16) + (4 * (e % 16) + 2) = 4 * e + 2 by omega]
  exact hQ
theorem t_inodeOf (h : fS F B n X β L H) (hE : aE B A β) (hS : aS B A) (hd : 0 ≤ d ∧ d < 64) (hQ : Qr (aFind A d nm) (t, L, H)) : zEnds 80 127 0 [(27, 27), (0, d), (0, nm), (9, 0), (9, 0)] [] (t, L, H) Qr Qt := by
  unfold aFind at hQ
  refine v_127 (t_faultOf h hE hd ⟨fun z => ?_, fun z => ?_⟩)
  · have z : ¬ aFault A d 2 < 0 := by omega
    rw [if_neg z] at hQ
    have hk := (aFault_0 z).1
    refine t_entryOf h hE hS hd hk ⟨fun y => ?_, fun y => ?_⟩
    · rw [if_neg y] at hQ
      exact t_inodeAt h hE hS hd hk (aEnt_rg y).1 hQ
    · rw [if_pos (Classical.not_not.mp y)] at hQ
      exact hQ
  · rw [if_pos (by omega)] at hQ
    exact hQ
/-- a byte of a block put -/
theorem aE_put {W' : Int → Int} (hE : aE B A β) (hS : aS B A) (hd : 0 ≤ d ∧ d < 64) {b : Int} (hb : 0 ≤ b ∧ 64 * b < A.1 (20 * d + 1)) {x v : Int} (hx : 0 ≤ x ∧ x < 64) (hW : W' = bU A.2.2 (64 * aBlk A.1 d b + x) v) : aE B (A.1, A.2.1, W') (bU β (64 * aBlk A.1 d b + x) v) := by
  have g := hS.blk hd hb
  obtain ⟨N, O, W⟩ := A
  dsimp only at g hW ⊢
  subst hW
  refine aE_data hE hS.1 g.1.1 (fun j hj => bU_ne (by omega)) (fun j hj => bU_ne (by omega)) (fun ho k k1 k2 => ?_)
  by_cases c : k = x
  · rw [c, bU_at, bU_at]
  · rw [bU_ne (by omega), bU_ne (by omega)]
    exact hE.2.2 _ k g.1.1 g.1.2 ho k1 k2
theorem aS_W {W' : Int → Int} (h : aS B A) : aS B (A.1, A.2.1, W') := h
theorem t_setEntry (h : fS F B n X β L H) (hE : aE B A β) (hS : aS B A) (hd : 0 ≤ d ∧ d < 64) (hk : A.1 (20 * d) = 2) (he : 0 ≤ e ∧ e < A.1 (20 * d + 1) / 4) (hnm : 0 ≤ nm ∧ nm ≤ 65535) (hn : n < 24) (hQ : ∀ β' H', fS F B (n + 1) (aBlk A.1 d (e / 16) :: X) β' L H' → aE B (aEnter A d e nm ino) β' → Qr 0 (t, L, H')) : zEnds 80 124 0 [(27, 27), (0, d), (0, e), (0, nm), (0, ino), (9, 0)] [] (t, L, H) Qr Qt := by
  have hA := hS.1 d hd.1 hd.2
  have h64 := (hS.2.1 d hd.1 hd.2).2 hk
  have hsz := hA.2.1
  have hI := hE.1 d hd.1 hd.2
  have hb : 0 ≤ e / 16 ∧ 64 * (e / 16) < A.1 (20 * d + 1) := by omega
  have gb := hS.blk hd hb
  have hl := h.1.1
  refine v_124 ?_
  rw [zdiv_pos he.1 (by omega) (by decide), zrem_pos he.1, z32_id (x := 4 * (e % 16)) (by omega) (by omega), z32_id (x := 4 * (e % 16) + 2) (by omega) (by omega)]
  refine ⟨by decide, n_blockOf h hI hA hd (by omega) ⟨by decide, i_setPair (h.more hn) (by omega) (by omega) (by omega) List.mem_cons_self (fun H1 g1 => ⟨by decide, i_setByte g1 (by omega) (by omega) List.mem_cons_self (fun H2 g2 => hQ _ H2 g2 ?_)⟩)⟩⟩
  have ix : ∀ x, 0 ≤ x → x < 4 → aIx A.1 d (4 * e + x) = 64 * aBlk A.1 d (e / 16) + (4 * (e % 16) + x) := fun x x1 x2 => by
    unfold aIx
    rw [show (4 * e + x) / 64 = e / 16 by omega, show (4 * e + x) % 64 = 4 * (e % 16) + x by omega]
  have ix0 := ix 0 (by omega) (by omega)
  rw [Int.add_zero, Int.add_zero] at ix0
  have e1 := aE_put (W' := bU A.2.2 (aIx A.1 d (4 * e)) (nm % 256)) hE hS hd hb (x := 4 * (e % 16)) (v := nm % 256) (by omega) (by rw [ix0])
  have e2 := aE_put (A := (A.1, A.2.1, bU A.2.2 (aIx A.1 d (4 * e)) (nm % 256))) (W' := bU (bU A.2.2 (aIx A.1 d (4 * e)) (nm % 256)) (aIx A.1 d (4 * e + 1)) (nm / 256 % 256)) e1 (aS_W hS) hd hb (x := 4 * (e % 16) + 1) (v := nm / 256 % 256) (by omega) (by rw [ix 1 (by omega) (by omega)])
  have e3 := aE_put (A := (A.1, A.2.1, bU (bU A.2.2 (aIx A.1 d (4 * e)) (nm % 256)) (aIx A.1 d (4 * e + 1)) (nm / 256 % 256))) (W' := bU (bU (bU A.2.2 (aIx A.1 d (4 * e)) (nm % 256)) (aIx A.1 d (4 * e + 1)) (nm / 256 % 256)) (aIx A.1 d (4 * e + 2)) (ino % 256)) e2 (aS_W hS) hd hb (x := 4 * (e % 16) + 2) (v := ino % 256) (by omega) (by rw [ix 2 (by omega) (by omega)])
  rw [Int.add_assoc (64 * aBlk A.1 d (e / 16)) (4 * (e % 16)) 1]
  exact e3
end TREE
