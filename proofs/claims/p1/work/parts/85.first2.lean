/-! All calls on a new object. -/
theorem p_calls {d w r : Int} {t : Nat} {L : Int → Int} {H X : zHp} (ht : 118 ≤ t) (hX : lR X H) (h : kF d w r t L H) (h8 : cT8 L H) (hm : mF d w r L H) : zCalls pT X t L H :=
  ⟨fun a b _ _ => p_feed ht hX h hm a b, fun a b c _ _ hc => p_make ht hX h hm a b c hc, fun a b _ _ => p_find ht hX h hm a b, fun a b _ _ => p_write ht hX h hm a b, fun a b _ _ => p_cut ht hX h hm a b, fun a b _ hb => p_read ht hX h hm a b hb, fun a b c e _ _ _ _ => p_move ht hX h hm a b c e, fun a b _ _ => p_remove ht hX h hm a b, p_sync ht hX h hm, fun a _ => p_lose ht hX hm a, p_off ht hX h hm, p_open ht hX h hm, fun a _ => p_fail ht hX h hm a, fun a _ => p_replace ht hX h hm a, fun a b c e m _ _ _ hn hm64 => p_spoil ht hX h h8 hm a b c e m hn hm64, p_rebuild ht hX h hm, p_copyBack ht hX h hm, p_scrub ht hX h hm, fun a b _ _ => p_node ht hX h hm a b, fun a b _ _ => p_place ht hX h hm a b, fun a _ => p_look ht hX h hm a⟩
theorem mF.len {d w r : Int} {L : Int → Int} {H : zHp} (h : mF d w r L H) : mF d w r (zlen L 54 1) H := by
  obtain ⟨⟨a, b, c, e⟩, h2⟩ := h
  refine ⟨⟨a, ?_, ?_, e⟩, h2⟩
  · rw [zlen_ne (by decide), zlen_ne (by decide), zlen_ne (by decide), zlen_ne (by decide), zlen_ne (by decide), zlen_ne (by decide), zlen_ne (by decide), zlen_ne (by decide), zlen_ne (by decide)]
    exact b
  · rw [zlen_ne (by decide), zlen_ne (by decide), zlen_ne (by decide), zlen_ne (by decide), zlen_ne (by decide), zlen_ne (by decide), zlen_ne (by decide), zlen_ne (by decide), zlen_ne (by decide)]
    exact c
/-- ahead of the first call; behind it -/
def pI : Nat → zS → Prop
  | 0, S => ∃ d w r, kF d w r S.1 S.2.1 S.2.2 ∧ mF d w r S.2.1 S.2.2 ∧ cT8 S.2.1 S.2.2
  | _ + 1, _ => True
theorem p_runs {L : Nat} {xs : Nat → Int32} (hL : L ≤ 10) : zRuns L xs := by
  refine z_runs (N := 1) (I := pI) (by omega) (by omega) (by decide) (fun d w r L1 L2 H1 H2 k1 k2 => ⟨d, w, r, k1.F k2, k2.F.len, ?_, fun i i0 i1 => ?_⟩) (fun n t L' H hn hI hX ht => ?_) (fun n S hn _ => ?_)
  · show zlen L2 54 1 (-8) = 16
    rw [zlen_ne (by decide), k2.2.2.2.2.2.2 (-8) (Or.inl (by decide)), k1.2.2.2.2.2 (-8) (Or.inl (by decide))]
    rfl
  · show H2 (-8) i = zfa i.toNat
    rw [k2.2.2.2.2.2.1 (-8) i (by decide), k1.2.2.2.2.1 (-8) i (by decide)]
    unfold zH0
    rw [if_pos ⟨rfl, i0, i1⟩]
  · have e : n = 0 := by omega
    subst e
    obtain ⟨d, w, r, a, b, c⟩ := hI
    exact p_calls ht hX a c b
  · have e : n = 0 := by omega
    subst e
    trivial
