/-! All calls. -/
/-- make, write, cut, move, remove -/
def r5 (X : zHp) (t : Nat) (L : Int → Int) (H : zHp) : Prop :=
  (∀ a b c : Int, z32 a = a → z32 b = b → (c = 0 ∨ c = 1) → cOK rP 267 147 [(20, 0), (0, a), (0, b), (0, c), (9, 0), (9, 0)] 252 [(29, 35), (0, a), (0, b), (0, c)] X t L H) ∧
  (∀ a b : Int, z32 a = a → z32 b = b → cOK rP 269 149 [(20, 0), (0, a), (0, b), (9, 0), (9, 0)] 254 [(29, 35), (0, a), (0, b), (9, 0)] X t L H) ∧
  (∀ a b : Int, z32 a = a → z32 b = b → cOK rP 270 150 [(20, 0), (0, a), (0, b), (9, 0)] 255 [(29, 35), (0, a), (0, b)] X t L H) ∧
  (∀ a b c d : Int, z32 a = a → z32 b = b → z32 c = c → z32 d = d → cOK rP 272 152 [(20, 0), (0, a), (0, b), (0, c), (0, d), (9, 0)] 257 [(29, 35), (0, a), (0, b), (0, c), (0, d), (9, 0)] X t L H) ∧
  (∀ a b : Int, z32 a = a → z32 b = b → cOK rP 273 153 [(20, 0), (0, a), (0, b), (9, 0)] 258 [(29, 35), (0, a), (0, b)] X t L H)
theorem r_calls {X : zHp} {t : Nat} {L : Int → Int} {H : zHp} (ht : 118 ≤ t) (hX : lR X H) (h : rP (t, L, H)) (h5 : r5 X t L H) : zCalls rP X t L H := by
  obtain ⟨⟨d, w, r, hr⟩, hz⟩ := h
  obtain ⟨o1, o2, o3, o4, o5⟩ := h5
  exact ⟨fun a b ha hb => q_feed ht hX hz hr a b ha hb, o1, fun a b ha hb => q_find ht hX hz hr a b ha hb, o2, o3, fun a b ha hb => q_read ht hX hz hr a b ha hb, o4, o5, q_sync ht hX hz hr, fun a ha => q_lose ht hX hz hr a ha, q_off ht hX hz hr, q_open ht hX hz hr, fun a ha => q_fail ht hX hz hr a ha, fun a ha => q_replace ht hX hz hr a ha, fun a b c e f ha hb hc he hf => q_spoil ht hX hz hr a b c e f ha hb hc he hf, q_rebuild ht hX hz hr, q_copyBack ht hX hz hr, q_scrub ht hX hz hr, fun a b ha hb => q_node ht hX hz hr a b ha hb, fun a b ha hb => q_place ht hX hz hr a b ha hb, fun a ha => q_look ht hX hz hr a ha⟩
/-- every script runs, once the five are there -/
theorem r_runs {L : Nat} {xs : Nat → Int32} (hL : L ≤ 3587) (h5 : ∀ t L' H, rP (t, L', H) → lR (zH0 L xs) H → 118 ≤ t → r5 (zH0 L xs) t L' H) : zRuns L xs := by
  refine z_runs2 (N := 512) (I := fun _ => rP) hL (by omega) (by decide) (fun d w r L1 L2 H1 H2 k1 k2 kp zr => ⟨⟨d, w, r, ?_⟩, zr⟩) (fun n t L' H _ hI hX ht => r_calls ht hX hI (h5 t L' H hI hX ht)) (fun n S _ h => h)
  obtain ⟨C, p1, p2, p3⟩ := kp
  refine r_new (C := C) (k1.F k2) k2.F.len ⟨?_, fun i i0 i1 => ?_⟩ ⟨p1, p2, fun s i s0 s1 i0 i1 => ?_⟩
  · show zlen L2 54 1 (-8) = 16
    rw [zlen_ne (by decide), k2.2.2.2.2.2.2 (-8) (Or.inl (by decide)), k1.2.2.2.2.2 (-8) (Or.inl (by decide))]
    rfl
  · show H2 (-8) i = zfa i.toNat
    rw [k2.2.2.2.2.2.1 (-8) i (by decide), k1.2.2.2.2.1 (-8) i (by decide)]
    unfold zH0
    rw [if_pos ⟨rfl, i0, i1⟩]
  · show H2 8 _ = _
    rw [k2.2.2.2.2.2.1 8 _ (by decide)]
    exact p3 s i s0 s1 i0 i1
