/-! One call on a new object: the tree's calls. -/
theorem n_fault2 {i : Int} (hi : 0 ≤ i) : aFault nA0 i 2 = if i = 0 then 0 else -1 := by
  unfold aFault
  show (if nN0 (20 * i) = 0 then (-1 : Int) else if nN0 (20 * i) = 2 then 0 else -5) = _
  rw [(nN0_k hi).1]
  by_cases c : i = 0
  · rw [if_pos c, if_pos c]; rfl
  · rw [if_neg c, if_neg c]; rfl
theorem n_fault1 {i : Int} (hi : 0 ≤ i) : aFault nA0 i 1 = if i = 0 then -5 else -1 := by
  unfold aFault
  show (if nN0 (20 * i) = 0 then (-1 : Int) else if nN0 (20 * i) = 1 then 0 else -5) = _
  rw [(nN0_k hi).1]
  by_cases c : i = 0
  · rw [if_pos c, if_pos c]; rfl
  · rw [if_neg c, if_neg c]; rfl
theorem n_ent {i nm : Int} (hi : 0 ≤ i) : aEnt nA0 i nm = -1 := by
  unfold aEnt
  show gFirst _ 0 (nN0 (20 * i + 1) / 4).toNat = -1
  rw [(nN0_k hi).2 1 (by decide)]
  rfl
theorem n_find {i nm : Int} (hi : 0 ≤ i) : aFind nA0 i nm = -1 := by
  unfold aFind
  rw [n_fault2 hi, n_ent hi]
  by_cases c : i = 0
  · rw [if_pos c]; rfl
  · rw [if_neg c]; rfl
theorem nA0_kind {i : Int} (hi : 0 ≤ i) : nA0.1 (20 * i) = 0 ∨ nA0.1 (20 * i) = 1 ∨ nA0.1 (20 * i) = 2 := by
  show nN0 (20 * i) = 0 ∨ nN0 (20 * i) = 1 ∨ nN0 (20 * i) = 2
  rw [(nN0_k hi).1]
  by_cases c : i = 0
  · rw [if_pos c]; omega
  · rw [if_neg c]; omega
section OPS
variable {d w r : Int} {t : Nat} {L : Int → Int} {H X : zHp} {Qr Qt : Int → zS → Prop}
theorem fC.tr {H1 H2 : zHp} (h : fC H H1) (e : ∀ q i, (35 ≤ q ∨ q < 0) → H2 q i = H1 q i) : fC H H2 := fun q i hq => by rw [e q i hq]; exact h q i hq
theorem fM.tr {H1 H2 : zHp} (h : fM H H1) (e : ∀ q i, (q < 35 ∨ 54 ≤ q) → H2 q i = H1 q i) : fM H H2 := fun q i hq => by rw [e q i hq]; exact h q i hq
theorem mF.fM {A : aSt} {G H' : zHp} (h : mA d w r G A L H') (f : fM H G) : fM H H' := fun q i hq => by rw [h.2.2.2.2 q i (by omega) (by omega) (by omega)]; exact f q i hq
theorem kF.S0 {G : zHp} (h : kF d w r t L H) (e : ∀ q i, q ≠ 0 → G q i = H q i) : fS G (r * gGr d w * (w - 1)) 0 [] (zB8 H 19) L G := by
  obtain ⟨⟨g, -⟩, ⟨-, b2, b3, -⟩, -⟩ := h
  refine ⟨gLen.i g.1.1 g.1.2.1, iT.rest (by rw [e 18 1 (by decide)]; exact g.1.2.2.1.2.2.2.2) (by rw [e 18 8 (by decide)]; exact b2) (fun b b0 b1 => by rw [e 23 b (by decide)]; exact b3 b b0 b1) (fun b => ⟨by rw [e 22 b (by decide)]; exact g.1.2.2.2 22 b (by omega), by rw [e 23 b (by decide)]; exact g.1.2.2.2 23 b (by omega)⟩), fun j _ => ?_⟩
  unfold zB8
  rw [e 19 _ (by decide)]
/-- an operation that fails -/
theorem p_fails {F G : zHp} {B n a : Int} {Y : List Int} {β : Int → Int} {R : zS → Prop} (ha : a < 0) (hs : fS F B n Y β L G) (f : fC H G) : zEnds 80 175 0 [(20, 0), (0, a)] [] (t, L, G) (fun v4 S4 => (v4 = 0 → zEnds 80 177 0 [(20, 0), (0, a)] [] S4 (fun v5 S5 => v5 = a ∧ ∃ H1, S5 = (t, L, H1) ∧ fC H H1) (fun _ _ => False)) ∧ (¬ (v4 = 0) → R S4)) (fun _ _ => False) := v_175 ⟨fun _ => ⟨Or.inl rfl, fun _ => v_177 ⟨fun u => by omega, fun _ => i_undo hs (fun H' _ _ _ _ fr => ⟨rfl, H', rfl, f.tr (fun q i hq => fr q i (by omega) (by omega) (by omega))⟩)⟩, fun u => absurd rfl u⟩, fun u => by omega⟩
/-- the reference: an operation that fails -/
theorem p_does {o a b c e ans : Int} {H0 : zHp} (hm : mF d w r L H) (f : fM H0 H) (hz : H 35 0 = 0) (ha : ans < 0)
    (hT : ∀ G' H', mA d w r G' nA0 L H' → ∀ Qr Qt, Qr ans (t, L, H') → zEnds 118 248 0 [(29, 35), (0, o), (0, a), (0, b), (0, c), (0, e)] [] (t, L, H') Qr Qt) : zEnds 118 249 0 [(29, 35), (0, o), (0, a), (0, b), (0, c), (0, e), (9, 0)] [] (t, L, H) (fun b S2 => b = ans ∧ ∃ H2, S2 = (t, L, H2) ∧ H2 35 0 = 0 ∧ fM H0 H2) (fun _ _ => False) := by
  refine j_249 (m_keepsAside hm.A (fun G' H' g1 g48 g49 g50 hA => hT G' H' hA _ _ ⟨fun u => by omega, fun _ => m_bringsBack hA g48 g49 g50 (fun H2 hA2 => ⟨rfl, H2, rfl, ?_, ?_⟩)⟩))
  · rw [hA2.2.2.2.2 35 0 (by decide) (by decide) (by decide), g1 35 0 (by decide) (by decide) (by decide)]; exact hz
  · exact mF.fM hA2 (f.tr (fun q i hq => g1 q i (by omega) (by omega) (by omega)))
-- find
theorem p_find (ht : 118 ≤ t) (hX : lR X H) (h : kF d w r t L H) (hm : mF d w r L H) (x y : Int) : cOK pT 268 148 [(20, 0), (0, x), (0, y)] 253 [(29, 35), (0, x), (0, y), (9, 0)] X t L H := by
  have on : H 0 11 = 1 := h.2.2.2.1
  have bad : ∀ (t' : Nat) (H' : zHp), zEnds 118 253 20 [(29, 35), (0, x), (0, y), (9, 0)] [(0, 1), (29, 35)] (t', L, H') (fun _ S2 => ∃ H2, S2 = (t', L, H2) ∧ H2 35 0 = 1 ∧ fM H' H2) (fun _ _ => False) := fun t' H' => j_253_20 (m_f1 ⟨fun _ => j_253_47 ⟨_, rfl, zupd_at, fM.rfl'.upd (by decide)⟩, fun u => absurd (by decide) u⟩)
  by_cases cx : 0 ≤ x ∧ x ≤ 63
  · by_cases cy : 1 ≤ y ∧ y ≤ 65535
    · refine cOK_ret (v := -1) ht hX hm (v_148 (k_inode ht (fun _ => k_name ht (fun _ => k_on on (t_inodeOf h.S h.2.1.1 (nA0_S _) (by omega) ⟨n_find cx.1, H, rfl, fC.rfl'⟩)) (fun u => absurd cy u)) (fun u => absurd cx u))) (fun t' H' ht' hm' => ?_)
      refine j_253 (m_isBad (fun _ => ⟨fun u => absurd rfl u, fun _ => m_isBadName (fun _ => ⟨fun _ => j_253_20 (m_f0 ⟨fun u => absurd rfl u, fun _ => ⟨fun _ => j_253_40 (m_f0 ⟨fun _ => ?_, fun u => absurd rfl u⟩), fun u => absurd (by show zupd H' 35 0 0 35 12 ≠ 0; rw [hm'.up.2.1.1]; decide) u⟩⟩), fun u => absurd rfl u⟩) (fun u => absurd cy u)⟩) (fun u => absurd cx u))
      have hA : mA d w r (zupd (zupd H' 35 0 0) 35 0 0) nA0 L (zupd (zupd H' 35 0 0) 35 0 0) := hm'.up.up.A
      refine m_badDirectory hA (by omega) (nA0_kind cx.1) ⟨fun u => ?_, fun u => m_badDirectory hA (by omega) (nA0_kind cx.1) ⟨?_, _, rfl, zupd_at, (fM.rfl'.upd (by decide)).upd (by decide)⟩⟩
      · rw [n_fault2 cx.1] at u
        have c0 : x = 0 := by
          by_cases c : x = 0
          · exact c
          · rw [if_neg c] at u; omega
        refine m_entryOf hA (nA0_S (r * gGr d w * (w - 1))) (nA0_by _) (gBl_le h.1.1.1.1) (by omega) (by rw [c0]; rfl) ⟨fun u => ?_, fun _ => ⟨rfl, _, rfl, zupd_at, (fM.rfl'.upd (by decide)).upd (by decide)⟩⟩
        rw [n_ent cx.1] at u
        omega
      · rw [n_fault2 cx.1] at u ⊢
        by_cases c : x = 0
        · rw [if_pos c] at u; omega
        · rw [if_neg c]
    · refine cOK_thr (c := 1) (k := 1) ht hX hm (v_148 (k_inode ht (fun _ => k_name ht (fun u => absurd u cy) (fun _ => ⟨rfl, H, rfl, fC.rfl'⟩)) (fun u => absurd cx u))) rfl (by decide) (fun t' H' ht' hm' => ?_)
      exact j_253 (m_isBad (fun _ => ⟨fun u => absurd rfl u, fun _ => m_isBadName (fun u => absurd u cy) (fun _ => ⟨fun u => absurd u (by decide), fun _ => j_253_15 (bad t' H')⟩)⟩) (fun u => absurd cx u))
  · refine cOK_thr (c := 1) (k := 1) ht hX hm (v_148 (k_inode ht (fun u => absurd u cx) (fun _ => ⟨rfl, H, rfl, fC.rfl'⟩))) rfl (by decide) (fun t' H' ht' hm' => ?_)
    exact j_253 (m_isBad (fun u => absurd u cx) (fun _ => ⟨fun _ => j_253_15 (bad t' H'), fun u => absurd (by decide) u⟩))
-- read
theorem p_read (ht : 118 ≤ t) (hX : lR X H) (h : kF d w r t L H) (hm : mF d w r L H) (x y : Int) (hy : z32 y = y) : cOK pT 271 151 [(20, 0), (0, x), (0, y), (9, 0), (9, 0), (9, 0), (9, 0), (9, 0)] 256 [(29, 35), (0, x), (0, y), (9, 0), (9, 0), (9, 0)] X t L H := by
  have on : H 0 11 = 1 := h.2.2.2.1
  by_cases cx : 0 ≤ x ∧ x ≤ 63
  · have s0 : nA0.1 (20 * x + 1) = 0 := (nN0_k cx.1).2 1 (by decide)
    refine cOK_thr (c := 3) (k := 3) ht hX hm (v_151 (k_inode ht (fun _ => k_on on (n_size h.S (h.2.1.1.1 x cx.1 (by omega)) (by omega) (by rw [s0]; decide) ?_)) (fun u => absurd cx u))) rfl (by decide) (fun t' H' ht' hm' => ?_)
    · rw [s0]
      exact ⟨fun _ => ⟨ht, by decide, rfl, H, rfl, fC.rfl'⟩, fun u => ⟨fun u2 => absurd u2 u, fun _ => ⟨ht, by decide, rfl, H, rfl, fC.rfl'⟩⟩⟩
    · have hA : mA d w r (zupd (zupd H' 35 0 0) 35 0 0) nA0 L (zupd (zupd H' 35 0 0) 35 0 0) := hm'.up.up.A
      have q : zEnds 118 256 61 [(29, 35), (0, x), (0, y), (9, 0), (9, 0), (9, 0)] [(0, 1), (29, 35)] (t', L, zupd (zupd H' 35 0 0) 35 0 0) (fun _ S2 => ∃ H2, S2 = (t', L, H2) ∧ H2 35 0 = 3 ∧ fM H' H2) (fun _ _ => False) := j_256_61 (m_f1 ⟨fun u => absurd u (by decide), fun _ => j_256_68 ⟨_, rfl, zupd_at, ((fM.rfl'.upd (by decide)).upd (by decide)).upd (by decide)⟩⟩)
      refine j_256 (m_isBad (fun _ => m_f0 ⟨fun u => absurd rfl u, fun _ => ⟨fun _ => j_256_25 (m_f0 ⟨fun u => absurd rfl u, fun _ => m_kind hA (by omega) ⟨fun _ => j_256_56 q, fun _ => m_sizeOf hA (by omega) ?_⟩⟩), fun u => absurd (by show zupd H' 35 0 0 35 12 ≠ 0; rw [hm'.up.2.1.1]; decide) u⟩⟩) (fun u => absurd cx u))
      rw [s0]
      exact m_in (fun u => by have : z32 (0 - 1) = -1 := rfl; omega) (fun _ => ⟨fun u => absurd rfl u, fun _ => j_256_56 q⟩)
  · refine cOK_thr (c := 1) (k := 1) ht hX hm (v_151 (k_inode ht (fun u => absurd u cx) (fun _ => ⟨rfl, H, rfl, fC.rfl'⟩))) rfl (by decide) (fun t' H' ht' hm' => ?_)
    exact j_256 (m_isBad (fun u => absurd u cx) (fun _ => m_f1 ⟨fun _ => j_256_68 ⟨_, rfl, zupd_at, fM.rfl'.upd (by decide)⟩, fun u => absurd (by decide) u⟩))
-- write
theorem p_write (ht : 118 ≤ t) (hX : lR X H) (h : kF d w r t L H) (hm : mF d w r L H) (x y : Int) : cOK pT 269 149 [(20, 0), (0, x), (0, y), (9, 0), (9, 0)] 254 [(29, 35), (0, x), (0, y), (9, 0)] X t L H := by
  have on : H 0 11 = 1 := h.2.2.2.1
  by_cases cx : 0 ≤ x ∧ x ≤ 63
  · have lo : aFault nA0 x 1 < 0 := by
      rw [n_fault1 cx.1]
      by_cases c : x = 0
      · rw [if_pos c]; decide
      · rw [if_neg c]; decide
    have hs := h.S0 (G := zupd H 0 10 0) (fun q i hq => zupd_ne hq)
    refine cOK_ret (v := aFault nA0 x 1) ht hX hm (v_149 (k_inode ht (fun _ => k_on on (v_129 (t_faultOf hs h.2.1.1 (by omega) ⟨fun u => by omega, fun _ => ?_⟩))) (fun u => absurd cx u))) (fun t' H' ht' hm' => ?_)
    · exact p_fails lo hs (fC.rfl'.upd (by decide))
    · refine j_254 (m_isBad (fun _ => m_f0 ⟨fun u => absurd rfl u, fun _ => ⟨fun _ => j_254_25 (m_f0 ⟨fun _ => ?_, fun u => absurd rfl u⟩), fun u => absurd (by show zupd H' 35 0 0 35 12 ≠ 0; rw [hm'.up.2.1.1]; decide) u⟩⟩) (fun u => absurd cx u))
      have e17 : zupd (zupd H' 35 0 0) 35 0 0 35 17 = 0 := hm'.up.up.2.1.2.2.2 17 (by decide) (by decide) (by decide) (by decide) (by decide) (by decide) (by decide) (by decide) (by decide)
      have hm1 : mF d w r L (zupd (zupd H' 35 0 0) 35 0 0) := hm'.up.up
      have hm2 : mF d w r L (zupd (zupd (zupd H' 35 0 0) 35 0 0) 35 17 0) := by
        refine hm1.of (fun q i _ _ n => ?_)
        by_cases c : q = 35 ∧ i = 17
        · rw [c.1, c.2, zupd_at, e17]
        · exact zupd_no c
      refine p_does hm2 (((fM.rfl'.upd (by decide)).upd (by decide)).upd (by decide)) (by rw [zupd_no (by decide)]; show zupd (zupd H' 35 0 0) 35 0 0 35 0 = 0; exact zupd_at) lo (fun G' H'' hA Qr Qt hq => ?_)
      refine v_248 ⟨fun u => absurd u (by decide), fun _ => ⟨fun _ => v_244 (m_badFile hA (by omega) (nA0_kind cx.1) ⟨fun u => by omega, fun _ => m_badFile hA (by omega) (nA0_kind cx.1) hq⟩), fun u => absurd rfl u⟩⟩
  · refine cOK_thr (c := 1) (k := 1) ht hX hm (v_149 (k_inode ht (fun u => absurd u cx) (fun _ => ⟨rfl, H, rfl, fC.rfl'⟩))) rfl (by decide) (fun t' H' ht' hm' => ?_)
    exact j_254 (m_isBad (fun u => absurd u cx) (fun _ => m_f1 ⟨fun _ => j_254_32 ⟨_, rfl, zupd_at, fM.rfl'.upd (by decide)⟩, fun u => absurd (by decide) u⟩))
-- cut
theorem p_cut (ht : 118 ≤ t) (hX : lR X H) (h : kF d w r t L H) (hm : mF d w r L H) (x y : Int) : cOK pT 270 150 [(20, 0), (0, x), (0, y), (9, 0)] 255 [(29, 35), (0, x), (0, y)] X t L H := by
  have on : H 0 11 = 1 := h.2.2.2.1
  by_cases cx : 0 ≤ x ∧ x ≤ 63
  · have lo : aFault nA0 x 1 < 0 := by
      rw [n_fault1 cx.1]
      by_cases c : x = 0
      · rw [if_pos c]; decide
      · rw [if_neg c]; decide
    refine cOK_ret (v := aFault nA0 x 1) ht hX hm (v_150 (k_inode ht (fun _ => k_on on (v_130 (t_faultOf h.S h.2.1.1 (by omega) ⟨fun u => by omega, fun _ => p_fails lo h.S fC.rfl'⟩))) (fun u => absurd cx u))) (fun t' H' ht' hm' => ?_)
    refine j_255 (m_isBad (fun _ => m_f0 ⟨fun u => absurd rfl u, fun _ => ⟨fun _ => j_255_25 (m_f0 ⟨fun _ => ?_, fun u => absurd rfl u⟩), fun u => absurd (by show zupd H' 35 0 0 35 12 ≠ 0; rw [hm'.up.2.1.1]; decide) u⟩⟩) (fun u => absurd cx u))
    refine p_does hm'.up.up ((fM.rfl'.upd (by decide)).upd (by decide)) zupd_at lo (fun G' H'' hA Qr Qt hq => ?_)
    exact v_248 ⟨fun u => absurd u (by decide), fun _ => ⟨fun u => absurd u (by decide), fun _ => ⟨fun _ => v_245 (m_badFile hA (by omega) (nA0_kind cx.1) ⟨fun u => by omega, fun _ => m_badFile hA (by omega) (nA0_kind cx.1) hq⟩), fun u => absurd rfl u⟩⟩⟩
  · refine cOK_thr (c := 1) (k := 1) ht hX hm (v_150 (k_inode ht (fun u => absurd u cx) (fun _ => ⟨rfl, H, rfl, fC.rfl'⟩))) rfl (by decide) (fun t' H' ht' hm' => ?_)
    exact j_255 (m_isBad (fun u => absurd u cx) (fun _ => m_f1 ⟨fun _ => j_255_32 ⟨_, rfl, zupd_at, fM.rfl'.upd (by decide)⟩, fun u => absurd (by decide) u⟩))
end OPS
