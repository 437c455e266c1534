/-! One call on a new object: make, move, remove, node, sync. -/
theorem mF.val {d w r : Int} {L : Int → Int} {H H' : zHp} (h : mF d w r L H) (h' : mF d w r L H') (j : Int) : H' 43 j = H 43 j := by
  by_cases c : j < 1600 ∨ 3776 ≤ j
  · rw [h.2.2.2.1.2.2.2 j c, h'.2.2.2.1.2.2.2 j c]
  · have a := h.2.2.2.1.2.2.1 (j / 64) (j % 64) (by omega) (by omega) (by omega) (by omega)
    have b := h'.2.2.2.1.2.2.1 (j / 64) (j % 64) (by omega) (by omega) (by omega) (by omega)
    rw [show 64 * (j / 64) + j % 64 = j by omega] at a b
    rw [a, b]
theorem zand_63 {x : Int} (h : 0 ≤ x ∧ x ≤ 63) : zand x 63 = x := by
  have hd : (List.range 64).all (fun n => decide (zand (n : Int) 63 = (n : Int))) = true := by decide +kernel
  have := List.all_eq_true.mp hd x.toNat (List.mem_range.mpr (by omega))
  have := of_decide_eq_true this
  rw [show ((x.toNat : Nat) : Int) = x by omega] at this
  exact this
section OPS3
variable {d w r : Int} {t : Nat} {L : Int → Int} {H X : zHp} {Qr Qt : Int → zS → Prop}
theorem p_make (ht : 118 ≤ t) (hX : lR X H) (h : kF d w r t L H) (hm : mF d w r L H) (x y a : Int) (ha : a = 0 ∨ a = 1) : cOK pT 267 147 [(20, 0), (0, x), (0, y), (0, a), (9, 0), (9, 0)] 252 [(29, 35), (0, x), (0, y), (0, a)] X t L H := by
  have on : H 0 11 = 1 := h.2.2.2.1
  have bad : ∀ (t' : Nat) (H' : zHp), zEnds 118 252 20 [(29, 35), (0, x), (0, y), (0, a)] [(0, 1), (29, 35)] (t', L, H') (fun _ S2 => ∃ H2, S2 = (t', L, H2) ∧ H2 35 0 = 1 ∧ fM H' H2) (fun _ _ => False) := fun t' H' => j_252_20 (m_f1 ⟨fun _ => j_252_47 ⟨_, rfl, zupd_at, fM.rfl'.upd (by decide)⟩, fun u => absurd (by decide) u⟩)
  by_cases cx : 0 ≤ x ∧ x ≤ 63
  · by_cases cy : 1 ≤ y ∧ y ≤ 65535
    · have hC : zEnds 80 147 0 [(20, 0), (0, x), (0, y), (0, a), (9, 0), (9, 0)] [] (t, L, H) (fun v6 S6 => (0 ≤ (aMake (r * gGr d w * (w - 1)) nA0 x y (if a = 0 then 1 else 2)).1 → gCnt (mCh (r * gGr d w * (w - 1)) (aMake (r * gGr d w * (w - 1)) nA0 x y (if a = 0 then 1 else 2)).2 (H 43)) 25 (r * gGr d w * (w - 1) - 25).toNat ≤ 24) ∧ v6 = (aMake (r * gGr d w * (w - 1)) nA0 x y (if a = 0 then 1 else 2)).1 ∧ ∃ H1, S6 = (t, L, H1) ∧ fC H H1) (fun _ _ => False) := by
        refine v_147 (k_inode ht (fun _ => k_name ht (fun _ => k_on on ⟨fun z => ?_, fun z => ?_⟩) (fun u => absurd cy u)) (fun u => absurd cx u))
        · subst z
          exact p_makeC h hm cx cy (Or.inl rfl)
        · have z : a = 1 := by omega
          subst z
          exact p_makeC h hm cx cy (Or.inr rfl)
      have few := hC.pure
      refine cOK_ret (v := (aMake (r * gGr d w * (w - 1)) nA0 x y (if a = 0 then 1 else 2)).1) ht hX hm (hC.imp (fun _ _ q => q.2) (fun _ _ q => q)) (fun t' H' ht' hm' => ?_)
      have go : zEnds 118 249 0 [(29, 35), (0, 0), (0, x), (0, y), (0, a), (0, 0), (9, 0)] [] (t', L, zupd (zupd H' 35 0 0) 35 0 0) (fun b S2 => b = (aMake (r * gGr d w * (w - 1)) nA0 x y (if a = 0 then 1 else 2)).1 ∧ ∃ H2, S2 = (t', L, H2) ∧ H2 35 0 = 0 ∧ fM H' H2) (fun _ _ => False) := p_makeM cx cy ha h.1.1.1.1 few hm'.up.up (fun j => by rw [zupd_ne (by decide), zupd_ne (by decide)]; exact hm.val hm' j) ((fM.rfl'.upd (by decide)).upd (by decide)) zupd_at
      refine j_252 (m_isBad (fun _ => ⟨fun u => absurd rfl u, fun _ => m_isBadName (fun _ => ⟨fun _ => j_252_20 (m_f0 ⟨fun u => absurd rfl u, fun _ => ⟨fun _ => j_252_40 (m_f0 ⟨fun _ => ⟨fun z => j_252_62 ?_, fun z => j_252_62 ?_⟩, fun u => absurd rfl u⟩), fun u => absurd (by show zupd H' 35 0 0 35 12 ≠ 0; rw [hm'.up.2.1.1]; decide) u⟩⟩), fun u => absurd rfl u⟩) (fun u => absurd cy u)⟩) (fun u => absurd cx u))
      · subst z; exact go
      · have z : a = 1 := by omega
        subst z; exact go
    · refine cOK_thr (c := 1) (k := 1) ht hX hm (v_147 (k_inode ht (fun _ => k_name ht (fun u => absurd u cy) (fun _ => ⟨rfl, H, rfl, fC.rfl'⟩)) (fun u => absurd cx u))) rfl (by decide) (fun t' H' ht' hm' => ?_)
      exact j_252 (m_isBad (fun _ => ⟨fun u => absurd rfl u, fun _ => m_isBadName (fun u => absurd u cy) (fun _ => ⟨fun u => absurd u (by decide), fun _ => j_252_15 (bad t' H')⟩)⟩) (fun u => absurd cx u))
  · refine cOK_thr (c := 1) (k := 1) ht hX hm (v_147 (k_inode ht (fun u => absurd u cx) (fun _ => ⟨rfl, H, rfl, fC.rfl'⟩))) rfl (by decide) (fun t' H' ht' hm' => ?_)
    exact j_252 (m_isBad (fun u => absurd u cx) (fun _ => ⟨fun _ => j_252_15 (bad t' H'), fun u => absurd (by decide) u⟩))
/-- removes and moves find no entry -/
theorem p_absent {G' H' : zHp} {x y : Int} {R1 : Int → zS → Prop} (hk : gOK d w r) (hA : mA d w r G' nA0 L H') (cx : 0 ≤ x ∧ x ≤ 63) (hq : Qr (-1) (t, L, H')) : zEnds 118 240 0 [(29, 35), (0, x)] [] (t, L, H') (fun v1 S1 => ((0 : Int) ≤ v1 → zEnds 118 235 0 [(29, 35), (0, x), (0, y), (9, 0)] [] S1 (fun v2 S2 => ((0 : Int) ≤ v2 → R1 v2 S2) ∧ (¬ ((0 : Int) ≤ v2) → Qr (-1) S2)) Qt) ∧ (¬ ((0 : Int) ≤ v1) → zEnds 118 240 0 [(29, 35), (0, x)] [] S1 (fun v10 S10 => Qr v10 S10) Qt)) Qt := by
  refine m_badDirectory hA (by omega) (nA0_kind cx.1) ⟨fun u => ?_, fun u => m_badDirectory hA (by omega) (nA0_kind cx.1) ?_⟩
  · rw [n_fault2 cx.1] at u
    have c0 : x = 0 := by
      by_cases c : x = 0
      · exact c
      · rw [if_neg c] at u; omega
    refine m_entryOf hA (nA0_S (r * gGr d w * (w - 1))) (nA0_by _) (gBl_le hk) (by omega) (by rw [c0]; rfl) ⟨fun u => ?_, fun _ => hq⟩
    rw [n_ent cx.1] at u
    omega
  · rw [n_fault2 cx.1] at u ⊢
    by_cases c : x = 0
    · rw [if_pos c] at u; omega
    · rw [if_neg c]; exact hq
theorem p_remove (ht : 118 ≤ t) (hX : lR X H) (h : kF d w r t L H) (hm : mF d w r L H) (x y : Int) : cOK pT 273 153 [(20, 0), (0, x), (0, y), (9, 0)] 258 [(29, 35), (0, x), (0, y)] X t L H := by
  have on : H 0 11 = 1 := h.2.2.2.1
  have bad : ∀ (t' : Nat) (H' : zHp), zEnds 118 258 20 [(29, 35), (0, x), (0, y)] [(0, 1), (29, 35)] (t', L, H') (fun _ S2 => ∃ H2, S2 = (t', L, H2) ∧ H2 35 0 = 1 ∧ fM H' H2) (fun _ _ => False) := fun t' H' => j_258_20 (m_f1 ⟨fun _ => j_258_47 ⟨_, rfl, zupd_at, fM.rfl'.upd (by decide)⟩, fun u => absurd (by decide) u⟩)
  by_cases cx : 0 ≤ x ∧ x ≤ 63
  · by_cases cy : 1 ≤ y ∧ y ≤ 65535
    · refine cOK_ret (v := -1) ht hX hm (v_153 (k_inode ht (fun _ => k_name ht (fun _ => k_on on (v_136 (t_inodeOf h.S h.2.1.1 (nA0_S _) (by omega) ?_))) (fun u => absurd cy u)) (fun u => absurd cx u))) (fun t' H' ht' hm' => ?_)
      · rw [n_find cx.1]
        exact ⟨fun u => absurd u (by decide), fun _ => p_fails (by decide) h.S fC.rfl'⟩
      · refine j_258 (m_isBad (fun _ => ⟨fun u => absurd rfl u, fun _ => m_isBadName (fun _ => ⟨fun _ => j_258_20 (m_f0 ⟨fun u => absurd rfl u, fun _ => ⟨fun _ => j_258_40 (m_f0 ⟨fun _ => ?_, fun u => absurd rfl u⟩), fun u => absurd (by show zupd H' 35 0 0 35 12 ≠ 0; rw [hm'.up.2.1.1]; decide) u⟩⟩), fun u => absurd rfl u⟩) (fun u => absurd cy u)⟩) (fun u => absurd cx u))
        refine p_does hm'.up.up ((fM.rfl'.upd (by decide)).upd (by decide)) zupd_at (show (-1 : Int) < 0 by decide) (fun G' H'' hA Qr Qt hq => ?_)
        exact v_248 ⟨fun u => absurd u (by decide), fun _ => ⟨fun u => absurd u (by decide), fun _ => ⟨fun u => absurd u (by decide), fun _ => ⟨fun u => absurd u (by decide), fun _ => v_247 (p_absent h.1.1.1.1 hA cx hq)⟩⟩⟩⟩
    · refine cOK_thr (c := 1) (k := 1) ht hX hm (v_153 (k_inode ht (fun _ => k_name ht (fun u => absurd u cy) (fun _ => ⟨rfl, H, rfl, fC.rfl'⟩)) (fun u => absurd cx u))) rfl (by decide) (fun t' H' ht' hm' => ?_)
      exact j_258 (m_isBad (fun _ => ⟨fun u => absurd rfl u, fun _ => m_isBadName (fun u => absurd u cy) (fun _ => ⟨fun u => absurd u (by decide), fun _ => j_258_15 (bad t' H')⟩)⟩) (fun u => absurd cx u))
  · refine cOK_thr (c := 1) (k := 1) ht hX hm (v_153 (k_inode ht (fun u => absurd u cx) (fun _ => ⟨rfl, H, rfl, fC.rfl'⟩))) rfl (by decide) (fun t' H' ht' hm' => ?_)
    exact j_258 (m_isBad (fun u => absurd u cx) (fun _ => ⟨fun _ => j_258_15 (bad t' H'), fun u => absurd (by decide) u⟩))
theorem p_move (ht : 118 ≤ t) (hX : lR X H) (h : kF d w r t L H) (hm : mF d w r L H) (x y x' y' : Int) : cOK pT 272 152 [(20, 0), (0, x), (0, y), (0, x'), (0, y'), (9, 0)] 257 [(29, 35), (0, x), (0, y), (0, x'), (0, y'), (9, 0)] X t L H := by
  have on : H 0 11 = 1 := h.2.2.2.1
  have bad : ∀ (t' : Nat) (H' : zHp), zEnds 118 257 29 [(29, 35), (0, x), (0, y), (0, x'), (0, y'), (9, 0)] [] (t', L, H') (fun _ S2 => ∃ H2, S2 = (t', L, H2) ∧ H2 35 0 = 1 ∧ fM H' H2) (fun _ _ => False) := fun t' H' => j_257_29 (j_257_34 (m_f1 ⟨fun _ => j_257_66 ⟨_, rfl, zupd_at, fM.rfl'.upd (by decide)⟩, fun u => absurd (by decide) u⟩))
  have thr : cT 152 [(20, 0), (0, x), (0, y), (0, x'), (0, y'), (9, 0)] t L H 1 → (∀ (t' : Nat) (H' : zHp), zEnds 118 257 0 [(29, 35), (0, x), (0, y), (0, x'), (0, y'), (9, 0)] [] (t', L, H') (fun _ S2 => ∃ H2, S2 = (t', L, H2) ∧ H2 35 0 = 1 ∧ fM H' H2) (fun _ _ => False)) → cOK pT 272 152 [(20, 0), (0, x), (0, y), (0, x'), (0, y'), (9, 0)] 257 [(29, 35), (0, x), (0, y), (0, x'), (0, y'), (9, 0)] X t L H := fun a b => cOK_thr (c := 1) (k := 1) ht hX hm a rfl (by decide) (fun t' H' _ _ => b t' H')
  by_cases cx : 0 ≤ x ∧ x ≤ 63
  · by_cases cy : 1 ≤ y ∧ y ≤ 65535
    · by_cases cx' : 0 ≤ x' ∧ x' ≤ 63
      · by_cases cy' : 1 ≤ y' ∧ y' ≤ 65535
        · refine cOK_ret (v := -1) ht hX hm (v_152 (k_inode ht (fun _ => k_name ht (fun _ => k_inode ht (fun _ => k_name ht (fun _ => k_on on (v_131 (t_inodeOf h.S h.2.1.1 (nA0_S _) (by omega) ?_))) (fun u => absurd cy' u)) (fun u => absurd cx' u)) (fun u => absurd cy u)) (fun u => absurd cx u))) (fun t' H' ht' hm' => ?_)
          · rw [n_find cx.1]
            exact ⟨fun u => absurd u (by decide), fun _ => p_fails (by decide) h.S fC.rfl'⟩
          · refine j_257 (m_isBad (fun _ => ⟨fun u => absurd rfl u, fun _ => m_isBadName (fun _ => ⟨fun u => absurd rfl u, fun _ => m_isBad (fun _ => ⟨fun u => absurd rfl u, fun _ => m_isBadName (fun _ => ⟨fun _ => j_257_34 (m_f0 ⟨fun u => absurd rfl u, fun _ => ⟨fun _ => j_257_59 (m_f0 ⟨fun _ => ?_, fun u => absurd rfl u⟩), fun u => absurd (by show zupd H' 35 0 0 35 12 ≠ 0; rw [hm'.up.2.1.1]; decide) u⟩⟩), fun u => absurd rfl u⟩) (fun u => absurd cy' u)⟩) (fun u => absurd cx' u)⟩) (fun u => absurd cy u)⟩) (fun u => absurd cx u))
            refine p_does hm'.up.up ((fM.rfl'.upd (by decide)).upd (by decide)) zupd_at (show (-1 : Int) < 0 by decide) (fun G' H'' hA Qr Qt hq => ?_)
            exact v_248 ⟨fun u => absurd u (by decide), fun _ => ⟨fun u => absurd u (by decide), fun _ => ⟨fun u => absurd u (by decide), fun _ => ⟨fun _ => v_246 (p_absent h.1.1.1.1 hA cx hq), fun u => absurd rfl u⟩⟩⟩⟩
        · exact thr (v_152 (k_inode ht (fun _ => k_name ht (fun _ => k_inode ht (fun _ => k_name ht (fun u => absurd u cy') (fun _ => ⟨rfl, H, rfl, fC.rfl'⟩)) (fun u => absurd cx' u)) (fun u => absurd cy u)) (fun u => absurd cx u))) (fun t' H' => j_257 (m_isBad (fun _ => ⟨fun u => absurd rfl u, fun _ => m_isBadName (fun _ => ⟨fun u => absurd rfl u, fun _ => m_isBad (fun _ => ⟨fun u => absurd rfl u, fun _ => m_isBadName (fun u => absurd u cy') (fun _ => ⟨fun u => absurd u (by decide), fun _ => bad t' H'⟩)⟩) (fun u => absurd cx' u)⟩) (fun u => absurd cy u)⟩) (fun u => absurd cx u)))
      · exact thr (v_152 (k_inode ht (fun _ => k_name ht (fun _ => k_inode ht (fun u => absurd u cx') (fun _ => ⟨rfl, H, rfl, fC.rfl'⟩)) (fun u => absurd cy u)) (fun u => absurd cx u))) (fun t' H' => j_257 (m_isBad (fun _ => ⟨fun u => absurd rfl u, fun _ => m_isBadName (fun _ => ⟨fun u => absurd rfl u, fun _ => m_isBad (fun u => absurd u cx') (fun _ => ⟨fun _ => bad t' H', fun u => absurd (by decide) u⟩)⟩) (fun u => absurd cy u)⟩) (fun u => absurd cx u)))
    · exact thr (v_152 (k_inode ht (fun _ => k_name ht (fun u => absurd u cy) (fun _ => ⟨rfl, H, rfl, fC.rfl'⟩)) (fun u => absurd cx u))) (fun t' H' => j_257 (m_isBad (fun _ => ⟨fun u => absurd rfl u, fun _ => m_isBadName (fun u => absurd u cy) (fun _ => ⟨fun _ => bad t' H', fun u => absurd (by decide) u⟩)⟩) (fun u => absurd cx u)))
  · exact thr (v_152 (k_inode ht (fun u => absurd u cx) (fun _ => ⟨rfl, H, rfl, fC.rfl'⟩))) (fun t' H' => j_257 (m_isBad (fun u => absurd u cx) (fun _ => ⟨fun _ => bad t' H', fun u => absurd (by decide) u⟩)))
theorem p_node (ht : 118 ≤ t) (hX : lR X H) (h : kF d w r t L H) (hm : mF d w r L H) (x y : Int) : cOK pT 284 164 [(20, 0), (0, x), (0, y), (9, 0)] 260 [(29, 35), (0, x), (0, y)] X t L H := by
  have on : H 0 11 = 1 := h.2.2.2.1
  by_cases cx : 0 ≤ x ∧ x ≤ 63
  · have e2 : nA0.1 (20 * x + 2) = 0 := (nN0_k cx.1).2 2 (by decide)
    have hE := h.2.1.1.1 x cx.1 (by omega)
    have cls : ∀ Qr Qt, (¬ (0 ≤ y ∧ y < 3) → Qt 3 (t, L, H)) → (0 ≤ y ∧ y < 3 → Qr (nN0 (20 * x + y)) (t, L, H)) → zEnds 80 164 0 [(20, 0), (0, x), (0, y), (9, 0)] [] (t, L, H) Qr Qt := fun Qr Qt q0 q1 => by
      refine v_164 (k_inode ht (fun _ => k_on on ⟨fun u => ⟨ht, by decide, q0 (by omega)⟩, fun u => n_count h.S hE (by omega) ?_⟩) (fun u => absurd cx u))
      rw [e2, show z32 (3 + z32 (2 * 0)) = 3 from rfl]
      refine ⟨fun u3 => ⟨fun y0 => n_kind h.S hE (by omega) ?_, fun y0 => ⟨fun y1 => n_size h.S hE (by omega) (by rw [show nA0.1 (20 * x + 1) = 0 from (nN0_k cx.1).2 1 (by decide)]; decide) ?_, fun y1 => ⟨fun y2 => n_count h.S hE (by omega) ?_, fun y2 => by omega⟩⟩⟩, fun u3 => ⟨ht, by decide, q0 (by omega)⟩⟩
      · have := q1 (by omega)
        rw [y0, Int.add_zero] at this
        exact this
      · have := q1 (by omega)
        rw [y1] at this
        exact this
      · have := q1 (by omega)
        rw [y2] at this
        exact this
    have mo : ∀ (t' : Nat) (H' : zHp), mF d w r L H' → ∀ Qr Qt, (¬ (0 ≤ y ∧ y < 3) → Qr 0 (t', L, zupd (zupd (zupd H' 35 0 0) 35 0 0) 35 0 3)) → (0 ≤ y ∧ y < 3 → Qr (nN0 (20 * x + y)) (t', L, zupd (zupd (zupd H' 35 0 0) 35 0 0) 35 0 0)) → zEnds 118 260 0 [(29, 35), (0, x), (0, y)] [] (t', L, H') Qr Qt := fun t' H' hm' Qr Qt q0 q1 => by
      have l45 : L 45 = 1280 := hm'.1.2.2.1.1
      have e45 : ∀ j, 0 ≤ j → j < 1280 → zupd (zupd H' 35 0 0) 35 0 0 45 j = nN0 j := fun j j0 j1 => by rw [zupd_ne (by decide), zupd_ne (by decide)]; exact hm'.2.2.2.1.1 j j0 j1
      refine j_260 (m_isBad (fun _ => m_f0 ⟨fun u => absurd rfl u, fun _ => ⟨fun _ => j_260_25 (m_f0 ⟨fun u => absurd rfl u, fun _ => ?_⟩), fun u => absurd (by show zupd H' 35 0 0 35 12 ≠ 0; rw [hm'.up.2.1.1]; decide) u⟩⟩) (fun u => absurd cx u))
      dsimp only
      rw [zand_63 cx, z32_id (x := 20 * x) (by omega) (by omega), z32_id (x := 20 * x + 2) (by omega) (by omega), e45 (20 * x + 2) (by omega) (by omega), show nN0 (20 * x + 2) = 0 from e2]
      refine ⟨by omega, m_in (fun u => ?_) (fun u => ?_)⟩
      · have u : 0 ≤ y ∧ y ≤ 2 := u
        refine ⟨fun _ => j_260_64 (m_f0 ⟨fun _ => ?_, fun u => absurd rfl u⟩), fun u => absurd (by decide) u⟩
        rw [z32_id (x := 20 * x) (by omega) (by omega), z32_id (x := 20 * x + y) (by omega) (by omega)]
        refine ⟨by show 0 ≤ 20 * x + y ∧ 20 * x + y < L 45; omega, ?_⟩
        show Qr (zupd (zupd (zupd H' 35 0 0) 35 0 0) 35 0 0 45 (20 * x + y)) _
        rw [zupd_ne (by decide), e45 (20 * x + y) (by omega) (by omega)]
        exact q1 (by omega)
      · have u : ¬ (0 ≤ y ∧ y ≤ 2) := u
        exact ⟨fun u => absurd rfl u, fun _ => j_260_64 (m_f1 ⟨fun u => absurd u (by decide), fun _ => j_260_71 (q0 (by omega))⟩)⟩
    by_cases c : 0 ≤ y ∧ y < 3
    · exact cOK_ret (v := nN0 (20 * x + y)) ht hX hm (cls _ _ (fun u => absurd c u) (fun _ => ⟨rfl, H, rfl, fC.rfl'⟩)) (fun t' H' ht' hm' => mo t' H' hm' _ _ (fun u => absurd c u) (fun _ => ⟨rfl, _, rfl, zupd_at, ((fM.rfl'.upd (by decide)).upd (by decide)).upd (by decide)⟩))
    · exact cOK_thr (c := 3) (k := 3) ht hX hm (cls _ _ (fun _ => ⟨rfl, H, rfl, fC.rfl'⟩) (fun u => absurd u c)) rfl (by decide) (fun t' H' ht' hm' => mo t' H' hm' _ _ (fun _ => ⟨_, rfl, zupd_at, ((fM.rfl'.upd (by decide)).upd (by decide)).upd (by decide)⟩) (fun u => absurd u c))
  · refine cOK_thr (c := 1) (k := 1) ht hX hm (v_164 (k_inode ht (fun u => absurd u cx) (fun _ => ⟨rfl, H, rfl, fC.rfl'⟩))) rfl (by decide) (fun t' H' ht' hm' => ?_)
    exact j_260 (m_isBad (fun u => absurd u cx) (fun _ => m_f1 ⟨fun _ => j_260_71 ⟨_, rfl, zupd_at, fM.rfl'.upd (by decide)⟩, fun u => absurd (by decide) u⟩))
-- sync
theorem p_sync (ht : 118 ≤ t) (hX : lR X H) (h : kF d w r t L H) (hm : mF d w r L H) : cOK pT 274 154 [(20, 0), (9, 0)] 259 [(29, 35)] X t L H := by
  have on : H 0 11 = 1 := h.2.2.2.1
  have hk := h.1.1.1.1
  have hB : 96 ≤ r * gGr d w * (w - 1) ∧ r * gGr d w * (w - 1) ≤ 768 := ⟨gBl_ge hk, gBl_le hk⟩
  have n1 : H 18 1 = r * gGr d w * (w - 1) := h.1.1.1.2.2.1.2.2.2.2
  have l30 : L 30 = 24 := h.1.1.1.2.1.2.2.2.2.2.2.2.2.2.2.1
  have nc : ∀ b, 25 ≤ b → b < r * gGr d w * (w - 1) → ¬ iCh (zB8 H 19) H b := fun b b0 b1 u => u.1 (h.2.1.2.2.2.1 b b0 b1)
  have hs := h.S
  have list : ∀ (n : Nat) (b : Int), 25 ≤ b → b + n = r * gGr d w * (w - 1) → ∀ Qr Qt, Qr 0 (t, L, H) → zEnds 80 93 6 [(25, 18), (10, 30), (11, 31), (0, 0), (0, b)] [] (t, L, H) Qr Qt := by
    intro n
    induction n with
    | zero =>
      intro b b0 b1 Qr Qt hq
      exact v_93_6 ⟨fun _ => hq, fun u => absurd (by show H 18 1 ≤ b; omega) u⟩
    | succ n ih =>
      intro b b0 b1 Qr Qt hq
      refine v_93_6 ⟨fun u => absurd u (by show ¬ H 18 1 ≤ b; omega), fun _ => ⟨fun u => absurd u (by show ¬ L 30 ≤ 0; omega), fun _ => i_isChanged hs (by omega) (fun u => absurd u (nc b b0 (by omega))) (fun _ => ⟨fun _ => ?_, fun u => absurd rfl u⟩)⟩⟩
      rw [z32_id (x := b + 1) (by omega) (by omega)]
      exact ih (b + 1) (by omega) (by omega) Qr Qt hq
  refine cOK_ret (v := 0) ht hX hm (v_154 (k_on on (v_139 (v_93 (list _ 25 (by omega) (show 25 + ((r * gGr d w * (w - 1) - 25).toNat : Int) = _ by omega) _ _ ⟨fun _ => k_settle hs (fun H1 _ _ _ _ m5 => v_174 ⟨fun _ => ⟨rfl, _, rfl, ?_⟩, fun u => absurd (by decide) u⟩), fun u => absurd (by decide) u⟩))))) (fun t' H' ht' hm' => ?_)
  · exact (fC.rfl'.tr (fun q i hq => m5 q i (by omega) (by omega))).upd (by decide)
  · have hA : mA d w r (zupd H' 35 0 0) nA0 L (zupd H' 35 0 0) := hm'.up.A
    have mc : ∀ b, 25 ≤ b → b < r * gGr d w * (w - 1) → ¬ mCh (r * gGr d w * (w - 1)) nA0 (zupd H' 35 0 0 43) b := fun b b0 b1 u => by
      obtain ⟨k, k0, k1, k2⟩ := u
      refine k2 ?_
      by_cases c : b < 59
      · have e := hm'.up (k := 0) |>.2.2.2.1.2.2.1 b k b0 c k0 k1
        rw [e]
        exact mBy_V b0 (by show nO0 b ≠ 0; rw [nO0_at, if_pos (by omega)]; decide)
      · unfold mBy
        rw [if_pos (Or.inr (by show nO0 b = 0; rw [nO0_at, if_neg (by omega)]))]
    have ml : ∀ (n : Nat) (b : Int), 25 ≤ b → b + n = r * gGr d w * (w - 1) → ∀ Qr Qt, zEnds 118 204 75 [(29, 35), (0, 0), (0, 1), (0, 0)] [] (t', L, zupd H' 35 0 0) Qr Qt → zEnds 118 204 5 [(29, 35), (0, 0), (0, b), (9, 0)] [] (t', L, zupd H' 35 0 0) Qr Qt := by
      intro n
      induction n with
      | zero =>
        intro b b0 b1 Qr Qt hq
        exact j_204_5 (m_blocks hA.1 ⟨fun _ => hq, fun u => absurd (by omega) u⟩)
      | succ n ih =>
        intro b b0 b1 Qr Qt hq
        refine j_204_5 (m_blocks hA.1 ⟨fun u => by omega, fun _ => m_isChanged hA nN0_N (by omega) (fun u => absurd u (mc b b0 (by omega))) (fun _ => ⟨fun u => absurd rfl u, fun _ => j_204_65 ?_⟩)⟩)
        rw [z32_id (x := b + 1) (by omega) (by omega)]
        exact ih (b + 1) (by omega) (by omega) Qr Qt hq
    refine j_259 ⟨fun _ => j_259_13 (m_f0 ⟨fun _ => j_204 (ml _ 25 (by omega) (show 25 + ((r * gGr d w * (w - 1) - 25).toNat : Int) = _ by omega) _ _ (j_204_75 ⟨fun _ => j_204_106 ⟨fun _ => j_204_132 (j_204_134 ⟨fun _ => j_204_168 ⟨fun _ => j_204_196 ⟨fun _ => ⟨rfl, _, rfl, ?_, (fM.rfl'.upd (by decide)).upd (by decide)⟩, fun u => absurd (by decide) u⟩, fun u => absurd (by decide) u⟩, fun u => absurd (by decide) u⟩), fun u => absurd (by decide) u⟩, fun u => absurd (by decide) u⟩)), fun u => absurd rfl u⟩), fun u => absurd (by show H' 35 12 ≠ 0; rw [hm'.2.1.1]; decide) u⟩
    rw [zupd_no (by decide)]
    show zupd H' 35 0 0 35 0 = 0
    exact zupd_at
end OPS3
