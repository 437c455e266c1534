/-! find, node, read. -/
section ASKS
variable {d w r : Int} {t : Nat} {L : Int → Int} {H M X : zHp} {Qr Qt : Int → zS → Prop} {C : Int → Int → Int}
/-- the tree's numbers in the reference -/
def mTr (M : zHp) : aSt := (M 45, M 46, M 47)
theorem rCm.s (h : rCm d w r t L H M) : fS H (r * gGr d w * (w - 1)) 0 [] (zB8 H 19) L H := by
  obtain ⟨⟨g, -, -⟩, -, -, b2, b3⟩ := h
  exact ⟨gLen.i g.1.1 g.1.2.1, iT.rest g.1.2.2.1.2.2.2.2 b2 b3 (fun b => ⟨g.1.2.2.2 22 b (by omega), g.1.2.2.2 23 b (by omega)⟩), fun _ _ => rfl⟩
theorem mS.a (h : mS d w r L M) : mA d w r M (mTr M) L M := ⟨h, fun _ _ _ => rfl, fun _ _ _ => rfl, fun _ _ _ => rfl, fun _ _ _ _ _ => rfl⟩
theorem rOn.e (h : rOn d w r C H M) : aE (r * gGr d w * (w - 1)) (mTr M) (zB8 H 19) := h.2.2.1.1.1
theorem rOn.g (h : rOn d w r C H M) : aGood (r * gGr d w * (w - 1)) (mTr M) := h.2.2.1.1.2
theorem mTr_up {k : Int} : mTr (zupd M 35 0 k) = mTr M := by
  unfold mTr
  rw [show zupd M 35 0 k 45 = M 45 from funext (fun i => zupd_ne (by decide)), show zupd M 35 0 k 46 = M 46 from funext (fun i => zupd_ne (by decide)), show zupd M 35 0 k 47 = M 47 from funext (fun i => zupd_ne (by decide))]
theorem k_on2 (ht : 118 ≤ t) (h1 : H 0 11 ≠ 0 → Qr 0 (t, L, H)) (h0 : H 0 11 = 0 → Qt 2 (t, L, H)) : zEnds 80 172 0 [(20, 0)] [] (t, L, H) Qr Qt := v_172 ⟨h1, fun u => ⟨ht, by decide, h0 (Classical.not_not.mp u)⟩⟩
theorem aEnt_live {A : aSt} {i nm : Int} (hi : 0 ≤ i ∧ i < 64) (hk : A.1 (20 * i) = 2) (hn : nm ≠ 0) (h : aEnt A i nm ≠ -1) : aNd A i (aEnt A i nm) := by
  have q := aEnt_rg h
  exact ⟨hi, hk, q.1, by rw [q.2]; exact hn⟩
theorem q_find (ht : 118 ≤ t) (hX : lR X H) (hz : zhR (t, L, H)) (h : rAll d w r t L H H) (x y : Int) (hx : z32 x = x) (hy : z32 y = y) : cOK rP 268 148 [(20, 0), (0, x), (0, y)] 253 [(29, 35), (0, x), (0, y), (9, 0)] X t L H := by
  have hk := h.1.1.1.1.1
  have bl := gBl_le hk
  refine cOK_rel (Q := fun M v H1 => ((0 ≤ x ∧ x ≤ 63) ∧ (1 ≤ y ∧ y ≤ 65535) ∧ H 0 11 = 1) ∧ H1 = H ∧ v = aFind (mTr M) x y) (TT := fun c => (c = 1 ∧ ¬ ((0 ≤ x ∧ x ≤ 63) ∧ (1 ≤ y ∧ y ≤ 65535))) ∨ (c = 2 ∧ ((0 ≤ x ∧ x ≤ 63) ∧ (1 ≤ y ∧ y ≤ 65535)) ∧ H 0 11 = 0)) ht hX hz h (za_c (za_i hx (za_i hy za_0))) (za_m (za_i hx (za_i hy (za_9 za_0)))) rfl (fun M hM => ?_) (fun v H1 M hM q => ?_) (fun c q => ?_)
  · refine v_148 (k_inode ht (fun cx => k_name ht (fun cy => k_on2 ht (fun u => ?_) (fun u => ⟨rfl, Or.inr ⟨rfl, ⟨cx, cy⟩, u⟩⟩)) (fun cy => ⟨rfl, Or.inl ⟨rfl, fun z => cy z.2⟩⟩)) (fun cx => ⟨rfl, Or.inl ⟨rfl, fun z => cx z.1⟩⟩))
    have on : H 0 11 = 1 := by rcases hM.on with z | z <;> omega
    obtain ⟨C, hn⟩ := hM.ison on
    exact t_inodeOf hM.1.s hn.e hn.g.1.s (by omega) ⟨H, rfl, fC.rfl', ⟨cx, cy, on⟩, rfl, rfl⟩
  · obtain ⟨⟨cx, cy, on⟩, e, ev⟩ := q
    have hM1 : rAll d w r t L H (zupd M 35 0 0) := hM.up
    have onM : zupd M 35 0 0 35 12 = 1 := by rcases hM1.on with z | z <;> omega
    obtain ⟨C, hn⟩ := hM1.ison on
    have hA : mA d w r (zupd M 35 0 0) (mTr (zupd M 35 0 0)) L (zupd M 35 0 0) := hM1.1.1.2.1.a
    have hg := hn.g
    have fin : rAll d w r t L H1 (zupd M 35 0 0) := by rw [e]; exact hM1
    rw [← mTr_up (k := 0)] at ev
    refine j_253 (m_isBad (fun _ => ⟨fun u => absurd rfl u, fun _ => m_isBadName (fun _ => ⟨fun _ => j_253_20 (m_f0 ⟨fun u => absurd rfl u, fun _ => ⟨fun _ => j_253_40 (m_f0 ⟨fun _ => ?_, fun u => absurd rfl u⟩), fun u => absurd (by show zupd M 35 0 0 35 12 ≠ 0; omega) u⟩⟩), fun u => absurd rfl u⟩) (fun u => absurd cy u)⟩) (fun u => absurd cx u))
    rw [zupd_zupd]
    have kd := hg.1.1.1 x cx.1 (by omega)
    have ev' := ev
    unfold aFind at ev'
    refine m_badDirectory hA (by omega) kd.1 ⟨fun u => ?_, fun u => m_badDirectory hA (by omega) kd.1 ⟨?_, _, rfl, fM.rfl'.upd (by decide), zupd_at, fin⟩⟩
    · have nf : ¬ aFault (mTr (zupd M 35 0 0)) x 2 < 0 := by omega
      have k2 := (aFault_0 nf).1
      rw [if_neg nf] at ev'
      refine m_entryOf hA hg.1.s hg.2.1 bl (by omega) k2 ⟨fun u2 => ?_, fun u2 => ⟨?_, _, rfl, fM.rfl'.upd (by decide), zupd_at, fin⟩⟩
      · have n1 : aEnt (mTr (zupd M 35 0 0)) x y ≠ -1 := by omega
        rw [if_neg n1] at ev'
        have lvn := aEnt_live (by omega) k2 (by omega) n1
        have tr := hg.2.2.2.2.2.1 _ _ lvn
        refine m_inodeAt hA hg.1.s bl (by omega) k2 lvn.2.2.1 ⟨?_, _, rfl, fM.rfl'.upd (by decide), zupd_at, fin⟩
        rw [ev', Int.emod_eq_of_lt (by omega) tr.1.2]
      · have n1 : aEnt (mTr (zupd M 35 0 0)) x y = -1 := by
          apply Classical.byContradiction
          intro z
          have := (aEnt_rg z).1
          omega
        rw [if_pos n1] at ev'
        exact ev'.symm
    · rw [if_pos (by omega)] at ev'
      exact ev'.symm
  · have bad : ∀ t' : Nat, zEnds 118 253 20 [(29, 35), (0, x), (0, y), (9, 0)] [(0, 1), (29, 35)] (t', L, H) (fun _ S2 => S2 = (t', L, zupd H 35 0 1)) (fun _ _ => False) := fun t' => j_253_20 (m_f1 ⟨fun _ => j_253_47 rfl, fun u => absurd (by decide) u⟩)
    rcases q with ⟨e, c⟩ | ⟨e, c, off⟩
    · refine ⟨1, by rw [e]; rfl, by decide, fun t' ht' => j_253 (m_isBad (fun cx => ⟨fun u => absurd rfl u, fun _ => m_isBadName (fun cy => absurd ⟨cx, cy⟩ c) (fun _ => ⟨fun u => absurd u (by decide), fun _ => j_253_15 (bad t')⟩)⟩) (fun cx => ⟨fun _ => j_253_15 (bad t'), fun u => absurd (by decide) u⟩))⟩
    · have offM : H 35 12 = 0 := by rcases h.on with z | z <;> omega
      exact ⟨2, by rw [e]; rfl, by decide, fun t' ht' => j_253 (m_isBad (fun cx => ⟨fun u => absurd rfl u, fun _ => m_isBadName (fun cy => ⟨fun _ => j_253_20 (m_f0 ⟨fun u => absurd rfl u, fun _ => ⟨fun u => absurd (by show zupd H 35 0 0 35 12 = 0; rw [zupd_no (by decide)]; exact offM) u, fun _ => j_253_40 (m_f1 ⟨fun u => absurd u (by decide), fun _ => j_253_47 (by rw [zupd_zupd])⟩)⟩⟩), fun u => absurd rfl u⟩) (fun u => absurd c.2 u)⟩) (fun u => absurd c.1 u))⟩
theorem q_node (ht : 118 ≤ t) (hX : lR X H) (hz : zhR (t, L, H)) (h : rAll d w r t L H H) (x y : Int) (hx : z32 x = x) (hy : z32 y = y) : cOK rP 284 164 [(20, 0), (0, x), (0, y), (9, 0)] 260 [(29, 35), (0, x), (0, y)] X t L H := by
  have hk := h.1.1.1.1.1
  refine cOK_rel (Q := fun M v H1 => (0 ≤ x ∧ x ≤ 63) ∧ H 0 11 = 1 ∧ (0 ≤ y ∧ y < 3 + 2 * M 45 (20 * x + 2)) ∧ H1 = H ∧ v = M 45 (20 * x + y)) (TT := fun c => (c = 1 ∧ ¬ (0 ≤ x ∧ x ≤ 63)) ∨ (c = 2 ∧ (0 ≤ x ∧ x ≤ 63) ∧ H 0 11 = 0) ∨ (c = 3 ∧ (0 ≤ x ∧ x ≤ 63) ∧ H 0 11 = 1 ∧ ∀ M, rAll d w r t L H M → ¬ (0 ≤ y ∧ y < 3 + 2 * M 45 (20 * x + 2)))) ht hX hz h (za_c (za_i hx (za_i hy (za_9 za_0)))) (za_m (za_i hx (za_i hy za_0))) rfl (fun M hM => ?_) (fun v H1 M hM q => ?_) (fun c q => ?_)
  · refine v_164 (k_inode ht (fun cx => k_on2 ht (fun u => ?_) (fun u => ⟨rfl, Or.inr (Or.inl ⟨rfl, cx, u⟩)⟩)) (fun cx => ⟨rfl, Or.inl ⟨rfl, cx⟩⟩))
    have on : H 0 11 = 1 := by rcases hM.on with z | z <;> omega
    obtain ⟨C, hn⟩ := hM.ison on
    have hE := hn.e.1 x cx.1 (by omega)
    have ki := hn.g.1.1.1 x cx.1 (by omega)
    have c3 : ∀ M', rAll d w r t L H M' → M' 45 (20 * x + 2) = M 45 (20 * x + 2) := fun M' hM' => by
      obtain ⟨C', hn'⟩ := hM'.ison on
      have hE' := hn'.e.1 x cx.1 (by omega)
      exact hE'.2.1.symm.trans hE.2.1
    have ct := ki.2.2.1
    have e8 : z32 (3 + z32 (2 * (mTr M).1 (20 * x + 2))) = 3 + 2 * M 45 (20 * x + 2) := by
      have ct : 0 ≤ M 45 (20 * x + 2) ∧ M 45 (20 * x + 2) ≤ 8 := ct
      show z32 (3 + z32 (2 * M 45 (20 * x + 2))) = _
      rw [z32_id (x := 2 * M 45 (20 * x + 2)) (by omega) (by omega)]
      exact z32_id (by omega) (by omega)
    refine ⟨fun u => ⟨ht, by decide, rfl, Or.inr (Or.inr ⟨rfl, cx, on, fun M' hM' z => by omega⟩)⟩, fun y0 => n_count hM.1.s hE (by omega) ?_⟩
    rw [e8]
    have ct : 0 ≤ M 45 (20 * x + 2) ∧ M 45 (20 * x + 2) ≤ 8 := ct
    refine ⟨fun y1 => ?_, fun y1 => ⟨ht, by decide, rfl, Or.inr (Or.inr ⟨rfl, cx, on, fun M' hM' z => by rw [c3 M' hM'] at z; omega⟩)⟩⟩
    have done : ∀ v, v = M 45 (20 * x + y) → ∃ H1, (t, L, H) = (t, L, H1) ∧ fC H H1 ∧ (0 ≤ x ∧ x ≤ 63) ∧ H 0 11 = 1 ∧ (0 ≤ y ∧ y < 3 + 2 * M 45 (20 * x + 2)) ∧ H1 = H ∧ v = M 45 (20 * x + y) := fun v ev => ⟨H, rfl, fC.rfl', cx, on, by omega, rfl, ev⟩
    refine ⟨fun z => n_kind hM.1.s hE (by omega) (done _ ?_), fun z0 => ⟨fun z => n_size hM.1.s hE (by omega) ki.2.1 (done _ ?_), fun z1 => ⟨fun z => n_count hM.1.s hE (by omega) (done _ ?_), fun z2 => ⟨by decide, by decide, fun z => ?_, fun z => ?_⟩⟩⟩⟩
    · rw [z, Int.add_zero]; rfl
    · rw [z]; rfl
    · rw [z]; rfl
    · rw [zrem_pos (by omega)] at z
      rw [z32_id (x := y - 3) (by omega) (by omega), zdiv_pos (by omega) (by omega) (by decide)]
      refine n_len hM.1.s hE (by omega) ⟨by omega, by show (y - 3) / 2 < M 45 (20 * x + 2); omega, by omega⟩ (done _ ?_)
      show M 45 (20 * x + 4 + 2 * ((y - 3) / 2)) = _
      rw [show 20 * x + 4 + 2 * ((y - 3) / 2) = 20 * x + y by omega]
    · have z : zrem y 2 = 1 := Classical.not_not.mp z
      rw [zrem_pos (by omega)] at z
      rw [z32_id (x := y - 3) (by omega) (by omega), zdiv_pos (by omega) (by omega) (by decide)]
      have ex := ki.2.2.2 ((y - 3) / 2) (by omega) (by show (y - 3) / 2 < M 45 (20 * x + 2); omega)
      have bl := gBl_le hk
      refine n_first hM.1.s hE (by omega) ⟨by omega, by show (y - 3) / 2 < M 45 (20 * x + 2); omega, by omega⟩ ⟨by omega, by omega⟩ (done _ ?_)
      show M 45 (20 * x + 3 + 2 * ((y - 3) / 2)) = _
      rw [show 20 * x + 3 + 2 * ((y - 3) / 2) = 20 * x + y by omega]
  · obtain ⟨cx, on, cy, e, ev⟩ := q
    have hM1 : rAll d w r t L H (zupd M 35 0 0) := hM.up
    have onM : zupd M 35 0 0 35 12 = 1 := by rcases hM1.on with z | z <;> omega
    have l45 : L 45 = 1280 := hM.1.1.2.1.2.2.1.1
    obtain ⟨C, hn⟩ := hM.ison on
    have ct : 0 ≤ M 45 (20 * x + 2) ∧ M 45 (20 * x + 2) ≤ 8 := (hn.g.1.1.1 x cx.1 (by omega)).2.2.1
    refine j_260 (m_isBad (fun _ => m_f0 ⟨fun u => absurd rfl u, fun _ => ⟨fun _ => j_260_25 (m_f0 ⟨fun u => absurd rfl u, fun _ => ?_⟩), fun u => absurd (by show zupd M 35 0 0 35 12 ≠ 0; omega) u⟩⟩) (fun u => absurd cx u))
    dsimp only
    rw [zupd_zupd, zand_63 cx, z32_id (x := 20 * x) (by omega) (by omega), z32_id (x := 20 * x + 2) (by omega) (by omega), zupd_ne (by decide), z32_id (x := 2 * M 45 (20 * x + 2)) (by omega) (by omega), z32_id (x := 2 + 2 * M 45 (20 * x + 2)) (by omega) (by omega)]
    refine ⟨by omega, m_in (fun u => ⟨fun _ => j_260_64 (m_f0 ⟨fun _ => ?_, fun u => absurd rfl u⟩), fun u => absurd (by decide) u⟩) (fun u => absurd (by omega) u)⟩
    rw [z32_id (x := 20 * x) (by omega) (by omega), z32_id (x := 20 * x + y) (by omega) (by omega)]
    refine ⟨by show 0 ≤ 20 * x + y ∧ 20 * x + y < L 45; omega, ?_, _, rfl, (fM.rfl'.upd (by decide)).upd (by decide), zupd_at, ?_⟩
    · show zupd (zupd M 35 0 0) 35 0 0 45 (20 * x + y) = v
      rw [zupd_ne (by decide), zupd_ne (by decide), ev]
    · rw [e]; exact hM1.up
  · rcases q with ⟨e, c⟩ | ⟨e, c, off⟩ | ⟨e, cx, on, cy⟩
    · exact ⟨1, by rw [e]; rfl, by decide, fun t' ht' => j_260 (m_isBad (fun u => absurd u c) (fun _ => m_f1 ⟨fun _ => j_260_71 rfl, fun u => absurd (by decide) u⟩))⟩
    · have offM : H 35 12 = 0 := by rcases h.on with z | z <;> omega
      exact ⟨2, by rw [e]; rfl, by decide, fun t' ht' => j_260 (m_isBad (fun _ => m_f0 ⟨fun u => absurd rfl u, fun _ => ⟨fun u => absurd (by show zupd H 35 0 0 35 12 = 0; rw [zupd_no (by decide)]; exact offM) u, fun _ => j_260_25 (m_f1 ⟨fun _ => j_260_71 (by rw [zupd_zupd]), fun u => absurd (by decide) u⟩)⟩⟩) (fun u => absurd c u))⟩
    · have cy := cy H h
      obtain ⟨C, hn⟩ := h.ison on
      have onM : H 35 12 = 1 := by rcases h.on with z | z <;> omega
      have l45 : L 45 = 1280 := h.1.1.2.1.2.2.1.1
      have ct : 0 ≤ H 45 (20 * x + 2) ∧ H 45 (20 * x + 2) ≤ 8 := (hn.g.1.1.1 x cx.1 (by omega)).2.2.1
      refine ⟨3, by rw [e]; rfl, by decide, fun t' ht' => j_260 (m_isBad (fun _ => m_f0 ⟨fun u => absurd rfl u, fun _ => ⟨fun _ => j_260_25 (m_f0 ⟨fun u => absurd rfl u, fun _ => ?_⟩), fun u => absurd (by show zupd H 35 0 0 35 12 ≠ 0; rw [zupd_no (by decide)]; omega) u⟩⟩) (fun u => absurd cx u))⟩
      dsimp only
      rw [zupd_zupd, zand_63 cx, z32_id (x := 20 * x) (by omega) (by omega), z32_id (x := 20 * x + 2) (by omega) (by omega), zupd_ne (by decide), z32_id (x := 2 * H 45 (20 * x + 2)) (by omega) (by omega), z32_id (x := 2 + 2 * H 45 (20 * x + 2)) (by omega) (by omega)]
      exact ⟨by omega, m_in (fun u => absurd (by omega) cy) (fun _ => ⟨fun u => absurd rfl u, fun _ => j_260_64 (m_f1 ⟨fun u => absurd u (by decide), fun _ => j_260_71 (by rw [zupd_zupd])⟩)⟩)⟩
end ASKS
