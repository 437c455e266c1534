/-! make. -/
section MAKE3
variable {d w r : Int} {t : Nat} {L : Int → Int} {H G M X : zHp} {Qr Qt : Int → zS → Prop} {A : aSt} {i k b v nm kind B : Int}
theorem aIn_kind {N : Int → Int} (hc : N (20 * k + 2) ≤ 8) : aIn (bU N (20 * i) v) k b ↔ aIn N k b := by
  unfold aIn
  rw [bU_ne (by omega)]
  constructor
  · rintro ⟨e, e0, e1, e2, e3⟩
    rw [bU_ne (by omega)] at e2 e3
    rw [bU_ne (by omega)] at e3
    exact ⟨e, e0, e1, e2, e3⟩
  · rintro ⟨e, e0, e1, e2, e3⟩
    refine ⟨e, e0, e1, ?_, ?_⟩
    · rw [bU_ne (by omega)]; exact e2
    · rw [bU_ne (by omega), bU_ne (by omega)]; exact e3
theorem aMake_good {x : Int} (g : aGood B A) (hB : 96 ≤ B ∧ B ≤ 768) (hd : 0 ≤ x ∧ x < 64) (hnm : 1 ≤ nm ∧ nm ≤ 65535) (hk : kind = 1 ∨ kind = 2) (h0 : 0 ≤ (aMake B A x nm kind).1) : aGood B (aMake B A x nm kind).2 := by
  unfold aMake at h0 ⊢
  by_cases c1 : aFault A x 2 < 0
  · rw [if_pos c1]; exact g
  · rw [if_neg c1] at h0 ⊢
    by_cases c2 : aEnt A x nm ≠ -1
    · rw [if_pos c2]; exact g
    · rw [if_neg c2] at h0 ⊢
      by_cases c3 : gFirst (fun i => A.1 (20 * i) = 0) 0 64 = -1
      · rw [if_pos c3]; exact g
      · rw [if_neg c3] at h0 ⊢
        have sp := (gFirst_spec (fun i => A.1 (20 * i) = 0) 64 0).resolve_left (fun u => c3 u.1)
        generalize gFirst (fun i => A.1 (20 * i) = 0) 0 64 = j at h0 sp c3
        obtain ⟨j0, j1, j2, -⟩ := sp
        have hj : 0 ≤ j ∧ j < 64 := by omega
        obtain ⟨js, jp⟩ := g.2.2.2.1 j hj.1 hj.2 j2
        have kd := (aFault_0 c1).1
        cases ht : aAdd B A x nm j with
        | none => exact g
        | some A' =>
          obtain ⟨q1, q2, q3, e, ⟨q4, q5⟩, q6⟩ := aAdd_sp g.go hB hd kd hnm (by omega) ht
          have jd : j ≠ x := fun u => by rw [u] at j2; omega
          have k0 : A'.1 (20 * j) = 0 := by rw [q2 _ (by omega)]; exact j2
          have s0 : A'.1 (20 * j + 1) = 0 := by rw [q2 _ (by omega)]; exact js
          have gg := aG_kind (N := A'.1) (O := A'.2.1) (W := A'.2.2) (v := kind) q1.1 hj k0 s0 (by omega)
          have t0 : aTot A'.1 j = 0 := by rw [(q1.1.2 j hj.1 hj.2).1, s0]; decide
          have c8 : A'.1 (20 * j + 2) ≤ 8 := (q1.1.1.1 j hj.1 hj.2).2.2.1.2
          have o := aOne (A := A') (A' := (bU A'.1 (20 * j) kind, A'.2.1, A'.2.2)) q1 hj gg.1 (fun y hy => bU_ne (by omega)) (gg.2 j hj.1 hj.2) (fun _ _ _ => Or.inl rfl) (fun b u _ => (aIn_kind c8).mpr u) (fun b y b0 b1 ow y0 y1 => Or.inl ⟨rfl, ow⟩) (fun _ _ _ _ _ _ _ _ => rfl) (fun z => by
            have z : bU A'.1 (20 * j) kind (20 * j) = 0 := z
            rw [bU_at] at z
            omega) (fun y y0 y1 => by
            have y0 : bU A'.1 (20 * j) kind (20 * j + 1) ≤ y := y0
            rw [bU_ne (by omega), s0] at y0
            have tt : aTot (bU A'.1 (20 * j) kind) j = (bU A'.1 (20 * j) kind (20 * j + 1) + 63) / 64 := (gg.2 j hj.1 hj.2).1
            rw [bU_ne (by omega), s0] at tt
            have y1 : y < 64 * aTot (bU A'.1 (20 * j) kind) j := y1
            omega)
          have nd : ∀ d' e', aNd (bU A'.1 (20 * j) kind, A'.2.1, A'.2.2) d' e' → aNd A' d' e' ∧ aNo (bU A'.1 (20 * j) kind, A'.2.1, A'.2.2) d' e' = aNo A' d' e' := fun d' e' u => by
            by_cases c : d' = j
            · subst c
              have z := u.2.2.1
              have z : 0 ≤ e' ∧ e' < bU A'.1 (20 * d') kind (20 * d' + 1) / 4 := z
              rw [bU_ne (by omega), s0] at z
              omega
            · have sm := (o.2 d' u.1.1 u.1.2 c).nd (e := e') q1.1
              exact ⟨sm.1.mp u, sm.2 (sm.1.mp u)⟩
          have kj : ∀ d' e', aNd A d' e' → aNo A d' e' ≠ j := fun d' e' u c => (g.2.2.2.2.2.1 d' e' u).2 (by rw [c]; exact j2)
          refine o.1.good (aTr_add (d := x) (j := j) g.2.2.2.2.2 (fun d' e' u => ?_) (fun d1 e1 d2 e2 u1 u2 ue => ?_) (fun d' e' u => ?_) ?_)
          · obtain ⟨v1, v2⟩ := nd d' e' u
            rw [v2]
            by_cases c : d' = x ∧ e' = e
            · rw [c.1, c.2, q5]
              exact ⟨by omega, by show bU A'.1 (20 * j) kind (20 * j) ≠ 0; rw [bU_at]; omega⟩
            · have v3 := (q6 d' e' c).1.mp v1
              have v4 := (q6 d' e' c).2 v3
              rw [v4]
              have v5 := g.2.2.2.2.2.1 d' e' v3
              refine ⟨v5.1, ?_⟩
              show bU A'.1 (20 * j) kind (20 * aNo A d' e') ≠ 0
              rw [bU_ne (by have := kj d' e' v3; omega)]
              by_cases cx : aNo A d' e' = x
              · rw [cx, q3]; decide
              · rw [q2 _ (by omega)]; exact v5.2
          · obtain ⟨v1, v2⟩ := nd d1 e1 u1
            obtain ⟨w1, w2⟩ := nd d2 e2 u2
            rw [v2, w2] at ue
            by_cases ca : d1 = x ∧ e1 = e
            · by_cases cb : d2 = x ∧ e2 = e
              · omega
              · have w3 := (q6 d2 e2 cb).1.mp w1
                have w4 := (q6 d2 e2 cb).2 w3
                rw [ca.1, ca.2, q5, w4] at ue
                exact absurd ue.symm (kj d2 e2 w3)
            · have v3 := (q6 d1 e1 ca).1.mp v1
              have v4 := (q6 d1 e1 ca).2 v3
              by_cases cb : d2 = x ∧ e2 = e
              · rw [cb.1, cb.2, q5, v4] at ue
                exact absurd ue (kj d1 e1 v3)
              · have w3 := (q6 d2 e2 cb).1.mp w1
                have w4 := (q6 d2 e2 cb).2 w3
                rw [v4, w4] at ue
                exact g.2.2.2.2.2.2.1 d1 e1 d2 e2 v3 w3 ue
          · obtain ⟨v1, v2⟩ := nd d' e' u
            rw [v2]
            by_cases c : d' = x ∧ e' = e
            · exact Or.inr ⟨c.1, by rw [c.1, c.2, q5]⟩
            · have v3 := (q6 d' e' c).1.mp v1
              exact Or.inl ⟨v3, (q6 d' e' c).2 v3⟩
          · rintro ⟨n, hn⟩
            cases n with
            | zero => exact jd (show x = j from hn).symm
            | succ n =>
              rw [aUp_succ] at hn
              by_cases cn : aUp A n x = -1
              · rw [if_pos cn] at hn; omega
              · rw [if_neg cn] at hn
                rcases aPar_rg A (aUp A n x) with u | ⟨-, e', u1, -⟩
                · omega
                · rw [hn] at u1
                  have := u1.2.1
                  omega
theorem o_make {x y c : Int} (h : aGood (r * gGr d w * (w - 1)) A) (hx : 0 ≤ x ∧ x < 64) (hy : 1 ≤ y ∧ y ≤ 65535) (hc : c = 0 ∨ c = 1) : oC (r * gGr d w * (w - 1)) t L H A 128 [(27, 27), (0, x), (0, y), (0, if c = 0 then 1 else 2), (9, 0), (9, 0)] (aMake (r * gGr d w * (w - 1)) A x y (if c = 0 then 1 else 2)) ∧ oM d w r t L G A 0 x y c 0 (aMake (r * gGr d w * (w - 1)) A x y (if c = 0 then 1 else 2)) := by
  have k1 : (if c = 0 then (1 : Int) else 2) = 1 ∨ (if c = 0 then (1 : Int) else 2) = 2 := by
    rcases hc with u | u
    · rw [u]; exact Or.inl rfl
    · rw [u]; exact Or.inr rfl
  refine ⟨fun F _ hF hE Qr Qt hQ => t_addNew hF hE h.1 hx (by decide) (by omega) (by omega) hQ, fun G' N _ hA Qr Qt hQ => m_tries0 hc (m_makes hA h.1 h.2.1 h.2.2.1.p (fun j j0 j1 z => (h.2.2.2.1 j j0 j1 z).1) (gBl_ge hA.1.1) hx (by omega) hc hQ)⟩
theorem q_make (ht : 118 ≤ t) (hX : lR X H) (hz : zhR (t, L, H)) (h : rAll d w r t L H H) (x y c : Int) (hx : z32 x = x) (hy : z32 y = y) (hc : c = 0 ∨ c = 1) : cOK rP 267 147 [(20, 0), (0, x), (0, y), (0, c), (9, 0), (9, 0)] 252 [(29, 35), (0, x), (0, y), (0, c)] X t L H := by
  have hzc : z32 c = c := by rcases hc with u | u <;> rw [u] <;> rfl
  refine cOK_rel (Q := fun M v H1 => ((0 ≤ x ∧ x ≤ 63) ∧ (1 ≤ y ∧ y ≤ 65535) ∧ H 0 11 = 1) ∧ oQ d w r t L 0 x y c 0 M (zupd M 35 0 0) v H1) (TT := fun k => (k = 1 ∧ ¬ ((0 ≤ x ∧ x ≤ 63) ∧ (1 ≤ y ∧ y ≤ 65535))) ∨ (k = 2 ∧ ((0 ≤ x ∧ x ≤ 63) ∧ (1 ≤ y ∧ y ≤ 65535)) ∧ H 0 11 = 0)) ht hX hz h (za_c (za_i hx (za_i hy (za_i hzc (za_9 (za_9 za_0)))))) (za_m (za_i hx (za_i hy (za_i hzc za_0)))) rfl (fun M hM => ?_) (fun v H1 M hM q => ?_) (fun k q => ?_)
  · refine v_147 (k_inode ht (fun cx => k_name ht (fun cy => k_on2 ht (fun u => ?_) (fun u => ⟨rfl, Or.inr ⟨rfl, ⟨cx, cy⟩, u⟩⟩)) (fun cy => ⟨rfl, Or.inl ⟨rfl, fun z => cy z.2⟩⟩)) (fun cx => ⟨rfl, Or.inl ⟨rfl, fun z => cx z.1⟩⟩))
    have on : H 0 11 = 1 := by rcases hM.on with z | z <;> omega
    have hM1 : rAll d w r t L H (zupd M 35 0 0) := hM.up
    obtain ⟨C, hn⟩ := hM1.ison on
    have op := o_make (d := d) (w := w) (r := r) (t := t) (L := L) (H := H) (G := zupd M 35 0 0) (c := c) hn.g (x := x) (y := y) (by omega) cy hc
    have hB : 96 ≤ r * gGr d w * (w - 1) ∧ r * gGr d w * (w - 1) ≤ 768 := ⟨gBl_ge h.1.1.1.1.1, gBl_le h.1.1.1.1.1⟩
    refine ⟨fun c0 => ?_, fun c0 => ?_⟩
    · rw [if_pos c0] at op
      exact o_does (za_o ⟨by decide, by decide⟩ (za_i hx (za_i hy (za_i rfl (za_9 (za_9 za_0)))))) hz hM1.1 hn op.1 op.2 (aMake_good hn.g hB (by omega) cy (Or.inl rfl)) (fun v H1 fc q => ⟨H1, rfl, fc, ⟨cx, cy, on⟩, oQ.of (fM.rfl'.upd (by decide)) zupd_at q⟩)
    · rw [if_neg c0] at op
      exact o_does (za_o ⟨by decide, by decide⟩ (za_i hx (za_i hy (za_i rfl (za_9 (za_9 za_0)))))) hz hM1.1 hn op.1 op.2 (aMake_good hn.g hB (by omega) cy (Or.inr rfl)) (fun v H1 fc q => ⟨H1, rfl, fc, ⟨cx, cy, on⟩, oQ.of (fM.rfl'.upd (by decide)) zupd_at q⟩)
  · obtain ⟨⟨cx, cy, on⟩, q⟩ := q
    have onM : zupd M 35 0 0 35 12 = 1 := by rcases (hM.up (k := 0)).on with z | z <;> omega
    refine j_252 (m_isBad (fun _ => ⟨fun u => absurd rfl u, fun _ => m_isBadName (fun _ => ⟨fun _ => j_252_20 (m_f0 ⟨fun u => absurd rfl u, fun _ => ⟨fun _ => j_252_40 (m_f0 ⟨fun _ => ⟨fun c0 => j_252_62 ?_, fun c0 => j_252_62 ?_⟩, fun u => absurd rfl u⟩), fun u => absurd (by show zupd M 35 0 0 35 12 ≠ 0; omega) u⟩⟩), fun u => absurd rfl u⟩) (fun u => absurd cy u)⟩) (fun u => absurd cx u))
    · rw [zupd_zupd]
      rw [c0] at q
      exact q
    · rw [zupd_zupd]
      rw [show c = 1 by omega] at q
      exact q
  · have bad : ∀ t' : Nat, zEnds 118 252 20 [(29, 35), (0, x), (0, y), (0, c)] [(0, 1), (29, 35)] (t', L, H) (fun _ S2 => S2 = (t', L, zupd H 35 0 1)) (fun _ _ => False) := fun t' => j_252_20 (m_f1 ⟨fun _ => j_252_47 rfl, fun u => absurd (by decide) u⟩)
    rcases q with ⟨e, c⟩ | ⟨e, c, off⟩
    · refine ⟨1, by rw [e]; rfl, by decide, fun t' ht' => j_252 (m_isBad (fun cx => ⟨fun u => absurd rfl u, fun _ => m_isBadName (fun cy => absurd ⟨cx, cy⟩ c) (fun _ => ⟨fun u => absurd u (by decide), fun _ => j_252_15 (bad t')⟩)⟩) (fun cx => ⟨fun _ => j_252_15 (bad t'), fun u => absurd (by decide) u⟩))⟩
    · have offM : H 35 12 = 0 := by rcases h.on with z | z <;> omega
      exact ⟨2, by rw [e]; rfl, by decide, fun t' ht' => j_252 (m_isBad (fun cx => ⟨fun u => absurd rfl u, fun _ => m_isBadName (fun cy => ⟨fun _ => j_252_20 (m_f0 ⟨fun u => absurd rfl u, fun _ => ⟨fun u => absurd (by show zupd H 35 0 0 35 12 = 0; rw [zupd_no (by decide)]; exact offM) u, fun _ => j_252_40 (m_f1 ⟨fun u => absurd u (by decide), fun _ => j_252_47 (by rw [zupd_zupd])⟩)⟩⟩), fun u => absurd rfl u⟩) (fun u => absurd c.2 u)⟩) (fun u => absurd c.1 u))⟩
end MAKE3
