/-! cut: sizes of files. -/
section CUT
variable {d w r : Int} {t : Nat} {L : Int → Int} {H G F : zHp} {Qr Qt : Int → zS → Prop} {A A1 : aSt} {i s B : Int} {β : Int → Int}
/-- clearing behind a size that doesn't shrink does nothing -/
theorem aClr_id (g : aGo B A) (hi : 0 ≤ i ∧ i < 64) (hs : A.1 (20 * i + 1) ≤ s) (ht : aTakeN B i ((s + 63) / 64 - (A.1 (20 * i + 1) + 63) / 64).toNat A = some A1) : aClr A1.1 A1.2.2 i s = A1.2.2 := by
  obtain ⟨t1, t2, -, -, t5, t6, -, -, t9⟩ := aTakeN_spec hi _ A A1 g.1.1 ht
  have tot := (g.1.2 i hi.1 hi.2).1
  have sz := (g.1.1.1 i hi.1 hi.2).2.1
  unfold aClr
  by_cases c : s % 64 = 0
  · rw [if_pos c]
  · rw [if_neg c]
    funext y
    unfold bR
    by_cases c2 : 64 * aBlk A1.1 i (s / 64) + s % 64 ≤ y ∧ y < 64 * aBlk A1.1 i (s / 64) + 64
    · rw [if_pos c2]
      have ey : y = 64 * aBlk A1.1 i (s / 64) + (y - 64 * aBlk A1.1 i (s / 64)) := by omega
      by_cases c3 : aTot A.1 i ≤ s / 64
      · rw [ey, t9 (s / 64) c3 (by omega) _ (by omega) (by omega)]
      · have e5 := t5 (s / 64) (by omega) (by omega)
        have hin := aBlk_in (g.1.1.1 i hi.1 hi.2) (k := s / 64) (by omega)
        have o := g.1.1.2.1 i _ hi.1 hi.2 hin
        rw [e5] at c2 ey
        rw [ey, (t6 _ (by omega)).2 _ (by omega) (by omega)]
        have z := g.2.2.2.2 i (64 * (s / 64) + (y - 64 * aBlk A.1 i (s / 64))) hi.1 hi.2 (by omega) (by omega)
        unfold aGet aIx at z
        rw [show (64 * (s / 64) + (y - 64 * aBlk A.1 i (s / 64))) / 64 = s / 64 by omega, show (64 * (s / 64) + (y - 64 * aBlk A.1 i (s / 64))) % 64 = y - 64 * aBlk A.1 i (s / 64) by omega] at z
        exact z.symm
    · rw [if_neg c2]
noncomputable def aCut (B : Int) (A : aSt) (i s : Int) : Int × aSt := if aFault A i 1 < 0 then (aFault A i 1, A) else if s < 0 ∨ A.1 (20 * i + 1) + 1024 < s then (-8, A) else (match aRes B A i s with
    | none => (-4, A)
    | some A' => (s, A'))
theorem aCut_good (g : aGood B A) (hB : 96 ≤ B ∧ B ≤ 768) (hi : 0 ≤ i ∧ i < 64) (h0 : 0 ≤ (aCut B A i s).1) : aGood B (aCut B A i s).2 := by
  have le := g.1.le hB hi
  unfold aCut at h0 ⊢
  by_cases c1 : aFault A i 1 < 0
  · rw [if_pos c1]; exact g
  · rw [if_neg c1] at h0 ⊢
    by_cases c2 : s < 0 ∨ A.1 (20 * i + 1) + 1024 < s
    · rw [if_pos c2]; exact g
    · rw [if_neg c2] at h0 ⊢
      cases hr : aRes B A i s with
      | none => exact g
      | some A' => exact (aRes_good g hi (by omega) (aFault_0 c1).1 hr).1
/-- Tree.changeSize -/
theorem t_changeSize (h : fS F B 0 [] β L H) (hE : aE B A β) (g : aGood B A) (hi : 0 ≤ i ∧ i < 64) (hQ : tPost F B t L (aCut B A i s) Qr) : zEnds 80 130 0 [(27, 27), (0, i), (0, s), (9, 0)] [] (t, L, H) Qr Qt := by
  have hB := h.1.1
  have le := g.1.le hB hi
  unfold aCut at hQ
  refine v_130 (t_faultOf h hE hi ⟨fun u => ?_, fun u => ?_⟩)
  · rw [if_neg (show ¬ aFault A i 1 < 0 by omega)] at hQ
    refine ⟨fun c => ?_, fun c => n_size h (hE.1 i hi.1 hi.2) hi (by omega) ?_⟩
    · rw [if_pos (show s < 0 ∨ A.1 (20 * i + 1) + 1024 < s from Or.inl c)] at hQ
      exact hQ 0 [] β H h (fun _ => hE)
    · rw [z32_id (by omega) (by omega)]
      refine ⟨fun c2 => ?_, fun c2 => ?_⟩
      · rw [if_neg (show ¬ (s < 0 ∨ A.1 (20 * i + 1) + 1024 < s) by omega)] at hQ
        have h3 := ((h.more (b := 58) (by decide)).more (b := 57) (by decide)).more (b := 25 + i / 2) (by decide)
        refine n_resize h3 hE g.1.1.1 hi ⟨List.mem_cons_self, List.mem_cons_of_mem _ List.mem_cons_self, List.mem_cons_of_mem _ (List.mem_cons_of_mem _ List.mem_cons_self)⟩ (by omega) (g.1.2 i hi.1 hi.2).1 (by omega) (fun A1 l1 l2 => aClr_id g.go hi l1 l2) (fun e n' X' β' H' h' => ⟨fun _ => ?_, fun z => absurd rfl z⟩) (fun A' n' X' β' H' e _ _ h' hE' => ⟨fun z => absurd z (by decide), fun _ => ?_⟩)
        · rw [e] at hQ
          exact hQ n' X' β' H' h' (fun y => absurd y (by show ¬ (0 : Int) ≤ -4; decide))
        · rw [e] at hQ
          exact hQ n' X' β' H' h' (fun _ => hE')
      · rw [if_pos (show s < 0 ∨ A.1 (20 * i + 1) + 1024 < s by omega)] at hQ
        exact hQ 0 [] β H h (fun _ => hE)
  · rw [if_pos (show aFault A i 1 < 0 by omega)] at hQ
    exact hQ 0 [] β H h (fun _ => hE)
/-- DiskPoolModel.cuts -/
theorem m_cuts (h : mA d w r G A L H) (g : aGood (r * gGr d w * (w - 1)) A) (hi : 0 ≤ i ∧ i < 64) (hQ : mPost d w r G t L (aCut (r * gGr d w * (w - 1)) A i s) Qr) : zEnds 118 245 0 [(29, 35), (0, i), (0, s)] [] (t, L, H) Qr Qt := by
  have hB : 96 ≤ r * gGr d w * (w - 1) ∧ r * gGr d w * (w - 1) ≤ 768 := ⟨gBl_ge h.1.1, gBl_le h.1.1⟩
  have le := g.1.le hB hi
  have kd := (g.1.1.1 i hi.1 hi.2).1
  unfold aCut at hQ
  refine v_245 (m_badFile h hi kd ⟨fun u => ?_, fun u => m_badFile h hi kd ?_⟩)
  · rw [if_neg (show ¬ aFault A i 1 < 0 by omega)] at hQ
    refine m_sizeOf h hi ?_
    rw [z32_id (by omega) (by omega)]
    refine m_in (fun c => ⟨fun _ => ?_, fun z => absurd (by decide) z⟩) (fun c => ⟨fun z => absurd rfl z, fun _ => ?_⟩)
    · rw [if_neg (show ¬ (s < 0 ∨ A.1 (20 * i + 1) + 1024 < s) by omega)] at hQ
      refine m_sizes h g.1.1.1 g.2.2.1.p hB.1 hi (by omega) (g.1.2 i hi.1 hi.2).1 (fun e A' H' h' => ⟨fun _ => ?_, fun z => absurd rfl z⟩) (fun A' H' e h' => ⟨fun z => absurd z (by decide), fun _ => ?_⟩)
      · rw [e] at hQ
        exact hQ A' H' h' (fun y => absurd y (by show ¬ (0 : Int) ≤ -4; decide))
      · rw [e] at hQ
        exact hQ A' H' h' (fun _ => rfl)
    · rw [if_pos (show s < 0 ∨ A.1 (20 * i + 1) + 1024 < s by omega)] at hQ
      exact hQ A H h (fun _ => rfl)
  · rw [if_pos (show aFault A i 1 < 0 by omega)] at hQ
    exact hQ A H h (fun _ => rfl)
theorem o_cut (h : aGood (r * gGr d w * (w - 1)) A) (hi : 0 ≤ i ∧ i < 64) : oC (r * gGr d w * (w - 1)) t L H A 130 [(27, 27), (0, i), (0, s), (9, 0)] (aCut (r * gGr d w * (w - 1)) A i s) ∧ oM d w r t L G A 2 i s 0 0 (aCut (r * gGr d w * (w - 1)) A i s) :=
  ⟨fun F _ hF hE Qr Qt hQ => t_changeSize hF hE h hi hQ, fun G' N _ hA Qr Qt hQ => v_248 ⟨fun z => absurd z (by decide), fun _ => ⟨fun z => absurd z (by decide), fun _ => ⟨fun _ => m_cuts hA h hi hQ, fun z => absurd rfl z⟩⟩⟩⟩
end CUT
