/-! Throwing and catching: the tables. -/
def zth (k : Nat) : String := bif Nat.beq k 1 then "java/lang/IllegalArgumentException" else bif Nat.beq k 2 then "java/lang/IllegalStateException" else "java/util/NoSuchElementException"
def zthx (k : Nat) : Nat := bif Nat.beq k 3 then 13 else 7
def zthb (k : Nat) : ByteArray := bif Nat.beq k 3 then ⟨#[0x2a, 0x2b, 0xb7, 0, 13, 0xb1]⟩ else ⟨#[0x2a, 0x2b, 0xb7, 0, 7, 0xb1]⟩
def zthj (k : Nat) : Nat := bif Nat.beq k 1 then 114 else bif Nat.beq k 2 then 124 else 168
def zthc (k : Nat) : Nat := bif Nat.beq k 1 then 118 else bif Nat.beq k 2 then 128 else 172
def zsiw : List (Nat × String × Nat) := [(116, "n is not 1 .. 8", 600), (126, "the tape is full", 635), (170, "no byte is there", 937), (207, "n is below 0", 1032), (215, "it is on", 1047), (260, "no such cell, or n is not 1 .. 8", 1160), (262, "the bytes are not all in the cell, or the mask is 0", 1161), (295, "no such extent or what", 1257), (309, "no such row, or the position is none of a stripe", 1268), (314, "what is not 0 .. 19", 1277), (366, "an inode is not 0 .. 63", 653), (369, "a name is not 1 .. 65535", 659), (371, "there is no such disk", 1124), (373, "it is off", 664)]
def zsi : List Nat := zsiw.map (fun q => q.1)
def zct3 : List (Nat × Nat × Nat) := [(13, 1, 553), (15, 2, 554), (35, 3, 922)]
def zpw (m : Nat) : Nat := bif Nat.blt m 276 then (bif Nat.blt m 271 then (bif Nat.blt m 268 then (bif Nat.blt m 267 then (552) else (644)) else (bif Nat.blt m 269 then (857) else (bif Nat.blt m 270 then (873) else (910)))) else (bif Nat.blt m 273 then (bif Nat.blt m 272 then (921) else (973)) else (bif Nat.blt m 274 then (1009) else (bif Nat.blt m 275 then (1020) else (1027))))) else (bif Nat.blt m 281 then (bif Nat.blt m 278 then (bif Nat.blt m 277 then (1035) else (1042)) else (bif Nat.blt m 279 then (1115) else (bif Nat.blt m 280 then (1144) else (1155)))) else (bif Nat.blt m 284 then (bif Nat.blt m 282 then (1186) else (bif Nat.blt m 283 then (1216) else (1232))) else (bif Nat.blt m 285 then (1251) else (bif Nat.blt m 286 then (1263) else (1272)))))
def zop (k : Nat) : List Nat := bif Nat.beq k 1 then [113, 581, 590, 594, 597, 599, 582, 583, 126, 127, 584, 589, 595, 615, 571, 616, 573, 617, 575, 585, 586, 587, 588, 577, 611, 612, 614, 577, 602, 603, 604, 605, 563, 605, 606, 607, 608, 565, 608, 609, 610, 611, 567, 601, 602, 603, 560, 568, 569, 570, 572, 574, 576, 0, 0, 580, 579, 578] else bif Nat.beq k 2 then [113, 581, 590, 594, 597, 599, 582, 583, 126, 127, 584, 589, 595, 615, 571, 616, 573, 617, 575, 585, 586, 587, 588, 577, 611, 612, 614, 577, 637, 638, 639, 605, 563, 605, 606, 607, 608, 565, 608, 609, 610, 611, 567, 636, 637, 638, 627, 629, 592, 630, 631, 632, 633, 0, 0, 580, 579, 634] else [113, 581, 590, 594, 597, 599, 582, 583, 126, 127, 584, 589, 595, 615, 571, 616, 573, 617, 575, 585, 586, 587, 588, 577, 611, 612, 614, 577, 939, 940, 941, 605, 563, 605, 606, 607, 608, 565, 608, 609, 610, 611, 567, 938, 939, 940, 929, 931, 593, 932, 933, 934, 935, 0, 0, 580, 579, 936]
def zo3 (k : Nat) : List Nat := bif Nat.beq k 1 then [559, 560, 116] else bif Nat.beq k 2 then [626, 627, 117] else [928, 929, 119]
/-- frames and words that a run that throws wants -/
def zrt (m : Nat) : Nat × Nat := bif Nat.blt m 146 then (0, 0) else bif Nat.blt m 167 then (7, 145) else bif Nat.blt m 169 then (0, 0) else bif Nat.blt m 173 then (6, 100) else bif Nat.blt m 266 then (0, 0) else bif Nat.blt m 287 then (8, 190) else bif Nat.beq m 287 then (9, 240) else (0, 0)
/-- a place that throws -/
def zskc (m q i k : Nat) : Bool := zsi.contains i && (match zcd m q with
  | some (.invokespecial ic, _, _) => Nat.beq ic (zthc k)
  | _ => false) && (match zcd m (q + 3) with
  | some (.athrow, _, _) => true
  | _ => false)
def zskb (m pc j k : Nat) : Bool := Nat.ble 1 k && Nat.ble k 3 && Nat.beq (zcm m) 0 && Nat.beq j (zthj k) && (match zcd m (pc + 3) with
  | some (.dup, _, _) => true
  | _ => false) && (match zcd m (pc + 3 + 1) with
  | some (.ldc i, q, _) => zskc m q i k
  | some (.ldc_w i, q, _) => zskc m q i k
  | _ => false)
def zsite (m pc k : Nat) : Prop := (1 ≤ k ∧ k ≤ 3) ∧ zcl (zcm m) = "DiskPool" ∧ ∃ (i q n0 n1 n3 n4 r0 r1 r2 r3 r4 : Nat), i ∈ zsi ∧ zcd m pc = some (.new (zthj k), n0, r0) ∧ zcd m (pc + 3) = some (.dup, n1, r1) ∧ (zcd m (pc + 3 + 1) = some (.ldc i, q, r2) ∨ zcd m (pc + 3 + 1) = some (.ldc_w i, q, r2)) ∧ zcd m q = some (.invokespecial (zthc k), n3, r3) ∧ zcd m (q + 3) = some (.athrow, n4, r4)
theorem zskc_at {m q i k : Nat} (h : zskc m q i k = true) : i ∈ zsi ∧ ∃ n3 r3 n4 r4, zcd m q = some (.invokespecial (zthc k), n3, r3) ∧ zcd m (q + 3) = some (.athrow, n4, r4) := by
  unfold zskc at h
  simp only [Bool.and_eq_true] at h
  obtain ⟨⟨a1, a2⟩, a3⟩ := h
  refine ⟨by simpa using a1, ?_⟩
  cases h6 : zcd m q with
  | none => rw [h6] at a2; cases a2
  | some q6 =>
    obtain ⟨i6, n6, r6⟩ := q6
    rw [h6] at a2
    cases h9 : zcd m (q + 3) with
    | none => rw [h9] at a3; cases a3
    | some q9 =>
      obtain ⟨i9, n9, r9⟩ := q9
      rw [h9] at a3
      cases i6 <;> first | (cases a2; done) | skip
      cases i9 <;> first | (cases a3; done) | skip
      have b2 := Nat.eq_of_beq_eq_true a2
      subst b2
      exact ⟨n6, r6, n9, r9, rfl, rfl⟩
theorem zskb_site {m pc j k n0 r0 : Nat} (h : zskb m pc j k = true) (h0 : zcd m pc = some (.new j, n0, r0)) : zsite m pc k := by
  unfold zskb at h
  simp only [Bool.and_eq_true] at h
  obtain ⟨⟨⟨⟨⟨a1, a2⟩, a3⟩, a4⟩, a5⟩, a6⟩ := h
  have a3 := Nat.eq_of_beq_eq_true a3
  have a4 := Nat.eq_of_beq_eq_true a4
  subst a4
  refine ⟨⟨Nat.le_of_ble_eq_true a1, Nat.le_of_ble_eq_true a2⟩, by rw [a3]; rfl, ?_⟩
  cases h3 : zcd m (pc + 3) with
  | none => rw [h3] at a5; cases a5
  | some q3 =>
    obtain ⟨i3, n3, r3⟩ := q3
    rw [h3] at a5
    cases h4 : zcd m (pc + 3 + 1) with
    | none => rw [h4] at a6; cases a6
    | some q4 =>
      obtain ⟨i4, n4, r4⟩ := q4
      rw [h4] at a6
      cases i3 <;> first | (cases a5; done) | skip
      cases i4 <;> first | (cases a6; done) | skip
      · rename_i i
        obtain ⟨b1, x3, y3, x4, y4, b2, b3⟩ := zskc_at a6
        exact ⟨i, n4, n0, n3, x3, x4, r0, r3, r4, y3, y4, b1, h0, rfl, Or.inl rfl, b2, b3⟩
      · rename_i i
        obtain ⟨b1, x3, y3, x4, y4, b2, b3⟩ := zskc_at a6
        exact ⟨i, n4, n0, n3, x3, x4, r0, r3, r4, y3, y4, b1, h0, rfl, Or.inr rfl, b2, b3⟩
theorem zsp_ok : zsiw.all (fun q => decide (lw_tbl[q.2.2]? = some (.stringRef "DiskPool" q.1 q.2.1))) = true := by decide +kernel
theorem zsi_word {i : Nat} (h : i ∈ zsi) : ∃ tx, Cond.stringRef "DiskPool" i tx ∈ lw_tbl := by
  obtain ⟨q, q1, q2⟩ := List.mem_map.mp h
  have h1 := List.all_eq_true.mp zsp_ok q q1
  simp only [decide_eq_true_eq] at h1
  rw [← q2]
  exact ⟨q.2.1, List.mem_of_getElem? h1⟩
theorem zct_dec : (List.range 287).all (fun m => (List.range (zbl m)).all (fun pc => match zcd m pc with
  | some (.invokevirtual _, _, r) => Nat.beq (zrt r).1 0 || (Nat.ble ((zrt r).1 + 1) (zrt m).1 && (match zmi r with
    | some (_, maxL, _) => Nat.ble ((zrt r).2 + 8 + (maxL + 11)) (zrt m).2
    | none => true))
  | some (.invokestatic _, _, r) => Nat.ble 266 r || Nat.beq (zrt r).1 0
  | some (.new j, _, r) => Nat.blt r 1000 || (Nat.ble 6 (zrt m).1 && Nat.ble 100 (zrt m).2 && zskb m pc j (r - 1000))
  | _ => true)) = true := by decide +kernel
theorem zct_at {m pc nx r : Nat} {i : Instr} (hm : m < 287) (h : zcd m pc = some (i, nx, r)) : (match (some (i, nx, r) : Option (Instr × Nat × Nat)) with
  | some (.invokevirtual _, _, r) => Nat.beq (zrt r).1 0 || (Nat.ble ((zrt r).1 + 1) (zrt m).1 && (match zmi r with
    | some (_, maxL, _) => Nat.ble ((zrt r).2 + 8 + (maxL + 11)) (zrt m).2
    | none => true))
  | some (.invokestatic _, _, r) => Nat.ble 266 r || Nat.beq (zrt r).1 0
  | some (.new j, _, r) => Nat.blt r 1000 || (Nat.ble 6 (zrt m).1 && Nat.ble 100 (zrt m).2 && zskb m pc j (r - 1000))
  | _ => true) = true := by
  have hlt : pc < zbl m := by
    unfold zcd at h
    cases hb : (Nat.blt m 288 && Nat.blt pc (zbl m)) with
    | false => rw [hb] at h; cases h
    | true => rw [Bool.and_eq_true] at hb; exact Nat.le_of_ble_eq_true hb.2
  have h2 := List.all_eq_true.mp (List.all_eq_true.mp zct_dec m (List.mem_range.mpr hm)) pc (List.mem_range.mpr hlt)
  rw [h] at h2
  exact h2
theorem zct_S {m pc j nx r : Nat} (hm : m < 266) (h : zcd m pc = some (.invokestatic j, nx, r)) (hr : r < 266) : (zrt r).1 = 0 := by
  have h1 := zct_at (Nat.lt_of_lt_of_le hm (by decide)) h
  dsimp only at h1
  rw [Bool.or_eq_true] at h1
  rcases h1 with z | z
  · have := Nat.le_of_ble_eq_true z; omega
  · exact Nat.eq_of_beq_eq_true z
theorem zct_V' {m pc j nx r : Nat} {tags : List Nat} {maxL rt : Nat} (hm : m < 287) (h : zcd m pc = some (.invokevirtual j, nx, r)) (hmi : zmi r = some (tags, maxL, rt)) (h0 : (zrt r).1 ≠ 0) : (zrt r).1 + 1 ≤ (zrt m).1 ∧ (zrt r).2 + 8 + (maxL + 11) ≤ (zrt m).2 := by
  have h1 := zct_at hm h
  dsimp only at h1
  rw [hmi] at h1
  simp only [Bool.or_eq_true, Bool.and_eq_true] at h1
  rcases h1 with z | z
  · exact absurd (Nat.eq_of_beq_eq_true z) h0
  · exact ⟨Nat.le_of_ble_eq_true z.1, Nat.le_of_ble_eq_true z.2⟩
theorem zct_V {m pc j nx r : Nat} {tags : List Nat} {maxL rt : Nat} (hm : m < 266) (h : zcd m pc = some (.invokevirtual j, nx, r)) (hmi : zmi r = some (tags, maxL, rt)) (h0 : (zrt r).1 ≠ 0) : (zrt r).1 + 1 ≤ (zrt m).1 ∧ (zrt r).2 + 8 + (maxL + 11) ≤ (zrt m).2 := zct_V' (Nat.lt_of_lt_of_le hm (by decide)) h hmi h0
theorem zct_N {m pc j nx r : Nat} (hm : m < 266) (h : zcd m pc = some (.new j, nx, r)) (h0 : Nat.ble 1000 r = true) : 6 ≤ (zrt m).1 ∧ 100 ≤ (zrt m).2 ∧ zsite m pc (r - 1000) := by
  have h1 := zct_at (Nat.lt_of_lt_of_le hm (by decide)) h
  dsimp only at h1
  have h2 : Nat.blt r 1000 = false := Bool.eq_false_iff.mpr (fun z => by have h3 : r < 1000 := Nat.le_of_ble_eq_true z; have h4 := Nat.le_of_ble_eq_true h0; omega)
  rw [h2, Bool.false_or] at h1
  simp only [Bool.and_eq_true] at h1
  exact ⟨Nat.le_of_ble_eq_true h1.1.1, Nat.le_of_ble_eq_true h1.1.2, zskb_site h1.2 h⟩
theorem zo3_ok : [1, 2, 3].all (fun k => decide (lw_tbl[(zo3 k).getD 0 0]? = some (.classLink "DiskPool" (zthj k) (zth k))) && decide (lw_tbl[(zo3 k).getD 1 0]? = some (.instantiable (zth k) 6)) && decide (lw_tbl[(zo3 k).getD 2 0]? = some (.initialized (zth k)))) = true := by decide +kernel
def zir1 : Cond := .isRef (.static Bundle.tN "UNASSIGNED_STACK" Bundle.steD)
def zir2 : Cond := .isRef (.static Bundle.tN "SUPPRESSED_SENTINEL" Bundle.listD)
def zls1 : Cond := .laysStatic Bundle.tN "UNASSIGNED_STACK" Bundle.steD
def zls2 : Cond := .laysStatic Bundle.tN "SUPPRESSED_SENTINEL" Bundle.listD
def zisd : Cond → Bool
  | .declares _ => true
  | _ => false
theorem zop_ok : [1, 2, 3].all (fun k => Nat.beq (zoA (zth k) (zthx k) (zthb k) (zthc k)).length (zop k).length && ((zoA (zth k) (zthx k) (zthb k) (zthc k)).zip (zop k)).all (fun q => (decide (lw_tbl[q.2]? = some q.1) && (goodWord q.1 || zisd q.1)) || decide (q.1 = zir1) || decide (q.1 = zir2) || decide (q.1 = zls1) || decide (q.1 = zls2))) = true := by decide +kernel
theorem zth_words {k : Nat} (hk : 1 ≤ k ∧ k ≤ 3) : Cond.classLink "DiskPool" (zthj k) (zth k) ∈ zcs ∧ Cond.instantiable (zth k) 6 ∈ zcs ∧ Cond.initialized (zth k) ∈ zcs ∧ ∀ a ∈ zoA (zth k) (zthx k) (zthb k) (zthc k), a ∈ zcs ∨ (zisd a = true ∧ a ∈ lw_tbl) ∨ a = zir1 ∨ a = zir2 ∨ a = zls1 ∨ a = zls2 := by
  have hk3 : k ∈ [1, 2, 3] := by
    have : k = 1 ∨ k = 2 ∨ k = 3 := by omega
    rcases this with rfl | rfl | rfl <;> decide
  have h1 := List.all_eq_true.mp zo3_ok k hk3
  have h2 := List.all_eq_true.mp zop_ok k hk3
  simp only [Bool.and_eq_true, decide_eq_true_eq] at h1
  rw [Bool.and_eq_true] at h2
  refine ⟨zin_cs h1.1.1 rfl, zin_cs h1.1.2 rfl, zin_cs h1.2 rfl, fun a ha => ?_⟩
  have hlen := Nat.eq_of_beq_eq_true h2.1
  obtain ⟨i, hi, hai⟩ := List.getElem_of_mem ha
  have hi2 : i < (zop k).length := by rw [← hlen]; exact hi
  have hz : ((zoA (zth k) (zthx k) (zthb k) (zthc k)).zip (zop k))[i]? = some (a, (zop k)[i]) := by
    rw [List.getElem?_zip_eq_some]
    exact ⟨by rw [List.getElem?_eq_getElem hi, hai], List.getElem?_eq_getElem hi2⟩
  have h3 := List.all_eq_true.mp h2.2 _ (List.mem_of_getElem? hz)
  simp only [Bool.or_eq_true, Bool.and_eq_true, decide_eq_true_eq] at h3
  rcases h3 with (((⟨h3, h4 | h4⟩ | h3) | h3) | h3) | h3
  · exact Or.inl (zin_cs h3 h4)
  · exact Or.inr (Or.inl ⟨h4, List.mem_of_getElem? h3⟩)
  · exact Or.inr (Or.inr (Or.inl h3))
  · exact Or.inr (Or.inr (Or.inr (Or.inl h3)))
  · exact Or.inr (Or.inr (Or.inr (Or.inr (Or.inl h3))))
  · exact Or.inr (Or.inr (Or.inr (Or.inr (Or.inr h3))))
theorem zth_fit {k : Nat} (hk : 1 ≤ k ∧ k ≤ 3) : Bundle.fit (zth k) = true := by
  have : k = 1 ∨ k = 2 ∨ k = 3 := by omega
  rcases this with rfl | rfl | rfl <;> decide +kernel
theorem zthb_dec {k : Nat} (hk : 1 ≤ k ∧ k ≤ 3) : decode (zthb k) 0 = .ok (.aload_n 0, 1) ∧ decode (zthb k) 1 = .ok (.aload_n 1, 1) ∧ decode (zthb k) 2 = .ok (.invokespecial (zthx k), 3) ∧ decode (zthb k) 5 = .ok (.return_, 1) := by
  have : k = 1 ∨ k = 2 ∨ k = 3 := by omega
  rcases this with rfl | rfl | rfl <;> decide +kernel
/-- the law's callers -/
theorem zdbW_dec : (List.range' 266 21).all (fun m => zdb (zb m) m 0 (zbl m)) = true := by decide +kernel
theorem zdk_okW {m : Nat} (h1 : 266 ≤ m) (h2 : m < 287) : zdk m = true := by
  have h3 := List.all_eq_true.mp zdbW_dec m (List.mem_range'_1.mpr ⟨h1, by omega⟩)
  unfold zdk
  rw [h3, Nat.ble_eq_true_of_le h1]
  exact Bool.or_true _
def zwi : Instr → Bool
  | .iconst _ => true
  | .lconst _ => true
  | .i2l => true
  | .lastore => true
  | .goto _ => true
  | .ifCond _ _ => true
  | .invokevirtual _ => true
  | .ireturn => true
  | i => (zlk i).isSome
theorem zwi_dec : (List.range' 266 21).all (fun m => (List.range (zbl m)).all (fun pc => match zcd m pc with
  | some (i, _, _) => zwi i
  | none => true)) = true := by decide +kernel
theorem zwi_at {m pc nx r : Nat} {i : Instr} (h1 : 266 ≤ m) (h2 : m < 287) (h : zcd m pc = some (i, nx, r)) : zwi i = true := by
  have hlt : pc < zbl m := by
    unfold zcd at h
    cases hb : (Nat.blt m 288 && Nat.blt pc (zbl m)) with
    | false => rw [hb] at h; cases h
    | true => rw [Bool.and_eq_true] at hb; exact Nat.le_of_ble_eq_true hb.2
  have h3 := List.all_eq_true.mp (List.all_eq_true.mp zwi_dec m (List.mem_range'_1.mpr ⟨h1, by omega⟩)) pc (List.mem_range.mpr hlt)
  rw [h] at h3
  exact h3
theorem zrowW_dec : (List.range' 266 21).all (fun m => decide (zcl (zcm m) = "DiskPoolLaw") && decide ((zy m).cls = "DiskPoolLaw") && decide (lw_tbl[zpw m]? = some (.codeWith (zy m) (zb m) (match zmi m with | some (_, maxL, _) => maxL | none => 0) (some .int) (zhl m))) && decide (lw_tbl[zps m]? = some (.static (zy m))) && (match zmi m with
  | some (tags, maxL, rt) => Nat.beq rt 0 && decide ((parseMethodDescriptor (zy m).desc).map (fun d => d.parameters.length) = some tags.length) && Nat.ble (tags.map (fun t => bif Nat.beq t 1 then 2 else 1)).sum maxL && Nat.ble (max (zrm m).1 (zrt m).1 + 1) (max (zrm 287).1 (zrt 287).1) && Nat.ble (max (zrm m).2 (zrt m).2 + 8 + (maxL + 11)) (max (zrm 287).2 (zrt 287).2)
  | none => false)) = true := by decide +kernel
theorem zrowW_at {m : Nat} (h1 : 266 ≤ m) (h2 : m < 287) : zcl (zcm m) = "DiskPoolLaw" ∧ (zy m).cls = "DiskPoolLaw" ∧ ∃ tags maxL, zmi m = some (tags, maxL, 0) ∧ Cond.codeWith (zy m) (zb m) maxL (some .int) (zhl m) ∈ zcs ∧ Cond.static (zy m) ∈ zcs ∧ (parseMethodDescriptor (zy m).desc).map (fun d => d.parameters.length) = some tags.length ∧ (tags.map (fun t => bif Nat.beq t 1 then 2 else 1)).sum ≤ maxL ∧ max (zrm m).1 (zrt m).1 + 1 ≤ max (zrm 287).1 (zrt 287).1 ∧ max (zrm m).2 (zrt m).2 + 8 + (maxL + 11) ≤ max (zrm 287).2 (zrt 287).2 := by
  have h3 := List.all_eq_true.mp zrowW_dec m (List.mem_range'_1.mpr ⟨h1, by omega⟩)
  cases hmi : zmi m with
  | none => rw [hmi] at h3; simp at h3
  | some q =>
    obtain ⟨tags, maxL, rt⟩ := q
    rw [hmi] at h3
    simp only [Bool.and_eq_true, decide_eq_true_eq] at h3
    obtain ⟨⟨⟨⟨b1, b2⟩, b3⟩, b4⟩, ⟨⟨⟨b5, b6⟩, b7⟩, b8⟩, b9⟩ := h3
    have b5 := Nat.eq_of_beq_eq_true b5
    subst b5
    exact ⟨b1, b2, tags, maxL, rfl, zin_cs b3 rfl, zin_cs b4 rfl, b6, Nat.le_of_ble_eq_true b7, Nat.le_of_ble_eq_true b8, Nat.le_of_ble_eq_true b9⟩
theorem zcl_W {m : Nat} (h1 : 266 ≤ m) (h2 : m < 287) : zcl (zcm m) = "DiskPoolLaw" := (zrowW_at h1 h2).1
theorem zmi_W {m : Nat} (h1 : 266 ≤ m) (h2 : m < 287) : ∃ tags maxL, zmi m = some (tags, maxL, 0) := by
  obtain ⟨-, -, tags, maxL, h, -⟩ := zrowW_at h1 h2
  exact ⟨tags, maxL, h⟩
theorem zct_W {m pc j nx r : Nat} {tags : List Nat} {maxL rt : Nat} (h1 : 266 ≤ m) (h2 : m < 287) (h : zcd m pc = some (.invokevirtual j, nx, r)) (hmi : zmi r = some (tags, maxL, rt)) (h0 : (zrt r).1 ≠ 0) : (zrt r).1 + 1 ≤ (zrt m).1 ∧ (zrt r).2 + 8 + (maxL + 11) ≤ (zrt m).2 := zct_V' h2 h hmi h0
/-- the kinds of the catch types -/
def zhk (ct : Nat) : Nat := match zct3.find? (fun q => Nat.beq q.1 ct) with
  | some q => q.2.1
  | none => 0
theorem zct3_ok : zct3.all (fun q => decide (lw_tbl[q.2.2]? = some (.classLink "DiskPoolLaw" q.1 (zth q.2.1))) && Nat.ble 1 q.2.1 && Nat.ble q.2.1 3 && !Nat.beq q.1 0) = true := by decide +kernel
theorem zhk_at {ct : Nat} (h : zhk ct ≠ 0) : Cond.classLink "DiskPoolLaw" ct (zth (zhk ct)) ∈ zcs ∧ 1 ≤ zhk ct ∧ zhk ct ≤ 3 ∧ ct ≠ 0 := by
  unfold zhk at h ⊢
  cases hf : zct3.find? (fun q => Nat.beq q.1 ct) with
  | none => rw [hf] at h; exact absurd rfl h
  | some q =>
    have h1 := List.find?_some hf
    have h2 := List.all_eq_true.mp zct3_ok q (List.mem_of_find?_eq_some hf)
    simp only [Bool.and_eq_true, decide_eq_true_eq, Bool.not_eq_true'] at h2
    have h1 := Nat.eq_of_beq_eq_true h1
    subst h1
    refine ⟨zin_cs h2.1.1.1 rfl, Nat.le_of_ble_eq_true h2.1.1.2, Nat.le_of_ble_eq_true h2.1.2, fun z => ?_⟩
    rw [z] at h2
    exact absurd h2.2 (by decide)
def zsp (k : Nat) : List (Nat × Nat × Nat × Nat) → List (Nat × Nat × Nat × Nat) × List (Nat × Nat × Nat × Nat)
  | [] => ([], [])
  | q :: l => bif Nat.beq (zhk q.2.2.2) k then ([], q :: l) else (q :: (zsp k l).1, (zsp k l).2)
theorem zsp_eq {k : Nat} : ∀ {l : List (Nat × Nat × Nat × Nat)}, l = (zsp k l).1 ++ (zsp k l).2 ∧ (∀ q ∈ (zsp k l).1, zhk q.2.2.2 ≠ k) ∧ ∀ q ∈ (zsp k l).2.head?, zhk q.2.2.2 = k := by
  intro l
  induction l with
  | nil => exact ⟨rfl, (fun q h => by cases h), (fun q h => by cases h)⟩
  | cons q l ih =>
    unfold zsp
    cases hb : Nat.beq (zhk q.2.2.2) k with
    | true =>
      refine ⟨rfl, fun q h => (by cases h), fun q' h => ?_⟩
      cases h
      exact Nat.eq_of_beq_eq_true hb
    | false =>
      obtain ⟨a, b, c⟩ := ih
      refine ⟨congrArg (List.cons q) a, fun q' h => ?_, c⟩
      rcases List.mem_cons.mp h with rfl | h
      · intro z
        rw [z] at hb
        exact absurd hb (by rw [show Nat.beq k k = true from Nat.beq_refl k]; decide)
      · exact b q' h
def zcov (q : Nat × Nat × Nat × Nat) (pc : Nat) : Bool := Nat.ble q.1 pc && Nat.blt pc q.2.1
def zhwb (m pc k : Nat) (v : Int) (nL : Nat) : Bool := match (zsp k (zhl m)).2 with
  | x :: _ => zcov x pc && Nat.ble 1 k && (zsp k (zhl m)).1.all (fun q => zcov q pc && Nat.ble 1 (zhk q.2.2.2)) && (match zcd m x.2.2.1 with
    | some (.astore i, n1, _) => Nat.blt i nL && (match zcd m n1 with
      | some (.iconst u, n2, _) => decide (u = v) && (match zcd m n2 with
        | some (.ireturn, _, _) => true
        | _ => false)
      | _ => false)
    | some (.astore_n f, n1, _) => Nat.blt f.val nL && (match zcd m n1 with
      | some (.iconst u, n2, _) => decide (u = v) && (match zcd m n2 with
        | some (.ireturn, _, _) => true
        | _ => false)
      | _ => false)
    | _ => false)
  | [] => false
theorem zhd_dec : (List.range' 266 21).all (fun m => (zhp m).all (fun q => decide (1 ≤ q.1) && decide (q.1 ≤ 3) && decide (0 ≤ q.2) && decide (q.2 ≤ 3) && (List.range (zbl m)).all (fun pc => match zcd m pc with
  | some (.invokevirtual _, _, _) => zhwb m pc q.1.toNat q.2 (match zmi m with | some (_, maxL, _) => maxL | none => 0)
  | _ => true))) = true := by decide +kernel
/-- what is made late: nothing -/
theorem zal_late {t : Nat} (h : 118 ≤ t) : zal t = none := by
  unfold zal
  rw [show Nat.blt t 118 = false from Bool.eq_false_iff.mpr (fun z => by have h3 : t < 118 := Nat.le_of_ble_eq_true z; omega)]
  rfl
theorem zno_late {t : Nat} (h : 118 ≤ t) : zno (t + 1) = zno t := by
  unfold zno
  rw [List.range_succ, List.filter_append, List.length_append]
  have e : ([t].filter (fun u => (zal u).isSome)).length = 0 := by
    simp only [List.filter_cons, zal_late h]
    rfl
  rw [e]
  rfl
theorem ztm_dec : (List.range 100).all (fun r => match zfl r with
  | some (_, _, _, _, tm) => Nat.blt tm 118
  | none => true) = true := by decide +kernel
theorem ztm_late {r ci ft tm : Nat} {k tg : Int} (h : zfl r = some (ci, k, ft, tg, tm)) : tm < 118 := by
  have hr : r < 100 := by
    unfold zfl at h
    cases hb : Nat.blt r 100 with
    | true => exact Nat.le_of_ble_eq_true hb
    | false => rw [hb] at h; cases h
  have h1 := List.all_eq_true.mp ztm_dec r (List.mem_range.mpr hr)
  rw [h] at h1
  exact Nat.le_of_ble_eq_true h1
