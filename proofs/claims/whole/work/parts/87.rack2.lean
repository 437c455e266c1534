/-! The class's rack and the reference's. -/
/-- what Rack.put leaves, place by place -/
theorem gPut_all {H : zHp} {c tag wd at' : Int} (hw : wd ≠ 3 ∧ wd ≠ 8) : (∀ q i, q ≠ 3 → q ≠ 5 → q ≠ 6 → q ≠ 7 → q ≠ 8 → q ≠ 9 → gPut H c tag wd at' q i = H q i) ∧ (∀ i, gPut H c tag wd at' 5 i = if i = c then 1 else H 5 i) ∧ (∀ i, gPut H c tag wd at' 6 i = if i = c then 0 else H 6 i) ∧ (∀ i, gPut H c tag wd at' 7 i = if i = c then tag else H 7 i) ∧ (∀ i, gPut H c tag wd at' 8 i = if 8 * c ≤ i ∧ i < 8 * c + 8 then H wd (at' + (i - 8 * c)) else H 8 i) ∧ (∀ i, gPut H c tag wd at' 9 i = if i / 9 = c ∧ H 6 c ≠ 0 then 0 else H 9 i) ∧ (∀ i, gPut H c tag wd at' 3 i = if i = 10 then z32 (H 3 10 + 1) else if i = 11 then (if H 3 11 ≤ 1 then H 3 11 else z32 (H 3 11 - 1)) else H 3 i) := by
  -- ahead of the mending
  have b : ∀ q i, zupd (zupd (zcpy (zupd (if H 3 11 ≤ 1 then H else zupd H 3 11 (z32 (H 3 11 - 1))) 3 10 (z32 (H 3 10 + 1))) wd at' 8 (8 * c) 8) 7 c tag) 5 c 1 q i = if q = 5 ∧ i = c then 1 else if q = 7 ∧ i = c then tag else if q = 8 ∧ 8 * c ≤ i ∧ i < 8 * c + 8 then H wd (at' + (i - 8 * c)) else if q = 3 ∧ i = 10 then z32 (H 3 10 + 1) else if q = 3 ∧ i = 11 then (if H 3 11 ≤ 1 then H 3 11 else z32 (H 3 11 - 1)) else H q i := fun q i => by
    have a : ∀ q i, q ≠ 3 → (if H 3 11 ≤ 1 then H else zupd H 3 11 (z32 (H 3 11 - 1))) q i = H q i := fun q i hq => by
      by_cases z : H 3 11 ≤ 1
      · rw [if_pos z]
      · rw [if_neg z, zupd_ne hq]
    by_cases c5 : q = 5 ∧ i = c
    · rw [if_pos c5, c5.1, c5.2, zupd_at]
    · rw [if_neg c5, zupd_no c5]
      by_cases c7 : q = 7 ∧ i = c
      · rw [if_pos c7, c7.1, c7.2, zupd_at]
      · rw [if_neg c7, zupd_no c7]
        unfold zcpy
        by_cases c8 : q = 8 ∧ 8 * c ≤ i ∧ i < 8 * c + 8
        · rw [if_pos c8, if_pos c8, zupd_ne hw.1, a _ _ hw.1]
        · rw [if_neg c8, if_neg c8]
          by_cases c3 : q = 3 ∧ i = 10
          · rw [if_pos c3, c3.1, c3.2, zupd_at]
          · rw [if_neg c3, zupd_no c3]
            by_cases c4 : q = 3 ∧ i = 11
            · rw [if_pos c4, c4.1, c4.2]
              by_cases z : H 3 11 ≤ 1
              · rw [if_pos z, if_pos z]
              · rw [if_neg z, if_neg z, zupd_at]
            · rw [if_neg c4]
              by_cases z : H 3 11 ≤ 1
              · rw [if_pos z]
              · rw [if_neg z, zupd_no c4]
  have m : ∀ q i, q ≠ 6 → q ≠ 9 → gPut H c tag wd at' q i = if q = 5 ∧ i = c then 1 else if q = 7 ∧ i = c then tag else if q = 8 ∧ 8 * c ≤ i ∧ i < 8 * c + 8 then H wd (at' + (i - 8 * c)) else if q = 3 ∧ i = 10 then z32 (H 3 10 + 1) else if q = 3 ∧ i = 11 then (if H 3 11 ≤ 1 then H 3 11 else z32 (H 3 11 - 1)) else H q i := fun q i n6 n9 => by
    unfold gPut
    rw [gMend_ne ⟨n6, n9⟩, b]
  have e6 : ∀ i, zupd (zupd (zcpy (zupd (if H 3 11 ≤ 1 then H else zupd H 3 11 (z32 (H 3 11 - 1))) 3 10 (z32 (H 3 10 + 1))) wd at' 8 (8 * c) 8) 7 c tag) 5 c 1 6 i = H 6 i := fun i => by rw [b, if_neg (by omega), if_neg (by omega), if_neg (by omega), if_neg (by omega), if_neg (by omega)]
  have e9 : ∀ i, zupd (zupd (zcpy (zupd (if H 3 11 ≤ 1 then H else zupd H 3 11 (z32 (H 3 11 - 1))) 3 10 (z32 (H 3 10 + 1))) wd at' 8 (8 * c) 8) 7 c tag) 5 c 1 9 i = H 9 i := fun i => by rw [b, if_neg (by omega), if_neg (by omega), if_neg (by omega), if_neg (by omega), if_neg (by omega)]
  refine ⟨fun q i n3 n5 n6 n7 n8 n9 => ?_, fun i => ?_, fun i => ?_, fun i => ?_, fun i => ?_, fun i => ?_, fun i => ?_⟩
  · rw [m q i n6 n9, if_neg (by omega), if_neg (by omega), if_neg (by omega), if_neg (by omega), if_neg (by omega)]
  · rw [m 5 i (by decide) (by decide)]
    by_cases u : i = c
    · rw [if_pos ⟨rfl, u⟩, if_pos u]
    · rw [if_neg (fun v => u v.2), if_neg (by omega), if_neg (by omega), if_neg (by omega), if_neg (by omega), if_neg u]
  · unfold gPut gMend
    rw [e6]
    by_cases z : H 6 c = 0
    · rw [if_pos z, e6]
      by_cases u : i = c
      · rw [if_pos u, u]; exact z
      · rw [if_neg u]
    · rw [if_neg z, zfil_ne (by decide)]
      by_cases u : i = c
      · rw [if_pos u, u, zupd_at]
      · rw [if_neg u, zupd_no (fun v => u v.2), e6]
  · rw [m 7 i (by decide) (by decide), if_neg (by omega)]
    by_cases u : i = c
    · rw [if_pos ⟨rfl, u⟩, if_pos u]
    · rw [if_neg (fun v => u v.2), if_neg (by omega), if_neg (by omega), if_neg (by omega), if_neg u]
  · rw [m 8 i (by decide) (by decide), if_neg (by omega), if_neg (by omega)]
    by_cases u : 8 * c ≤ i ∧ i < 8 * c + 8
    · rw [if_pos ⟨rfl, u⟩, if_pos u]
    · rw [if_neg (fun v => u v.2), if_neg (by omega), if_neg (by omega), if_neg u]
  · unfold gPut gMend
    rw [e6]
    by_cases z : H 6 c = 0
    · rw [if_pos z, e9, if_neg (fun u => u.2 z)]
    · rw [if_neg z]
      unfold zfil
      by_cases u : i / 9 = c
      · rw [if_pos ⟨rfl, by omega, by omega⟩, if_pos ⟨u, z⟩]
      · have q : ¬ ((9 : Int) = 9 ∧ 9 * c ≤ i ∧ i < 9 * c + 9) := by omega
        have q2 : ¬ (i / 9 = c ∧ H 6 c ≠ 0) := fun v => u v.1
        rw [if_neg q, if_neg q2, zupd_ne (by decide), e9]
  · rw [m 3 i (by decide) (by decide), if_neg (by omega), if_neg (by omega), if_neg (by omega)]
    by_cases u : i = 10
    · rw [if_pos ⟨rfl, u⟩, if_pos u]
    · rw [if_neg (fun v => u v.2), if_neg u]
      by_cases v : i = 11
      · rw [if_pos ⟨rfl, v⟩, if_pos v]
      · rw [if_neg (fun y => v y.2), if_neg v]
/-- what DiskPoolModel.puts leaves, place by place -/
theorem mPw_all {M : zHp} {x o as : Int} : (∀ q i, q ≠ 35 → q ≠ 38 → q ≠ 39 → q ≠ 40 → mPw M x o as q i = M q i) ∧ (∀ i, mPw M x o as 38 i = if i = 65 * x + o then 1 else M 38 i) ∧ (∀ i, mPw M x o as 39 i = if i = 65 * x + o then as else M 39 i) ∧ (∀ i, mPw M x o as 40 i = if 70 * (65 * x + o) ≤ i ∧ i < 70 * (65 * x + o) + 70 then 0 else M 40 i) ∧ (∀ i, mPw M x o as 35 i = if i = 14 then z32 (M 35 14 + 1) else if i = 13 then (if M 35 13 ≤ 0 then M 35 13 else M 35 13 - 1) else M 35 i) := by
  have a : ∀ q i, q ≠ 35 → (if M 35 13 ≤ 0 then M else zupd M 35 13 (M 35 13 - 1)) q i = M q i := fun q i hq => by
    by_cases z : M 35 13 ≤ 0
    · rw [if_pos z]
    · rw [if_neg z, zupd_ne hq]
  have a35 : ∀ i, (if M 35 13 ≤ 0 then M else zupd M 35 13 (M 35 13 - 1)) 35 i = if i = 13 then (if M 35 13 ≤ 0 then M 35 13 else M 35 13 - 1) else M 35 i := fun i => by
    by_cases z : M 35 13 ≤ 0
    · rw [if_pos z, if_pos z]
      by_cases u : i = 13
      · rw [if_pos u, u]
      · rw [if_neg u]
    · rw [if_neg z, if_neg z]
      by_cases u : i = 13
      · rw [if_pos u, u, zupd_at]
      · rw [if_neg u, zupd_no (fun v => u v.2)]
  unfold mPw
  refine ⟨fun q i n35 n38 n39 n40 => ?_, fun i => ?_, fun i => ?_, fun i => ?_, fun i => ?_⟩
  · rw [zfil_ne n40, zupd_ne n39, zupd_ne n38, zupd_ne n35, a q i n35]
  · rw [zfil_ne (by decide), zupd_ne (by decide)]
    by_cases u : i = 65 * x + o
    · rw [if_pos u, u, zupd_at]
    · rw [if_neg u, zupd_no (fun v => u v.2), zupd_ne (by decide), a 38 i (by decide)]
  · rw [zfil_ne (by decide)]
    by_cases u : i = 65 * x + o
    · rw [if_pos u, u, zupd_at]
    · rw [if_neg u, zupd_no (fun v => u v.2), zupd_ne (by decide), zupd_ne (by decide), a 39 i (by decide)]
  · unfold zfil
    by_cases u : 70 * (65 * x + o) ≤ i ∧ i < 70 * (65 * x + o) + 70
    · rw [if_pos ⟨rfl, u⟩, if_pos u]
    · rw [if_neg (fun v => u v.2), if_neg u, zupd_ne (by decide), zupd_ne (by decide), zupd_ne (by decide), a 40 i (by decide)]
  · rw [zfil_ne (by decide), zupd_ne (by decide), zupd_ne (by decide)]
    by_cases u : i = 14
    · rw [if_pos u, u, zupd_at]
    · rw [if_neg u, zupd_no (fun v => u v.2), a35]
/-- the racks agree -/
def rK (d r : Int) (H M : zHp) : Prop :=
  (∀ x, 0 ≤ x → x < d → H 4 x = M 37 x) ∧
  (∀ x o, 0 ≤ x → x < d → 0 ≤ o → o ≤ r → (H 5 (gCe r x o) ≠ 0 ↔ M 37 x ≠ 0 ∧ M 38 (65 * x + o) ≠ 0) ∧ (M 37 x ≠ 0 → M 38 (65 * x + o) ≠ 0 → H 7 (gCe r x o) = M 39 (65 * x + o)) ∧ (∀ k, 0 ≤ k → k < 72 → zB8 H 9 (72 * gCe r x o + k) = if M 37 x ≠ 0 ∧ k < 70 then M 40 (70 * (65 * x + o) + k) % 256 else 0) ∧ (H 6 (gCe r x o) ≠ 0 ↔ ∃ j, 0 ≤ j ∧ j < 9 ∧ H 9 (9 * gCe r x o + j) ≠ 0)) ∧
  (∀ j, z64 (H 9 j) = H 9 j) ∧ ∀ j, -128 ≤ M 40 j ∧ M 40 j ≤ 127
/-- what is left of power, and the writes -/
def rL (H M : zHp) : Prop := H 3 11 = M 35 13 + 1 ∧ (0 ≤ H 3 11 ∧ H 3 11 ≤ 2147483647) ∧ H 3 10 = M 35 14
theorem zw0 {v : Int} (hv : z64 v = v) (h : ∀ k : Nat, k < 8 → v % 18446744073709551616 / ((2 ^ (8 * k) : Nat) : Int) % 256 = 0) : v = 0 := by
  have h0 : v % 18446744073709551616 / 1 % 256 = 0 := h 0 (by decide)
  have h1 : v % 18446744073709551616 / 256 % 256 = 0 := h 1 (by decide)
  have h2 : v % 18446744073709551616 / 65536 % 256 = 0 := h 2 (by decide)
  have h3 : v % 18446744073709551616 / 16777216 % 256 = 0 := h 3 (by decide)
  have h4 : v % 18446744073709551616 / 4294967296 % 256 = 0 := h 4 (by decide)
  have h5 : v % 18446744073709551616 / 1099511627776 % 256 = 0 := h 5 (by decide)
  have h6 : v % 18446744073709551616 / 281474976710656 % 256 = 0 := h 6 (by decide)
  have h7 : v % 18446744073709551616 / 72057594037927936 % 256 = 0 := h 7 (by decide)
  unfold z64 at hv
  omega
theorem zB8_0 {H : zHp} {w i : Int} (h : H w (i / 8) = 0) : zB8 H w i = 0 := by
  unfold zB8
  rw [h, show (0 : Int) % 18446744073709551616 = 0 from rfl, Int.zero_ediv]
  rfl
/-- a cell is valid there as here -/
theorem rK.val {d r x o : Int} {H M : zHp} (h : rK d r H M) (hx : 0 ≤ x ∧ x < d) (ho : 0 ≤ o ∧ o ≤ r) : gVal H (gCe r x o) ↔ mVal M x o := by
  obtain ⟨-, h2, h3, h4⟩ := h
  obtain ⟨a, -, c, e⟩ := h2 x o hx.1 hx.2 ho.1 ho.2
  constructor
  · intro ⟨u, v⟩
    obtain ⟨l, f⟩ := a.mp u
    refine ⟨l, f, fun k k0 k1 => ?_⟩
    have z : zB8 H 9 (72 * gCe r x o + k) = 0 := zB8_0 (by
      by_cases q : H 9 ((72 * gCe r x o + k) / 8) = 0
      · exact q
      · exact absurd (e.mpr ⟨k / 8, by omega, by omega, by rw [show 9 * gCe r x o + k / 8 = (72 * gCe r x o + k) / 8 by omega]; exact q⟩) (fun y => y v))
    rw [c k k0 (by omega), if_pos ⟨l, k1⟩] at z
    have := h4 (70 * (65 * x + o) + k)
    omega
  · intro ⟨l, f, z⟩
    refine ⟨a.mpr ⟨l, f⟩, ?_⟩
    by_cases q : H 6 (gCe r x o) = 0
    · exact q
    · obtain ⟨j, j0, j1, j2⟩ := e.mp q
      refine absurd (zw0 (h3 _) (fun k hk => ?_)) j2
      have b := c (8 * j + k) (by omega) (by omega)
      have y : zB8 H 9 (72 * gCe r x o + (8 * j + k)) = 0 := by
        rw [b]
        by_cases k70 : 8 * j + (k : Int) < 70
        · rw [if_pos ⟨l, k70⟩, z _ (by omega) k70]; rfl
        · rw [if_neg (fun u => k70 u.2)]
      unfold zB8 at y
      rw [show (72 * gCe r x o + (8 * j + (k : Int))) / 8 = 9 * gCe r x o + j by omega, show (72 * gCe r x o + (8 * j + (k : Int))) % 8 = k by omega, Int.toNat_natCast] at y
      exact y
/-- a cell is put there as here -/
theorem rK.put {d w r x o tag wd at' : Int} {H M : zHp} (hk : gOK d w r) (h : rK d r H M) (hx : 0 ≤ x ∧ x < d) (ho : 0 ≤ o ∧ o ≤ r) (hl : M 37 x ≠ 0) (hw : wd ≠ 3 ∧ wd ≠ 8) : rK d r (gPut H (gCe r x o) tag wd at') (mPw M x o tag) := by
  obtain ⟨h1, h2, h3, h4⟩ := h
  obtain ⟨g0, g5, g6, g7, g8, g9, g3⟩ := gPut_all (H := H) (c := gCe r x o) (tag := tag) (wd := wd) (at' := at') hw
  obtain ⟨m0, m38, m39, m40, m35⟩ := mPw_all (M := M) (x := x) (o := o) (as := tag)
  have r64 := hk.2.2.2.2.2.2
  refine ⟨fun y y0 y1 => ?_, fun y p y0 y1 p0 p1 => ?_, fun j => ?_, fun j => ?_⟩
  · rw [g0 4 y (by decide) (by decide) (by decide) (by decide) (by decide) (by decide), m0 37 y (by decide) (by decide) (by decide) (by decide)]
    exact h1 y y0 y1
  · obtain ⟨a, b, c, e⟩ := h2 y p y0 y1 p0 p1
    rw [m0 37 y (by decide) (by decide) (by decide) (by decide), m38, m39, g5, g6, g7]
    by_cases u : gCe r y p = gCe r x o
    · obtain ⟨ey, ep⟩ := gCe_inj hk ⟨p0, p1⟩ ho u
      subst ey ep
      rw [if_pos rfl, if_pos rfl, if_pos rfl, if_pos rfl, if_pos rfl]
      refine ⟨⟨fun _ => ⟨hl, by decide⟩, fun _ => by decide⟩, fun _ _ => rfl, fun k k0 k1 => ?_, ⟨fun v => absurd rfl v, fun v => ?_⟩⟩
      · have z : gPut H (gCe r y p) tag wd at' 9 ((72 * gCe r y p + k) / 8) = 0 := by
          rw [g9]
          by_cases q : H 6 (gCe r y p) = 0
          · rw [if_neg (fun v => v.2 q)]
            by_cases q2 : H 9 ((72 * gCe r y p + k) / 8) = 0
            · exact q2
            · exact absurd (e.mpr ⟨k / 8, by omega, by omega, by rw [show 9 * gCe r y p + k / 8 = (72 * gCe r y p + k) / 8 by omega]; exact q2⟩) (fun v => v q)
          · rw [if_pos ⟨by omega, q⟩]
        rw [zB8_0 z, m40]
        by_cases k70 : k < 70
        · rw [if_pos ⟨hl, k70⟩, if_pos (by omega)]; rfl
        · rw [if_neg (fun v => k70 v.2)]
      · obtain ⟨j, j0, j1, j2⟩ := v
        refine absurd ?_ j2
        rw [g9]
        by_cases q : H 6 (gCe r y p) = 0
        · rw [if_neg (fun v => v.2 q)]
          by_cases q2 : H 9 (9 * gCe r y p + j) = 0
          · exact q2
          · exact absurd (e.mpr ⟨j, j0, j1, q2⟩) (fun v => v q)
        · rw [if_pos ⟨by omega, q⟩]
    · have u2 : 65 * y + p ≠ 65 * x + o := fun v => u (by
        have e1 : y = x := by omega
        have e2 : p = o := by omega
        rw [e1, e2])
      rw [if_neg u, if_neg u, if_neg u, if_neg u2, if_neg u2]
      refine ⟨a, b, fun k k0 k1 => ?_, ?_⟩
      · have q : zB8 (gPut H (gCe r x o) tag wd at') 9 (72 * gCe r y p + k) = zB8 H 9 (72 * gCe r y p + k) := by
          unfold zB8
          rw [g9, if_neg (fun v => u (by omega))]
        rw [q, c k k0 k1, m40]
        by_cases k70 : M 37 y ≠ 0 ∧ k < 70
        · rw [if_pos k70, if_pos k70, if_neg (by omega)]
        · rw [if_neg k70, if_neg k70]
      · have q : ∀ j, 0 ≤ j → j < 9 → gPut H (gCe r x o) tag wd at' 9 (9 * gCe r y p + j) = H 9 (9 * gCe r y p + j) := fun j j0 j1 => by rw [g9, if_neg (fun v => u (by omega))]
        rw [e]
        constructor
        · intro ⟨j, j0, j1, j2⟩; exact ⟨j, j0, j1, by rw [q j j0 j1]; exact j2⟩
        · intro ⟨j, j0, j1, j2⟩; exact ⟨j, j0, j1, by rw [q j j0 j1] at j2; exact j2⟩
  · rw [g9]
    by_cases v : j / 9 = gCe r x o ∧ H 6 (gCe r x o) ≠ 0
    · rw [if_pos v]; rfl
    · rw [if_neg v]; exact h3 j
  · rw [m40]
    by_cases v : 70 * (65 * x + o) ≤ j ∧ j < 70 * (65 * x + o) + 70
    · rw [if_pos v]; decide
    · rw [if_neg v]; exact h4 j
theorem rL.put {x o c tag wd at' : Int} {H M : zHp} (h : rL H M) (hw : wd ≠ 3 ∧ wd ≠ 8) (h1 : H 3 11 ≠ 1) : rL (gPut H c tag wd at') (mPw M x o tag) := by
  obtain ⟨a, b, e⟩ := h
  obtain ⟨-, -, -, -, -, -, g3⟩ := gPut_all (H := H) (c := c) (tag := tag) (wd := wd) (at' := at') hw
  obtain ⟨-, -, -, -, m35⟩ := mPw_all (M := M) (x := x) (o := o) (as := tag)
  have x11 : gPut H c tag wd at' 3 11 = if H 3 11 ≤ 1 then H 3 11 else z32 (H 3 11 - 1) := by rw [g3, if_neg (by decide), if_pos rfl]
  have x10 : gPut H c tag wd at' 3 10 = z32 (H 3 10 + 1) := by rw [g3, if_pos rfl]
  have y13 : mPw M x o tag 35 13 = if M 35 13 ≤ 0 then M 35 13 else M 35 13 - 1 := by rw [m35, if_neg (by decide), if_pos rfl]
  have y14 : mPw M x o tag 35 14 = z32 (M 35 14 + 1) := by rw [m35, if_pos rfl]
  unfold rL
  rw [x11, x10, y13, y14, e]
  refine ⟨?_, ?_, rfl⟩
  · by_cases c : H 3 11 ≤ 1
    · rw [if_pos c, if_pos (by omega)]; exact a
    · rw [if_neg c, if_neg (by omega), z32_id (by omega) (by omega)]; omega
  · by_cases c : H 3 11 ≤ 1
    · rw [if_pos c]; exact b
    · rw [if_neg c, z32_id (by omega) (by omega)]; omega
