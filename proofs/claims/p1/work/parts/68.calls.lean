/-! What a call must show, and that the law then goes on. -/
theorem u_180 {S : zS} {Qr Qt : Int → zS → Prop} (h : Qr (S.2.2 35 0) S) : zEnds 0 180 0 [(29, 35)] [] S Qr Qt := zwp_sound 60 0 _ _ _ h
/-- the script is as it was -/
def lR (X H : zHp) : Prop := ∀ j, H (-7) j = X (-7) j
/-- a call of the class and of the reference: they answer alike, and P holds behind -/
def cOK (P : zS → Prop) (hd cm : Nat) (ca : List zV) (mm : Nat) (ma : List zV) (X : zHp) (t : Nat) (L : Int → Int) (H : zHp) : Prop :=
  zEnds 0 cm 0 ca [] (t, L, H)
    (fun v S1 => ∃ H1, S1 = (t, L, H1) ∧ lR X H1 ∧ zEnds 0 mm 0 ma [] (t, L, zupd H1 54 0 v) (fun b S2 => ∃ H2, S2 = (t, L, H2) ∧ lR X H2 ∧ H2 35 0 = 0 ∧ H2 54 0 = v ∧ b = v ∧ P S2) (fun _ _ => False))
    (fun c S1 => ∃ H1 k, S1 = (t, L, H1) ∧ lR X H1 ∧ zhd hd c = some k ∧ k ≠ 0 ∧ zEnds 0 mm 0 ma [] (t + 1, L, H1) (fun _ S2 => ∃ H2, S2 = (t + 1, L, H2) ∧ lR X H2 ∧ H2 35 0 = k ∧ P S2) (fun _ _ => False))
/-- the same for a boolean answer -/
def cOKb (P : zS → Prop) (hd cm : Nat) (ca : List zV) (mm : Nat) (ma : List zV) (X : zHp) (t : Nat) (L : Int → Int) (H : zHp) : Prop :=
  zEnds 0 cm 0 ca [] (t, L, H)
    (fun v S1 => ∃ H1, S1 = (t, L, H1) ∧ lR X H1 ∧ (v = 0 ∨ v = 1) ∧ zEnds 0 mm 0 ma [] (t, L, zupd H1 54 0 v) (fun b S2 => ∃ H2, S2 = (t, L, H2) ∧ lR X H2 ∧ H2 35 0 = 0 ∧ H2 54 0 = v ∧ b = v ∧ P S2) (fun _ _ => False))
    (fun c S1 => ∃ H1 k, S1 = (t, L, H1) ∧ lR X H1 ∧ zhd hd c = some k ∧ k ≠ 0 ∧ zEnds 0 mm 0 ma [] (t + 1, L, H1) (fun _ S2 => ∃ H2, S2 = (t + 1, L, H2) ∧ lR X H2 ∧ H2 35 0 = k ∧ P S2) (fun _ _ => False))
/-- the same for no answer -/
def cOKv (P : zS → Prop) (hd cm : Nat) (ca : List zV) (mm : Nat) (ma : List zV) (X : zHp) (t : Nat) (L : Int → Int) (H : zHp) : Prop :=
  zEnds 0 cm 0 ca [] (t, L, H)
    (fun _ S1 => ∃ H1, S1 = (t, L, H1) ∧ lR X H1 ∧ zEnds 0 mm 0 ma [] (t, L, H1) (fun _ S2 => ∃ H2, S2 = (t, L, H2) ∧ lR X H2 ∧ H2 35 0 = 0 ∧ P S2) (fun _ _ => False))
    (fun c S1 => ∃ H1 k, S1 = (t, L, H1) ∧ lR X H1 ∧ zhd hd c = some k ∧ k ≠ 0 ∧ zEnds 0 mm 0 ma [] (t + 1, L, H1) (fun _ S2 => ∃ H2, S2 = (t + 1, L, H2) ∧ lR X H2 ∧ H2 35 0 = k ∧ P S2) (fun _ _ => False))
/-- all 21 calls -/
def zCalls (P : zS → Prop) (X : zHp) (t : Nat) (L : Int → Int) (H : zHp) : Prop :=
  (∀ a b : Int, z32 a = a → z64 b = b → cOK P 266 146 [(20, 0), (0, a), (1, b), (9, 0), (9, 0)] 195 [(29, 35), (0, a), (1, b), (9, 0), (9, 0)] X t L H) ∧
  (∀ a b c : Int, z32 a = a → z32 b = b → (c = 0 ∨ c = 1) → cOK P 267 147 [(20, 0), (0, a), (0, b), (0, c), (9, 0), (9, 0)] 252 [(29, 35), (0, a), (0, b), (0, c)] X t L H) ∧
  (∀ a b : Int, z32 a = a → z32 b = b → cOK P 268 148 [(20, 0), (0, a), (0, b)] 253 [(29, 35), (0, a), (0, b), (9, 0)] X t L H) ∧
  (∀ a b : Int, z32 a = a → z32 b = b → cOK P 269 149 [(20, 0), (0, a), (0, b), (9, 0), (9, 0)] 254 [(29, 35), (0, a), (0, b), (9, 0)] X t L H) ∧
  (∀ a b : Int, z32 a = a → z32 b = b → cOK P 270 150 [(20, 0), (0, a), (0, b), (9, 0)] 255 [(29, 35), (0, a), (0, b)] X t L H) ∧
  (∀ a b : Int, z32 a = a → z32 b = b → cOK P 271 151 [(20, 0), (0, a), (0, b), (9, 0), (9, 0), (9, 0), (9, 0), (9, 0)] 256 [(29, 35), (0, a), (0, b), (9, 0), (9, 0), (9, 0)] X t L H) ∧
  (∀ a b c d : Int, z32 a = a → z32 b = b → z32 c = c → z32 d = d → cOK P 272 152 [(20, 0), (0, a), (0, b), (0, c), (0, d), (9, 0)] 257 [(29, 35), (0, a), (0, b), (0, c), (0, d), (9, 0)] X t L H) ∧
  (∀ a b : Int, z32 a = a → z32 b = b → cOK P 273 153 [(20, 0), (0, a), (0, b), (9, 0)] 258 [(29, 35), (0, a), (0, b)] X t L H) ∧
  (cOK P 274 154 [(20, 0), (9, 0)] 259 [(29, 35)] X t L H) ∧
  (∀ a : Int, z32 a = a → cOKv P 275 155 [(20, 0), (0, a)] 198 [(29, 35), (0, a)] X t L H) ∧
  (cOKv P 276 156 [(20, 0)] 199 [(29, 35)] X t L H) ∧
  (cOKb P 277 157 [(20, 0), (9, 0)] 207 [(29, 35), (9, 0), (9, 0)] X t L H) ∧
  (∀ a : Int, z32 a = a → cOKb P 278 158 [(20, 0), (0, a)] 208 [(29, 35), (0, a), (9, 0), (9, 0), (9, 0)] X t L H) ∧
  (∀ a : Int, z32 a = a → cOKb P 279 159 [(20, 0), (0, a)] 209 [(29, 35), (0, a), (9, 0), (9, 0)] X t L H) ∧
  (∀ a b c d e : Int, z32 a = a → z32 b = b → z32 c = c → z32 d = d → z64 e = e → cOKb P 280 160 [(20, 0), (0, a), (0, b), (0, c), (0, d), (1, e), (9, 0), (9, 0)] 212 [(29, 35), (0, a), (0, b), (0, c), (0, d), (1, e), (9, 0), (9, 0), (9, 0)] X t L H) ∧
  (cOK P 281 161 [(20, 0)] 213 [(29, 35), (9, 0), (9, 0), (9, 0)] X t L H) ∧
  (cOK P 282 162 [(20, 0)] 214 [(29, 35), (9, 0), (9, 0), (9, 0), (9, 0)] X t L H) ∧
  (cOK P 283 163 [(20, 0)] 215 [(29, 35), (9, 0), (9, 0), (9, 0)] X t L H) ∧
  (∀ a b : Int, z32 a = a → z32 b = b → cOK P 284 164 [(20, 0), (0, a), (0, b), (9, 0)] 260 [(29, 35), (0, a), (0, b)] X t L H) ∧
  (∀ a b : Int, z32 a = a → z32 b = b → cOK P 285 165 [(20, 0), (0, a), (0, b)] 264 [(29, 35), (0, a), (0, b)] X t L H) ∧
  (∀ a : Int, z32 a = a → cOK P 286 166 [(20, 0), (0, a)] 263 [(29, 35), (0, a), (9, 0), (9, 0)] X t L H)
section LAWCASES
variable {x4 : Int} {t : Nat} {L : Int → Int} {H X : zHp} {P : zS → Prop} {Qr Qt : Int → zS → Prop}
theorem l_0 (hx : 3 ≤ x4 ∧ x4 + 7 ≤ L (-7) ∧ L (-7) ≤ 4000) (h54 : L 54 = 1) (hX : lR X H) (hr : ∀ j, z32 (X (-7) j) = X (-7) j) (hc : zCalls P X t L H) (hn : ∀ S', (S'.1 = t ∨ S'.1 = t + 1) → S'.2.1 = L → lR X S'.2.2 → P S' → zEnds 0 287 53 [(14, (-7)), (20, 0), (29, 35), (11, 54), (0, x4 + 7), (9, 0), (9, 0), (9, 0)] [] S' Qr Qt) : zEnds 0 287 168 [(14, (-7)), (20, 0), (29, 35), (11, 54), (0, x4), (9, 0), (9, 0), (9, 0)] [] (t, L, H) Qr Qt := by
  refine u_287_168 ?_
  rw [z32_id (x := x4 + 1) (by omega) (by omega), z32_id (x := x4 + 2) (by omega) (by omega), z32_id (x := x4 + 3) (by omega) (by omega), z32_id (x := x4 + 7) (by omega) (by omega)]
  try dsimp only
  rw [hX (x4 + 1), hX (x4 + 2), hX (x4 + 3)]
  refine ⟨⟨by omega, by omega⟩, ⟨by omega, by omega⟩, ⟨by omega, by omega⟩, u_266 (zEnds.imp (hc.1 _ _ (hr _) (z64_toInt _)) (fun v S1 h1 => ?_) (fun c S1 h1 => ?_))⟩
  · obtain ⟨H1, e1, r1, h1⟩ := h1
    subst e1
    refine ⟨⟨Int.le_refl 0, by show 0 < L 54; omega⟩, ?_⟩
    have r2 : lR X (zupd H1 54 0 v) := fun j => by rw [zupd_ne (by decide)]; exact r1 j
    try dsimp only
    rw [r2 (x4 + 1), r2 (x4 + 2), r2 (x4 + 3)]
    refine ⟨⟨by omega, by omega⟩, ⟨by omega, by omega⟩, ⟨by omega, by omega⟩, zEnds.imp h1 (fun b S2 h2 => u_180 ?_) (fun _ _ u => u.elim)⟩
    obtain ⟨H2, e2, r3, a1, a2, a3, a4⟩ := h2
    subst e2
    exact ⟨fun _ => ⟨fun u => absurd rfl u, fun _ => ⟨⟨Int.le_refl 0, by show 0 < L 54; omega⟩, fun _ => hn _ (Or.inl rfl) rfl r3 a4, fun u => absurd (zcmp_0.mpr (a2.trans a3.symm)) u⟩⟩, fun u => absurd a1 u⟩
  · obtain ⟨H1, k, e1, r1, hk, k0, h1⟩ := h1
    subst e1
    rw [hk]
    try dsimp only
    rw [r1 (x4 + 1), r1 (x4 + 2), r1 (x4 + 3)]
    refine ⟨⟨by omega, by omega⟩, ⟨by omega, by omega⟩, ⟨by omega, by omega⟩, zEnds.imp h1 (fun b S2 h2 => u_180 ?_) (fun _ _ u => u.elim)⟩
    obtain ⟨H2, e2, r3, a1, a4⟩ := h2
    subst e2
    exact ⟨fun _ => ⟨fun _ => hn _ (Or.inr rfl) rfl r3 a4, fun u => absurd k0 u⟩, fun u => absurd a1 u⟩
theorem l_1 (hx : 3 ≤ x4 ∧ x4 + 7 ≤ L (-7) ∧ L (-7) ≤ 4000) (h54 : L 54 = 1) (hX : lR X H) (hr : ∀ j, z32 (X (-7) j) = X (-7) j) (hc : zCalls P X t L H) (hn : ∀ S', (S'.1 = t ∨ S'.1 = t + 1) → S'.2.1 = L → lR X S'.2.2 → P S' → zEnds 0 287 53 [(14, (-7)), (20, 0), (29, 35), (11, 54), (0, x4 + 7), (9, 0), (9, 0), (9, 0)] [] S' Qr Qt) : zEnds 0 287 268 [(14, (-7)), (20, 0), (29, 35), (11, 54), (0, x4), (9, 0), (9, 0), (9, 0)] [] (t, L, H) Qr Qt := by
  refine u_287_268 ?_
  rw [z32_id (x := x4 + 1) (by omega) (by omega), z32_id (x := x4 + 2) (by omega) (by omega), z32_id (x := x4 + 3) (by omega) (by omega), z32_id (x := x4 + 7) (by omega) (by omega)]
  try dsimp only
  rw [hX (x4 + 1), hX (x4 + 2), hX (x4 + 3)]
  refine ⟨⟨by omega, by omega⟩, ⟨by omega, by omega⟩, ⟨by omega, by omega⟩, fun z => ?_, fun z => ?_⟩
  · refine u_267 (zEnds.imp (hc.2.1 _ _ 0 (hr _) (hr _) (Or.inl rfl)) (fun v S1 h1 => ?_) (fun c S1 h1 => ?_))
    · obtain ⟨H1, e1, r1, h1⟩ := h1
      subst e1
      refine ⟨⟨Int.le_refl 0, by show 0 < L 54; omega⟩, ?_⟩
      have r2 : lR X (zupd H1 54 0 v) := fun j => by rw [zupd_ne (by decide)]; exact r1 j
      try dsimp only
      rw [r2 (x4 + 1), r2 (x4 + 2), r2 (x4 + 3)]
      refine ⟨⟨by omega, by omega⟩, ⟨by omega, by omega⟩, ⟨by omega, by omega⟩, fun _ => zEnds.imp h1 (fun b S2 h2 => u_180 ?_) (fun _ _ u => u.elim), fun u => absurd z u⟩
      obtain ⟨H2, e2, r3, a1, a2, a3, a4⟩ := h2
      subst e2
      exact ⟨fun _ => ⟨fun u => absurd rfl u, fun _ => ⟨⟨Int.le_refl 0, by show 0 < L 54; omega⟩, fun _ => hn _ (Or.inl rfl) rfl r3 a4, fun u => absurd (zcmp_0.mpr (a2.trans a3.symm)) u⟩⟩, fun u => absurd a1 u⟩
    · obtain ⟨H1, k, e1, r1, hk, k0, h1⟩ := h1
      subst e1
      rw [hk]
      try dsimp only
      rw [r1 (x4 + 1), r1 (x4 + 2), r1 (x4 + 3)]
      refine ⟨⟨by omega, by omega⟩, ⟨by omega, by omega⟩, ⟨by omega, by omega⟩, fun _ => zEnds.imp h1 (fun b S2 h2 => u_180 ?_) (fun _ _ u => u.elim), fun u => absurd z u⟩
      obtain ⟨H2, e2, r3, a1, a4⟩ := h2
      subst e2
      exact ⟨fun _ => ⟨fun _ => hn _ (Or.inr rfl) rfl r3 a4, fun u => absurd k0 u⟩, fun u => absurd a1 u⟩
  · refine u_267 (zEnds.imp (hc.2.1 _ _ 1 (hr _) (hr _) (Or.inr rfl)) (fun v S1 h1 => ?_) (fun c S1 h1 => ?_))
    · obtain ⟨H1, e1, r1, h1⟩ := h1
      subst e1
      refine ⟨⟨Int.le_refl 0, by show 0 < L 54; omega⟩, ?_⟩
      have r2 : lR X (zupd H1 54 0 v) := fun j => by rw [zupd_ne (by decide)]; exact r1 j
      try dsimp only
      rw [r2 (x4 + 1), r2 (x4 + 2), r2 (x4 + 3)]
      refine ⟨⟨by omega, by omega⟩, ⟨by omega, by omega⟩, ⟨by omega, by omega⟩, fun u => absurd u z, fun _ => zEnds.imp h1 (fun b S2 h2 => u_180 ?_) (fun _ _ u => u.elim)⟩
      obtain ⟨H2, e2, r3, a1, a2, a3, a4⟩ := h2
      subst e2
      exact ⟨fun _ => ⟨fun u => absurd rfl u, fun _ => ⟨⟨Int.le_refl 0, by show 0 < L 54; omega⟩, fun _ => hn _ (Or.inl rfl) rfl r3 a4, fun u => absurd (zcmp_0.mpr (a2.trans a3.symm)) u⟩⟩, fun u => absurd a1 u⟩
    · obtain ⟨H1, k, e1, r1, hk, k0, h1⟩ := h1
      subst e1
      rw [hk]
      try dsimp only
      rw [r1 (x4 + 1), r1 (x4 + 2), r1 (x4 + 3)]
      refine ⟨⟨by omega, by omega⟩, ⟨by omega, by omega⟩, ⟨by omega, by omega⟩, fun u => absurd u z, fun _ => zEnds.imp h1 (fun b S2 h2 => u_180 ?_) (fun _ _ u => u.elim)⟩
      obtain ⟨H2, e2, r3, a1, a4⟩ := h2
      subst e2
      exact ⟨fun _ => ⟨fun _ => hn _ (Or.inr rfl) rfl r3 a4, fun u => absurd k0 u⟩, fun u => absurd a1 u⟩
theorem l_2 (hx : 3 ≤ x4 ∧ x4 + 7 ≤ L (-7) ∧ L (-7) ≤ 4000) (h54 : L 54 = 1) (hX : lR X H) (hr : ∀ j, z32 (X (-7) j) = X (-7) j) (hc : zCalls P X t L H) (hn : ∀ S', (S'.1 = t ∨ S'.1 = t + 1) → S'.2.1 = L → lR X S'.2.2 → P S' → zEnds 0 287 53 [(14, (-7)), (20, 0), (29, 35), (11, 54), (0, x4 + 7), (9, 0), (9, 0), (9, 0)] [] S' Qr Qt) : zEnds 0 287 364 [(14, (-7)), (20, 0), (29, 35), (11, 54), (0, x4), (9, 0), (9, 0), (9, 0)] [] (t, L, H) Qr Qt := by
  refine u_287_364 ?_
  rw [z32_id (x := x4 + 1) (by omega) (by omega), z32_id (x := x4 + 2) (by omega) (by omega), z32_id (x := x4 + 7) (by omega) (by omega)]
  try dsimp only
  rw [hX (x4 + 1), hX (x4 + 2)]
  refine ⟨⟨by omega, by omega⟩, ⟨by omega, by omega⟩, u_268 (zEnds.imp (hc.2.2.1 _ _ (hr _) (hr _)) (fun v S1 h1 => ?_) (fun c S1 h1 => ?_))⟩
  · obtain ⟨H1, e1, r1, h1⟩ := h1
    subst e1
    refine ⟨⟨Int.le_refl 0, by show 0 < L 54; omega⟩, ?_⟩
    have r2 : lR X (zupd H1 54 0 v) := fun j => by rw [zupd_ne (by decide)]; exact r1 j
    try dsimp only
    rw [r2 (x4 + 1), r2 (x4 + 2)]
    refine ⟨⟨by omega, by omega⟩, ⟨by omega, by omega⟩, zEnds.imp h1 (fun b S2 h2 => u_180 ?_) (fun _ _ u => u.elim)⟩
    obtain ⟨H2, e2, r3, a1, a2, a3, a4⟩ := h2
    subst e2
    exact ⟨fun _ => ⟨fun u => absurd rfl u, fun _ => ⟨⟨Int.le_refl 0, by show 0 < L 54; omega⟩, fun _ => hn _ (Or.inl rfl) rfl r3 a4, fun u => absurd (zcmp_0.mpr (a2.trans a3.symm)) u⟩⟩, fun u => absurd a1 u⟩
  · obtain ⟨H1, k, e1, r1, hk, k0, h1⟩ := h1
    subst e1
    rw [hk]
    try dsimp only
    rw [r1 (x4 + 1), r1 (x4 + 2)]
    refine ⟨⟨by omega, by omega⟩, ⟨by omega, by omega⟩, zEnds.imp h1 (fun b S2 h2 => u_180 ?_) (fun _ _ u => u.elim)⟩
    obtain ⟨H2, e2, r3, a1, a4⟩ := h2
    subst e2
    exact ⟨fun _ => ⟨fun _ => hn _ (Or.inr rfl) rfl r3 a4, fun u => absurd k0 u⟩, fun u => absurd a1 u⟩
theorem l_3 (hx : 3 ≤ x4 ∧ x4 + 7 ≤ L (-7) ∧ L (-7) ≤ 4000) (h54 : L 54 = 1) (hX : lR X H) (hr : ∀ j, z32 (X (-7) j) = X (-7) j) (hc : zCalls P X t L H) (hn : ∀ S', (S'.1 = t ∨ S'.1 = t + 1) → S'.2.1 = L → lR X S'.2.2 → P S' → zEnds 0 287 53 [(14, (-7)), (20, 0), (29, 35), (11, 54), (0, x4 + 7), (9, 0), (9, 0), (9, 0)] [] S' Qr Qt) : zEnds 0 287 432 [(14, (-7)), (20, 0), (29, 35), (11, 54), (0, x4), (9, 0), (9, 0), (9, 0)] [] (t, L, H) Qr Qt := by
  refine u_287_432 ?_
  rw [z32_id (x := x4 + 1) (by omega) (by omega), z32_id (x := x4 + 2) (by omega) (by omega), z32_id (x := x4 + 7) (by omega) (by omega)]
  try dsimp only
  rw [hX (x4 + 1), hX (x4 + 2)]
  refine ⟨⟨by omega, by omega⟩, ⟨by omega, by omega⟩, u_269 (zEnds.imp (hc.2.2.2.1 _ _ (hr _) (hr _)) (fun v S1 h1 => ?_) (fun c S1 h1 => ?_))⟩
  · obtain ⟨H1, e1, r1, h1⟩ := h1
    subst e1
    refine ⟨⟨Int.le_refl 0, by show 0 < L 54; omega⟩, ?_⟩
    have r2 : lR X (zupd H1 54 0 v) := fun j => by rw [zupd_ne (by decide)]; exact r1 j
    try dsimp only
    rw [r2 (x4 + 1), r2 (x4 + 2)]
    refine ⟨⟨by omega, by omega⟩, ⟨by omega, by omega⟩, zEnds.imp h1 (fun b S2 h2 => u_180 ?_) (fun _ _ u => u.elim)⟩
    obtain ⟨H2, e2, r3, a1, a2, a3, a4⟩ := h2
    subst e2
    exact ⟨fun _ => ⟨fun u => absurd rfl u, fun _ => ⟨⟨Int.le_refl 0, by show 0 < L 54; omega⟩, fun _ => hn _ (Or.inl rfl) rfl r3 a4, fun u => absurd (zcmp_0.mpr (a2.trans a3.symm)) u⟩⟩, fun u => absurd a1 u⟩
  · obtain ⟨H1, k, e1, r1, hk, k0, h1⟩ := h1
    subst e1
    rw [hk]
    try dsimp only
    rw [r1 (x4 + 1), r1 (x4 + 2)]
    refine ⟨⟨by omega, by omega⟩, ⟨by omega, by omega⟩, zEnds.imp h1 (fun b S2 h2 => u_180 ?_) (fun _ _ u => u.elim)⟩
    obtain ⟨H2, e2, r3, a1, a4⟩ := h2
    subst e2
    exact ⟨fun _ => ⟨fun _ => hn _ (Or.inr rfl) rfl r3 a4, fun u => absurd k0 u⟩, fun u => absurd a1 u⟩
theorem l_4 (hx : 3 ≤ x4 ∧ x4 + 7 ≤ L (-7) ∧ L (-7) ≤ 4000) (h54 : L 54 = 1) (hX : lR X H) (hr : ∀ j, z32 (X (-7) j) = X (-7) j) (hc : zCalls P X t L H) (hn : ∀ S', (S'.1 = t ∨ S'.1 = t + 1) → S'.2.1 = L → lR X S'.2.2 → P S' → zEnds 0 287 53 [(14, (-7)), (20, 0), (29, 35), (11, 54), (0, x4 + 7), (9, 0), (9, 0), (9, 0)] [] S' Qr Qt) : zEnds 0 287 500 [(14, (-7)), (20, 0), (29, 35), (11, 54), (0, x4), (9, 0), (9, 0), (9, 0)] [] (t, L, H) Qr Qt := by
  refine u_287_500 ?_
  rw [z32_id (x := x4 + 1) (by omega) (by omega), z32_id (x := x4 + 2) (by omega) (by omega), z32_id (x := x4 + 7) (by omega) (by omega)]
  try dsimp only
  rw [hX (x4 + 1), hX (x4 + 2)]
  refine ⟨⟨by omega, by omega⟩, ⟨by omega, by omega⟩, u_270 (zEnds.imp (hc.2.2.2.2.1 _ _ (hr _) (hr _)) (fun v S1 h1 => ?_) (fun c S1 h1 => ?_))⟩
  · obtain ⟨H1, e1, r1, h1⟩ := h1
    subst e1
    refine ⟨⟨Int.le_refl 0, by show 0 < L 54; omega⟩, ?_⟩
    have r2 : lR X (zupd H1 54 0 v) := fun j => by rw [zupd_ne (by decide)]; exact r1 j
    try dsimp only
    rw [r2 (x4 + 1), r2 (x4 + 2)]
    refine ⟨⟨by omega, by omega⟩, ⟨by omega, by omega⟩, zEnds.imp h1 (fun b S2 h2 => u_180 ?_) (fun _ _ u => u.elim)⟩
    obtain ⟨H2, e2, r3, a1, a2, a3, a4⟩ := h2
    subst e2
    exact ⟨fun _ => ⟨fun u => absurd rfl u, fun _ => ⟨⟨Int.le_refl 0, by show 0 < L 54; omega⟩, fun _ => hn _ (Or.inl rfl) rfl r3 a4, fun u => absurd (zcmp_0.mpr (a2.trans a3.symm)) u⟩⟩, fun u => absurd a1 u⟩
  · obtain ⟨H1, k, e1, r1, hk, k0, h1⟩ := h1
    subst e1
    rw [hk]
    try dsimp only
    rw [r1 (x4 + 1), r1 (x4 + 2)]
    refine ⟨⟨by omega, by omega⟩, ⟨by omega, by omega⟩, zEnds.imp h1 (fun b S2 h2 => u_180 ?_) (fun _ _ u => u.elim)⟩
    obtain ⟨H2, e2, r3, a1, a4⟩ := h2
    subst e2
    exact ⟨fun _ => ⟨fun _ => hn _ (Or.inr rfl) rfl r3 a4, fun u => absurd k0 u⟩, fun u => absurd a1 u⟩
theorem l_5 (hx : 3 ≤ x4 ∧ x4 + 7 ≤ L (-7) ∧ L (-7) ≤ 4000) (h54 : L 54 = 1) (hX : lR X H) (hr : ∀ j, z32 (X (-7) j) = X (-7) j) (hc : zCalls P X t L H) (hn : ∀ S', (S'.1 = t ∨ S'.1 = t + 1) → S'.2.1 = L → lR X S'.2.2 → P S' → zEnds 0 287 53 [(14, (-7)), (20, 0), (29, 35), (11, 54), (0, x4 + 7), (9, 0), (9, 0), (9, 0)] [] S' Qr Qt) : zEnds 0 287 568 [(14, (-7)), (20, 0), (29, 35), (11, 54), (0, x4), (9, 0), (9, 0), (9, 0)] [] (t, L, H) Qr Qt := by
  refine u_287_568 ?_
  rw [z32_id (x := x4 + 1) (by omega) (by omega), z32_id (x := x4 + 2) (by omega) (by omega), z32_id (x := x4 + 7) (by omega) (by omega)]
  try dsimp only
  rw [hX (x4 + 1), hX (x4 + 2)]
  refine ⟨⟨by omega, by omega⟩, ⟨by omega, by omega⟩, u_271 (zEnds.imp (hc.2.2.2.2.2.1 _ _ (hr _) (hr _)) (fun v S1 h1 => ?_) (fun c S1 h1 => ?_))⟩
  · obtain ⟨H1, e1, r1, h1⟩ := h1
    subst e1
    refine ⟨⟨Int.le_refl 0, by show 0 < L 54; omega⟩, ?_⟩
    have r2 : lR X (zupd H1 54 0 v) := fun j => by rw [zupd_ne (by decide)]; exact r1 j
    try dsimp only
    rw [r2 (x4 + 1), r2 (x4 + 2)]
    refine ⟨⟨by omega, by omega⟩, ⟨by omega, by omega⟩, zEnds.imp h1 (fun b S2 h2 => u_180 ?_) (fun _ _ u => u.elim)⟩
    obtain ⟨H2, e2, r3, a1, a2, a3, a4⟩ := h2
    subst e2
    exact ⟨fun _ => ⟨fun u => absurd rfl u, fun _ => ⟨⟨Int.le_refl 0, by show 0 < L 54; omega⟩, fun _ => hn _ (Or.inl rfl) rfl r3 a4, fun u => absurd (zcmp_0.mpr (a2.trans a3.symm)) u⟩⟩, fun u => absurd a1 u⟩
  · obtain ⟨H1, k, e1, r1, hk, k0, h1⟩ := h1
    subst e1
    rw [hk]
    try dsimp only
    rw [r1 (x4 + 1), r1 (x4 + 2)]
    refine ⟨⟨by omega, by omega⟩, ⟨by omega, by omega⟩, zEnds.imp h1 (fun b S2 h2 => u_180 ?_) (fun _ _ u => u.elim)⟩
    obtain ⟨H2, e2, r3, a1, a4⟩ := h2
    subst e2
    exact ⟨fun _ => ⟨fun _ => hn _ (Or.inr rfl) rfl r3 a4, fun u => absurd k0 u⟩, fun u => absurd a1 u⟩
theorem l_6 (hx : 3 ≤ x4 ∧ x4 + 7 ≤ L (-7) ∧ L (-7) ≤ 4000) (h54 : L 54 = 1) (hX : lR X H) (hr : ∀ j, z32 (X (-7) j) = X (-7) j) (hc : zCalls P X t L H) (hn : ∀ S', (S'.1 = t ∨ S'.1 = t + 1) → S'.2.1 = L → lR X S'.2.2 → P S' → zEnds 0 287 53 [(14, (-7)), (20, 0), (29, 35), (11, 54), (0, x4 + 7), (9, 0), (9, 0), (9, 0)] [] S' Qr Qt) : zEnds 0 287 635 [(14, (-7)), (20, 0), (29, 35), (11, 54), (0, x4), (9, 0), (9, 0), (9, 0)] [] (t, L, H) Qr Qt := by
  refine u_287_635 ?_
  rw [z32_id (x := x4 + 1) (by omega) (by omega), z32_id (x := x4 + 2) (by omega) (by omega), z32_id (x := x4 + 3) (by omega) (by omega), z32_id (x := x4 + 4) (by omega) (by omega), z32_id (x := x4 + 7) (by omega) (by omega)]
  try dsimp only
  rw [hX (x4 + 1), hX (x4 + 2), hX (x4 + 3), hX (x4 + 4)]
  refine ⟨⟨by omega, by omega⟩, ⟨by omega, by omega⟩, ⟨by omega, by omega⟩, ⟨by omega, by omega⟩, u_272 (zEnds.imp (hc.2.2.2.2.2.2.1 _ _ _ _ (hr _) (hr _) (hr _) (hr _)) (fun v S1 h1 => ?_) (fun c S1 h1 => ?_))⟩
  · obtain ⟨H1, e1, r1, h1⟩ := h1
    subst e1
    refine ⟨⟨Int.le_refl 0, by show 0 < L 54; omega⟩, ?_⟩
    have r2 : lR X (zupd H1 54 0 v) := fun j => by rw [zupd_ne (by decide)]; exact r1 j
    try dsimp only
    rw [r2 (x4 + 1), r2 (x4 + 2), r2 (x4 + 3), r2 (x4 + 4)]
    refine ⟨⟨by omega, by omega⟩, ⟨by omega, by omega⟩, ⟨by omega, by omega⟩, ⟨by omega, by omega⟩, zEnds.imp h1 (fun b S2 h2 => u_180 ?_) (fun _ _ u => u.elim)⟩
    obtain ⟨H2, e2, r3, a1, a2, a3, a4⟩ := h2
    subst e2
    exact ⟨fun _ => ⟨fun u => absurd rfl u, fun _ => ⟨⟨Int.le_refl 0, by show 0 < L 54; omega⟩, fun _ => hn _ (Or.inl rfl) rfl r3 a4, fun u => absurd (zcmp_0.mpr (a2.trans a3.symm)) u⟩⟩, fun u => absurd a1 u⟩
  · obtain ⟨H1, k, e1, r1, hk, k0, h1⟩ := h1
    subst e1
    rw [hk]
    try dsimp only
    rw [r1 (x4 + 1), r1 (x4 + 2), r1 (x4 + 3), r1 (x4 + 4)]
    refine ⟨⟨by omega, by omega⟩, ⟨by omega, by omega⟩, ⟨by omega, by omega⟩, ⟨by omega, by omega⟩, zEnds.imp h1 (fun b S2 h2 => u_180 ?_) (fun _ _ u => u.elim)⟩
    obtain ⟨H2, e2, r3, a1, a4⟩ := h2
    subst e2
    exact ⟨fun _ => ⟨fun _ => hn _ (Or.inr rfl) rfl r3 a4, fun u => absurd k0 u⟩, fun u => absurd a1 u⟩
theorem l_7 (hx : 3 ≤ x4 ∧ x4 + 7 ≤ L (-7) ∧ L (-7) ≤ 4000) (h54 : L 54 = 1) (hX : lR X H) (hr : ∀ j, z32 (X (-7) j) = X (-7) j) (hc : zCalls P X t L H) (hn : ∀ S', (S'.1 = t ∨ S'.1 = t + 1) → S'.2.1 = L → lR X S'.2.2 → P S' → zEnds 0 287 53 [(14, (-7)), (20, 0), (29, 35), (11, 54), (0, x4 + 7), (9, 0), (9, 0), (9, 0)] [] S' Qr Qt) : zEnds 0 287 727 [(14, (-7)), (20, 0), (29, 35), (11, 54), (0, x4), (9, 0), (9, 0), (9, 0)] [] (t, L, H) Qr Qt := by
  refine u_287_727 ?_
  rw [z32_id (x := x4 + 1) (by omega) (by omega), z32_id (x := x4 + 2) (by omega) (by omega), z32_id (x := x4 + 7) (by omega) (by omega)]
  try dsimp only
  rw [hX (x4 + 1), hX (x4 + 2)]
  refine ⟨⟨by omega, by omega⟩, ⟨by omega, by omega⟩, u_273 (zEnds.imp (hc.2.2.2.2.2.2.2.1 _ _ (hr _) (hr _)) (fun v S1 h1 => ?_) (fun c S1 h1 => ?_))⟩
  · obtain ⟨H1, e1, r1, h1⟩ := h1
    subst e1
    refine ⟨⟨Int.le_refl 0, by show 0 < L 54; omega⟩, ?_⟩
    have r2 : lR X (zupd H1 54 0 v) := fun j => by rw [zupd_ne (by decide)]; exact r1 j
    try dsimp only
    rw [r2 (x4 + 1), r2 (x4 + 2)]
    refine ⟨⟨by omega, by omega⟩, ⟨by omega, by omega⟩, zEnds.imp h1 (fun b S2 h2 => u_180 ?_) (fun _ _ u => u.elim)⟩
    obtain ⟨H2, e2, r3, a1, a2, a3, a4⟩ := h2
    subst e2
    exact ⟨fun _ => ⟨fun u => absurd rfl u, fun _ => ⟨⟨Int.le_refl 0, by show 0 < L 54; omega⟩, fun _ => hn _ (Or.inl rfl) rfl r3 a4, fun u => absurd (zcmp_0.mpr (a2.trans a3.symm)) u⟩⟩, fun u => absurd a1 u⟩
  · obtain ⟨H1, k, e1, r1, hk, k0, h1⟩ := h1
    subst e1
    rw [hk]
    try dsimp only
    rw [r1 (x4 + 1), r1 (x4 + 2)]
    refine ⟨⟨by omega, by omega⟩, ⟨by omega, by omega⟩, zEnds.imp h1 (fun b S2 h2 => u_180 ?_) (fun _ _ u => u.elim)⟩
    obtain ⟨H2, e2, r3, a1, a4⟩ := h2
    subst e2
    exact ⟨fun _ => ⟨fun _ => hn _ (Or.inr rfl) rfl r3 a4, fun u => absurd k0 u⟩, fun u => absurd a1 u⟩
theorem l_8 (hx : 3 ≤ x4 ∧ x4 + 7 ≤ L (-7) ∧ L (-7) ≤ 4000) (h54 : L 54 = 1) (hX : lR X H) (hr : ∀ j, z32 (X (-7) j) = X (-7) j) (hc : zCalls P X t L H) (hn : ∀ S', (S'.1 = t ∨ S'.1 = t + 1) → S'.2.1 = L → lR X S'.2.2 → P S' → zEnds 0 287 53 [(14, (-7)), (20, 0), (29, 35), (11, 54), (0, x4 + 7), (9, 0), (9, 0), (9, 0)] [] S' Qr Qt) : zEnds 0 287 795 [(14, (-7)), (20, 0), (29, 35), (11, 54), (0, x4), (9, 0), (9, 0), (9, 0)] [] (t, L, H) Qr Qt := by
  refine u_287_795 ?_
  rw [z32_id (x := x4 + 7) (by omega) (by omega)]
  try dsimp only
  refine u_274 (zEnds.imp (hc.2.2.2.2.2.2.2.2.1) (fun v S1 h1 => ?_) (fun c S1 h1 => ?_))
  · obtain ⟨H1, e1, r1, h1⟩ := h1
    subst e1
    refine ⟨⟨Int.le_refl 0, by show 0 < L 54; omega⟩, ?_⟩
    refine zEnds.imp h1 (fun b S2 h2 => u_180 ?_) (fun _ _ u => u.elim)
    obtain ⟨H2, e2, r3, a1, a2, a3, a4⟩ := h2
    subst e2
    exact ⟨fun _ => ⟨fun u => absurd rfl u, fun _ => ⟨⟨Int.le_refl 0, by show 0 < L 54; omega⟩, fun _ => hn _ (Or.inl rfl) rfl r3 a4, fun u => absurd (zcmp_0.mpr (a2.trans a3.symm)) u⟩⟩, fun u => absurd a1 u⟩
  · obtain ⟨H1, k, e1, r1, hk, k0, h1⟩ := h1
    subst e1
    rw [hk]
    try dsimp only
    refine zEnds.imp h1 (fun b S2 h2 => u_180 ?_) (fun _ _ u => u.elim)
    obtain ⟨H2, e2, r3, a1, a4⟩ := h2
    subst e2
    exact ⟨fun _ => ⟨fun _ => hn _ (Or.inr rfl) rfl r3 a4, fun u => absurd k0 u⟩, fun u => absurd a1 u⟩
theorem l_9 (hx : 3 ≤ x4 ∧ x4 + 7 ≤ L (-7) ∧ L (-7) ≤ 4000) (h54 : L 54 = 1) (hX : lR X H) (hr : ∀ j, z32 (X (-7) j) = X (-7) j) (hc : zCalls P X t L H) (hn : ∀ S', (S'.1 = t ∨ S'.1 = t + 1) → S'.2.1 = L → lR X S'.2.2 → P S' → zEnds 0 287 53 [(14, (-7)), (20, 0), (29, 35), (11, 54), (0, x4 + 7), (9, 0), (9, 0), (9, 0)] [] S' Qr Qt) : zEnds 0 287 839 [(14, (-7)), (20, 0), (29, 35), (11, 54), (0, x4), (9, 0), (9, 0), (9, 0)] [] (t, L, H) Qr Qt := by
  refine u_287_839 ?_
  rw [z32_id (x := x4 + 1) (by omega) (by omega), z32_id (x := x4 + 7) (by omega) (by omega)]
  try dsimp only
  rw [hX (x4 + 1)]
  refine ⟨⟨by omega, by omega⟩, u_275 (zEnds.imp (hc.2.2.2.2.2.2.2.2.2.1 _ (hr _)) (fun v S1 h1 => ?_) (fun c S1 h1 => ?_))⟩
  · obtain ⟨H1, e1, r1, h1⟩ := h1
    subst e1
    have r2 : lR X H1 := r1
    try dsimp only
    rw [r2 (x4 + 1)]
    refine ⟨⟨by omega, by omega⟩, zEnds.imp h1 (fun b S2 h2 => u_180 ?_) (fun _ _ u => u.elim)⟩
    obtain ⟨H2, e2, r3, a1, a4⟩ := h2
    subst e2
    exact ⟨fun _ => hn _ (Or.inl rfl) rfl r3 a4, fun u => absurd a1 u⟩
  · obtain ⟨H1, k, e1, r1, hk, k0, h1⟩ := h1
    subst e1
    rw [hk]
    try dsimp only
    rw [r1 (x4 + 1)]
    refine ⟨⟨by omega, by omega⟩, zEnds.imp h1 (fun b S2 h2 => u_180 ?_) (fun _ _ u => u.elim)⟩
    obtain ⟨H2, e2, r3, a1, a4⟩ := h2
    subst e2
    exact ⟨fun _ => hn _ (Or.inr rfl) rfl r3 a4, fun u => absurd a1 u⟩
theorem l_10 (hx : 3 ≤ x4 ∧ x4 + 7 ≤ L (-7) ∧ L (-7) ≤ 4000) (h54 : L 54 = 1) (hX : lR X H) (hr : ∀ j, z32 (X (-7) j) = X (-7) j) (hc : zCalls P X t L H) (hn : ∀ S', (S'.1 = t ∨ S'.1 = t + 1) → S'.2.1 = L → lR X S'.2.2 → P S' → zEnds 0 287 53 [(14, (-7)), (20, 0), (29, 35), (11, 54), (0, x4 + 7), (9, 0), (9, 0), (9, 0)] [] S' Qr Qt) : zEnds 0 287 875 [(14, (-7)), (20, 0), (29, 35), (11, 54), (0, x4), (9, 0), (9, 0), (9, 0)] [] (t, L, H) Qr Qt := by
  refine u_287_875 ?_
  rw [z32_id (x := x4 + 7) (by omega) (by omega)]
  try dsimp only
  refine u_276 (zEnds.imp (hc.2.2.2.2.2.2.2.2.2.2.1) (fun v S1 h1 => ?_) (fun c S1 h1 => ?_))
  · obtain ⟨H1, e1, r1, h1⟩ := h1
    subst e1
    refine zEnds.imp h1 (fun b S2 h2 => u_180 ?_) (fun _ _ u => u.elim)
    obtain ⟨H2, e2, r3, a1, a4⟩ := h2
    subst e2
    exact ⟨fun _ => hn _ (Or.inl rfl) rfl r3 a4, fun u => absurd a1 u⟩
  · obtain ⟨H1, k, e1, r1, hk, k0, h1⟩ := h1
    subst e1
    rw [hk]
    try dsimp only
    refine zEnds.imp h1 (fun b S2 h2 => u_180 ?_) (fun _ _ u => u.elim)
    obtain ⟨H2, e2, r3, a1, a4⟩ := h2
    subst e2
    exact ⟨fun _ => hn _ (Or.inr rfl) rfl r3 a4, fun u => absurd a1 u⟩
theorem l_11 (hx : 3 ≤ x4 ∧ x4 + 7 ≤ L (-7) ∧ L (-7) ≤ 4000) (h54 : L 54 = 1) (hX : lR X H) (hr : ∀ j, z32 (X (-7) j) = X (-7) j) (hc : zCalls P X t L H) (hn : ∀ S', (S'.1 = t ∨ S'.1 = t + 1) → S'.2.1 = L → lR X S'.2.2 → P S' → zEnds 0 287 53 [(14, (-7)), (20, 0), (29, 35), (11, 54), (0, x4 + 7), (9, 0), (9, 0), (9, 0)] [] S' Qr Qt) : zEnds 0 287 899 [(14, (-7)), (20, 0), (29, 35), (11, 54), (0, x4), (9, 0), (9, 0), (9, 0)] [] (t, L, H) Qr Qt := by
  refine u_287_899 ?_
  rw [z32_id (x := x4 + 7) (by omega) (by omega)]
  try dsimp only
  refine u_277 (zEnds.imp (hc.2.2.2.2.2.2.2.2.2.2.2.1) (fun v S1 h1 => ?_) (fun c S1 h1 => ?_))
  · obtain ⟨H1, e1, r1, vb, h1⟩ := h1
    subst e1
    rcases vb with vb | vb
    · subst vb
      refine ⟨fun _ => ⟨⟨Int.le_refl 0, by show 0 < L 54; omega⟩, ?_⟩, fun u => absurd rfl u⟩
      refine zEnds.imp h1 (fun b S2 h2 => u_180 ?_) (fun _ _ u => u.elim)
      obtain ⟨H2, e2, r3, a1, a2, a3, a4⟩ := h2
      subst e2
      exact ⟨fun _ => ⟨fun u => absurd rfl u, fun _ => ⟨⟨Int.le_refl 0, by show 0 < L 54; omega⟩, fun _ => ⟨fun _ => hn _ (Or.inl rfl) rfl r3 a4, fun u => absurd (zcmp_0.mpr a2) u⟩, fun u => absurd a3 u⟩⟩, fun u => absurd a1 u⟩
    · subst vb
      refine ⟨fun u => absurd u (by decide), fun _ => ⟨⟨Int.le_refl 0, by show 0 < L 54; omega⟩, ?_⟩⟩
      refine zEnds.imp h1 (fun b S2 h2 => u_180 ?_) (fun _ _ u => u.elim)
      obtain ⟨H2, e2, r3, a1, a2, a3, a4⟩ := h2
      subst e2
      exact ⟨fun _ => ⟨fun u => absurd rfl u, fun _ => ⟨⟨Int.le_refl 0, by show 0 < L 54; omega⟩, fun u => by omega, fun _ => ⟨fun _ => hn _ (Or.inl rfl) rfl r3 a4, fun u => absurd (zcmp_0.mpr a2) u⟩⟩⟩, fun u => absurd a1 u⟩
  · obtain ⟨H1, k, e1, r1, hk, k0, h1⟩ := h1
    subst e1
    rw [hk]
    try dsimp only
    refine zEnds.imp h1 (fun b S2 h2 => u_180 ?_) (fun _ _ u => u.elim)
    obtain ⟨H2, e2, r3, a1, a4⟩ := h2
    subst e2
    exact ⟨fun _ => ⟨fun _ => hn _ (Or.inr rfl) rfl r3 a4, fun u => absurd k0 u⟩, fun u => absurd a1 u⟩
theorem l_12 (hx : 3 ≤ x4 ∧ x4 + 7 ≤ L (-7) ∧ L (-7) ≤ 4000) (h54 : L 54 = 1) (hX : lR X H) (hr : ∀ j, z32 (X (-7) j) = X (-7) j) (hc : zCalls P X t L H) (hn : ∀ S', (S'.1 = t ∨ S'.1 = t + 1) → S'.2.1 = L → lR X S'.2.2 → P S' → zEnds 0 287 53 [(14, (-7)), (20, 0), (29, 35), (11, 54), (0, x4 + 7), (9, 0), (9, 0), (9, 0)] [] S' Qr Qt) : zEnds 0 287 950 [(14, (-7)), (20, 0), (29, 35), (11, 54), (0, x4), (9, 0), (9, 0), (9, 0)] [] (t, L, H) Qr Qt := by
  refine u_287_950 ?_
  rw [z32_id (x := x4 + 1) (by omega) (by omega), z32_id (x := x4 + 7) (by omega) (by omega)]
  try dsimp only
  rw [hX (x4 + 1)]
  refine ⟨⟨by omega, by omega⟩, u_278 (zEnds.imp (hc.2.2.2.2.2.2.2.2.2.2.2.2.1 _ (hr _)) (fun v S1 h1 => ?_) (fun c S1 h1 => ?_))⟩
  · obtain ⟨H1, e1, r1, vb, h1⟩ := h1
    subst e1
    rcases vb with vb | vb
    · subst vb
      refine ⟨fun _ => ⟨⟨Int.le_refl 0, by show 0 < L 54; omega⟩, ?_⟩, fun u => absurd rfl u⟩
      have r2 : lR X (zupd H1 54 0 0) := fun j => by rw [zupd_ne (by decide)]; exact r1 j
      try dsimp only
      rw [r2 (x4 + 1)]
      refine ⟨⟨by omega, by omega⟩, zEnds.imp h1 (fun b S2 h2 => u_180 ?_) (fun _ _ u => u.elim)⟩
      obtain ⟨H2, e2, r3, a1, a2, a3, a4⟩ := h2
      subst e2
      exact ⟨fun _ => ⟨fun u => absurd rfl u, fun _ => ⟨⟨Int.le_refl 0, by show 0 < L 54; omega⟩, fun _ => ⟨fun _ => hn _ (Or.inl rfl) rfl r3 a4, fun u => absurd (zcmp_0.mpr a2) u⟩, fun u => absurd a3 u⟩⟩, fun u => absurd a1 u⟩
    · subst vb
      refine ⟨fun u => absurd u (by decide), fun _ => ⟨⟨Int.le_refl 0, by show 0 < L 54; omega⟩, ?_⟩⟩
      have r2 : lR X (zupd H1 54 0 1) := fun j => by rw [zupd_ne (by decide)]; exact r1 j
      try dsimp only
      rw [r2 (x4 + 1)]
      refine ⟨⟨by omega, by omega⟩, zEnds.imp h1 (fun b S2 h2 => u_180 ?_) (fun _ _ u => u.elim)⟩
      obtain ⟨H2, e2, r3, a1, a2, a3, a4⟩ := h2
      subst e2
      exact ⟨fun _ => ⟨fun u => absurd rfl u, fun _ => ⟨⟨Int.le_refl 0, by show 0 < L 54; omega⟩, fun u => by omega, fun _ => ⟨fun _ => hn _ (Or.inl rfl) rfl r3 a4, fun u => absurd (zcmp_0.mpr a2) u⟩⟩⟩, fun u => absurd a1 u⟩
  · obtain ⟨H1, k, e1, r1, hk, k0, h1⟩ := h1
    subst e1
    rw [hk]
    try dsimp only
    rw [r1 (x4 + 1)]
    refine ⟨⟨by omega, by omega⟩, zEnds.imp h1 (fun b S2 h2 => u_180 ?_) (fun _ _ u => u.elim)⟩
    obtain ⟨H2, e2, r3, a1, a4⟩ := h2
    subst e2
    exact ⟨fun _ => ⟨fun _ => hn _ (Or.inr rfl) rfl r3 a4, fun u => absurd k0 u⟩, fun u => absurd a1 u⟩
theorem l_13 (hx : 3 ≤ x4 ∧ x4 + 7 ≤ L (-7) ∧ L (-7) ≤ 4000) (h54 : L 54 = 1) (hX : lR X H) (hr : ∀ j, z32 (X (-7) j) = X (-7) j) (hc : zCalls P X t L H) (hn : ∀ S', (S'.1 = t ∨ S'.1 = t + 1) → S'.2.1 = L → lR X S'.2.2 → P S' → zEnds 0 287 53 [(14, (-7)), (20, 0), (29, 35), (11, 54), (0, x4 + 7), (9, 0), (9, 0), (9, 0)] [] S' Qr Qt) : zEnds 0 287 1013 [(14, (-7)), (20, 0), (29, 35), (11, 54), (0, x4), (9, 0), (9, 0), (9, 0)] [] (t, L, H) Qr Qt := by
  refine u_287_1013 ?_
  rw [z32_id (x := x4 + 1) (by omega) (by omega), z32_id (x := x4 + 7) (by omega) (by omega)]
  try dsimp only
  rw [hX (x4 + 1)]
  refine ⟨⟨by omega, by omega⟩, u_279 (zEnds.imp (hc.2.2.2.2.2.2.2.2.2.2.2.2.2.1 _ (hr _)) (fun v S1 h1 => ?_) (fun c S1 h1 => ?_))⟩
  · obtain ⟨H1, e1, r1, vb, h1⟩ := h1
    subst e1
    rcases vb with vb | vb
    · subst vb
      refine ⟨fun _ => ⟨⟨Int.le_refl 0, by show 0 < L 54; omega⟩, ?_⟩, fun u => absurd rfl u⟩
      have r2 : lR X (zupd H1 54 0 0) := fun j => by rw [zupd_ne (by decide)]; exact r1 j
      try dsimp only
      rw [r2 (x4 + 1)]
      refine ⟨⟨by omega, by omega⟩, zEnds.imp h1 (fun b S2 h2 => u_180 ?_) (fun _ _ u => u.elim)⟩
      obtain ⟨H2, e2, r3, a1, a2, a3, a4⟩ := h2
      subst e2
      exact ⟨fun _ => ⟨fun u => absurd rfl u, fun _ => ⟨⟨Int.le_refl 0, by show 0 < L 54; omega⟩, fun _ => ⟨fun _ => hn _ (Or.inl rfl) rfl r3 a4, fun u => absurd (zcmp_0.mpr a2) u⟩, fun u => absurd a3 u⟩⟩, fun u => absurd a1 u⟩
    · subst vb
      refine ⟨fun u => absurd u (by decide), fun _ => ⟨⟨Int.le_refl 0, by show 0 < L 54; omega⟩, ?_⟩⟩
      have r2 : lR X (zupd H1 54 0 1) := fun j => by rw [zupd_ne (by decide)]; exact r1 j
      try dsimp only
      rw [r2 (x4 + 1)]
      refine ⟨⟨by omega, by omega⟩, zEnds.imp h1 (fun b S2 h2 => u_180 ?_) (fun _ _ u => u.elim)⟩
      obtain ⟨H2, e2, r3, a1, a2, a3, a4⟩ := h2
      subst e2
      exact ⟨fun _ => ⟨fun u => absurd rfl u, fun _ => ⟨⟨Int.le_refl 0, by show 0 < L 54; omega⟩, fun u => by omega, fun _ => ⟨fun _ => hn _ (Or.inl rfl) rfl r3 a4, fun u => absurd (zcmp_0.mpr a2) u⟩⟩⟩, fun u => absurd a1 u⟩
  · obtain ⟨H1, k, e1, r1, hk, k0, h1⟩ := h1
    subst e1
    rw [hk]
    try dsimp only
    rw [r1 (x4 + 1)]
    refine ⟨⟨by omega, by omega⟩, zEnds.imp h1 (fun b S2 h2 => u_180 ?_) (fun _ _ u => u.elim)⟩
    obtain ⟨H2, e2, r3, a1, a4⟩ := h2
    subst e2
    exact ⟨fun _ => ⟨fun _ => hn _ (Or.inr rfl) rfl r3 a4, fun u => absurd k0 u⟩, fun u => absurd a1 u⟩
theorem l_14 (hx : 3 ≤ x4 ∧ x4 + 7 ≤ L (-7) ∧ L (-7) ≤ 4000) (h54 : L 54 = 1) (hX : lR X H) (hr : ∀ j, z32 (X (-7) j) = X (-7) j) (hc : zCalls P X t L H) (hn : ∀ S', (S'.1 = t ∨ S'.1 = t + 1) → S'.2.1 = L → lR X S'.2.2 → P S' → zEnds 0 287 53 [(14, (-7)), (20, 0), (29, 35), (11, 54), (0, x4 + 7), (9, 0), (9, 0), (9, 0)] [] S' Qr Qt) : zEnds 0 287 1076 [(14, (-7)), (20, 0), (29, 35), (11, 54), (0, x4), (9, 0), (9, 0), (9, 0)] [] (t, L, H) Qr Qt := by
  refine u_287_1076 ?_
  rw [z32_id (x := x4 + 1) (by omega) (by omega), z32_id (x := x4 + 2) (by omega) (by omega), z32_id (x := x4 + 3) (by omega) (by omega), z32_id (x := x4 + 4) (by omega) (by omega), z32_id (x := x4 + 5) (by omega) (by omega), z32_id (x := x4 + 6) (by omega) (by omega), z32_id (x := x4 + 7) (by omega) (by omega)]
  try dsimp only
  rw [hX (x4 + 1), hX (x4 + 2), hX (x4 + 3), hX (x4 + 4), hX (x4 + 5), hX (x4 + 6)]
  refine ⟨⟨by omega, by omega⟩, ⟨by omega, by omega⟩, ⟨by omega, by omega⟩, ⟨by omega, by omega⟩, ⟨by omega, by omega⟩, ⟨by omega, by omega⟩, u_280 (zEnds.imp (hc.2.2.2.2.2.2.2.2.2.2.2.2.2.2.1 _ _ _ _ _ (hr _) (hr _) (hr _) (hr _) (z64_toInt _)) (fun v S1 h1 => ?_) (fun c S1 h1 => ?_))⟩
  · obtain ⟨H1, e1, r1, vb, h1⟩ := h1
    subst e1
    rcases vb with vb | vb
    · subst vb
      refine ⟨fun _ => ⟨⟨Int.le_refl 0, by show 0 < L 54; omega⟩, ?_⟩, fun u => absurd rfl u⟩
      have r2 : lR X (zupd H1 54 0 0) := fun j => by rw [zupd_ne (by decide)]; exact r1 j
      try dsimp only
      rw [r2 (x4 + 1), r2 (x4 + 2), r2 (x4 + 3), r2 (x4 + 4), r2 (x4 + 5), r2 (x4 + 6)]
      refine ⟨⟨by omega, by omega⟩, ⟨by omega, by omega⟩, ⟨by omega, by omega⟩, ⟨by omega, by omega⟩, ⟨by omega, by omega⟩, ⟨by omega, by omega⟩, zEnds.imp h1 (fun b S2 h2 => u_180 ?_) (fun _ _ u => u.elim)⟩
      obtain ⟨H2, e2, r3, a1, a2, a3, a4⟩ := h2
      subst e2
      exact ⟨fun _ => ⟨fun u => absurd rfl u, fun _ => ⟨⟨Int.le_refl 0, by show 0 < L 54; omega⟩, fun _ => ⟨fun _ => hn _ (Or.inl rfl) rfl r3 a4, fun u => absurd (zcmp_0.mpr a2) u⟩, fun u => absurd a3 u⟩⟩, fun u => absurd a1 u⟩
    · subst vb
      refine ⟨fun u => absurd u (by decide), fun _ => ⟨⟨Int.le_refl 0, by show 0 < L 54; omega⟩, ?_⟩⟩
      have r2 : lR X (zupd H1 54 0 1) := fun j => by rw [zupd_ne (by decide)]; exact r1 j
      try dsimp only
      rw [r2 (x4 + 1), r2 (x4 + 2), r2 (x4 + 3), r2 (x4 + 4), r2 (x4 + 5), r2 (x4 + 6)]
      refine ⟨⟨by omega, by omega⟩, ⟨by omega, by omega⟩, ⟨by omega, by omega⟩, ⟨by omega, by omega⟩, ⟨by omega, by omega⟩, ⟨by omega, by omega⟩, zEnds.imp h1 (fun b S2 h2 => u_180 ?_) (fun _ _ u => u.elim)⟩
      obtain ⟨H2, e2, r3, a1, a2, a3, a4⟩ := h2
      subst e2
      exact ⟨fun _ => ⟨fun u => absurd rfl u, fun _ => ⟨⟨Int.le_refl 0, by show 0 < L 54; omega⟩, fun u => by omega, fun _ => ⟨fun _ => hn _ (Or.inl rfl) rfl r3 a4, fun u => absurd (zcmp_0.mpr a2) u⟩⟩⟩, fun u => absurd a1 u⟩
  · obtain ⟨H1, k, e1, r1, hk, k0, h1⟩ := h1
    subst e1
    rw [hk]
    try dsimp only
    rw [r1 (x4 + 1), r1 (x4 + 2), r1 (x4 + 3), r1 (x4 + 4), r1 (x4 + 5), r1 (x4 + 6)]
    refine ⟨⟨by omega, by omega⟩, ⟨by omega, by omega⟩, ⟨by omega, by omega⟩, ⟨by omega, by omega⟩, ⟨by omega, by omega⟩, ⟨by omega, by omega⟩, zEnds.imp h1 (fun b S2 h2 => u_180 ?_) (fun _ _ u => u.elim)⟩
    obtain ⟨H2, e2, r3, a1, a4⟩ := h2
    subst e2
    exact ⟨fun _ => ⟨fun _ => hn _ (Or.inr rfl) rfl r3 a4, fun u => absurd k0 u⟩, fun u => absurd a1 u⟩
theorem l_15 (hx : 3 ≤ x4 ∧ x4 + 7 ≤ L (-7) ∧ L (-7) ≤ 4000) (h54 : L 54 = 1) (hX : lR X H) (hr : ∀ j, z32 (X (-7) j) = X (-7) j) (hc : zCalls P X t L H) (hn : ∀ S', (S'.1 = t ∨ S'.1 = t + 1) → S'.2.1 = L → lR X S'.2.2 → P S' → zEnds 0 287 53 [(14, (-7)), (20, 0), (29, 35), (11, 54), (0, x4 + 7), (9, 0), (9, 0), (9, 0)] [] S' Qr Qt) : zEnds 0 287 1221 [(14, (-7)), (20, 0), (29, 35), (11, 54), (0, x4), (9, 0), (9, 0), (9, 0)] [] (t, L, H) Qr Qt := by
  refine u_287_1221 ?_
  rw [z32_id (x := x4 + 7) (by omega) (by omega)]
  try dsimp only
  refine u_281 (zEnds.imp (hc.2.2.2.2.2.2.2.2.2.2.2.2.2.2.2.1) (fun v S1 h1 => ?_) (fun c S1 h1 => ?_))
  · obtain ⟨H1, e1, r1, h1⟩ := h1
    subst e1
    refine ⟨⟨Int.le_refl 0, by show 0 < L 54; omega⟩, ?_⟩
    refine zEnds.imp h1 (fun b S2 h2 => u_180 ?_) (fun _ _ u => u.elim)
    obtain ⟨H2, e2, r3, a1, a2, a3, a4⟩ := h2
    subst e2
    exact ⟨fun _ => ⟨fun u => absurd rfl u, fun _ => ⟨⟨Int.le_refl 0, by show 0 < L 54; omega⟩, fun _ => hn _ (Or.inl rfl) rfl r3 a4, fun u => absurd (zcmp_0.mpr (a2.trans a3.symm)) u⟩⟩, fun u => absurd a1 u⟩
  · obtain ⟨H1, k, e1, r1, hk, k0, h1⟩ := h1
    subst e1
    rw [hk]
    try dsimp only
    refine zEnds.imp h1 (fun b S2 h2 => u_180 ?_) (fun _ _ u => u.elim)
    obtain ⟨H2, e2, r3, a1, a4⟩ := h2
    subst e2
    exact ⟨fun _ => ⟨fun _ => hn _ (Or.inr rfl) rfl r3 a4, fun u => absurd k0 u⟩, fun u => absurd a1 u⟩
theorem l_16 (hx : 3 ≤ x4 ∧ x4 + 7 ≤ L (-7) ∧ L (-7) ≤ 4000) (h54 : L 54 = 1) (hX : lR X H) (hr : ∀ j, z32 (X (-7) j) = X (-7) j) (hc : zCalls P X t L H) (hn : ∀ S', (S'.1 = t ∨ S'.1 = t + 1) → S'.2.1 = L → lR X S'.2.2 → P S' → zEnds 0 287 53 [(14, (-7)), (20, 0), (29, 35), (11, 54), (0, x4 + 7), (9, 0), (9, 0), (9, 0)] [] S' Qr Qt) : zEnds 0 287 1265 [(14, (-7)), (20, 0), (29, 35), (11, 54), (0, x4), (9, 0), (9, 0), (9, 0)] [] (t, L, H) Qr Qt := by
  refine u_287_1265 ?_
  rw [z32_id (x := x4 + 7) (by omega) (by omega)]
  try dsimp only
  refine u_282 (zEnds.imp (hc.2.2.2.2.2.2.2.2.2.2.2.2.2.2.2.2.1) (fun v S1 h1 => ?_) (fun c S1 h1 => ?_))
  · obtain ⟨H1, e1, r1, h1⟩ := h1
    subst e1
    refine ⟨⟨Int.le_refl 0, by show 0 < L 54; omega⟩, ?_⟩
    refine zEnds.imp h1 (fun b S2 h2 => u_180 ?_) (fun _ _ u => u.elim)
    obtain ⟨H2, e2, r3, a1, a2, a3, a4⟩ := h2
    subst e2
    exact ⟨fun _ => ⟨fun u => absurd rfl u, fun _ => ⟨⟨Int.le_refl 0, by show 0 < L 54; omega⟩, fun _ => hn _ (Or.inl rfl) rfl r3 a4, fun u => absurd (zcmp_0.mpr (a2.trans a3.symm)) u⟩⟩, fun u => absurd a1 u⟩
  · obtain ⟨H1, k, e1, r1, hk, k0, h1⟩ := h1
    subst e1
    rw [hk]
    try dsimp only
    refine zEnds.imp h1 (fun b S2 h2 => u_180 ?_) (fun _ _ u => u.elim)
    obtain ⟨H2, e2, r3, a1, a4⟩ := h2
    subst e2
    exact ⟨fun _ => ⟨fun _ => hn _ (Or.inr rfl) rfl r3 a4, fun u => absurd k0 u⟩, fun u => absurd a1 u⟩
theorem l_17 (hx : 3 ≤ x4 ∧ x4 + 7 ≤ L (-7) ∧ L (-7) ≤ 4000) (h54 : L 54 = 1) (hX : lR X H) (hr : ∀ j, z32 (X (-7) j) = X (-7) j) (hc : zCalls P X t L H) (hn : ∀ S', (S'.1 = t ∨ S'.1 = t + 1) → S'.2.1 = L → lR X S'.2.2 → P S' → zEnds 0 287 53 [(14, (-7)), (20, 0), (29, 35), (11, 54), (0, x4 + 7), (9, 0), (9, 0), (9, 0)] [] S' Qr Qt) : zEnds 0 287 1309 [(14, (-7)), (20, 0), (29, 35), (11, 54), (0, x4), (9, 0), (9, 0), (9, 0)] [] (t, L, H) Qr Qt := by
  refine u_287_1309 ?_
  rw [z32_id (x := x4 + 7) (by omega) (by omega)]
  try dsimp only
  refine u_283 (zEnds.imp (hc.2.2.2.2.2.2.2.2.2.2.2.2.2.2.2.2.2.1) (fun v S1 h1 => ?_) (fun c S1 h1 => ?_))
  · obtain ⟨H1, e1, r1, h1⟩ := h1
    subst e1
    refine ⟨⟨Int.le_refl 0, by show 0 < L 54; omega⟩, ?_⟩
    refine zEnds.imp h1 (fun b S2 h2 => u_180 ?_) (fun _ _ u => u.elim)
    obtain ⟨H2, e2, r3, a1, a2, a3, a4⟩ := h2
    subst e2
    exact ⟨fun _ => ⟨fun u => absurd rfl u, fun _ => ⟨⟨Int.le_refl 0, by show 0 < L 54; omega⟩, fun _ => hn _ (Or.inl rfl) rfl r3 a4, fun u => absurd (zcmp_0.mpr (a2.trans a3.symm)) u⟩⟩, fun u => absurd a1 u⟩
  · obtain ⟨H1, k, e1, r1, hk, k0, h1⟩ := h1
    subst e1
    rw [hk]
    try dsimp only
    refine zEnds.imp h1 (fun b S2 h2 => u_180 ?_) (fun _ _ u => u.elim)
    obtain ⟨H2, e2, r3, a1, a4⟩ := h2
    subst e2
    exact ⟨fun _ => ⟨fun _ => hn _ (Or.inr rfl) rfl r3 a4, fun u => absurd k0 u⟩, fun u => absurd a1 u⟩
theorem l_18 (hx : 3 ≤ x4 ∧ x4 + 7 ≤ L (-7) ∧ L (-7) ≤ 4000) (h54 : L 54 = 1) (hX : lR X H) (hr : ∀ j, z32 (X (-7) j) = X (-7) j) (hc : zCalls P X t L H) (hn : ∀ S', (S'.1 = t ∨ S'.1 = t + 1) → S'.2.1 = L → lR X S'.2.2 → P S' → zEnds 0 287 53 [(14, (-7)), (20, 0), (29, 35), (11, 54), (0, x4 + 7), (9, 0), (9, 0), (9, 0)] [] S' Qr Qt) : zEnds 0 287 1353 [(14, (-7)), (20, 0), (29, 35), (11, 54), (0, x4), (9, 0), (9, 0), (9, 0)] [] (t, L, H) Qr Qt := by
  refine u_287_1353 ?_
  rw [z32_id (x := x4 + 1) (by omega) (by omega), z32_id (x := x4 + 2) (by omega) (by omega), z32_id (x := x4 + 7) (by omega) (by omega)]
  try dsimp only
  rw [hX (x4 + 1), hX (x4 + 2)]
  refine ⟨⟨by omega, by omega⟩, ⟨by omega, by omega⟩, u_284 (zEnds.imp (hc.2.2.2.2.2.2.2.2.2.2.2.2.2.2.2.2.2.2.1 _ _ (hr _) (hr _)) (fun v S1 h1 => ?_) (fun c S1 h1 => ?_))⟩
  · obtain ⟨H1, e1, r1, h1⟩ := h1
    subst e1
    refine ⟨⟨Int.le_refl 0, by show 0 < L 54; omega⟩, ?_⟩
    have r2 : lR X (zupd H1 54 0 v) := fun j => by rw [zupd_ne (by decide)]; exact r1 j
    try dsimp only
    rw [r2 (x4 + 1), r2 (x4 + 2)]
    refine ⟨⟨by omega, by omega⟩, ⟨by omega, by omega⟩, zEnds.imp h1 (fun b S2 h2 => u_180 ?_) (fun _ _ u => u.elim)⟩
    obtain ⟨H2, e2, r3, a1, a2, a3, a4⟩ := h2
    subst e2
    exact ⟨fun _ => ⟨fun u => absurd rfl u, fun _ => ⟨⟨Int.le_refl 0, by show 0 < L 54; omega⟩, fun _ => hn _ (Or.inl rfl) rfl r3 a4, fun u => absurd (zcmp_0.mpr (a2.trans a3.symm)) u⟩⟩, fun u => absurd a1 u⟩
  · obtain ⟨H1, k, e1, r1, hk, k0, h1⟩ := h1
    subst e1
    rw [hk]
    try dsimp only
    rw [r1 (x4 + 1), r1 (x4 + 2)]
    refine ⟨⟨by omega, by omega⟩, ⟨by omega, by omega⟩, zEnds.imp h1 (fun b S2 h2 => u_180 ?_) (fun _ _ u => u.elim)⟩
    obtain ⟨H2, e2, r3, a1, a4⟩ := h2
    subst e2
    exact ⟨fun _ => ⟨fun _ => hn _ (Or.inr rfl) rfl r3 a4, fun u => absurd k0 u⟩, fun u => absurd a1 u⟩
theorem l_19 (hx : 3 ≤ x4 ∧ x4 + 7 ≤ L (-7) ∧ L (-7) ≤ 4000) (h54 : L 54 = 1) (hX : lR X H) (hr : ∀ j, z32 (X (-7) j) = X (-7) j) (hc : zCalls P X t L H) (hn : ∀ S', (S'.1 = t ∨ S'.1 = t + 1) → S'.2.1 = L → lR X S'.2.2 → P S' → zEnds 0 287 53 [(14, (-7)), (20, 0), (29, 35), (11, 54), (0, x4 + 7), (9, 0), (9, 0), (9, 0)] [] S' Qr Qt) : zEnds 0 287 1421 [(14, (-7)), (20, 0), (29, 35), (11, 54), (0, x4), (9, 0), (9, 0), (9, 0)] [] (t, L, H) Qr Qt := by
  refine u_287_1421 ?_
  rw [z32_id (x := x4 + 1) (by omega) (by omega), z32_id (x := x4 + 2) (by omega) (by omega), z32_id (x := x4 + 7) (by omega) (by omega)]
  try dsimp only
  rw [hX (x4 + 1), hX (x4 + 2)]
  refine ⟨⟨by omega, by omega⟩, ⟨by omega, by omega⟩, u_285 (zEnds.imp (hc.2.2.2.2.2.2.2.2.2.2.2.2.2.2.2.2.2.2.2.1 _ _ (hr _) (hr _)) (fun v S1 h1 => ?_) (fun c S1 h1 => ?_))⟩
  · obtain ⟨H1, e1, r1, h1⟩ := h1
    subst e1
    refine ⟨⟨Int.le_refl 0, by show 0 < L 54; omega⟩, ?_⟩
    have r2 : lR X (zupd H1 54 0 v) := fun j => by rw [zupd_ne (by decide)]; exact r1 j
    try dsimp only
    rw [r2 (x4 + 1), r2 (x4 + 2)]
    refine ⟨⟨by omega, by omega⟩, ⟨by omega, by omega⟩, zEnds.imp h1 (fun b S2 h2 => u_180 ?_) (fun _ _ u => u.elim)⟩
    obtain ⟨H2, e2, r3, a1, a2, a3, a4⟩ := h2
    subst e2
    exact ⟨fun _ => ⟨fun u => absurd rfl u, fun _ => ⟨⟨Int.le_refl 0, by show 0 < L 54; omega⟩, fun _ => hn _ (Or.inl rfl) rfl r3 a4, fun u => absurd (zcmp_0.mpr (a2.trans a3.symm)) u⟩⟩, fun u => absurd a1 u⟩
  · obtain ⟨H1, k, e1, r1, hk, k0, h1⟩ := h1
    subst e1
    rw [hk]
    try dsimp only
    rw [r1 (x4 + 1), r1 (x4 + 2)]
    refine ⟨⟨by omega, by omega⟩, ⟨by omega, by omega⟩, zEnds.imp h1 (fun b S2 h2 => u_180 ?_) (fun _ _ u => u.elim)⟩
    obtain ⟨H2, e2, r3, a1, a4⟩ := h2
    subst e2
    exact ⟨fun _ => ⟨fun _ => hn _ (Or.inr rfl) rfl r3 a4, fun u => absurd k0 u⟩, fun u => absurd a1 u⟩
theorem l_20 (hx : 3 ≤ x4 ∧ x4 + 7 ≤ L (-7) ∧ L (-7) ≤ 4000) (h54 : L 54 = 1) (hX : lR X H) (hr : ∀ j, z32 (X (-7) j) = X (-7) j) (hc : zCalls P X t L H) (hn : ∀ S', (S'.1 = t ∨ S'.1 = t + 1) → S'.2.1 = L → lR X S'.2.2 → P S' → zEnds 0 287 53 [(14, (-7)), (20, 0), (29, 35), (11, 54), (0, x4 + 7), (9, 0), (9, 0), (9, 0)] [] S' Qr Qt) : zEnds 0 287 1489 [(14, (-7)), (20, 0), (29, 35), (11, 54), (0, x4), (9, 0), (9, 0), (9, 0)] [] (t, L, H) Qr Qt := by
  refine u_287_1489 ?_
  rw [z32_id (x := x4 + 1) (by omega) (by omega), z32_id (x := x4 + 7) (by omega) (by omega)]
  try dsimp only
  rw [hX (x4 + 1)]
  refine ⟨⟨by omega, by omega⟩, u_286 (zEnds.imp (hc.2.2.2.2.2.2.2.2.2.2.2.2.2.2.2.2.2.2.2.2 _ (hr _)) (fun v S1 h1 => ?_) (fun c S1 h1 => ?_))⟩
  · obtain ⟨H1, e1, r1, h1⟩ := h1
    subst e1
    refine ⟨⟨Int.le_refl 0, by show 0 < L 54; omega⟩, ?_⟩
    have r2 : lR X (zupd H1 54 0 v) := fun j => by rw [zupd_ne (by decide)]; exact r1 j
    try dsimp only
    rw [r2 (x4 + 1)]
    refine ⟨⟨by omega, by omega⟩, zEnds.imp h1 (fun b S2 h2 => u_180 ?_) (fun _ _ u => u.elim)⟩
    obtain ⟨H2, e2, r3, a1, a2, a3, a4⟩ := h2
    subst e2
    exact ⟨fun _ => ⟨fun u => absurd rfl u, fun _ => ⟨⟨Int.le_refl 0, by show 0 < L 54; omega⟩, fun _ => hn _ (Or.inl rfl) rfl r3 a4, fun u => absurd (zcmp_0.mpr (a2.trans a3.symm)) u⟩⟩, fun u => absurd a1 u⟩
  · obtain ⟨H1, k, e1, r1, hk, k0, h1⟩ := h1
    subst e1
    rw [hk]
    try dsimp only
    rw [r1 (x4 + 1)]
    refine ⟨⟨by omega, by omega⟩, zEnds.imp h1 (fun b S2 h2 => u_180 ?_) (fun _ _ u => u.elim)⟩
    obtain ⟨H2, e2, r3, a1, a4⟩ := h2
    subst e2
    exact ⟨fun _ => ⟨fun _ => hn _ (Or.inr rfl) rfl r3 a4, fun u => absurd k0 u⟩, fun u => absurd a1 u⟩
end LAWCASES
