/-! Time does not go back; where all that is read is set, md does not matter. -/
def zNt (t : Nat) : zN → Prop
  | .inl (_, _, S') => t ≤ S'.1
  | _ => True
def zRt (t : Nat) : zR → Prop
  | .inl N => zNt t N
  | .inr (_, N) => zNt t N
theorem zgo_t {pc : Nat} {st : List zV} {S : zS} {t : Nat} {x : zR} (h : zgo pc st S = some x) (ht : t ≤ S.1) : zRt t x := by
  rw [← Option.some.inj h]
  exact ht
theorem zgg_t {g : Prop} {pc : Nat} {st : List zV} {S : zS} {t : Nat} {x : zR} (h : zgg g pc st S = some x) (ht : t ≤ S.1) : zRt t x := by
  rw [← Option.some.inj h]
  exact ht
theorem zbr_t {cs : List (Prop × Nat)} {d : Nat} {st : List zV} {t : Nat} {x : zR} (h : zbr cs d st = some x) : zRt t x := by
  rw [← Option.some.inj h]
  exact trivial
theorem zret_t {v : Int} {t : Nat} {x : zR} (h : zret v = some x) : zRt t x := by
  rw [← Option.some.inj h]
  exact trivial
theorem zcall_t {m r nx : Nat} {st : List zV} {S : zS} {x : zR} (h : zcall m r nx st S = some x) : zRt S.1 x := by
  unfold zcall at h
  simp only [Bool.cond_eq_ite] at h
  repeat' split at h
  all_goals first | (cases h; done) | exact zgo_t h (Nat.le_refl _) | exact zgg_t h (Nat.le_refl _) | (rw [← Option.some.inj h]; exact trivial)
theorem zfield_t {md nx r : Nat} {st : List zV} {S : zS} {x : zR} (h : zfield md nx r st S = some x) : zRt S.1 x := by
  unfold zfield at h
  simp only [Bool.cond_eq_ite] at h
  repeat' split at h
  all_goals first | (cases h; done) | exact zgo_t h (Nat.le_refl _) | exact zgg_t h (Nat.le_refl _)
theorem zputf_t {nx r : Nat} {st : List zV} {S : zS} {x : zR} (h : zputf nx r st S = some x) : zRt S.1 x := by
  unfold zputf at h
  simp only [Bool.cond_eq_ite] at h
  repeat' split at h
  all_goals first | (cases h; done) | exact zgo_t h (Nat.le_refl _) | exact zgg_t h (Nat.le_refl _) | exact zgg_t h (Nat.le_succ _)
theorem zpure_t {md m : Nat} {i : Instr} {nx r : Nat} {st : List zV} {S : zS} {x : zR} (h : zpure md m i nx r st S = some x) : zRt S.1 x := by
  unfold zpure at h
  simp only [Bool.cond_eq_ite] at h
  repeat' split at h
  all_goals first | (cases h; done) | exact zgo_t h (Nat.le_refl _) | exact zgg_t h (Nat.le_refl _) | exact zgg_t h (Nat.le_succ _) | exact zbr_t h | exact zret_t h | exact zcall_t h | exact zfield_t h | exact zputf_t h | (rw [← Option.some.inj h]; exact trivial)
theorem zpick_some {F : Nat → Option (Int × Int × zS)} {d : Nat} {r : Int × Int × zS} : ∀ {cs : List (Prop × Nat)}, zpick F d cs = some r → ∃ t, F t = some r := by
  intro cs
  induction cs with
  | nil => intro h; exact ⟨d, h⟩
  | cons q cs ih =>
    obtain ⟨c, t⟩ := q
    intro h
    have h : (@ite _ c (Classical.propDecidable c) (F t) (zpick F d cs)) = some r := h
    by_cases hc : c
    · rw [if_pos hc] at h; exact ⟨t, h⟩
    · rw [if_neg hc] at h; exact ih h
theorem zpick_md {F G : Nat → Option (Int × Int × zS)} (hFG : ∀ t r, F t = some r → G t = some r) {d : Nat} {r : Int × Int × zS} : ∀ {cs : List (Prop × Nat)}, zpick F d cs = some r → zpick G d cs = some r := by
  intro cs
  induction cs with
  | nil => intro h; exact hFG d r h
  | cons q cs ih =>
    obtain ⟨c, t⟩ := q
    intro h
    have h : (@ite _ c (Classical.propDecidable c) (F t) (zpick F d cs)) = some r := h
    show (@ite _ c (Classical.propDecidable c) (G t) (zpick G d cs)) = some r
    by_cases hc : c
    · rw [if_pos hc] at h ⊢; exact hFG t r h
    · rw [if_neg hc] at h ⊢; exact ih h
theorem zfin_time {F : Nat → Nat → List zV → List zV → zS → Option (Int × Int × zS)} (hF : ∀ m pc ls st S c v S', F m pc ls st S = some (c, v, S') → S.1 ≤ S'.1) {m nx : Nat} {ls : List zV} {S : zS} {N : zN} {T : Nat} (hT : T ≤ S.1) (hN : zNt T N) {c v : Int} {S' : zS} (h : zfin F m nx ls S N = some (c, v, S')) : T ≤ S'.1 := by
  rcases N with ⟨pc, st, S2⟩ | ⟨cs, d, st⟩ | v' | ⟨m', args, rest⟩ | c'
  · exact Nat.le_trans hN (hF m pc ls st S2 c v S' h)
  · obtain ⟨t, ht⟩ := zpick_some h
    exact Nat.le_trans hT (hF m t ls st S c v S' ht)
  · have h : some ((0 : Int), v', S) = some (c, v, S') := h
    cases h
    exact hT
  · have h : (match F m' 0 (zmkl m' args) [] S with
      | none => none
      | some (c, v, S') => if c = 0 then F m nx ls (zpush m' v rest) S' else (match zhd m c with
        | some k => some (0, k, (S'.1 + 1, S'.2))
        | none => some (c, 0, S'))) = some (c, v, S') := h
    cases e : F m' 0 (zmkl m' args) [] S with
    | none => rw [e] at h; cases h
    | some x =>
      obtain ⟨c1, v1, S1⟩ := x
      rw [e] at h
      have t1 := hF _ _ _ _ _ _ _ _ e
      dsimp only at h
      by_cases hc : c1 = 0
      · rw [if_pos hc] at h
        exact Nat.le_trans hT (Nat.le_trans t1 (hF _ _ _ _ _ _ _ _ h))
      · rw [if_neg hc] at h
        cases e2 : zhd m c1 with
        | none => rw [e2] at h; cases h; exact Nat.le_trans hT t1
        | some k => rw [e2] at h; cases h; exact Nat.le_trans hT (Nat.le_succ_of_le t1)
  · have h : some (c', (0 : Int), S) = some (c, v, S') := h
    cases h
    exact hT
theorem zone_time {md : Nat} {F : Nat → Nat → List zV → List zV → zS → Option (Int × Int × zS)} (hF : ∀ m pc ls st S c v S', F m pc ls st S = some (c, v, S') → S.1 ≤ S'.1) {m pc : Nat} {ls st : List zV} {S : zS} {c v : Int} {S' : zS} (h : zone md F m pc ls st S = some (c, v, S')) : S.1 ≤ S'.1 := by
  unfold zone at h
  split at h
  · cases h
  · split at h
    · split at h
      · cases h
      · exact hF _ _ _ _ _ _ _ _ h
    · split at h
      · cases h
      · next N e => exact zfin_time hF (Nat.le_refl _) (zpure_t e) h
      · next g N e =>
        by_cases hg : g
        · rw [if_pos hg] at h
          exact zfin_time hF (Nat.le_refl _) (zpure_t e) h
        · rw [if_neg hg] at h; cases h
theorem zex_time {md : Nat} : ∀ (n m pc : Nat) (ls st : List zV) (S : zS) (c v : Int) (S' : zS), zex md n m pc ls st S = some (c, v, S') → S.1 ≤ S'.1 := by
  intro n
  induction n with
  | zero => intro m pc ls st S c v S' h; cases h
  | succ n ih => intro m pc ls st S c v S' h; exact zone_time (fun m pc ls st S c v S' h => ih m pc ls st S c v S' h) h
theorem zfin_md {T : Nat} {F G : Nat → Nat → List zV → List zV → zS → Option (Int × Int × zS)} (hF : ∀ m pc ls st S c v S', F m pc ls st S = some (c, v, S') → S.1 ≤ S'.1) (hFG : ∀ m pc ls st S r, T ≤ S.1 → F m pc ls st S = some r → G m pc ls st S = some r) {m nx : Nat} {ls : List zV} {S : zS} {N : zN} (hT : T ≤ S.1) (hN : zNt T N) {r : Int × Int × zS} (h : zfin F m nx ls S N = some r) : zfin G m nx ls S N = some r := by
  rcases N with ⟨pc, st, S2⟩ | ⟨cs, d, st⟩ | v' | ⟨m', args, rest⟩ | c'
  · exact hFG m pc ls st S2 r hN h
  · exact zpick_md (fun t r' h' => hFG m t ls st S r' hT h') h
  · exact h
  · have h : (match F m' 0 (zmkl m' args) [] S with
      | none => none
      | some (c, v, S') => if c = 0 then F m nx ls (zpush m' v rest) S' else (match zhd m c with
        | some k => some (0, k, (S'.1 + 1, S'.2))
        | none => some (c, 0, S'))) = some r := h
    show (match G m' 0 (zmkl m' args) [] S with
      | none => none
      | some (c, v, S') => if c = 0 then G m nx ls (zpush m' v rest) S' else (match zhd m c with
        | some k => some (0, k, (S'.1 + 1, S'.2))
        | none => some (c, 0, S'))) = some r
    cases e : F m' 0 (zmkl m' args) [] S with
    | none => rw [e] at h; cases h
    | some x =>
      rw [hFG _ _ _ _ _ _ hT e]
      obtain ⟨c1, v1, S1⟩ := x
      rw [e] at h
      have t1 := hF _ _ _ _ _ _ _ _ e
      dsimp only at h ⊢
      by_cases hc : c1 = 0
      · rw [if_pos hc] at h ⊢
        exact hFG _ _ _ _ _ _ (Nat.le_trans hT t1) h
      · rw [if_neg hc] at h ⊢
        exact h
  · exact h
theorem zpure_nomd {md m : Nat} {i : Instr} {nx r : Nat} {st : List zV} {S : zS} (h : ∀ c, i ≠ .getfield c) : zpure md m i nx r st S = zpure 0 m i nx r st S := by
  cases i <;> first | rfl | exact absurd rfl (h _)
/-- what is read with md is set at the time T -/
def zmdT (md T : Nat) : Prop := ∀ r ci k ft tg tm, zfl r = some (ci, k, ft, tg, tm) → Nat.ble 10 ft = true → Nat.blt tm md = true → tm < T
theorem zone_md {md T : Nat} (hm : zmdT md T) {F G : Nat → Nat → List zV → List zV → zS → Option (Int × Int × zS)} (hF : ∀ m pc ls st S c v S', F m pc ls st S = some (c, v, S') → S.1 ≤ S'.1) (hFG : ∀ m pc ls st S r, T ≤ S.1 → F m pc ls st S = some r → G m pc ls st S = some r) {m pc : Nat} {ls st : List zV} {S : zS} (hT : T ≤ S.1) {r : Int × Int × zS} (h : zone md F m pc ls st S = some r) : zone 0 G m pc ls st S = some r := by
  unfold zone at h ⊢
  cases e1 : zcd m pc with
  | none => rw [e1] at h; cases h
  | some x =>
    obtain ⟨i, nx, rr⟩ := x
    rw [e1] at h
    dsimp only at h ⊢
    cases e2 : zlk i with
    | some q =>
      rw [e2] at h
      dsimp only at h ⊢
      cases e3 : zloc q (zinc i) ls st with
      | none => rw [e3] at h; cases h
      | some y =>
        obtain ⟨ls', st'⟩ := y
        rw [e3] at h
        exact hFG _ _ _ _ _ _ hT h
    | none =>
      rw [e2] at h
      dsimp only at h ⊢
      have same : zpure md m i nx rr st S = zpure 0 m i nx rr st S → (match zpure 0 m i nx rr st S with
          | none => none
          | some (.inl N) => zfin G m nx ls S N
          | some (.inr (g, N)) => @ite _ g (Classical.propDecidable g) (zfin G m nx ls S N) none) = some r := by
        intro es
        rw [es] at h
        cases e4 : zpure 0 m i nx rr st S with
        | none => rw [e4] at h; cases h
        | some y =>
          have ht : zRt T y := by
            have := zpure_t e4
            rcases y with N | ⟨g, N⟩
            · rcases N with ⟨pc, st, S2⟩ | N
              · exact Nat.le_trans hT this
              · exact trivial
            · rcases N with ⟨pc, st, S2⟩ | N
              · exact Nat.le_trans hT this
              · exact trivial
          rw [e4] at h
          rcases y with N | ⟨g, N⟩
          · exact zfin_md hF hFG hT ht h
          · dsimp only at h ⊢
            by_cases hg : g
            · rw [if_pos hg] at h ⊢
              exact zfin_md hF hFG hT ht h
            · rw [if_neg hg] at h; cases h
      by_cases hi : ∃ c, i = .getfield c
      · obtain ⟨c, hi⟩ := hi
        rw [hi] at h same ⊢
        have hz : ∀ k, zpure k m (.getfield c) nx rr st S = zfield k nx rr st S := fun _ => rfl
        rw [hz, hz] at same
        rw [hz] at h ⊢
        cases ef : zfl rr with
        | none =>
          refine same ?_
          unfold zfield
          rw [ef]
        | some y =>
          obtain ⟨ci, k, ft, tg, tm⟩ := y
          by_cases c1 : Nat.ble 10 ft = true ∧ Nat.blt tm md = true
          · have htm := hm rr ci k ft tg tm ef c1.1 c1.2
            unfold zfield at h ⊢
            rw [ef] at h ⊢
            dsimp only at h ⊢
            rcases st with _ | ⟨⟨t, o⟩, rest⟩
            · cases h
            · dsimp only at h ⊢
              rw [c1.1] at h ⊢
              rw [c1.2] at h
              have c2 : Nat.blt tm 0 = false := by
                cases hb : Nat.blt tm 0 with
                | false => rfl
                | true => exact absurd (Nat.le_of_ble_eq_true hb) (Nat.not_succ_le_zero _)
              rw [c2]
              cases hb : Nat.beq t (20 + ci) with
              | false => rw [hb] at h; cases h
              | true =>
                rw [hb] at h
                show (@ite _ (tm < S.1) (Classical.propDecidable _) (zfin G m nx ls S (.inl (nx, (ft, tg) :: rest, S))) none) = some r
                rw [if_pos (Nat.lt_of_lt_of_le htm hT)]
                exact zfin_md (N := .inl (nx, (ft, tg) :: rest, S)) hF hFG hT (show zNt T (.inl (nx, (ft, tg) :: rest, S)) from hT) h
          · refine same ?_
            unfold zfield
            rw [ef]
            dsimp only
            rcases st with _ | ⟨⟨t, o⟩, rest⟩
            · rfl
            · dsimp only
              cases hb : Nat.ble 10 ft with
              | false => rfl
              | true =>
                have c3 : Nat.blt tm md = false := by
                  cases hc : Nat.blt tm md with
                  | false => rfl
                  | true => exact absurd ⟨hb, hc⟩ c1
                have c2 : Nat.blt tm 0 = false := by
                  cases hb : Nat.blt tm 0 with
                  | false => rfl
                  | true => exact absurd (Nat.le_of_ble_eq_true hb) (Nat.not_succ_le_zero _)
                rw [c3, c2]
      · exact same (zpure_nomd (fun c u => hi ⟨c, u⟩))
theorem zex_md {md T : Nat} (hm : zmdT md T) : ∀ (n m pc : Nat) (ls st : List zV) (S : zS) (r : Int × Int × zS), T ≤ S.1 → zex md n m pc ls st S = some r → zex 0 n m pc ls st S = some r := by
  intro n
  induction n with
  | zero => intro m pc ls st S r hT h; cases h
  | succ n ih => intro m pc ls st S r hT h; exact zone_md hm (fun m pc ls st S c v S' h => zex_time n m pc ls st S c v S' h) (fun m pc ls st S r hT h => ih m pc ls st S r hT h) hT h
theorem zEnds_md {md T : Nat} (hm : zmdT md T) {m pc : Nat} {ls st : List zV} {S : zS} {Qr Qt : Int → zS → Prop} (hT : T ≤ S.1) (h : zEnds md m pc ls st S Qr Qt) : zEnds 0 m pc ls st S Qr Qt := by
  obtain ⟨n, c, v, S', h1, h2⟩ := h
  exact ⟨n, c, v, S', zex_md hm n m pc ls st S _ hT h1, h2⟩
/-- the condition, cut at some places -/
def zwq (md : Nat) (Qr Qt : Int → zS → Prop) (m : Nat) (stop : List Nat) : Nat → Nat → List zV → List zV → zS → Prop
  | 0, pc, ls, st, S => zEnds md m pc ls st S Qr Qt
  | n + 1, pc, ls, st, S => zwone md Qr Qt (fun pc ls st S => bif stop.elem pc then zEnds md m pc ls st S Qr Qt else zwq md Qr Qt m stop n pc ls st S) m pc ls st S
theorem zwq_sound {md m : Nat} {Qr Qt : Int → zS → Prop} (stop : List Nat) : ∀ (n pc : Nat) (ls st : List zV) (S : zS), zwq md Qr Qt m stop n pc ls st S → zEnds md m pc ls st S Qr Qt := by
  intro n
  induction n with
  | zero => intro pc ls st S h; exact h
  | succ n ih =>
    intro pc ls st S h
    refine zwone_sound (fun pc ls st S hx => ?_) h
    cases hb : stop.elem pc with
    | true => rw [hb] at hx; exact hx
    | false => rw [hb] at hx; exact ih pc ls st S hx
