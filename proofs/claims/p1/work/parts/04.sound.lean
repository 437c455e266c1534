theorem zpick_mono {F G : Nat → Option (Int × Int × zS)} (h : ∀ t r, F t = some r → G t = some r) (d : Nat) (r : Int × Int × zS) : ∀ cs : List (Prop × Nat), zpick F d cs = some r → zpick G d cs = some r := by
  intro cs
  induction cs with
  | nil => exact h d r
  | cons q cs ih =>
    obtain ⟨c, t⟩ := q
    intro hx
    by_cases hc : c
    · simp only [zpick, if_pos hc] at hx ⊢
      exact h t r hx
    · simp only [zpick, if_neg hc] at hx ⊢
      exact ih hx
theorem zfin_mono {F G : Nat → Nat → List zV → List zV → zS → Option (Int × Int × zS)} (h : ∀ m pc ls st S r, F m pc ls st S = some r → G m pc ls st S = some r) (m nx : Nat) (ls : List zV) (S : zS) (r : Int × Int × zS) (N : zN) (hx : zfin F m nx ls S N = some r) : zfin G m nx ls S N = some r := by
  rcases N with ⟨pc, st, S'⟩ | ⟨cs, d, st⟩ | v | ⟨m', args, rest⟩ | c
  · exact h _ _ _ _ _ _ hx
  · exact zpick_mono (fun t r ht => h _ _ _ _ _ _ ht) d r cs hx
  · exact hx
  · simp only [zfin] at hx ⊢
    cases hF : F m' 0 (zmkl m' args) [] S with
    | none => rw [hF] at hx; cases hx
    | some q =>
      obtain ⟨c, v, S'⟩ := q
      rw [hF] at hx
      rw [h _ _ _ _ _ _ hF]
      dsimp only at hx ⊢
      by_cases hc : c = 0
      · rw [if_pos hc] at hx ⊢
        exact h _ _ _ _ _ _ hx
      · rw [if_neg hc] at hx ⊢
        exact hx
  · exact hx
theorem zone_mono {md : Nat} {F G : Nat → Nat → List zV → List zV → zS → Option (Int × Int × zS)} (h : ∀ m pc ls st S r, F m pc ls st S = some r → G m pc ls st S = some r) (m pc : Nat) (ls st : List zV) (S : zS) (r : Int × Int × zS) (hx : zone md F m pc ls st S = some r) : zone md G m pc ls st S = some r := by
  unfold zone at hx ⊢
  cases hcd : zcd m pc with
  | none => rw [hcd] at hx; cases hx
  | some q =>
    obtain ⟨i, nx, r'⟩ := q
    rw [hcd] at hx
    dsimp only at hx ⊢
    cases hl : zlk i with
    | some q =>
      rw [hl] at hx
      dsimp only at hx ⊢
      cases hz : zloc q (zinc i) ls st with
      | none => rw [hz] at hx; cases hx
      | some w =>
        obtain ⟨ls', st'⟩ := w
        rw [hz] at hx
        exact h _ _ _ _ _ _ hx
    | none =>
      rw [hl] at hx
      dsimp only at hx ⊢
      cases hp : zpure md m i nx r' st S with
      | none => rw [hp] at hx; cases hx
      | some N =>
        rw [hp] at hx
        rcases N with N | ⟨g, N⟩
        · exact zfin_mono h m nx ls S r N hx
        · dsimp only at hx ⊢
          by_cases hg : g
          · rw [if_pos hg] at hx ⊢
            exact zfin_mono h m nx ls S r N hx
          · rw [if_neg hg] at hx
            cases hx
theorem zex_succ {md : Nat} : ∀ (n m pc : Nat) (ls st : List zV) (S : zS) (r : Int × Int × zS), zex md n m pc ls st S = some r → zex md (n + 1) m pc ls st S = some r := by
  intro n
  induction n with
  | zero => intro m pc ls st S r h; cases h
  | succ n ih => intro m pc ls st S r h; exact zone_mono (F := zex md n) (G := zex md (n + 1)) ih m pc ls st S r h
theorem zex_le {md n n' : Nat} (hn : n ≤ n') {m pc : Nat} {ls st : List zV} {S : zS} {r : Int × Int × zS} (h : zex md n m pc ls st S = some r) : zex md n' m pc ls st S = some r := by
  induction hn with
  | refl => exact h
  | step _ ih => exact zex_succ _ _ _ _ _ _ _ ih
def zsub (a b : List zV) : Prop := a.length = b.length ∧ ∀ (i : Nat) (v : zV), a[i]? = some v → v.1 ≠ 9 → b[i]? = some v
theorem zsub.set {a b : List zV} (h : zsub a b) (k : Nat) (v : zV) : zsub (a.set k v) (b.set k v) := by
  refine ⟨by rw [List.length_set, List.length_set]; exact h.1, fun i w hi hw => ?_⟩
  rw [List.getElem?_set] at hi ⊢
  by_cases hk : k = i
  · rw [if_pos hk] at hi ⊢
    rw [← h.1]
    exact hi
  · rw [if_neg hk] at hi ⊢
    exact h.2 i w hi hw
theorem zsub.kill {a b : List zV} (h : zsub a b) (k : Nat) : zsub (a.set k (9, 0)) b := by
  refine ⟨by rw [List.length_set]; exact h.1, fun i w hi hw => ?_⟩
  rw [List.getElem?_set] at hi
  by_cases hk : k = i
  · rw [if_pos hk] at hi
    by_cases hl : k < a.length
    · rw [if_pos hl] at hi
      cases hi
      exact absurd rfl hw
    · rw [if_neg hl] at hi
      cases hi
  · rw [if_neg hk] at hi
    exact h.2 i w hi hw
theorem zsub.killR {a b : List zV} (h : zsub a b) (k : Nat) (hk : ∀ v, a[k]? = some v → v.1 = 9 ∨ v.1 = 1 → v.1 = 9) (hb : ∀ v, b[k]? = some v → v.1 = 1) : zsub a (b.set k (9, 0)) := by
  refine ⟨by rw [List.length_set]; exact h.1, fun i w hi hw => ?_⟩
  rw [List.getElem?_set]
  by_cases hki : k = i
  · subst hki
    have h1 := h.2 k w hi hw
    have h2 := hb w h1
    exact absurd (hk w hi (Or.inr h2)) hw
  · rw [if_neg hki]
    exact h.2 i w hi hw
theorem zset1_sub {a b : List zV} (h : zsub a b) (k : Nat) (v : zV) : zsub (zset1 k v a) (zset1 k v b) := by
  cases k with
  | zero => exact h.set 0 v
  | succ j =>
    unfold zset1
    dsimp only
    refine zsub.set ?_ (j + 1) v
    cases ha : a[j]? with
    | none =>
      have hb : b[j]? = none := by
        rw [List.getElem?_eq_none_iff] at ha ⊢
        rw [← h.1]; exact ha
      rw [hb]
      exact h
    | some w =>
      dsimp only
      cases hb : b[j]? with
      | none =>
        exfalso
        rw [List.getElem?_eq_none_iff, ← h.1, ← List.getElem?_eq_none_iff, ha] at hb
        cases hb
      | some u =>
        dsimp only
        by_cases h9 : w.1 = 9
        · have e1 : Nat.beq w.1 1 = false := by rw [h9]; rfl
          rw [e1]
          cases hu : Nat.beq u.1 1 with
          | false => exact h
          | true => exact h.killR j (fun v hv _ => by rw [ha] at hv; cases hv; exact h9) (fun v hv => by rw [hb] at hv; cases hv; exact Nat.eq_of_beq_eq_true hu)
        · have e1 := h.2 j w ha h9
          rw [hb] at e1
          cases e1
          cases hu : Nat.beq w.1 1 with
          | false => exact h
          | true => exact h.set j (9, 0)
theorem ztg_ne {kd t : Nat} (h : ztg kd t = true) : t ≠ 9 := by
  intro e
  subst e
  unfold ztg at h
  split at h <;> revert h <;> decide
theorem zloc_sub {q : Nat × Nat} {n : Int} {a b st a' st' : List zV} (h : zsub a b) (hx : zloc q n a st = some (a', st')) : ∃ b', zloc q n b st = some (b', st') ∧ zsub a' b' := by
  unfold zloc at hx ⊢
  cases h1 : Nat.blt q.2 10 with
  | true =>
    rw [h1] at hx
    simp only [cond_true] at hx ⊢
    cases ha : a[q.1]? with
    | none => rw [ha] at hx; cases hx
    | some v =>
      rw [ha] at hx
      dsimp only at hx
      cases ht : ztg q.2 v.1 with
      | false => rw [ht] at hx; cases hx
      | true =>
        rw [ht] at hx
        cases hx
        rw [h.2 _ v ha (ztg_ne ht)]
        dsimp only
        rw [ht]
        exact ⟨b, rfl, h⟩
  | false =>
    rw [h1] at hx
    simp only [cond_false] at hx ⊢
    cases h2 : Nat.beq q.2 20 with
    | true =>
      rw [h2] at hx
      simp only [cond_true] at hx ⊢
      cases ha : a[q.1]? with
      | none => rw [ha] at hx; cases hx
      | some v =>
        rw [ha] at hx
        dsimp only at hx
        cases ht : Nat.beq v.1 0 with
        | false => rw [ht] at hx; cases hx
        | true =>
          rw [ht] at hx
          cases hx
          rw [h.2 _ v ha (by rw [Nat.eq_of_beq_eq_true ht]; decide)]
          dsimp only
          rw [ht]
          exact ⟨_, rfl, zset1_sub h _ _⟩
    | false =>
      rw [h2] at hx
      simp only [cond_false] at hx ⊢
      cases st with
      | nil => cases hx
      | cons v rest =>
        dsimp only at hx ⊢
        cases ht : ztg (q.2 - 10) v.1 with
        | false => rw [ht] at hx; cases hx
        | true =>
          rw [ht] at hx
          simp only [cond_true] at hx ⊢
          rw [← h.1]
          cases h3 : Nat.beq q.2 11 with
          | true =>
            rw [h3] at hx
            simp only [cond_true] at hx ⊢
            cases h4 : Nat.blt (q.1 + 1) a.length with
            | false => rw [h4] at hx; cases hx
            | true =>
              rw [h4] at hx
              cases hx
              exact ⟨_, rfl, (zset1_sub h _ _).set _ _⟩
          | false =>
            rw [h3] at hx
            simp only [cond_false] at hx ⊢
            cases h4 : Nat.blt q.1 a.length with
            | false => rw [h4] at hx; cases hx
            | true =>
              rw [h4] at hx
              cases hx
              exact ⟨_, rfl, zset1_sub h _ _⟩
theorem zpick_sub {F G : Nat → Option (Int × Int × zS)} (h : ∀ t r, F t = some r → G t = some r) {d : Nat} {r : Int × Int × zS} {cs : List (Prop × Nat)} (hx : zpick F d cs = some r) : zpick G d cs = some r := zpick_mono h d r cs hx
theorem zex_sub {md : Nat} : ∀ (n m pc : Nat) (a b st : List zV) (S : zS) (r : Int × Int × zS), zsub a b → zex md n m pc a st S = some r → zex md n m pc b st S = some r := by
  intro n
  induction n with
  | zero => intro m pc a b st S r _ h; cases h
  | succ n ih =>
    intro m pc a b st S r hs hx
    have hx : zone md (zex md n) m pc a st S = some r := hx
    show zone md (zex md n) m pc b st S = some r
    have hfin : ∀ (nx : Nat) (N : zN), zfin (zex md n) m nx a S N = some r → zfin (zex md n) m nx b S N = some r := by
      intro nx N hN
      rcases N with ⟨pc, st, S'⟩ | ⟨cs, d, st⟩ | v | ⟨m', args, rest⟩ | c
      · exact ih _ _ _ _ _ _ _ hs hN
      · exact zpick_sub (fun t r ht => ih _ _ _ _ _ _ _ hs ht) hN
      · exact hN
      · simp only [zfin] at hN ⊢
        cases hF : zex md n m' 0 (zmkl m' args) [] S with
        | none => rw [hF] at hN; cases hN
        | some q =>
          obtain ⟨c, v, S'⟩ := q
          rw [hF] at hN
          dsimp only at hN ⊢
          by_cases hc : c = 0
          · rw [if_pos hc] at hN ⊢
            exact ih _ _ _ _ _ _ _ hs hN
          · rw [if_neg hc] at hN ⊢
            exact hN
      · exact hN
    unfold zone at hx ⊢
    cases hcd : zcd m pc with
    | none => rw [hcd] at hx; cases hx
    | some q =>
      obtain ⟨i, nx, r'⟩ := q
      rw [hcd] at hx
      dsimp only at hx ⊢
      cases hl : zlk i with
      | some q =>
        rw [hl] at hx
        dsimp only at hx ⊢
        cases hz : zloc q (zinc i) a st with
        | none => rw [hz] at hx; cases hx
        | some w =>
          obtain ⟨a', st'⟩ := w
          rw [hz] at hx
          obtain ⟨b', e1, e2⟩ := zloc_sub hs hz
          rw [e1]
          exact ih _ _ _ _ _ _ _ e2 hx
      | none =>
        rw [hl] at hx
        dsimp only at hx ⊢
        cases hp : zpure md m i nx r' st S with
        | none => rw [hp] at hx; cases hx
        | some N =>
          rw [hp] at hx
          rcases N with N | ⟨g, N⟩
          · exact hfin nx N hx
          · dsimp only at hx ⊢
            by_cases hg : g
            · rw [if_pos hg] at hx ⊢
              exact hfin nx N hx
            · rw [if_neg hg] at hx
              cases hx
theorem zmask_sub : ∀ (live : List Bool) (ls : List zV), zsub (zmask live ls) ls := by
  intro live ls
  induction ls generalizing live with
  | nil => cases live <;> exact ⟨rfl, fun i v h => by simp [zmask] at h⟩
  | cons v r ih =>
    cases live with
    | nil =>
      refine ⟨by simp only [zmask, List.length_cons, (ih []).1], fun i w hi hw => ?_⟩
      cases i with
      | zero => simp only [zmask, List.getElem?_cons_zero, Option.some.injEq] at hi; rw [← hi] at hw; exact absurd rfl hw
      | succ i => simp only [zmask, List.getElem?_cons_succ] at hi ⊢; exact (ih []).2 i w hi hw
    | cons b bs =>
      refine ⟨by simp only [zmask, List.length_cons, (ih bs).1], fun i w hi hw => ?_⟩
      cases i with
      | zero =>
        simp only [zmask, List.getElem?_cons_zero, Option.some.injEq] at hi ⊢
        cases b with
        | true => exact hi
        | false => rw [← hi] at hw; exact absurd rfl hw
      | succ i => simp only [zmask, List.getElem?_cons_succ] at hi ⊢; exact (ih bs).2 i w hi hw
theorem zEnds.sub {md m pc : Nat} {a b st : List zV} {S : zS} {Qr Qt : Int → zS → Prop} (hs : zsub a b) (h : zEnds md m pc a st S Qr Qt) : zEnds md m pc b st S Qr Qt := by
  obtain ⟨n, c, v, S', h1, h2⟩ := h
  exact ⟨n, c, v, S', zex_sub _ _ _ _ _ _ _ _ hs h1, h2⟩
theorem zEnds.imp {md m pc : Nat} {ls st : List zV} {S : zS} {Qr Qt Qr' Qt' : Int → zS → Prop} (h : zEnds md m pc ls st S Qr Qt) (hr : ∀ v S', Qr v S' → Qr' v S') (ht : ∀ c S', Qt c S' → Qt' c S') : zEnds md m pc ls st S Qr' Qt' := by
  obtain ⟨n, c, v, S', h1, h2⟩ := h
  exact ⟨n, c, v, S', h1, h2.imp (fun q => ⟨q.1, hr _ _ q.2⟩) (fun q => ⟨q.1, ht _ _ q.2⟩)⟩
theorem zto_sound {md m : Nat} {f : Nat → List zV → List zV → zS → Prop} {Qr Qt : Int → zS → Prop} (h : ∀ pc ls st S, f pc ls st S → zEnds md m pc ls st S Qr Qt) {pc : Nat} {ls st : List zV} {S : zS} (hx : zto md m f Qr Qt pc ls st S) : zEnds md m pc ls st S Qr Qt := by
  unfold zto at hx
  cases hc : zcut m pc with
  | none => rw [hc] at hx; exact h _ _ _ _ hx
  | some live => rw [hc] at hx; exact zEnds.sub (zmask_sub live ls) hx
theorem zall_sound {md m : Nat} {ls st : List zV} {S : zS} {Qr Qt : Int → zS → Prop} {f : Nat → Prop} (h : ∀ t, f t → zEnds md m t ls st S Qr Qt) {d : Nat} : ∀ {cs : List (Prop × Nat)}, zall f d cs → ∃ n c v S', zpick (fun t => zex md n m t ls st S) d cs = some (c, v, S') ∧ ((c = 0 ∧ Qr v S') ∨ (c ≠ 0 ∧ Qt c S')) := by
  intro cs
  induction cs with
  | nil => intro hx; exact h d hx
  | cons q cs ih =>
    obtain ⟨c, t⟩ := q
    intro hx
    by_cases hc : c
    · obtain ⟨n, c', v, S', h1, h2⟩ := h t (hx.1 hc)
      exact ⟨n, c', v, S', by simp only [zpick, if_pos hc]; exact h1, h2⟩
    · obtain ⟨n, c', v, S', h1, h2⟩ := ih (hx.2 hc)
      exact ⟨n, c', v, S', by simp only [zpick, if_neg hc]; exact h1, h2⟩
theorem zpost_sound {md m : Nat} {f : Nat → List zV → List zV → zS → Prop} {Qr Qt : Int → zS → Prop} (h : ∀ pc ls st S, f pc ls st S → zEnds md m pc ls st S Qr Qt) {nx : Nat} {ls : List zV} {S : zS} {N : zN} (hx : zpost md m f Qr Qt nx ls S N) : ∃ n c v S', zfin (zex md n) m nx ls S N = some (c, v, S') ∧ ((c = 0 ∧ Qr v S') ∨ (c ≠ 0 ∧ Qt c S')) := by
  rcases N with ⟨pc, st, S'⟩ | ⟨cs, d, st⟩ | v | ⟨m', args, rest⟩ | c
  · exact zto_sound h hx
  · exact zall_sound (fun t ht => zto_sound h ht) hx
  · exact ⟨0, 0, v, S, rfl, Or.inl ⟨rfl, hx⟩⟩
  · obtain ⟨n, c, v, S', h1, h2⟩ := hx
    rcases h2 with ⟨hc, h2⟩ | ⟨hc, h2⟩
    · obtain ⟨n', c', v', S'', h3, h4⟩ := zto_sound h h2
      refine ⟨max n n', c', v', S'', ?_, h4⟩
      simp only [zfin]
      rw [zex_le (Nat.le_max_left n n') h1]
      dsimp only
      rw [if_pos hc]
      exact zex_le (Nat.le_max_right n n') h3
    · cases hh : zhd m c with
      | some k =>
        rw [hh] at h2
        refine ⟨n, 0, k, (S'.1 + 1, S'.2), ?_, Or.inl ⟨rfl, h2⟩⟩
        simp only [zfin]
        rw [h1]
        dsimp only
        rw [if_neg hc, hh]
      | none =>
        rw [hh] at h2
        refine ⟨n, c, 0, S', ?_, Or.inr ⟨hc, h2⟩⟩
        simp only [zfin]
        rw [h1]
        dsimp only
        rw [if_neg hc, hh]
  · exact ⟨0, c, 0, S, rfl, Or.inr hx⟩
theorem zwone_sound {md m : Nat} {f : Nat → List zV → List zV → zS → Prop} {Qr Qt : Int → zS → Prop} (h : ∀ pc ls st S, f pc ls st S → zEnds md m pc ls st S Qr Qt) {pc : Nat} {ls st : List zV} {S : zS} (hx : zwone md Qr Qt f m pc ls st S) : zEnds md m pc ls st S Qr Qt := by
  unfold zwone at hx
  cases hcd : zcd m pc with
  | none => rw [hcd] at hx; cases hx
  | some q =>
    obtain ⟨i, nx, r'⟩ := q
    rw [hcd] at hx
    dsimp only at hx
    cases hl : zlk i with
    | some q =>
      rw [hl] at hx
      dsimp only at hx
      cases hz : zloc q (zinc i) ls st with
      | none => rw [hz] at hx; cases hx
      | some w =>
        obtain ⟨ls', st'⟩ := w
        rw [hz] at hx
        obtain ⟨n, c, v, S', h1, h2⟩ := zto_sound h hx
        refine ⟨n + 1, c, v, S', ?_, h2⟩
        show zone md (zex md n) m pc ls st S = _
        unfold zone
        rw [hcd]
        dsimp only
        rw [hl]
        dsimp only
        rw [hz]
        exact h1
    | none =>
      rw [hl] at hx
      dsimp only at hx
      cases hp : zpure md m i nx r' st S with
      | none => rw [hp] at hx; cases hx
      | some N =>
        rw [hp] at hx
        rcases N with N | ⟨g, N⟩
        · obtain ⟨n, c, v, S', h1, h2⟩ := zpost_sound h hx
          refine ⟨n + 1, c, v, S', ?_, h2⟩
          show zone md (zex md n) m pc ls st S = _
          unfold zone
          rw [hcd]
          dsimp only
          rw [hl]
          dsimp only
          rw [hp]
          exact h1
        · obtain ⟨hg, hx⟩ := hx
          obtain ⟨n, c, v, S', h1, h2⟩ := zpost_sound h hx
          refine ⟨n + 1, c, v, S', ?_, h2⟩
          show zone md (zex md n) m pc ls st S = _
          unfold zone
          rw [hcd]
          dsimp only
          rw [hl]
          dsimp only
          rw [hp]
          dsimp only
          rw [if_pos hg]
          exact h1
/-- what the reckoned condition gives: the run ends, and so -/
theorem zwp_sound {md m : Nat} {Qr Qt : Int → zS → Prop} : ∀ (n pc : Nat) (ls st : List zV) (S : zS), zwp md Qr Qt m n pc ls st S → zEnds md m pc ls st S Qr Qt := by
  intro n
  induction n with
  | zero => intro pc ls st S h; cases h
  | succ n ih => intro pc ls st S h; exact zwone_sound ih h
