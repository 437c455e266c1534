/-! One run has one end. -/
theorem zEnds_all {α : Type} {P : α → Prop} {md m pc : Nat} {ls st : List zV} {S : zS} {Q T : α → Int → zS → Prop} (h0 : ∃ M, P M) (h : ∀ M, P M → zEnds md m pc ls st S (Q M) (T M)) : zEnds md m pc ls st S (fun v S' => ∀ M, P M → Q M v S') (fun c S' => ∀ M, P M → T M c S') := by
  obtain ⟨M0, p0⟩ := h0
  obtain ⟨n, c, v, S', e, -⟩ := h M0 p0
  refine ⟨n, c, v, S', e, ?_⟩
  have key : ∀ M, P M → (c = 0 ∧ Q M v S') ∨ (c ≠ 0 ∧ T M c S') := by
    intro M pM
    obtain ⟨n', c', v', S2, e', hq'⟩ := h M pM
    have a := zex_le (Nat.le_max_left n n') e
    have b := zex_le (Nat.le_max_right n n') e'
    rw [a] at b
    have b := Option.some.inj b
    have b1 : c = c' := congrArg Prod.fst b
    have b2 : v = v' := congrArg (fun x => x.2.1) b
    have b3 : S' = S2 := congrArg (fun x => x.2.2) b
    rw [b1, b2, b3]
    exact hq'
  by_cases z : c = 0
  · exact Or.inl ⟨z, fun M pM => ((key M pM).resolve_right (fun u => u.1 z)).2⟩
  · exact Or.inr ⟨z, fun M pM => ((key M pM).resolve_left (fun u => z u.1)).2⟩
theorem zEnds_and {md m pc : Nat} {ls st : List zV} {S : zS} {Q T Q' T' : Int → zS → Prop} (h : zEnds md m pc ls st S Q T) (h' : zEnds md m pc ls st S Q' T') : zEnds md m pc ls st S (fun v S' => Q v S' ∧ Q' v S') (fun c S' => T c S' ∧ T' c S') := by
  refine (zEnds_all (α := Bool) (P := fun _ => True) (Q := fun b => bif b then Q else Q') (T := fun b => bif b then T else T') ⟨true, trivial⟩ (fun b _ => ?_)).imp (fun v S' u => ⟨u true trivial, u false trivial⟩) (fun v S' u => ⟨u true trivial, u false trivial⟩)
  cases b
  · exact h'
  · exact h
/-! Numbers keep to their ranges. -/
def lg (o : Int) : Bool := [(8 : Int), 9, 10, 11, 14, 15, 17, 19, 20, 21, 25, 31, 32, 34, 54].any (fun x => decide (o = x))
def zvR (v : zV) : Prop := (v.1 = 0 → z32 v.2 = v.2) ∧ (v.1 = 1 → z64 v.2 = v.2) ∧ (10 ≤ v.1 → (lg v.2 = true ↔ v.1 = 11))
def zhR (S : zS) : Prop := (∀ o, z32 (S.2.1 o) = S.2.1 o) ∧ ∀ o i, (lg o = true → z64 (S.2.2 o i) = S.2.2 o i) ∧ (lg o = false → z32 (S.2.2 o i) = S.2.2 o i)
abbrev zlR (l : List zV) : Prop := ∀ x, x ∈ l → zvR x
def zrR (m : Nat) (v : Int) : Prop := ∀ tags ml rt, zmi m = some (tags, ml, rt) → (rt = 1 → z64 v = v) ∧ (rt ≠ 1 → z32 v = v)
def zNr (m : Nat) : zN → Prop
  | .inl (_, st, S') => zlR st ∧ zhR S'
  | .inr (.inl (_, _, st)) => zlR st
  | .inr (.inr (.inl v)) => zrR m v
  | .inr (.inr (.inr (.inl (_, args, rest)))) => zlR args ∧ zlR rest
  | .inr (.inr (.inr (.inr _))) => True
def zRr (m : Nat) : zR → Prop
  | .inl N => zNr m N
  | .inr (g, N) => g → zNr m N
theorem zl_c {v : zV} {l : List zV} (hv : zvR v) (hl : zlR l) : zlR (v :: l) := fun x hx => (List.mem_cons.mp hx).elim (fun e => e ▸ hv) (hl x)
theorem zl_t {v : zV} {l : List zV} (h : zlR (v :: l)) : zlR l := fun x hx => h x (List.mem_cons_of_mem _ hx)
theorem zl_h {v : zV} {l : List zV} (h : zlR (v :: l)) : zvR v := h v List.mem_cons_self
theorem zv_i {x : Int} (h : z32 x = x) : zvR (0, x) := ⟨fun _ => h, fun u => absurd u (show (0 : Nat) ≠ 1 by decide), fun u => absurd u (show ¬ (10 ≤ (0 : Nat)) by decide)⟩
theorem zv_l {x : Int} (h : z64 x = x) : zvR (1, x) := ⟨fun u => absurd u (show (1 : Nat) ≠ 0 by decide), fun _ => h, fun u => absurd u (show ¬ (10 ≤ (1 : Nat)) by decide)⟩
theorem zv_9 : zvR (9, 0) := ⟨fun u => absurd u (show (9 : Nat) ≠ 0 by decide), fun u => absurd u (show (9 : Nat) ≠ 1 by decide), fun u => absurd u (show ¬ (10 ≤ (9 : Nat)) by decide)⟩
theorem z32_32 (x : Int) : z32 (z32 x) = z32 x := by unfold z32; omega
theorem z64_64 (x : Int) : z64 (z64 x) = z64 x := by unfold z64; omega
theorem z32_i32 (x : Int32) : z32 x.toInt = x.toInt := z32_id (i32_rg x).1 (i32_rg x).2
theorem z64_i64 (x : Int64) : z64 x.toInt = x.toInt := z64_toInt x
theorem zbin_r {i : Instr} {f : Int → Int → Int} (h : zbin i = some f) (x y : Int) : z32 (f x y) = f x y := by
  unfold zbin at h
  split at h
  all_goals first | (rw [← Option.some.inj h]; first | exact z32_32 _ | exact z32_i32 _) | cases h
theorem zlb_r {i : Instr} {f : Int → Int → Int} (h : zlb i = some f) (x y : Int) : z64 (f x y) = f x y := by
  unfold zlb at h
  split at h
  all_goals first | (rw [← Option.some.inj h]; first | exact z64_64 _ | exact z64_i64 _) | cases h
theorem zlsh_r {i : Instr} {f : Int → Int → Int} (h : zlsh i = some f) (x y : Int) : z64 (f x y) = f x y := by
  unfold zlsh at h
  split at h
  all_goals first | (rw [← Option.some.inj h]; first | exact z64_64 _ | exact z64_i64 _) | cases h
theorem zgo_r {m pc : Nat} {st : List zV} {S : zS} {x : zR} (h : zgo pc st S = some x) (hs : zlR st) (hS : zhR S) : zRr m x := by
  rw [← Option.some.inj h]
  exact ⟨hs, hS⟩
theorem zgg_r {g : Prop} {m pc : Nat} {st : List zV} {S : zS} {x : zR} (h : zgg g pc st S = some x) (hh : g → zlR st ∧ zhR S) : zRr m x := by
  rw [← Option.some.inj h]
  exact hh
theorem zbr_r {cs : List (Prop × Nat)} {m d : Nat} {st : List zV} {x : zR} (h : zbr cs d st = some x) (hs : zlR st) : zRr m x := by
  rw [← Option.some.inj h]
  exact hs
theorem zhR.upd {t : Nat} {L : Int → Int} {H : zHp} {S : zS} {o i v : Int} (h : zhR S) (e1 : L = S.2.1) (e2 : H = S.2.2) (h1 : lg o = true → z64 v = v) (h0 : lg o = false → z32 v = v) : zhR (t, L, zupd H o i v) := by
  subst e1 e2
  refine ⟨h.1, fun q j => ?_⟩
  show (lg q = true → z64 (zupd S.2.2 o i v q j) = zupd S.2.2 o i v q j) ∧ (lg q = false → z32 (zupd S.2.2 o i v q j) = zupd S.2.2 o i v q j)
  unfold zupd
  by_cases c : q = o ∧ j = i
  · rw [if_pos c, c.1]; exact ⟨h1, h0⟩
  · rw [if_neg c]; exact h.2 q j
theorem zhR.cpy {t : Nat} {S : zS} {s sp o dp n : Int} (h : zhR S) (ho : lg o = true) (hs : lg s = true) : zhR (t, S.2.1, zcpy S.2.2 s sp o dp n) := by
  refine ⟨h.1, fun q j => ?_⟩
  show (lg q = true → z64 (zcpy S.2.2 s sp o dp n q j) = zcpy S.2.2 s sp o dp n q j) ∧ (lg q = false → z32 (zcpy S.2.2 s sp o dp n q j) = zcpy S.2.2 s sp o dp n q j)
  unfold zcpy
  by_cases c : q = o ∧ dp ≤ j ∧ j < dp + n
  · rw [if_pos c, c.1]; exact ⟨fun _ => (h.2 s _).1 hs, fun u => by rw [ho] at u; cases u⟩
  · rw [if_neg c]; exact h.2 q j
theorem lg_ge {o : Int} (h : lg o = true) : 8 ≤ o := by
  unfold lg at h
  simp only [List.any_cons, List.any_nil, Bool.or_eq_true, decide_eq_true_eq, Bool.or_false] at h
  omega
theorem zcall_r {m r nx : Nat} {st : List zV} {S : zS} {x : zR} (h : zcall m r nx st S = some x) (hs : zlR st) (hS : zhR S) : zRr m x := by
  unfold zcall at h
  simp only [Bool.cond_eq_ite, Bool.and_eq_true, Nat.beq_eq] at h
  split at h
  · split at h
    · rcases st with _ | ⟨a, st⟩
      · cases h
      · dsimp only at h
        split at h
        · exact zgo_r h (zl_t hs) hS
        · cases h
    · split at h
      · rcases st with _ | ⟨b, _ | ⟨a, st⟩⟩
        · cases h
        · cases h
        · dsimp only at h
          split at h
          · next c =>
            refine zgo_r h (zl_c (zv_i ?_) (zl_t (zl_t hs))) hS
            have ha := (zl_h (zl_t hs)).1 c.1.1
            have hb := (zl_h hs).1 c.1.2
            by_cases e : a.2 ≤ b.2
            · rw [if_pos e]; exact ha
            · rw [if_neg e]; exact hb
          · cases h
      · split at h
        · rcases st with _ | ⟨b, _ | ⟨a, st⟩⟩
          · cases h
          · cases h
          · dsimp only at h
            split at h
            · next c =>
              refine zgo_r h (zl_c (zv_i ?_) (zl_t (zl_t hs))) hS
              have ha := (zl_h (zl_t hs)).1 c.1.1
              have hb := (zl_h hs).1 c.1.2
              by_cases e : a.2 ≤ b.2
              · rw [if_pos e]; exact hb
              · rw [if_neg e]; exact ha
            · cases h
        · split at h
          · rcases st with _ | ⟨n, _ | ⟨dp, _ | ⟨d, _ | ⟨sp, _ | ⟨s, st⟩⟩⟩⟩⟩
            · cases h
            · cases h
            · cases h
            · cases h
            · cases h
            · dsimp only at h
              split at h
              · next c =>
                refine zgg_r h (fun _ => ⟨zl_t (zl_t (zl_t (zl_t (zl_t hs)))), hS.cpy ?_ ?_⟩)
                · have e := c.1.1.1.2
                  exact ((zl_h (zl_t (zl_t hs))).2.2 (by omega)).mpr e
                · have e := c.1.2
                  exact ((zl_h (zl_t (zl_t (zl_t (zl_t hs))))).2.2 (by omega)).mpr e
              · cases h
          · cases h
  · split at h
    · split at h
      · rw [← Option.some.inj h]
        exact ⟨fun y hy => hs y (List.mem_of_mem_take (List.mem_reverse.mp hy)), fun y hy => hs y (List.mem_of_mem_drop hy)⟩
      · cases h
    · cases h
theorem zfl_r {r ci ft tm : Nat} {k tg : Int} (h : zfl r = some (ci, k, ft, tg, tm)) : (10 ≤ ft → (lg tg = true ↔ ft = 11)) ∧ ft ≠ 1 := by
  have hd : (List.range 100).all (fun r => match zfl r with | some (_, _, ft, tg, _) => (Nat.blt ft 10 || (lg tg == Nat.beq ft 11)) && !Nat.beq ft 1 | none => true) = true := by decide +kernel
  have h3 := List.all_eq_true.mp hd r (List.mem_range.mpr (zfl_lt h))
  rw [h] at h3
  have h3 : ((Nat.blt ft 10 || (lg tg == Nat.beq ft 11)) && !Nat.beq ft 1) = true := h3
  simp only [Bool.and_eq_true, Bool.or_eq_true, Bool.not_eq_true', beq_iff_eq] at h3
  refine ⟨fun hf => ?_, fun e => ?_⟩
  · have e : lg tg = Nat.beq ft 11 := h3.1.resolve_left (fun u => by have := Nat.le_of_ble_eq_true u; omega)
    rw [e, Nat.beq_eq]
  · rw [e] at h3; exact absurd h3.2 (by decide)
theorem zfield_r {md m nx r : Nat} {st : List zV} {S : zS} {x : zR} (h : zfield md nx r st S = some x) (hs : zlR st) (hS : zhR S) : zRr m x := by
  unfold zfield at h
  split at h
  · next ci k ft tg tm hf =>
    have hr := zfl_r hf
    rcases st with _ | ⟨⟨t, o⟩, st⟩
    · cases h
    · simp only [Bool.cond_eq_ite, Nat.beq_eq] at h
      split at h
      · next c =>
        split at h
        · next c2 =>
          have f10 : 10 ≤ ft := Nat.le_of_ble_eq_true c2
          have hv : zvR (ft, tg) := ⟨fun u => by have u : ft = 0 := u; omega, fun u => by have u : ft = 1 := u; omega, hr.1⟩
          split at h
          · exact zgo_r h (zl_c hv (zl_t hs)) hS
          · exact zgg_r h (fun _ => ⟨zl_c hv (zl_t hs), hS⟩)
        · next c2 =>
          have f10 : ¬ 10 ≤ ft := fun u => c2 (Nat.ble_eq_true_of_le u)
          have hl : lg o = false := by
            cases e : lg o with
            | false => rfl
            | true =>
              have u : t = 11 := ((zl_h hs).2.2 (show 10 ≤ t by omega)).mp e
              omega
          have hz := (hS.2 o k).2 hl
          refine zgo_r h (zl_c ?_ (zl_t hs)) hS
          refine ⟨fun _ => hz, fun u => ?_, fun u => ?_⟩
          · have u : (if ft = 3 then 0 else ft) = 1 := u
            by_cases e : ft = 3
            · rw [if_pos e] at u; cases u
            · rw [if_neg e] at u; exact absurd u hr.2
          · have u : 10 ≤ (if ft = 3 then 0 else ft) := u
            by_cases e : ft = 3
            · rw [if_pos e] at u; omega
            · rw [if_neg e] at u; exact absurd u f10
      · cases h
  · cases h
theorem zputf_r {m nx r : Nat} {st : List zV} {S : zS} {x : zR} (h : zputf nx r st S = some x) (hs : zlR st) (hS : zhR S) : zRr m x := by
  unfold zputf at h
  split at h
  · next ci k ft tg tm hf =>
    have hr := zfl_r hf
    rcases st with _ | ⟨⟨u, v⟩, _ | ⟨⟨t, o⟩, st⟩⟩
    · cases h
    · cases h
    · simp only [Bool.cond_eq_ite, Nat.beq_eq] at h
      split at h
      · next c =>
        have hl : lg o = false := by
          cases e : lg o with
          | false => rfl
          | true =>
            have u : t = 11 := ((zl_h (zl_t hs)).2.2 (show 10 ≤ t by omega)).mp e
            omega
        split at h
        · split at h
          · exact zgg_r h (fun _ => ⟨zl_t (zl_t hs), hS⟩)
          · cases h
        · next c2 =>
          have f10 : ¬ 10 ≤ ft := fun u => c2 (Nat.ble_eq_true_of_le u)
          split at h
          · split at h
            · next c3 => exact zgg_r h (fun _ => ⟨zl_t (zl_t hs), hS.upd rfl rfl (fun u => by rw [hl] at u; cases u) (fun _ => (zl_h hs).1 c3)⟩)
            · cases h
          · next c4 =>
            split at h
            · next c3 =>
              refine zgo_r h (zl_t (zl_t hs)) (hS.upd rfl rfl (fun u => by rw [hl] at u; cases u) (fun _ => ?_))
              -- an int field
              by_cases f0 : ft = 0
              · exact (zl_h hs).1 (by show u = 0; omega)
              · have hd : (List.range 100).all (fun r => match zfl r with | some (_, _, ft, _, _) => Nat.ble 10 ft || Nat.beq ft 0 || Nat.beq ft 3 | none => true) = true := by decide +kernel
                have h3 := List.all_eq_true.mp hd r (List.mem_range.mpr (zfl_lt hf))
                rw [hf] at h3
                have h3 : (Nat.ble 10 ft || Nat.beq ft 0 || Nat.beq ft 3) = true := h3
                simp only [Bool.or_eq_true, Nat.beq_eq] at h3
                rcases h3 with (h3 | h3) | h3
                · exact absurd (Nat.le_of_ble_eq_true h3) f10
                · exact absurd h3 f0
                · exact absurd h3 c4
            · cases h
      · cases h
  · cases h
def iOK (i : Instr) (r : Nat) : Bool := match i with
  | .iconst n => decide (z32 n = n)
  | .bipush n => decide (z32 n = n)
  | .sipush n => decide (z32 n = n)
  | .ldc _ => Nat.blt r 4294967296
  | .ldc_w _ => Nat.blt r 4294967296
  | .ldc2_w _ => Nat.blt r 18446744073709551616
  | _ => true
theorem iOK_dec : (List.range 288).all (fun m => (List.range (zbl m)).all (fun pc => match zcd m pc with | some (i, _, r) => iOK i r | none => true)) = true := by decide +kernel
theorem zcd_ok {m pc nx r : Nat} {i : Instr} (h : zcd m pc = some (i, nx, r)) : iOK i r = true := by
  have hb : (Nat.blt m 288 && Nat.blt pc (zbl m)) = true := by
    cases e : (Nat.blt m 288 && Nat.blt pc (zbl m)) with
    | true => rfl
    | false =>
      have e' : zcd m pc = none := by
        unfold zcd
        rw [e]
        rfl
      rw [e'] at h
      cases h
  have hb := Bool.and_eq_true _ _ ▸ hb
  have d := List.all_eq_true.mp (List.all_eq_true.mp iOK_dec m (List.mem_range.mpr (Nat.le_of_ble_eq_true hb.1))) pc (List.mem_range.mpr (Nat.le_of_ble_eq_true hb.2))
  rw [h] at d
  exact d
theorem emod_le {a b : Int} (h : 0 ≤ a) : 0 ≤ a % b ∧ a % b ≤ a := by
  obtain ⟨n, rfl⟩ := Int.eq_ofNat_of_zero_le h
  rcases Int.natAbs_eq b with e | e
  · rw [e, ← Int.natCast_emod]
    have := Nat.mod_le n b.natAbs
    omega
  · rw [e, Int.emod_neg, ← Int.natCast_emod]
    have := Nat.mod_le n b.natAbs
    omega
theorem zrem_r {x y : Int} (h : z32 x = x) : z32 (zrem x y) = zrem x y := by
  have hx : -2147483648 ≤ x ∧ x ≤ 2147483647 := by unfold z32 at h; omega
  by_cases c : 0 ≤ x
  · rw [zrem_pos c]
    have := emod_le (b := y) c
    exact z32_id (by omega) (by omega)
  · have e : zrem x y = -((-x) % y) := by
      have e1 : zrem (-x) y = (-x) % y := zrem_pos (by omega)
      have e2 : zrem (-x) y = - zrem x y := by unfold zrem; exact Int.neg_tmod x y
      omega
    have := emod_le (a := -x) (b := y) (by omega)
    rw [e]
    exact z32_id (by omega) (by omega)
theorem zal_r {t tag : Nat} {o : Int} (h : zal t = some (tag, o)) : zvR (tag, o) := by
  have ht : t < 118 := by
    cases Nat.lt_or_ge t 118 with
    | inl u => exact u
    | inr u => rw [zal_none u] at h; cases h
  have hd : (List.range 118).all (fun t => match zal t with | some (tag, o) => Nat.ble 10 tag && (lg o == Nat.beq tag 11) | none => true) = true := by decide +kernel
  have h3 := List.all_eq_true.mp hd t (List.mem_range.mpr ht)
  rw [h] at h3
  have h3 : (Nat.ble 10 tag && (lg o == Nat.beq tag 11)) = true := h3
  simp only [Bool.and_eq_true, beq_iff_eq] at h3
  have h10 := Nat.le_of_ble_eq_true h3.1
  refine ⟨fun u => ?_, fun u => ?_, fun _ => ?_⟩
  · have u : tag = 0 := u
    omega
  · have u : tag = 1 := u
    omega
  · show lg o = true ↔ tag = 11
    rw [h3.2, Nat.beq_eq]
theorem zcmp_r (x y : Int) : z32 (zcmp x y) = zcmp x y := by
  unfold zcmp
  by_cases c : x < y
  · rw [if_pos c]; rfl
  · rw [if_neg c]
    by_cases c2 : x = y
    · rw [if_pos c2]; rfl
    · rw [if_neg c2]; rfl
theorem zret_r {m rt : Nat} {tags : List Nat} {ml : Nat} {v : Int} {x : zR} (h : zret v = some x) (e : zmi m = some (tags, ml, rt)) (h1 : rt = 1 → z64 v = v) (h0 : rt ≠ 1 → z32 v = v) : zRr m x := by
  rw [← Option.some.inj h]
  intro tags' ml' rt' e'
  rw [e] at e'
  have e' := Option.some.inj e'
  have e3 : rt = rt' := congrArg (fun q => q.2.2) e'
  rw [← e3]
  exact ⟨h1, h0⟩
theorem lg_f {t : Nat} {o : Int} (h : zvR (t, o)) (h1 : 10 ≤ t) (h2 : t ≠ 11) : lg o = false := by
  cases e : lg o with
  | false => rfl
  | true => exact absurd ((h.2.2 h1).mp e) h2
theorem lg_t {t : Nat} {o : Int} (h : zvR (t, o)) (h1 : t = 11) : lg o = true := (h.2.2 (by show 10 ≤ t; omega)).mpr h1
theorem zpure_r {md m : Nat} {i : Instr} {nx r : Nat} {st : List zV} {S : zS} {x : zR} (hok : iOK i r = true) (h : zpure md m i nx r st S = some x) (hs : zlR st) (hS : zhR S) : zRr m x := by
  unfold zpure at h
  simp only [Bool.cond_eq_ite, Bool.and_eq_true, Bool.or_eq_true, Nat.beq_eq] at h
  split at h
  · next f e =>
    rcases st with _ | ⟨⟨t, y⟩, _ | ⟨⟨u, z⟩, st⟩⟩
    · cases h
    · cases h
    · dsimp only at h
      split at h
      · exact zgo_r h (zl_c (zv_i (zbin_r e _ _)) (zl_t (zl_t hs))) hS
      · cases h
  split at h
  · next f e =>
    rcases st with _ | ⟨⟨t, y⟩, _ | ⟨⟨u, z⟩, st⟩⟩
    · cases h
    · cases h
    · dsimp only at h
      split at h
      · exact zgo_r h (zl_c (zv_l (zlb_r e _ _)) (zl_t (zl_t hs))) hS
      · cases h
  split at h
  · next f e =>
    rcases st with _ | ⟨⟨t, y⟩, _ | ⟨⟨u, z⟩, st⟩⟩
    · cases h
    · cases h
    · dsimp only at h
      split at h
      · exact zgo_r h (zl_c (zv_l (zlsh_r e _ _)) (zl_t (zl_t hs))) hS
      · cases h
  split at h
  · exact zgo_r h (zl_c (zv_i (of_decide_eq_true hok)) hs) hS
  · exact zgo_r h (zl_c (zv_i (of_decide_eq_true hok)) hs) hS
  · exact zgo_r h (zl_c (zv_i (of_decide_eq_true hok)) hs) hS
  · split at h
    · cases h
    · have hr : r < 4294967296 := Nat.le_of_ble_eq_true hok
      exact zgo_r h (zl_c (zv_i (z32_id (by omega) (by omega))) hs) hS
  · split at h
    · cases h
    · have hr : r < 4294967296 := Nat.le_of_ble_eq_true hok
      exact zgo_r h (zl_c (zv_i (z32_id (by omega) (by omega))) hs) hS
  · next n _ _ _ =>
    have hn := n.isLt
    exact zgo_r h (zl_c (zv_l (by unfold z64; omega)) hs) hS
  · have hr : r < 18446744073709551616 := Nat.le_of_ble_eq_true hok
    exact zgo_r h (zl_c (zv_l (by unfold z64; omega)) hs) hS
  · rcases st with _ | ⟨⟨t, y⟩, _ | ⟨⟨u, z⟩, st⟩⟩
    · cases h
    · cases h
    · dsimp only at h
      split at h
      · exact zgg_r h (fun _ => ⟨zl_c (zv_i (z32_32 _)) (zl_t (zl_t hs)), hS⟩)
      · cases h
  · rcases st with _ | ⟨⟨t, y⟩, _ | ⟨⟨u, z⟩, st⟩⟩
    · cases h
    · cases h
    · dsimp only at h
      split at h
      · next c => exact zgg_r h (fun _ => ⟨zl_c (zv_i (zrem_r ((zl_h (zl_t hs)).1 c.2))) (zl_t (zl_t hs)), hS⟩)
      · cases h
  · rcases st with _ | ⟨⟨t, y⟩, _ | ⟨⟨u, z⟩, st⟩⟩
    · cases h
    · cases h
    · dsimp only at h
      split at h
      · exact zgo_r h (zl_c (zv_i (zcmp_r _ _)) (zl_t (zl_t hs))) hS
      · cases h
  · rcases st with _ | ⟨⟨t, y⟩, st⟩
    · cases h
    · dsimp only at h
      split at h
      · next c =>
        have hy : z32 y = y := (zl_h hs).1 c
        exact zgo_r h (zl_c (zv_l (by unfold z32 at hy; unfold z64; omega)) (zl_t hs)) hS
      · cases h
  · rcases st with _ | ⟨⟨t, y⟩, st⟩
    · cases h
    · dsimp only at h
      split at h
      · exact zgo_r h (zl_c (zv_i (z32_32 _)) (zl_t hs)) hS
      · cases h
  · rcases st with _ | ⟨⟨t, y⟩, st⟩
    · cases h
    · dsimp only at h
      split at h
      · exact zgo_r h (zl_c (zv_i (by unfold zi2b z32; omega)) (zl_t hs)) hS
      · cases h
  · rcases st with _ | ⟨a, st⟩
    · cases h
    · dsimp only at h
      split at h
      · exact zgo_r h (zl_c (zl_h hs) hs) hS
      · cases h
  · rcases st with _ | ⟨a, st⟩
    · cases h
    · dsimp only at h
      split at h
      · exact zgo_r h (zl_t hs) hS
      · cases h
  · rcases st with _ | ⟨a, _ | ⟨b, st⟩⟩
    · cases h
    · cases h
    · dsimp only at h
      split at h
      · exact zgo_r h (zl_c (zl_h hs) (zl_c (zl_h (zl_t hs)) hs)) hS
      · cases h
  · rcases st with _ | ⟨a, _ | ⟨b, st⟩⟩
    · cases h
    · cases h
    · dsimp only at h
      split at h
      · exact zgo_r h (zl_c (zl_h hs) (zl_c (zl_h (zl_t hs)) (zl_c (zl_h hs) (zl_t (zl_t hs))))) hS
      · cases h
  · rcases st with _ | ⟨a, _ | ⟨b, _ | ⟨d, st⟩⟩⟩
    · cases h
    · cases h
    · cases h
    · dsimp only at h
      split at h
      · exact zgo_r h (zl_c (zl_h hs) (zl_c (zl_h (zl_t hs)) (zl_c (zl_h (zl_t (zl_t hs))) (zl_c (zl_h hs) (zl_t (zl_t (zl_t hs))))))) hS
      · cases h
  · exact zgo_r h hs hS
  · rcases st with _ | ⟨⟨t, y⟩, st⟩
    · cases h
    · dsimp only at h
      split at h
      · exact zbr_r h (zl_t hs)
      · cases h
  · rcases st with _ | ⟨⟨t, y⟩, _ | ⟨⟨u, z⟩, st⟩⟩
    · cases h
    · cases h
    · dsimp only at h
      split at h
      · exact zbr_r h (zl_t (zl_t hs))
      · cases h
  · rcases st with _ | ⟨⟨t, y⟩, st⟩
    · cases h
    · dsimp only at h
      split at h
      · exact zbr_r h (zl_t hs)
      · cases h
  · rcases st with _ | ⟨⟨t, y⟩, st⟩
    · cases h
    · dsimp only at h
      split at h
      · exact zbr_r h (zl_t hs)
      · cases h
  · rcases st with _ | ⟨⟨t, o⟩, st⟩
    · cases h
    · dsimp only at h
      split at h
      · exact zgo_r h (zl_c (zv_i (hS.1 o)) (zl_t hs)) hS
      · cases h
  · rcases st with _ | ⟨⟨t, j⟩, _ | ⟨⟨u, o⟩, st⟩⟩
    · cases h
    · cases h
    · dsimp only at h
      split at h
      · next c => exact zgg_r h (fun _ => ⟨zl_c (zv_i ((hS.2 o j).2 (lg_f (zl_h (zl_t hs)) (by omega) (by omega)))) (zl_t (zl_t hs)), hS⟩)
      · cases h
  · rcases st with _ | ⟨⟨t, j⟩, _ | ⟨⟨u, o⟩, st⟩⟩
    · cases h
    · cases h
    · dsimp only at h
      split at h
      · next c => exact zgg_r h (fun _ => ⟨zl_c (zv_l ((hS.2 o j).1 (lg_t (zl_h (zl_t hs)) c.2))) (zl_t (zl_t hs)), hS⟩)
      · cases h
  · rcases st with _ | ⟨⟨t, j⟩, _ | ⟨⟨u, o⟩, st⟩⟩
    · cases h
    · cases h
    · dsimp only at h
      split at h
      · next c => exact zgg_r h (fun _ => ⟨zl_c (zv_i ((hS.2 o j).2 (lg_f (zl_h (zl_t hs)) (by omega) (by omega)))) (zl_t (zl_t hs)), hS⟩)
      · cases h
  · rcases st with _ | ⟨⟨w, v⟩, _ | ⟨⟨t, j⟩, _ | ⟨⟨u, o⟩, st⟩⟩⟩
    · cases h
    · cases h
    · cases h
    · dsimp only at h
      split at h
      · next c => exact zgg_r h (fun _ => ⟨zl_t (zl_t (zl_t hs)), hS.upd rfl rfl (fun e => by rw [lg_f (zl_h (zl_t (zl_t hs))) (by omega) (by omega)] at e; cases e) (fun _ => (zl_h hs).1 c.1.1)⟩)
      · cases h
  · rcases st with _ | ⟨⟨w, v⟩, _ | ⟨⟨t, j⟩, _ | ⟨⟨u, o⟩, st⟩⟩⟩
    · cases h
    · cases h
    · cases h
    · dsimp only at h
      split at h
      · next c => exact zgg_r h (fun _ => ⟨zl_t (zl_t (zl_t hs)), hS.upd rfl rfl (fun _ => (zl_h hs).2.1 c.1.1) (fun e => by rw [lg_t (zl_h (zl_t (zl_t hs))) c.2] at e; cases e)⟩)
      · cases h
  · rcases st with _ | ⟨⟨w, v⟩, _ | ⟨⟨t, j⟩, _ | ⟨⟨u, o⟩, st⟩⟩⟩
    · cases h
    · cases h
    · cases h
    · dsimp only at h
      split at h
      · next c => exact zgg_r h (fun _ => ⟨zl_t (zl_t (zl_t hs)), hS.upd rfl rfl (fun e => by rw [lg_f (zl_h (zl_t (zl_t hs))) (by omega) (by omega)] at e; cases e) (fun _ => by unfold zi2b z32; omega)⟩)
      · split at h
        · next c => exact zgg_r h (fun _ => ⟨zl_t (zl_t (zl_t hs)), hS.upd rfl rfl (fun e => by rw [lg_f (zl_h (zl_t (zl_t hs))) (by omega) (by omega)] at e; cases e) (fun _ => (zl_h hs).1 c.1.1)⟩)
        · cases h
  · exact zfield_r h hs hS
  · exact zputf_r h hs hS
  · refine zgo_r h (zl_c ⟨fun u => absurd u (show (14 : Nat) ≠ 0 by decide), fun u => absurd u (show (14 : Nat) ≠ 1 by decide), fun _ => ⟨fun u => ?_, fun u => absurd u (show (14 : Nat) ≠ 11 by decide)⟩⟩ hs) hS
    have := lg_ge u
    exact absurd this (by show ¬ 8 ≤ -(r : Int); omega)
  · split at h
    · next t n rest tag o e2 =>
      split at h
      · refine zgg_r h (fun g => ⟨zl_c (zal_r e2) (zl_t hs), ?_, hS.2⟩)
        intro q
        show z32 (zlen S.2.1 o n q) = zlen S.2.1 o n q
        unfold zlen
        by_cases c : q = o
        · rw [if_pos c]; exact z32_id (by omega) (by omega)
        · rw [if_neg c]; exact hS.1 q
      · cases h
    · cases h
  · split at h
    · split at h
      · rw [← Option.some.inj h]
        exact fun _ => trivial
      · cases h
    · split at h
      · next tag o e2 =>
        split at h
        · exact zgg_r h (fun _ => ⟨zl_c (zal_r e2) hs, hS⟩)
        · cases h
      · cases h
  · exact zcall_r h hs hS
  · exact zcall_r h hs hS
  · exact zcall_r h hs hS
  · split at h
    · next t v tags ml rt e2 =>
      split at h
      · next c => exact zret_r h e2 (fun u => by omega) (fun _ => (zl_h hs).1 c.1)
      · split at h
        · next c =>
          rw [← Option.some.inj h]
          intro _ tags' ml' rt' e'
          rw [e2] at e'
          have e' := Option.some.inj e'
          have e3 : rt = rt' := congrArg (fun q => q.2.2) e'
          exact ⟨fun u => by omega, fun _ => (zl_h hs).1 c.1⟩
        · cases h
    · cases h
  · split at h
    · next t v tags ml rt e2 =>
      split at h
      · next c => exact zret_r h e2 (fun _ => (zl_h hs).2.1 c.1) (fun u => absurd c.2 u)
      · cases h
    · cases h
  · split at h
    · next tags ml rt e2 =>
      split at h
      · next c => exact zret_r h e2 (fun _ => rfl) (fun _ => rfl)
      · cases h
    · cases h
  · cases h
theorem zl_set {l : List zV} {k : Nat} {v : zV} (hl : zlR l) (hv : zvR v) : zlR (l.set k v) := fun x hx => (List.mem_or_eq_of_mem_set hx).elim (hl x) (fun e => e ▸ hv)
theorem zset1_r {l : List zV} {k : Nat} {v : zV} (hl : zlR l) (hv : zvR v) : zlR (zset1 k v l) := by
  unfold zset1
  split
  · exact zl_set hl hv
  · refine zl_set ?_ hv
    split
    · simp only [Bool.cond_eq_ite]
      split
      · exact zl_set hl zv_9
      · exact hl
    · exact hl
theorem zloc_r {q : Nat × Nat} {n : Int} {ls st ls' st' : List zV} (hx : zloc q n ls st = some (ls', st')) (hl : zlR ls) (hs : zlR st) : zlR ls' ∧ zlR st' := by
  unfold zloc at hx
  simp only [Bool.cond_eq_ite] at hx
  split at hx
  · split at hx
    · next v e =>
      split at hx
      · have hx := Option.some.inj hx
        have e1 : ls = ls' := congrArg Prod.fst hx
        have e2 : v :: st = st' := congrArg Prod.snd hx
        rw [← e1, ← e2]
        exact ⟨hl, zl_c (hl v (List.mem_of_getElem? e)) hs⟩
      · cases hx
    · cases hx
  · split at hx
    · split at hx
      · next v e =>
        split at hx
        · have hx := Option.some.inj hx
          have e1 := congrArg Prod.fst hx
          have e2 : st = st' := congrArg Prod.snd hx
          dsimp only at e1
          rw [← e1, ← e2]
          exact ⟨zset1_r hl (zv_i (z32_32 _)), hs⟩
        · cases hx
      · cases hx
    · rcases st with _ | ⟨v, st⟩
      · cases hx
      · dsimp only at hx
        split at hx
        · split at hx
          · split at hx
            · have hx := Option.some.inj hx
              have e1 := congrArg Prod.fst hx
              have e2 : st = st' := congrArg Prod.snd hx
              dsimp only at e1
              rw [← e1, ← e2]
              exact ⟨zl_set (zset1_r hl (zl_h hs)) zv_9, zl_t hs⟩
            · cases hx
          · split at hx
            · have hx := Option.some.inj hx
              have e1 := congrArg Prod.fst hx
              have e2 : st = st' := congrArg Prod.snd hx
              dsimp only at e1
              rw [← e1, ← e2]
              exact ⟨zset1_r hl (zl_h hs), zl_t hs⟩
            · cases hx
        · cases hx
theorem zargs_r : ∀ {l : List zV}, zlR l → zlR (zargs l) := by
  intro l
  induction l with
  | nil => exact fun h => h
  | cons v r ih =>
    intro h
    show zlR (bif Nat.beq v.1 1 then v :: (9, 0) :: zargs r else v :: zargs r)
    simp only [Bool.cond_eq_ite]
    split
    · exact zl_c (zl_h h) (zl_c zv_9 (ih (zl_t h)))
    · exact zl_c (zl_h h) (ih (zl_t h))
theorem zpad_r : ∀ (n : Nat) {l : List zV}, zlR l → zlR (zpad n l) := by
  intro n
  induction n with
  | zero => intro l _ x hx; cases hx
  | succ n ih =>
    intro l h
    cases l with
    | nil => exact zl_c zv_9 (ih h)
    | cons v r => exact zl_c (zl_h h) (ih (zl_t h))
theorem zmkl_r {m : Nat} {l : List zV} (h : zlR l) : zlR (zmkl m l) := by
  unfold zmkl
  split
  · exact zpad_r _ (zargs_r h)
  · intro x hx; cases hx
theorem zpush_r {m : Nat} {v : Int} {rest : List zV} (h : zlR rest) (hv : zrR m v) : zlR (zpush m v rest) := by
  unfold zpush
  split
  · next tags ml rt e =>
    have q := hv _ _ _ e
    simp only [Bool.cond_eq_ite, Nat.beq_eq]
    split
    · exact h
    · refine zl_c ?_ h
      by_cases c : rt = 1
      · rw [if_pos c]; exact zv_l (q.1 c)
      · rw [if_neg c]; exact zv_i (q.2 c)
  · exact h
theorem zmi_lt {m : Nat} {q : List Nat × Nat × Nat} (h : zmi m = some q) : m < 288 := by
  cases e : Nat.blt m 288 with
  | true => exact Nat.le_of_ble_eq_true e
  | false =>
    have e' : zmi m = none := by
      unfold zmi
      rw [e]
      rfl
    rw [e'] at h
    cases h
theorem zhd_r {m : Nat} {c k : Int} (h : zhd m c = some k) : zrR m k := by
  intro tags ml rt e
  have hd : (List.range 288).all (fun m => (zhp m).all (fun q => decide (z32 q.2 = q.2) && (match zmi m with | some (_, _, rt) => !Nat.beq rt 1 | none => true))) = true := by decide +kernel
  have h3 := List.all_eq_true.mp hd m (List.mem_range.mpr (zmi_lt e))
  unfold zhd at h
  cases f : (zhp m).find? (fun q => decide (q.1 = c)) with
  | none => rw [f] at h; cases h
  | some q =>
    rw [f] at h
    have hk : q.2 = k := Option.some.inj h
    have h4 := List.all_eq_true.mp h3 q (List.mem_of_find?_eq_some f)
    rw [e] at h4
    have h4 : (decide (z32 q.2 = q.2) && !Nat.beq rt 1) = true := h4
    simp only [Bool.and_eq_true, decide_eq_true_eq, Bool.not_eq_true'] at h4
    rw [hk] at h4
    refine ⟨fun u => ?_, fun _ => h4.1⟩
    rw [u] at h4
    exact absurd h4.2 (by decide)
def zFr (F : Nat → Nat → List zV → List zV → zS → Option (Int × Int × zS)) : Prop := ∀ m pc ls st S c v S', zlR ls → zlR st → zhR S → F m pc ls st S = some (c, v, S') → zhR S' ∧ (c = 0 → zrR m v)
theorem zfin_r {F : Nat → Nat → List zV → List zV → zS → Option (Int × Int × zS)} (hF : zFr F) {m nx : Nat} {ls : List zV} {S : zS} {N : zN} (hl : zlR ls) (hS : zhR S) (hN : zNr m N) {c v : Int} {S' : zS} (h : zfin F m nx ls S N = some (c, v, S')) : zhR S' ∧ (c = 0 → zrR m v) := by
  rcases N with ⟨pc, st, S2⟩ | ⟨cs, d, st⟩ | v' | ⟨m', args, rest⟩ | c'
  · exact hF m pc ls st S2 c v S' hl hN.1 hN.2 h
  · obtain ⟨t, ht⟩ := zpick_some h
    exact hF m t ls st S c v S' hl hN hS ht
  · have h : some ((0 : Int), v', S) = some (c, v, S') := h
    cases h
    exact ⟨hS, fun _ => hN⟩
  · have h : (match F m' 0 (zmkl m' args) [] S with
      | none => none
      | some (c, v, S') => if c = 0 then F m nx ls (zpush m' v rest) S' else (match zhd m c with
        | some k => some (0, k, (S'.1 + 1, S'.2))
        | none => some (c, 0, S'))) = some (c, v, S') := h
    cases e : F m' 0 (zmkl m' args) [] S with
    | none => rw [e] at h; cases h
    | some x =>
      obtain ⟨c1, v1, S1⟩ := x
      rw [e] at h
      have t1 := hF _ _ _ _ _ _ _ _ (zmkl_r hN.1) (fun x hx => by cases hx) hS e
      dsimp only at h
      by_cases hc : c1 = 0
      · rw [if_pos hc] at h
        exact hF _ _ _ _ _ _ _ _ hl (zpush_r hN.2 (t1.2 hc)) t1.1 h
      · rw [if_neg hc] at h
        cases e2 : zhd m c1 with
        | none => rw [e2] at h; cases h; exact ⟨t1.1, fun u => absurd u hc⟩
        | some k => rw [e2] at h; cases h; exact ⟨t1.1, fun _ => zhd_r e2⟩
  · have h : some (c', (0 : Int), S) = some (c, v, S') := h
    cases h
    exact ⟨hS, fun _ => fun _ _ _ _ => ⟨fun _ => rfl, fun _ => rfl⟩⟩
theorem zone_r {md : Nat} {F : Nat → Nat → List zV → List zV → zS → Option (Int × Int × zS)} (hF : zFr F) {m pc : Nat} {ls st : List zV} {S : zS} {c v : Int} {S' : zS} (hl : zlR ls) (hs : zlR st) (hS : zhR S) (h : zone md F m pc ls st S = some (c, v, S')) : zhR S' ∧ (c = 0 → zrR m v) := by
  unfold zone at h
  split at h
  · cases h
  · next i nx r e0 =>
    split at h
    · split at h
      · cases h
      · next ls' st' e =>
        have q := zloc_r e hl hs
        exact hF _ _ _ _ _ _ _ _ q.1 q.2 hS h
    · split at h
      · cases h
      · next N e => exact zfin_r hF hl hS (zpure_r (zcd_ok e0) e hs hS) h
      · next g N e =>
        by_cases hg : g
        · rw [if_pos hg] at h
          exact zfin_r hF hl hS (zpure_r (zcd_ok e0) e hs hS hg) h
        · rw [if_neg hg] at h; cases h
theorem zex_r {md : Nat} : ∀ (n : Nat), zFr (zex md n) := by
  intro n
  induction n with
  | zero => intro m pc ls st S c v S' _ _ _ h; cases h
  | succ n ih => intro m pc ls st S c v S' hl hs hS h; exact zone_r ih hl hs hS h
theorem zEnds_rg {md m pc : Nat} {ls st : List zV} {S : zS} {Qr Qt : Int → zS → Prop} (hl : zlR ls) (hs : zlR st) (hS : zhR S) (h : zEnds md m pc ls st S Qr Qt) : zEnds md m pc ls st S (fun v S' => Qr v S' ∧ zhR S') (fun c S' => Qt c S' ∧ zhR S') := by
  obtain ⟨n, c, v, S', e, hq⟩ := h
  have q := (zex_r n _ _ _ _ _ _ _ _ hl hs hS e).1
  refine ⟨n, c, v, S', e, ?_⟩
  rcases hq with hq | hq
  · exact Or.inl ⟨hq.1, hq.2, q⟩
  · exact Or.inr ⟨hq.1, hq.2, q⟩
