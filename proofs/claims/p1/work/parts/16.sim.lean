section ZSIM8
variable {l : Launch} {md : Nat}
/-- from there the machine goes as the small one does: in every invocation that fits -/
def zOK (l : Launch) (m : Nat) (ls : List zV) (v : Int) (S' : zS) (pc : Nat) (st : List zV) (S : zS) : Prop :=
  (S'.1 = S.1 ∧ S'.2.1 = S.2.1) ∧ ∀ (tags : List Nat) (maxL rt : Nat), zmi m = some (tags, maxL, rt) → ∀ (D : va_G) (cs : ClassId × ClassId × ClassId × ClassId) (E : zE) (p : Program) (e : Env) (s : State) (mid : MethodId) (args : Array Value) (below : List Frame) (meth : Method) (c : Code) (cls : Array Slot),
    zCx p s mid args meth c m D cs E maxL → meth.sig.returnType = zrty rt → meth.locks = false → zL E maxL ls cls → (∀ w ∈ ls, zokv S.1 w) → zK p l e (zroom m) s mid args below meth c 0 0 (MQ below (zQc D cs E rt v S') args s 0 0 (fun q => E.1 ≤ q)) D cs E cls pc st S
theorem zOK.step {m pc pc1 : Nat} {ls st st1 : List zV} {v : Int} {S S1 S' : zS} (h : zOK l m ls v S' pc1 st1 S1) (ht : S1.1 = S.1 ∧ S1.2.1 = S.2.1)
    (k : ∀ (D : va_G) (cs : ClassId × ClassId × ClassId × ClassId) (E : zE) (p : Program) (e : Env) (s : State) (mid : MethodId) (args : Array Value) (below : List Frame) (meth : Method) (c : Code) (cls : Array Slot) (nL : Nat) (Q : State → Prop), zCx p s mid args meth c m D cs E nL → cls.size = nL →
      zK p l e (zroom m) s mid args below meth c 0 0 Q D cs E cls pc1 st1 S1 → zK p l e (zroom m) s mid args below meth c 0 0 Q D cs E cls pc st S) : zOK l m ls v S' pc st S :=
  ⟨⟨h.1.1.trans ht.1, h.1.2.trans ht.2⟩, fun tags maxL rt hm D cs E p e s mid args below meth c cls C hr hl hL hk => k D cs E p e s mid args below meth c cls maxL _ C hL.2.1 (h.2 tags maxL rt hm D cs E p e s mid args below meth c cls C hr hl hL (by rw [ht.1]; exact hk))⟩
theorem zbif {α : Type} {b : Bool} {x : Option α} {y : α} (h : (bif b then x else none) = some y) : b = true ∧ x = some y := by
  cases b with
  | true => exact ⟨rfl, h⟩
  | false => cases h
theorem zb0 {t : Nat} (h : Nat.beq t 0 = true) : t = 0 := Nat.eq_of_beq_eq_true h
theorem zpick_one {F : Nat → Option (Int × Int × zS)} {d : Nat} {r : Int × Int × zS} : ∀ {cs : List (Prop × Nat)}, zpick F d cs = some r → ∃ t, F t = some r ∧ ∀ (P : Nat → Prop), P t → zall P d cs := by
  intro cs
  induction cs with
  | nil => intro h; exact ⟨d, h, fun P hP => hP⟩
  | cons q cs ih =>
    obtain ⟨c, t⟩ := q
    intro h
    by_cases hc : c
    · simp only [zpick, if_pos hc] at h
      exact ⟨t, h, fun P hP => ⟨fun _ => hP, fun z => absurd hc z⟩⟩
    · simp only [zpick, if_neg hc] at h
      obtain ⟨t', h1, h2⟩ := ih h
      exact ⟨t', h1, fun P hP => ⟨fun z => absurd z hc, fun _ => h2 P hP⟩⟩
theorem zgo_inv {pc : Nat} {st : List zV} {S : zS} {N : zR} (h : zgo pc st S = some N) : N = .inl (.inl (pc, st, S)) := (Option.some.inj h).symm
theorem zgg_inv {g : Prop} {pc : Nat} {st : List zV} {S : zS} {N : zR} (h : zgg g pc st S = some N) : N = .inr (g, .inl (pc, st, S)) := (Option.some.inj h).symm
theorem zbr_inv {cs : List (Prop × Nat)} {d : Nat} {st : List zV} {N : zR} (h : zbr cs d st = some N) : N = .inl (.inr (.inl (cs, d, st))) := (Option.some.inj h).symm
/-- what a run of one instruction more is -/
noncomputable def zrun (md n m nx : Nat) (ls : List zV) (S : zS) (N : zR) : Option (Int × Int × zS) := match N with
  | .inl N => zfin (zex md n) m nx ls S N
  | .inr (g, N) => @ite _ g (Classical.propDecidable g) (zfin (zex md n) m nx ls S N) none
theorem zrun_gg {n m nx pc1 : Nat} {ls st1 : List zV} {S S1 : zS} {g : Prop} {x : Int × Int × zS} (h : zrun md n m nx ls S (.inr (g, .inl (pc1, st1, S1))) = some x) : g ∧ zex md n m pc1 ls st1 S1 = some x := by
  unfold zrun at h
  dsimp only at h
  by_cases hg : g
  · rw [if_pos hg] at h; exact ⟨hg, h⟩
  · rw [if_neg hg] at h; cases h
theorem zlow {k t : Nat} (hk : Nat.beq t k = true) : t = k := Nat.eq_of_beq_eq_true hk
theorem znr_facts {m : Nat} {rest : List zV} (h : znr m rest = true) : (rest.map zcat).sum ≤ 8 ∧ 1 ≤ (zrm m).1 ∧ 32 ≤ (zrm m).2 := by
  unfold znr at h
  simp only [Bool.and_eq_true] at h
  exact ⟨Nat.le_of_ble_eq_true h.1.1, Nat.le_of_ble_eq_true h.1.2, Nat.le_of_ble_eq_true h.2⟩
theorem zst_dec : (List.range 266).all (fun m => (List.range (zbl m)).all (fun pc => match zcd m pc with
  | some (.invokestatic _, _, r) => Nat.blt r 266 || Nat.ble 900 r
  | _ => true)) = true := by decide +kernel
theorem zst_low {m pc j nx r : Nat} (hm : m < 266) (h : zcd m pc = some (.invokestatic j, nx, r)) : (Nat.blt r 266 || Nat.ble 900 r) = true := by
  have hlt : pc < zbl m := by
    unfold zcd at h
    cases hb : (Nat.blt m 288 && Nat.blt pc (zbl m)) with
    | false => rw [hb] at h; cases h
    | true => rw [Bool.and_eq_true] at hb; exact Nat.le_of_ble_eq_true hb.2
  have h2 := List.all_eq_true.mp (List.all_eq_true.mp zst_dec m (List.mem_range.mpr hm)) pc (List.mem_range.mpr hlt)
  rw [h] at h2
  exact h2
theorem zhd_none {m : Nat} (h : m < 266) (c : Int) : zhd m c = none := by
  unfold zhd zhp
  rw [show Nat.blt m 266 = true from Nat.ble_eq_true_of_le h]
  rfl
theorem zcall_low {m r nx : Nat} {st : List zV} {S : zS} {N : zR} (h9 : Nat.ble 900 r = false) (h : zcall m r nx st S = some N) : ∃ tags maxL rt, zmi r = some (tags, maxL, rt) ∧ N = .inl (.inr (.inr (.inr (.inl (r, (st.take tags.length).reverse, st.drop tags.length))))) ∧ (st.take tags.length).map (fun v => v.1) = tags.reverse ∧ ((st.drop tags.length).map zcat).sum ≤ 8 ∧ (zrm r).1 + 1 ≤ (zrm m).1 ∧ (zrm r).2 + 8 + (maxL + 11) ≤ (zrm m).2 := by
  unfold zcall at h
  rw [h9] at h
  simp only [cond_false] at h
  cases hmi : zmi r with
  | none => rw [hmi] at h; cases h
  | some q =>
    obtain ⟨tags, maxL, rt⟩ := q
    rw [hmi] at h
    obtain ⟨h1, h2⟩ := zbif h
    simp only [Bool.and_eq_true, beq_iff_eq] at h1
    exact ⟨tags, maxL, rt, rfl, (Option.some.inj h2).symm, h1.1.1.1, Nat.le_of_ble_eq_true h1.1.1.2, Nat.le_of_ble_eq_true h1.1.2, Nat.le_of_ble_eq_true h1.2⟩
theorem zcall_run {n m r nx : Nat} {ls as rest : List zV} {S S' : zS} {v : Int} (hm : m < 266) (h : zrun md n m nx ls S (.inl (.inr (.inr (.inr (.inl (r, as, rest)))))) = some (0, v, S')) : ∃ v1 S1, zex md n r 0 (zmkl r as) [] S = some (0, v1, S1) ∧ zex md n m nx ls (zpush r v1 rest) S1 = some (0, v, S') := by
  unfold zrun at h
  simp only [zfin] at h
  cases hF : zex md n r 0 (zmkl r as) [] S with
  | none => rw [hF] at h; cases h
  | some q =>
    obtain ⟨c, v1, S1⟩ := q
    rw [hF] at h
    dsimp only at h
    by_cases hc : c = 0
    · rw [if_pos hc] at h
      subst hc
      exact ⟨v1, S1, rfl, h⟩
    · rw [if_neg hc, zhd_none hm] at h
      simp only [Option.some.injEq, Prod.mk.injEq] at h
      exact absurd h.1 hc
theorem zsplit {st : List zV} {tags : List Nat} (h : (st.take tags.length).map (fun v => v.1) = tags.reverse) : st = (st.take tags.length).reverse.reverse ++ st.drop tags.length ∧ tags = (st.take tags.length).reverse.map (fun v => v.1) := by
  refine ⟨by rw [List.reverse_reverse, List.take_append_drop], ?_⟩
  rw [List.map_reverse, h, List.reverse_reverse]
set_option maxHeartbeats 4000000 in
/-- THE SMALL MACHINE'S RUNS ARE RUNS OF THE MACHINE: of a method that is no constructor, where it returns -/
theorem zsim : ∀ (n m pc : Nat) (ls st : List zV) (S : zS) (v : Int) (S' : zS), m < 266 → zini m = false → md ≤ S.1 → zex md n m pc ls st S = some (0, v, S') → zOK l m ls v S' pc st S := by
  intro n
  induction n with
  | zero => intro m pc ls st S v S' _ _ _ h; cases h
  | succ n ih =>
    intro m pc ls st S v S' hm hin hmd hx
    have hx : zone md (zex md n) m pc ls st S = some (0, v, S') := hx
    unfold zone at hx
    cases hcd : zcd m pc with
    | none => rw [hcd] at hx; cases hx
    | some q =>
    obtain ⟨i, nx, r⟩ := q
    rw [hcd] at hx
    dsimp only at hx
    obtain ⟨hd, hlt, hil, hik⟩ := zdec (zdk_ok hm) hcd
    cases hl : zlk i with
    | some q =>
      rw [hl] at hx
      dsimp only at hx
      cases hz : zloc q (zinc i) ls st with
      | none => rw [hz] at hx; cases hx
      | some w =>
        obtain ⟨ls', st'⟩ := w
        rw [hz] at hx
        have h1 := ih m nx ls' st' S v S' hm hin hmd hx
        refine ⟨h1.1, fun tags maxL rt hmi D cs E p e s mid args below meth c cls C hr hlk hL hk => ?_⟩
        intro H locs hG hok
        obtain ⟨o1, o2⟩ := zloc_ok hz hk hok
        exact zs_loc C hcd hl hz hL hk (fun cls' hL' => h1.2 tags maxL rt hmi D cs E p e s mid args below meth c cls' C hr hlk hL' o1) H locs hG hok
    | none =>
      rw [hl] at hx
      dsimp only at hx
      cases hp : zpure md m i nx r st S with
      | none => rw [hp] at hx; cases hx
      | some N =>
      rw [hp] at hx
      have hx : zrun md n m nx ls S N = some (0, v, S') := by
        rcases N with N | ⟨g, N⟩ <;> exact hx
      have go : ∀ {pc1 : Nat} {st1 : List zV} {S1 : zS}, zex md n m pc1 ls st1 S1 = some (0, v, S') → S1.1 = S.1 → zOK l m ls v S' pc1 st1 S1 := fun h ht => ih m _ ls _ _ v S' hm hin (by rw [ht]; exact hmd) h
      unfold zpure at hp
      cases hb : zbin i with
      | some f =>
        rw [hb] at hp
        dsimp only at hp
        rcases st with _ | ⟨⟨t, y⟩, _ | ⟨⟨u, x⟩, rest⟩⟩
        · cases hp
        · cases hp
        · obtain ⟨h1, h2⟩ := zbif hp
          simp only [Bool.and_eq_true] at h1
          cases zb0 h1.1; cases zb0 h1.2
          cases zgo_inv h2
          exact (go hx rfl).step ⟨rfl, rfl⟩ (fun _ _ _ _ _ _ _ _ _ _ _ _ _ _ C _ k => zs_bin C hcd hb k)
      | none =>
      rw [hb] at hp
      dsimp only at hp
      cases hlb : zlb i with
      | some f =>
        rw [hlb] at hp
        dsimp only at hp
        rcases st with _ | ⟨⟨t, y⟩, _ | ⟨⟨u, x⟩, rest⟩⟩
        · cases hp
        · cases hp
        · obtain ⟨h1, h2⟩ := zbif hp
          simp only [Bool.and_eq_true] at h1
          cases zlow h1.1; cases zlow h1.2
          cases zgo_inv h2
          exact (go hx rfl).step ⟨rfl, rfl⟩ (fun _ _ _ _ _ _ _ _ _ _ _ _ _ _ C _ k => zs_lb C hcd hlb k)
      | none =>
      rw [hlb] at hp
      dsimp only at hp
      cases hls : zlsh i with
      | some f =>
        rw [hls] at hp
        dsimp only at hp
        rcases st with _ | ⟨⟨t, y⟩, _ | ⟨⟨u, x⟩, rest⟩⟩
        · cases hp
        · cases hp
        · obtain ⟨h1, h2⟩ := zbif hp
          simp only [Bool.and_eq_true] at h1
          cases zlow h1.1; cases zlow h1.2
          cases zgo_inv h2
          exact (go hx rfl).step ⟨rfl, rfl⟩ (fun _ _ _ _ _ _ _ _ _ _ _ _ _ _ C _ k => zs_lsh C hcd hls k)
      | none =>
      rw [hls] at hp
      dsimp only at hp
      cases i
      case iconst a =>
        cases zgo_inv hp
        exact (go hx rfl).step ⟨rfl, rfl⟩ (fun _ _ _ _ _ _ _ _ _ _ _ _ _ _ C _ k => zs_iconst C hcd k)
      case bipush a =>
        cases zgo_inv hp
        exact (go hx rfl).step ⟨rfl, rfl⟩ (fun _ _ _ _ _ _ _ _ _ _ _ _ _ _ C _ k => zs_bipush C hcd k)
      case sipush a =>
        cases zgo_inv hp
        exact (go hx rfl).step ⟨rfl, rfl⟩ (fun _ _ _ _ _ _ _ _ _ _ _ _ _ _ C _ k => zs_sipush C hcd k)
      case lconst a =>
        cases zgo_inv hp
        exact (go hx rfl).step ⟨rfl, rfl⟩ (fun _ _ _ _ _ _ _ _ _ _ _ _ _ _ C _ k => zs_lconst C hcd k)
      case ldc2_w a =>
        cases zgo_inv hp
        exact (go hx rfl).step ⟨rfl, rfl⟩ (fun _ _ _ _ _ _ _ _ _ _ _ _ _ _ C _ k => zs_ldc2 C hcd k)
      case ldc a =>
        dsimp only at hp
        cases h0 : Nat.beq r 0 with
        | true => rw [h0] at hp; cases hp
        | false =>
          rw [h0] at hp
          cases zgo_inv hp
          exact (go hx rfl).step ⟨rfl, rfl⟩ (fun _ _ _ _ _ _ _ _ _ _ _ _ _ _ C _ k => zs_ldc C hcd h0 k)
      case ldc_w a =>
        dsimp only at hp
        cases h0 : Nat.beq r 0 with
        | true => rw [h0] at hp; cases hp
        | false =>
          rw [h0] at hp
          cases zgo_inv hp
          exact (go hx rfl).step ⟨rfl, rfl⟩ (fun _ _ _ _ _ _ _ _ _ _ _ _ _ _ C _ k => zs_ldcw C hcd h0 k)
      case goto a =>
        cases zgo_inv hp
        exact (go hx rfl).step ⟨rfl, rfl⟩ (fun _ _ _ _ _ _ _ _ _ _ _ _ _ _ C _ k => zs_goto C hcd k)
      case getstatic a =>
        cases zgo_inv hp
        exact (go hx rfl).step ⟨rfl, rfl⟩ (fun _ _ _ _ _ _ _ _ _ _ _ _ _ _ C _ k => zs_gets C hcd k)
      case idiv =>
        rcases st with _ | ⟨⟨t, y⟩, _ | ⟨⟨u, x⟩, rest⟩⟩
        · cases hp
        · cases hp
        · obtain ⟨h1, h2⟩ := zbif hp
          simp only [Bool.and_eq_true] at h1
          cases zb0 h1.1; cases zb0 h1.2
          cases zgg_inv h2
          obtain ⟨hg, hx2⟩ := zrun_gg hx
          exact (go hx2 rfl).step ⟨rfl, rfl⟩ (fun _ _ _ _ _ _ _ _ _ _ _ _ _ _ C _ k => zs_idiv C hcd hg k)
      case irem =>
        rcases st with _ | ⟨⟨t, y⟩, _ | ⟨⟨u, x⟩, rest⟩⟩
        · cases hp
        · cases hp
        · obtain ⟨h1, h2⟩ := zbif hp
          simp only [Bool.and_eq_true] at h1
          cases zb0 h1.1; cases zb0 h1.2
          cases zgg_inv h2
          obtain ⟨hg, hx2⟩ := zrun_gg hx
          exact (go hx2 rfl).step ⟨rfl, rfl⟩ (fun _ _ _ _ _ _ _ _ _ _ _ _ _ _ C _ k => zs_irem C hcd hg k)
      case lcmp =>
        rcases st with _ | ⟨⟨t, y⟩, _ | ⟨⟨u, x⟩, rest⟩⟩
        · cases hp
        · cases hp
        · obtain ⟨h1, h2⟩ := zbif hp
          simp only [Bool.and_eq_true] at h1
          cases zlow h1.1; cases zlow h1.2
          cases zgo_inv h2
          exact (go hx rfl).step ⟨rfl, rfl⟩ (fun _ _ _ _ _ _ _ _ _ _ _ _ _ _ C _ k => zs_lcmp C hcd k)
      case i2l =>
        rcases st with _ | ⟨⟨t, x⟩, rest⟩
        · cases hp
        · obtain ⟨h1, h2⟩ := zbif hp
          cases zb0 h1
          cases zgo_inv h2
          exact (go hx rfl).step ⟨rfl, rfl⟩ (fun _ _ _ _ _ _ _ _ _ _ _ _ _ _ C _ k => zs_i2l C hcd k)
      case l2i =>
        rcases st with _ | ⟨⟨t, x⟩, rest⟩
        · cases hp
        · obtain ⟨h1, h2⟩ := zbif hp
          cases zlow h1
          cases zgo_inv h2
          exact (go hx rfl).step ⟨rfl, rfl⟩ (fun _ _ _ _ _ _ _ _ _ _ _ _ _ _ C _ k => zs_l2i C hcd k)
      case i2b =>
        rcases st with _ | ⟨⟨t, x⟩, rest⟩
        · cases hp
        · obtain ⟨h1, h2⟩ := zbif hp
          cases zb0 h1
          cases zgo_inv h2
          exact (go hx rfl).step ⟨rfl, rfl⟩ (fun _ _ _ _ _ _ _ _ _ _ _ _ _ _ C _ k => zs_i2b C hcd k)
      case dup =>
        rcases st with _ | ⟨a, rest⟩
        · cases hp
        · obtain ⟨h1, h2⟩ := zbif hp
          cases zgo_inv h2
          exact (go hx rfl).step ⟨rfl, rfl⟩ (fun _ _ _ _ _ _ _ _ _ _ _ _ _ _ C _ k => zs_dup C hcd (zlow h1) k)
      case pop =>
        rcases st with _ | ⟨a, rest⟩
        · cases hp
        · obtain ⟨h1, h2⟩ := zbif hp
          cases zgo_inv h2
          exact (go hx rfl).step ⟨rfl, rfl⟩ (fun _ _ _ _ _ _ _ _ _ _ _ _ _ _ C _ k => zs_pop C hcd (zlow h1) k)
      case dup2 =>
        rcases st with _ | ⟨a, _ | ⟨b, rest⟩⟩
        · cases hp
        · cases hp
        · obtain ⟨h1, h2⟩ := zbif hp
          simp only [Bool.and_eq_true] at h1
          cases zgo_inv h2
          exact (go hx rfl).step ⟨rfl, rfl⟩ (fun _ _ _ _ _ _ _ _ _ _ _ _ _ _ C _ k => zs_dup2 C hcd (zlow h1.1) (zlow h1.2) k)
      case dup_x1 =>
        rcases st with _ | ⟨a, _ | ⟨b, rest⟩⟩
        · cases hp
        · cases hp
        · obtain ⟨h1, h2⟩ := zbif hp
          simp only [Bool.and_eq_true] at h1
          cases zgo_inv h2
          exact (go hx rfl).step ⟨rfl, rfl⟩ (fun _ _ _ _ _ _ _ _ _ _ _ _ _ _ C _ k => zs_dup_x1 C hcd (zlow h1.1) (zlow h1.2) k)
      case dup_x2 =>
        rcases st with _ | ⟨a, _ | ⟨b, _ | ⟨d, rest⟩⟩⟩
        · cases hp
        · cases hp
        · cases hp
        · obtain ⟨h1, h2⟩ := zbif hp
          simp only [Bool.and_eq_true] at h1
          cases zgo_inv h2
          exact (go hx rfl).step ⟨rfl, rfl⟩ (fun _ _ _ _ _ _ _ _ _ _ _ _ _ _ C _ k => zs_dup_x2 C hcd (zlow h1.1.1) (zlow h1.1.2) (zlow h1.2) k)
      case ifCond cd off =>
        rcases st with _ | ⟨⟨t, x⟩, rest⟩
        · cases hp
        · obtain ⟨h1, h2⟩ := zbif hp
          cases zb0 h1
          cases zbr_inv h2
          by_cases hc : zcn cd x 0
          · have hx : zex md n m r ls rest S = some (0, v, S') := by simpa only [zrun, zfin, zpick, if_pos hc] using hx
            exact (go hx rfl).step ⟨rfl, rfl⟩ (fun _ _ _ _ _ _ _ _ _ _ _ _ _ _ C _ k => zs_if C hcd (fun _ => k) (fun z => absurd hc z))
          · have hx : zex md n m nx ls rest S = some (0, v, S') := by simpa only [zrun, zfin, zpick, if_neg hc] using hx
            exact (go hx rfl).step ⟨rfl, rfl⟩ (fun _ _ _ _ _ _ _ _ _ _ _ _ _ _ C _ k => zs_if C hcd (fun z => absurd z hc) (fun _ => k))
      case if_icmp cd off =>
        rcases st with _ | ⟨⟨t, y⟩, _ | ⟨⟨u, x⟩, rest⟩⟩
        · cases hp
        · cases hp
        · obtain ⟨h1, h2⟩ := zbif hp
          simp only [Bool.and_eq_true] at h1
          cases zb0 h1.1; cases zb0 h1.2
          cases zbr_inv h2
          by_cases hc : zcn cd x y
          · have hx : zex md n m r ls rest S = some (0, v, S') := by simpa only [zrun, zfin, zpick, if_pos hc] using hx
            exact (go hx rfl).step ⟨rfl, rfl⟩ (fun _ _ _ _ _ _ _ _ _ _ _ _ _ _ C _ k => zs_icmp C hcd (fun _ => k) (fun z => absurd hc z))
          · have hx : zex md n m nx ls rest S = some (0, v, S') := by simpa only [zrun, zfin, zpick, if_neg hc] using hx
            exact (go hx rfl).step ⟨rfl, rfl⟩ (fun _ _ _ _ _ _ _ _ _ _ _ _ _ _ C _ k => zs_icmp C hcd (fun z => absurd z hc) (fun _ => k))
      case tableswitch df lo hi offs =>
        rcases st with _ | ⟨⟨t, x⟩, rest⟩
        · cases hp
        · obtain ⟨h1, h2⟩ := zbif hp
          cases zb0 h1
          cases zbr_inv h2
          obtain ⟨t, h3, h4⟩ := zpick_one hx
          exact (go h3 rfl).step ⟨rfl, rfl⟩ (fun _ _ _ _ _ _ _ _ _ _ _ _ _ _ C _ k => zs_switch C hcd (h4 _ k))
      case lookupswitch a b => cases hik
      case arraylength =>
        rcases st with _ | ⟨⟨t, o⟩, rest⟩
        · cases hp
        · obtain ⟨h1, h2⟩ := zbif hp
          simp only [Bool.and_eq_true] at h1
          cases zgo_inv h2
          exact (go hx rfl).step ⟨rfl, rfl⟩ (fun _ _ _ _ _ _ _ _ _ _ _ _ _ _ C _ k => zs_alen C hcd ⟨Nat.le_of_ble_eq_true h1.1, Nat.le_of_ble_eq_true h1.2⟩ k)
      case iaload =>
        rcases st with _ | ⟨⟨t, j⟩, _ | ⟨⟨u, o⟩, rest⟩⟩
        · cases hp
        · cases hp
        · obtain ⟨h1, h2⟩ := zbif hp
          simp only [Bool.and_eq_true, Bool.or_eq_true] at h1
          cases zb0 h1.1
          cases zgg_inv h2
          obtain ⟨hg, hx2⟩ := zrun_gg hx
          rcases h1.2 with z | z
          · cases zlow z
            exact (go hx2 rfl).step ⟨rfl, rfl⟩ (fun _ _ _ _ _ _ _ _ _ _ _ _ _ _ C _ k => zs_iald C hcd hg k)
          · cases zlow z
            exact (go hx2 rfl).step ⟨rfl, rfl⟩ (fun _ _ _ _ _ _ _ _ _ _ _ _ _ _ C _ k => zs_xald C hcd hg k)
      case laload =>
        rcases st with _ | ⟨⟨t, j⟩, _ | ⟨⟨u, o⟩, rest⟩⟩
        · cases hp
        · cases hp
        · obtain ⟨h1, h2⟩ := zbif hp
          simp only [Bool.and_eq_true] at h1
          cases zb0 h1.1; cases zlow h1.2
          cases zgg_inv h2
          obtain ⟨hg, hx2⟩ := zrun_gg hx
          exact (go hx2 rfl).step ⟨rfl, rfl⟩ (fun _ _ _ _ _ _ _ _ _ _ _ _ _ _ C _ k => zs_lald C hcd hg k)
      case baload =>
        rcases st with _ | ⟨⟨t, j⟩, _ | ⟨⟨u, o⟩, rest⟩⟩
        · cases hp
        · cases hp
        · obtain ⟨h1, h2⟩ := zbif hp
          simp only [Bool.and_eq_true, Bool.or_eq_true] at h1
          cases zb0 h1.1
          cases zgg_inv h2
          obtain ⟨hg, hx2⟩ := zrun_gg hx
          rcases h1.2 with z | z
          · cases zlow z
            exact (go hx2 rfl).step ⟨rfl, rfl⟩ (fun _ _ _ _ _ _ _ _ _ _ _ _ _ _ C _ k => zs_bald C hcd hg k)
          · cases zlow z
            exact (go hx2 rfl).step ⟨rfl, rfl⟩ (fun _ _ _ _ _ _ _ _ _ _ _ _ _ _ C _ k => zs_zald C hcd hg k)
      case iastore =>
        rcases st with _ | ⟨⟨w, a⟩, _ | ⟨⟨t, j⟩, _ | ⟨⟨u, o⟩, rest⟩⟩⟩
        · cases hp
        · cases hp
        · cases hp
        · obtain ⟨h1, h2⟩ := zbif hp
          simp only [Bool.and_eq_true] at h1
          cases zb0 h1.1.1; cases zb0 h1.1.2; cases zlow h1.2
          cases zgg_inv h2
          obtain ⟨hg, hx2⟩ := zrun_gg hx
          exact (go hx2 rfl).step ⟨rfl, rfl⟩ (fun _ _ _ _ _ _ _ _ _ _ _ _ _ _ C _ k => zs_iast C hcd hg k)
      case lastore =>
        rcases st with _ | ⟨⟨w, a⟩, _ | ⟨⟨t, j⟩, _ | ⟨⟨u, o⟩, rest⟩⟩⟩
        · cases hp
        · cases hp
        · cases hp
        · obtain ⟨h1, h2⟩ := zbif hp
          simp only [Bool.and_eq_true] at h1
          cases zlow h1.1.1; cases zb0 h1.1.2; cases zlow h1.2
          cases zgg_inv h2
          obtain ⟨hg, hx2⟩ := zrun_gg hx
          exact (go hx2 rfl).step ⟨rfl, rfl⟩ (fun _ _ _ _ _ _ _ _ _ _ _ _ _ _ C _ k => zs_last C hcd hg k)
      case bastore =>
        rcases st with _ | ⟨⟨w, a⟩, _ | ⟨⟨t, j⟩, _ | ⟨⟨u, o⟩, rest⟩⟩⟩
        · cases hp
        · cases hp
        · cases hp
        · dsimp only at hp
          cases h1 : (Nat.beq w 0 && Nat.beq t 0 && Nat.beq u 12) with
          | true =>
            rw [h1] at hp
            simp only [Bool.and_eq_true] at h1
            cases zb0 h1.1.1; cases zb0 h1.1.2; cases zlow h1.2
            cases zgg_inv hp
            obtain ⟨hg, hx2⟩ := zrun_gg hx
            exact (go hx2 rfl).step ⟨rfl, rfl⟩ (fun _ _ _ _ _ _ _ _ _ _ _ _ _ _ C _ k => zs_bast C hcd hg k)
          | false =>
            rw [h1] at hp
            obtain ⟨h3, h2⟩ := zbif hp
            simp only [Bool.and_eq_true] at h3
            cases zb0 h3.1.1; cases zb0 h3.1.2; cases zlow h3.2
            cases zgg_inv h2
            obtain ⟨hg, hx2⟩ := zrun_gg hx
            exact (go hx2 rfl).step ⟨rfl, rfl⟩ (fun _ _ _ _ _ _ _ _ _ _ _ _ _ _ C _ k => zs_zast C hcd hg k)
      case getfield a =>
        dsimp only at hp
        unfold zfield at hp
        cases hf : zfl r with
        | none => rw [hf] at hp; cases hp
        | some q =>
          obtain ⟨ci, k, ft, tg, tm⟩ := q
          rw [hf] at hp
          dsimp only at hp
          rcases st with _ | ⟨⟨t, o⟩, rest⟩
          · cases hp
          · obtain ⟨h1, h2⟩ := zbif hp
            cases zlow h1
            cases h10 : Nat.ble 10 ft with
            | true =>
              rw [h10] at h2
              simp only [cond_true] at h2
              have h10 := Nat.le_of_ble_eq_true h10
              cases h3 : Nat.blt tm md with
              | true =>
                rw [h3] at h2
                cases zgo_inv h2
                have h3 : tm < S.1 := Nat.lt_of_lt_of_le (Nat.le_of_ble_eq_true h3) hmd
                exact (go hx rfl).step ⟨rfl, rfl⟩ (fun _ _ _ _ _ _ _ _ _ _ _ _ _ _ C _ k => zs_get C hcd hf ⟨fun _ => k, fun z => by omega⟩ (fun _ => h3))
              | false =>
                rw [h3] at h2
                cases zgg_inv h2
                obtain ⟨hg, hx2⟩ := zrun_gg hx
                exact (go hx2 rfl).step ⟨rfl, rfl⟩ (fun _ _ _ _ _ _ _ _ _ _ _ _ _ _ C _ k => zs_get C hcd hf ⟨fun _ => k, fun z => by omega⟩ (fun _ => hg))
            | false =>
              rw [h10] at h2
              simp only [cond_false] at h2
              have hlt : ft < 10 := Nat.not_le.mp (fun z => by rw [Nat.ble_eq_true_of_le z] at h10; cases h10)
              have h0 : (bif Nat.beq ft 3 then 0 else ft) = 0 := by
                rcases (zfl_facts hf).2.2.2.2.2.2.2.1 hlt with rfl | rfl <;> rfl
              rw [h0] at h2
              cases zgo_inv h2
              exact (go hx rfl).step ⟨rfl, rfl⟩ (fun _ _ _ _ _ _ _ _ _ _ _ _ _ _ C _ k => zs_get C hcd hf ⟨fun z => by omega, fun _ => k⟩ (fun z => by omega))
      case putfield a =>
        dsimp only at hp
        unfold zputf at hp
        simp only [zik, hin, Bool.and_eq_true, Bool.false_or] at hik
        cases hf : zfl r with
        | none => rw [hf] at hp; cases hp
        | some q =>
          obtain ⟨ci, k, ft, tg, tm⟩ := q
          rw [hf] at hp hik
          dsimp only at hp hik
          have hlt : ft < 10 := Nat.le_of_ble_eq_true hik.2
          rcases st with _ | ⟨⟨u, a⟩, _ | ⟨⟨t, o⟩, rest⟩⟩
          · cases hp
          · cases hp
          · obtain ⟨h1, h2⟩ := zbif hp
            cases zlow h1
            rw [show Nat.ble 10 ft = false from Bool.eq_false_iff.mpr (fun z => by have := Nat.le_of_ble_eq_true z; omega)] at h2
            simp only [cond_false] at h2
            rcases (zfl_facts hf).2.2.2.2.2.2.2.1 hlt with rfl | rfl
            · obtain ⟨h3, h4⟩ := zbif h2
              cases zb0 h3
              cases zgo_inv h4
              exact (go hx rfl).step ⟨rfl, rfl⟩ (fun _ _ _ _ _ _ _ _ _ _ _ _ _ _ C _ k => zs_put C hcd hf hlt (fun z => by cases z) k)
            · obtain ⟨h3, h4⟩ := zbif h2
              cases zb0 h3
              cases zgg_inv h4
              obtain ⟨hg, hx2⟩ := zrun_gg hx
              exact (go hx2 rfl).step ⟨rfl, rfl⟩ (fun _ _ _ _ _ _ _ _ _ _ _ _ _ _ C _ k => zs_put C hcd hf hlt (fun _ => hg) k)
      case newarray a =>
        simp only [zik, hin, Bool.false_or] at hik
        have := Nat.le_of_ble_eq_true hik
        omega
      case new a =>
        simp only [zik, hin, Bool.false_or, Bool.and_eq_true, Bool.or_eq_true] at hik
        rcases hik with z | z
        · dsimp only at hp
          rw [z] at hp
          simp only [cond_true] at hp
          obtain ⟨hsum, hp2⟩ := zbif hp
          cases hp2
          unfold zrun at hx
          dsimp only at hx
          exfalso
          by_cases hg : zend ≤ S.1
          · rw [if_pos hg] at hx
            simp only [zfin, Option.some.injEq, Prod.mk.injEq] at hx
            have h1 := znew_ok hm hcd
            have h2 := Nat.le_of_ble_eq_true z
            omega
          · rw [if_neg hg] at hx; cases hx
        · have := Nat.le_of_ble_eq_true z.2
          omega
      case ireturn =>
        dsimp only at hp
        cases hmi : zmi m with
        | none => rw [hmi] at hp; rcases st with _ | ⟨⟨t, a⟩, _ | ⟨w, rest⟩⟩ <;> cases hp
        | some q =>
          obtain ⟨tags, maxL, rt⟩ := q
          rw [hmi] at hp
          rcases st with _ | ⟨⟨t, a⟩, _ | ⟨w, rest⟩⟩
          · cases hp
          · dsimp only at hp
            cases h1 : (Nat.beq t 0 && Nat.beq rt 0) with
            | true =>
              rw [h1] at hp
              simp only [Bool.and_eq_true] at h1
              cases zb0 h1.1; cases zb0 h1.2
              cases hp
              cases hx
              refine ⟨⟨rfl, rfl⟩, fun tags' maxL' rt' hm' D cs E p e s mid args below meth c cls C hr hlk hL hk => ?_⟩
              rw [hmi] at hm'
              cases hm'
              exact zs_iret C hcd hr hlk
            | false =>
              rw [h1] at hp
              obtain ⟨h3, h2⟩ := zbif hp
              simp only [Bool.and_eq_true] at h3
              cases zb0 h3.1; cases zlow h3.2
              cases h2
              unfold zrun at hx
              dsimp only at hx
              by_cases hg : a = 0 ∨ a = 1
              · rw [if_pos hg] at hx
                cases hx
                refine ⟨⟨rfl, rfl⟩, fun tags' maxL' rt' hm' D cs E p e s mid args below meth c cls C hr hlk hL hk => ?_⟩
                rw [hmi] at hm'
                cases hm'
                exact zs_zret C hcd hg hr hlk
              · rw [if_neg hg] at hx; cases hx
          · cases hp
      case lreturn =>
        dsimp only at hp
        cases hmi : zmi m with
        | none => rw [hmi] at hp; rcases st with _ | ⟨⟨t, a⟩, _ | ⟨w, rest⟩⟩ <;> cases hp
        | some q =>
          obtain ⟨tags, maxL, rt⟩ := q
          rw [hmi] at hp
          rcases st with _ | ⟨⟨t, a⟩, _ | ⟨w, rest⟩⟩
          · cases hp
          · obtain ⟨h1, h2⟩ := zbif hp
            simp only [Bool.and_eq_true] at h1
            cases zlow h1.1; cases zlow h1.2
            cases h2
            cases hx
            refine ⟨⟨rfl, rfl⟩, fun tags' maxL' rt' hm' D cs E p e s mid args below meth c cls C hr hlk hL hk => ?_⟩
            rw [hmi] at hm'
            cases hm'
            exact zs_lret C hcd hr hlk
          · cases hp
      case return_ =>
        dsimp only at hp
        cases hmi : zmi m with
        | none => rw [hmi] at hp; rcases st with _ | ⟨w, rest⟩ <;> cases hp
        | some q =>
          obtain ⟨tags, maxL, rt⟩ := q
          rw [hmi] at hp
          rcases st with _ | ⟨w, rest⟩
          · obtain ⟨h1, h2⟩ := zbif hp
            cases zlow h1
            cases h2
            cases hx
            refine ⟨⟨rfl, rfl⟩, fun tags' maxL' rt' hm' D cs E p e s mid args below meth c cls C hr hlk hL hk => ?_⟩
            rw [hmi] at hm'
            cases hm'
            exact zs_vret C hcd hr hlk
          · cases hp
      case invokestatic a =>
        dsimp only at hp
        cases h9 : Nat.ble 900 r with
        | false =>
          obtain ⟨tags, maxL, rt, hmi, rfl, e1, e2, e3, e4⟩ := zcall_low h9 hp
          obtain ⟨v1, S1, c1, c2⟩ := zcall_run hm hx
          simp only [zik, Bool.and_eq_true, Bool.or_eq_true, Bool.not_eq_true', h9, Bool.false_and, Bool.false_eq_true, false_or, false_and] at hik
          have hr9 : r < 266 := by
            have h0 := zst_low hm hcd
            rw [h9, Bool.or_false] at h0
            exact Nat.le_of_ble_eq_true h0
          have hst : zst r = true := by
            rcases hik with z | z
            · have := zlow z; omega
            · exact z.2.2
          have hir : zini r = false := by
            cases hz : zini r with
            | false => rfl
            | true => exact absurd ⟨hst, hz⟩ (zrow hr9 hmi).2.2.2.2.2.2
          have h1 := ih r 0 _ [] S v1 S1 hr9 hir hmd c1
          have h2 := ih m nx ls _ S1 v S' hm hin (by rw [h1.1.1]; exact hmd) c2
          obtain ⟨f1, f2⟩ := zsplit e1
          refine h2.step h1.1 (fun D cs E p e s mid args below meth c cls nL Q C hcs k => ?_)
          intro H locs hG hok
          have hoka : ∀ w ∈ (st.take tags.length).reverse, zokv S.1 w := fun w hw => hok w (List.mem_of_mem_take (List.mem_reverse.mp hw))
          rw [f1]
          exact zs_callS (R := zroom m) C hcs hcd hr9 hmi f2 e2 ⟨e3, e4⟩ h1.1.1 ⟨Nat.zero_le _, Nat.zero_le _⟩ (zmet_of hr9 hmi f2 (fun p e s mid args below meth c cls C hr hlk hL => h1.2 tags maxL rt hmi D cs E p e s mid args below meth c cls C hr hlk hL (zmkl_ok hoka))) k H locs hG (by rw [← f1]; exact hok)
        | true =>
          unfold zcall at hp
          rw [h9] at hp
          simp only [cond_true] at hp
          have hge := Nat.le_of_ble_eq_true h9
          cases k0 : Nat.beq r 900 with
          | true =>
            have := zlow k0
            subst this
            simp only [zik, Bool.and_eq_true, Bool.or_eq_true, Bool.not_eq_true'] at hik
            exfalso
            rcases hik with z | ⟨z1, z2 | z2⟩
            · cases z
            · exact absurd z2.2 (by decide)
            · exact absurd z2.1 (by decide)
          | false =>
          rw [k0] at hp
          simp only [cond_false] at hp
          cases k1 : Nat.beq r 901 with
          | true =>
            rw [k1] at hp
            simp only [cond_true] at hp
            have := zlow k1
            subst this
            rcases st with _ | ⟨⟨t, b⟩, _ | ⟨⟨u, a⟩, rest⟩⟩
            · cases hp
            · cases hp
            · obtain ⟨h1, h2⟩ := zbif hp
              simp only [Bool.and_eq_true] at h1
              cases zb0 h1.1.1; cases zb0 h1.1.2
              obtain ⟨n1, n2, n3⟩ := znr_facts h1.2
              cases zgo_inv h2
              exact (go hx rfl).step ⟨rfl, rfl⟩ (fun _ _ _ _ _ _ _ _ _ _ _ _ _ _ C hcs k => zs_min C hcs ⟨n2, n3, Nat.zero_le _, Nat.zero_le _⟩ n1 hcd k)
          | false =>
          rw [k1] at hp
          simp only [cond_false] at hp
          cases k2 : Nat.beq r 902 with
          | true =>
            rw [k2] at hp
            simp only [cond_true] at hp
            have := zlow k2
            subst this
            rcases st with _ | ⟨⟨t, b⟩, _ | ⟨⟨u, a⟩, rest⟩⟩
            · cases hp
            · cases hp
            · obtain ⟨h1, h2⟩ := zbif hp
              simp only [Bool.and_eq_true] at h1
              cases zb0 h1.1.1; cases zb0 h1.1.2
              obtain ⟨n1, n2, n3⟩ := znr_facts h1.2
              cases zgo_inv h2
              exact (go hx rfl).step ⟨rfl, rfl⟩ (fun _ _ _ _ _ _ _ _ _ _ _ _ _ _ C hcs k => zs_max C hcs ⟨n2, n3, Nat.zero_le _, Nat.zero_le _⟩ n1 hcd k)
          | false =>
          rw [k2] at hp
          simp only [cond_false] at hp
          cases k3 : Nat.beq r 903 with
          | true =>
            rw [k3] at hp
            simp only [cond_true] at hp
            have := zlow k3
            subst this
            rcases st with _ | ⟨⟨t1, x1⟩, _ | ⟨⟨t2, x2⟩, _ | ⟨⟨t3, x3⟩, _ | ⟨⟨t4, x4⟩, _ | ⟨⟨t5, x5⟩, rest⟩⟩⟩⟩⟩
            · cases hp
            · cases hp
            · cases hp
            · cases hp
            · cases hp
            · obtain ⟨h1, h2⟩ := zbif hp
              simp only [Bool.and_eq_true] at h1
              obtain ⟨⟨⟨⟨⟨h11, h12⟩, h13⟩, h14⟩, h15⟩, h16⟩ := h1
              cases zb0 h11; cases zb0 h12; cases zlow h13; cases zb0 h14; cases zlow h15
              obtain ⟨n1, n2, n3⟩ := znr_facts h16
              cases zgg_inv h2
              obtain ⟨hg, hx2⟩ := zrun_gg hx
              exact (go hx2 rfl).step ⟨rfl, rfl⟩ (fun _ _ _ _ _ _ _ _ _ _ _ _ _ _ C hcs k => zs_copy C hcs ⟨n2, n3, Nat.zero_le _, Nat.zero_le _⟩ n1 hcd hg k)
          | false =>
          rw [k3] at hp
          cases hp
      case invokevirtual a =>
        dsimp only at hp
        simp only [zik, Bool.and_eq_true, Bool.or_eq_true, Bool.not_eq_true'] at hik
        rcases hik with z | ⟨⟨⟨hlk, hr9⟩, hst⟩, hir⟩
        · have := zlow z
          subst this
          unfold zcall at hp
          cases hp
        · have hr9 : r < 266 := Nat.le_of_ble_eq_true hr9
          have h9 : Nat.ble 900 r = false := Bool.eq_false_iff.mpr (fun z => by have := Nat.le_of_ble_eq_true z; omega)
          obtain ⟨tags, maxL, rt, hmi, rfl, e1, e2, e3, e4⟩ := zcall_low h9 hp
          obtain ⟨v1, S1, c1, c2⟩ := zcall_run hm hx
          have h1 := ih r 0 _ [] S v1 S1 hr9 hir hmd c1
          have h2 := ih m nx ls _ S1 v S' hm hin (by rw [h1.1.1]; exact hmd) c2
          obtain ⟨f1, f2⟩ := zsplit e1
          refine h2.step h1.1 (fun D cs E p e s mid args below meth c cls nL Q C hcs k => ?_)
          intro H locs hG hok
          have hoka : ∀ w ∈ (st.take tags.length).reverse, zokv S.1 w := fun w hw => hok w (List.mem_of_mem_take (List.mem_reverse.mp hw))
          have hM := zmet_of (l := l) (D := D) (cs := cs) (E := E) (S := S) (S1 := S1) (v := v1) hr9 hmi f2 (fun p e s mid args below meth c cls C hr hlk hL => h1.2 tags maxL rt hmi D cs E p e s mid args below meth c cls C hr hlk hL (zmkl_ok hoka))
          cases has : (st.take tags.length).reverse with
          | nil =>
            rw [has] at f2
            have := ((zrow hr9 hmi).2.2.2.1 hst).1
            rw [f2] at this
            cases this
          | cons a0 as =>
            rw [has] at f1 f2 hM
            rw [f1]
            exact zs_callV (R := zroom m) C hcs hcd hr9 hmi f2 e2 ⟨e3, e4⟩ h1.1.1 ⟨Nat.zero_le _, Nat.zero_le _⟩ hM k H locs hG (by rw [← f1]; exact hok)
      case invokespecial a =>
        simp only [zik, hin, Bool.and_eq_true, Bool.or_eq_true, Bool.false_eq_true, false_or] at hik
        rcases hik with z | z
        · have := zlow z
          subst this
          dsimp only at hp
          unfold zcall at hp
          cases hp
        · have := Nat.le_of_ble_eq_true z.1.2
          omega
      all_goals (exfalso; first | (cases hp; done) | (cases hl; done) | (cases hb; done) | (cases hlb; done) | (cases hls; done))
end ZSIM8
