/-! The law's loop, behind the making of its objects. -/
section ZSIML
variable {l : Launch} {md : Nat}
/-- from there the machine goes as the small one does: in the law, behind the makings -/
def zOKL (l : Launch) (ls : List zV) (v : Int) (S' : zS) (pc : Nat) (st : List zV) (S : zS) : Prop :=
  (S.1 ≤ S'.1 ∧ S'.2.1 = S.2.1) ∧ ∀ (maxL : Nat), zmi 287 = some ([14], maxL, 3) → ∀ (D : va_G) (cs : ClassId × ClassId × ClassId × ClassId) (E : zE) (p : Program) (e : Env) (R : Room) (s : State) (mid : MethodId) (args : Array Value) (below : List Frame) (meth : Method) (c : Code) (cls : Array Slot) (c0 u0 : Nat),
    c0 + (S'.1 - 118) ≤ R.cells → u0 + 6 * (S'.1 - 118) ≤ R.slots → (max (zrm 287).1 (zrt 287).1 ≤ R.frames ∧ max (zrm 287).2 (zrt 287).2 ≤ R.locals) →
    zCx p s mid args meth c 287 D cs E maxL → meth.sig.returnType = some .boolean → meth.locks = false → zXT s E → zL E maxL ls cls → (∀ w ∈ ls, zokv S.1 w) →
    zK p l e R s mid args below meth c (c0 + (S.1 - 118)) (u0 + 6 * (S.1 - 118)) (MQ below (zQc D cs E 3 v S') args s (c0 + (S'.1 - 118)) (u0 + 6 * (S'.1 - 118)) (fun q => E.1 ≤ q)) D cs E cls pc st S
theorem zOKL.step {pc pc1 : Nat} {ls st st1 : List zV} {v : Int} {S S1 S' : zS} (h : zOKL l ls v S' pc1 st1 S1) (ht : S1.1 = S.1 ∧ S1.2.1 = S.2.1)
    (k : ∀ (D : va_G) (cs : ClassId × ClassId × ClassId × ClassId) (E : zE) (p : Program) (e : Env) (R : Room) (s : State) (mid : MethodId) (args : Array Value) (below : List Frame) (meth : Method) (c : Code) (cls : Array Slot) (nL : Nat) (Q : State → Prop) (cells slots : Nat), (cells ≤ R.cells ∧ slots ≤ R.slots ∧ (zrm 287).1 ≤ R.frames ∧ (zrm 287).2 ≤ R.locals) → zCx p s mid args meth c 287 D cs E nL → cls.size = nL →
      zK p l e R s mid args below meth c cells slots Q D cs E cls pc1 st1 S1 → zK p l e R s mid args below meth c cells slots Q D cs E cls pc st S) : zOKL l ls v S' pc st S := by
  obtain ⟨⟨b1, b2⟩, b3⟩ := h
  rw [ht.1] at b1 b3
  refine ⟨⟨b1, b2.trans ht.2⟩, fun maxL hm D cs E p e R s mid args below meth c cls c0 u0 hc hu hR C hr hl hXT hL hk => ?_⟩
  have h1 : S.1 - 118 ≤ S'.1 - 118 := Nat.sub_le_sub_right b1 118
  exact k D cs E p e R s mid args below meth c cls maxL _ _ _ ⟨by omega, by omega, Nat.le_trans (Nat.le_max_left _ _) hR.1, Nat.le_trans (Nat.le_max_left _ _) hR.2⟩ C hL.2.1 (b3 maxL hm D cs E p e R s mid args below meth c cls c0 u0 hc hu hR C hr hl hXT hL hk)
theorem zpick_mem {F : Nat → Option (Int × Int × zS)} {d : Nat} {r : Int × Int × zS} : ∀ {cs : List (Prop × Nat)}, zpick F d cs = some r → ∃ t, F t = some r ∧ (t = d ∨ ∃ c, (c, t) ∈ cs) ∧ ∀ (P : Nat → Prop), P t → zall P d cs := by
  intro cs
  induction cs with
  | nil => intro h; exact ⟨d, h, Or.inl rfl, fun P hP => hP⟩
  | cons q cs ih =>
    obtain ⟨c, t⟩ := q
    intro h
    by_cases hc : c
    · simp only [zpick, if_pos hc] at h
      exact ⟨t, h, Or.inr ⟨c, List.mem_cons_self⟩, fun P hP => ⟨fun _ => hP, fun z => absurd hc z⟩⟩
    · simp only [zpick, if_neg hc] at h
      obtain ⟨t', h1, h2, h3⟩ := ih h
      refine ⟨t', h1, ?_, fun P hP => ⟨fun z => absurd z hc, fun _ => h3 P hP⟩⟩
      rcases h2 with h2 | ⟨c', h2⟩
      · exact Or.inl h2
      · exact Or.inr ⟨c', List.mem_cons_of_mem _ h2⟩
theorem zswc_mem {x : Int} : ∀ {w : List (Int × Nat)} {c : Prop} {t : Nat}, (c, t) ∈ zswc x w → t ∈ w.map (fun q => q.2) := by
  intro w
  induction w with
  | nil => intro c t h; cases h
  | cons q w ih =>
    obtain ⟨k, t'⟩ := q
    intro c t h
    simp only [zswc, List.mem_cons, Prod.mk.injEq] at h
    rcases h with ⟨-, rfl⟩ | h
    · exact List.mem_cons_self
    · exact List.mem_cons_of_mem _ (ih h)
/-- which instructions the loop has, and where they lead -/
def zli (i : Instr) (r : Nat) : Bool := match i with
  | .iadd | .isub | .iand | .lshl | .land | .lor | .iconst _ | .bipush _ | .sipush _ | .lconst _ | .ldc2_w _ | .lcmp | .i2l | .arraylength | .iaload | .laload | .ireturn | .invokevirtual _ | .invokestatic _ => true
  | .goto _ | .ifCond _ _ | .if_icmp _ _ => Nat.ble zL0 r
  | .tableswitch .. => Nat.ble zL0 (zsw r).2 && (zsw r).1.all (fun q => Nat.ble zL0 q.2)
  | i => (zlk i).isSome
theorem zli_dec : (List.range (zbl 287)).all (fun pc => Nat.blt pc zL0 || (match zcd 287 pc with
  | some (i, _, r) => zli i r
  | none => true)) = true := by decide +kernel
theorem zli_at {pc nx r : Nat} {i : Instr} (h0 : zL0 ≤ pc) (h : zcd 287 pc = some (i, nx, r)) : zli i r = true := by
  have hlt : pc < zbl 287 := by
    unfold zcd at h
    cases hb : (Nat.blt 287 288 && Nat.blt pc (zbl 287)) with
    | false => rw [hb] at h; cases h
    | true => rw [Bool.and_eq_true] at hb; exact Nat.le_of_ble_eq_true hb.2
  have h2 := List.all_eq_true.mp zli_dec pc (List.mem_range.mpr hlt)
  rw [h] at h2
  have h3 : Nat.blt pc zL0 = false := Bool.eq_false_iff.mpr (fun z => by have h5 : pc < zL0 := Nat.le_of_ble_eq_true z; omega)
  rw [h3] at h2
  exact h2
theorem zlst_dec : (List.range (zbl 287)).all (fun pc => Nat.blt pc zL0 || (match zcd 287 pc with
  | some (.invokestatic _, _, r) => Nat.ble 266 r && Nat.blt r 287
  | _ => true)) = true := by decide +kernel
theorem zlst_at {pc j nx r : Nat} (h0 : zL0 ≤ pc) (h : zcd 287 pc = some (.invokestatic j, nx, r)) : 266 ≤ r ∧ r < 287 := by
  have hlt : pc < zbl 287 := by
    unfold zcd at h
    cases hb : (Nat.blt 287 288 && Nat.blt pc (zbl 287)) with
    | false => rw [hb] at h; cases h
    | true => rw [Bool.and_eq_true] at hb; exact Nat.le_of_ble_eq_true hb.2
  have h2 := List.all_eq_true.mp zlst_dec pc (List.mem_range.mpr hlt)
  rw [h] at h2
  have h3 : Nat.blt pc zL0 = false := Bool.eq_false_iff.mpr (fun z => by have h5 : pc < zL0 := Nat.le_of_ble_eq_true z; omega)
  rw [h3, Bool.false_or] at h2
  dsimp only at h2
  rw [Bool.and_eq_true] at h2
  exact ⟨Nat.le_of_ble_eq_true h2.1, Nat.le_of_ble_eq_true h2.2⟩
theorem zmi_L : ∃ maxL, zmi 287 = some ([14], maxL, 3) := ⟨_, rfl⟩
theorem zct_L {r : Nat} {tags : List Nat} {maxL : Nat} (h1 : 266 ≤ r) (h2 : r < 287) (hm : zmi r = some (tags, maxL, 0)) : max (zrm r).1 (zrt r).1 + 1 ≤ max (zrm 287).1 (zrt 287).1 ∧ max (zrm r).2 (zrt r).2 + 8 + (maxL + 11) ≤ max (zrm 287).2 (zrt 287).2 := by
  obtain ⟨-, -, tg, mx, a3, -, -, -, -, a8, a9⟩ := zrowW_at h1 h2
  rw [hm] at a3
  cases a3
  exact ⟨a8, a9⟩
theorem zcall_runL {n r nx : Nat} {ls as rest : List zV} {S S' : zS} {v : Int} (h : zrun md n 287 nx ls S (.inl (.inr (.inr (.inr (.inl (r, as, rest)))))) = some (0, v, S')) : ∃ v1 S1, zex md n r 0 (zmkl r as) [] S = some (0, v1, S1) ∧ zex md n 287 nx ls (zpush r v1 rest) S1 = some (0, v, S') := by
  unfold zrun at h
  simp only [zfin] at h
  cases hF : zex md n r 0 (zmkl r as) [] S with
  | none => rw [hF] at h; cases h
  | some q =>
    obtain ⟨c, v1, S1⟩ := q
    rw [hF] at h
    dsimp only at h
    by_cases hc : c = 0
    · rw [if_pos hc] at h
      subst hc
      exact ⟨v1, S1, rfl, h⟩
    · rw [if_neg hc, show zhd 287 c = none from rfl] at h
      simp only [Option.some.injEq, Prod.mk.injEq] at h
      exact absurd h.1 hc
theorem zs_zretL {p : Program} {e : Env} {R : Room} {s : State} {mid : MethodId} {args : Array Value} {below : List Frame} {meth : Method} {c : Code} {cells slots m nL : Nat} {D : va_G} {cs : ClassId × ClassId × ClassId × ClassId} {E : zE} (C : zCx p s mid args meth c m D cs E nL) {pc nx r : Nat} {cls : Array Slot} {v : Int} {S : zS} (hc : zcd m pc = some (.ireturn, nx, r)) (hv : v = 0 ∨ v = 1) (hr : meth.sig.returnType = some .boolean) (hl : meth.locks = false) :
    zK p l e R s mid args below meth c cells slots (MQ below (zQc D cs E 3 v S) args s cells slots (fun q => E.1 ≤ q)) D cs E cls pc [(0, v)] S := by
  intro H locs hG hok
  obtain ⟨hx, hb, hml, hown, hts, hK, hnm, hdk, hX⟩ := C
  obtain ⟨hd, rfl, hik⟩ := zdec' (n := 0) hdk hc rfl
  exact W.zret (v := Int32.ofInt v) hx hb hr (by rcases hv with rfl | rfl <;> rfl) (fun t ht _ => ⟨rfl, ⟨by rw [ht]; exact hG.1, hG.2.1, hG.2.2.2, hok _ List.mem_cons_self⟩, hG.2.2.1.F ht⟩) hG.2.2.1.2.2 hd
set_option maxHeartbeats 2000000 in
theorem zsimL (hlt : ∀ e : Env, l.admits e → e.platform.stackTraces = false) : ∀ (n pc : Nat) (ls st : List zV) (S : zS) (v : Int) (S' : zS), zL0 ≤ pc → md ≤ S.1 → 118 ≤ S.1 → zex md n 287 pc ls st S = some (0, v, S') → zOKL l ls v S' pc st S := by
  intro n
  induction n with
  | zero => intro pc ls st S v S' _ _ _ h; cases h
  | succ n ih =>
    intro pc ls st S v S' h0 hmd h118 hx
    have hx : zone md (zex md n) 287 pc ls st S = some (0, v, S') := hx
    unfold zone at hx
    cases hcd : zcd 287 pc with
    | none => rw [hcd] at hx; cases hx
    | some q =>
    obtain ⟨i, nx, r⟩ := q
    rw [hcd] at hx
    dsimp only at hx
    obtain ⟨hd, hltp, hil, hik⟩ := zdec zdk_okL hcd
    have hli := zli_at h0 hcd
    have hnx : zL0 ≤ nx := Nat.le_of_lt (Nat.lt_of_le_of_lt h0 hltp)
    cases hl : zlk i with
    | some q =>
      rw [hl] at hx
      dsimp only at hx
      cases hz : zloc q (zinc i) ls st with
      | none => rw [hz] at hx; cases hx
      | some w =>
        obtain ⟨ls', st'⟩ := w
        rw [hz] at hx
        have h1 := ih nx ls' st' S v S' hnx hmd h118 hx
        refine ⟨h1.1, fun maxL hmi D cs E p e R s mid args below meth c cls c0 u0 hc hu hR C hr hlk hXT hL hk => ?_⟩
        intro H locs hG hok
        obtain ⟨o1, o2⟩ := zloc_ok hz hk hok
        exact zs_loc C hcd hl hz hL hk (fun cls' hL' => h1.2 maxL hmi D cs E p e R s mid args below meth c cls' c0 u0 hc hu hR C hr hlk hXT hL' o1) H locs hG hok
    | none =>
      rw [hl] at hx
      dsimp only at hx
      cases hp : zpure md 287 i nx r st S with
      | none => rw [hp] at hx; cases hx
      | some N =>
      rw [hp] at hx
      have hx : zrun md n 287 nx ls S N = some (0, v, S') := by
        rcases N with N | ⟨g, N⟩ <;> exact hx
      have go : ∀ {pc1 : Nat} {st1 : List zV} {S1 : zS}, zL0 ≤ pc1 → zex md n 287 pc1 ls st1 S1 = some (0, v, S') → S1.1 = S.1 → zOKL l ls v S' pc1 st1 S1 := fun hp h ht => ih _ ls _ _ v S' hp (by rw [ht]; exact hmd) (by rw [ht]; exact h118) h
      unfold zpure at hp
      cases hb : zbin i with
      | some f =>
        rw [hb] at hp
        dsimp only at hp
        rcases st with _ | ⟨⟨t, y⟩, _ | ⟨⟨u, x⟩, rest⟩⟩
        · cases hp
        · cases hp
        · obtain ⟨h1, h2⟩ := zbif hp
          simp only [Bool.and_eq_true] at h1
          cases zb0 h1.1; cases zb0 h1.2
          cases zgo_inv h2
          exact (go hnx hx rfl).step ⟨rfl, rfl⟩ (fun _ _ _ _ _ _ _ _ _ _ _ _ _ _ _ _ _ _ C _ k => zs_bin C hcd hb k)
      | none =>
      rw [hb] at hp
      dsimp only at hp
      cases hlb : zlb i with
      | some f =>
        rw [hlb] at hp
        dsimp only at hp
        rcases st with _ | ⟨⟨t, y⟩, _ | ⟨⟨u, x⟩, rest⟩⟩
        · cases hp
        · cases hp
        · obtain ⟨h1, h2⟩ := zbif hp
          simp only [Bool.and_eq_true] at h1
          cases zlow h1.1; cases zlow h1.2
          cases zgo_inv h2
          exact (go hnx hx rfl).step ⟨rfl, rfl⟩ (fun _ _ _ _ _ _ _ _ _ _ _ _ _ _ _ _ _ _ C _ k => zs_lb C hcd hlb k)
      | none =>
      rw [hlb] at hp
      dsimp only at hp
      cases hls : zlsh i with
      | some f =>
        rw [hls] at hp
        dsimp only at hp
        rcases st with _ | ⟨⟨t, y⟩, _ | ⟨⟨u, x⟩, rest⟩⟩
        · cases hp
        · cases hp
        · obtain ⟨h1, h2⟩ := zbif hp
          simp only [Bool.and_eq_true] at h1
          cases zlow h1.1; cases zlow h1.2
          cases zgo_inv h2
          exact (go hnx hx rfl).step ⟨rfl, rfl⟩ (fun _ _ _ _ _ _ _ _ _ _ _ _ _ _ _ _ _ _ C _ k => zs_lsh C hcd hls k)
      | none =>
      rw [hls] at hp
      dsimp only at hp
      cases i <;> first | (cases hli; done) | (cases hl; done) | (cases hb; done) | (cases hlb; done) | (cases hls; done) | skip
      case iconst a =>
        cases zgo_inv hp
        exact (go hnx hx rfl).step ⟨rfl, rfl⟩ (fun _ _ _ _ _ _ _ _ _ _ _ _ _ _ _ _ _ _ C _ k => zs_iconst C hcd k)
      case bipush a =>
        cases zgo_inv hp
        exact (go hnx hx rfl).step ⟨rfl, rfl⟩ (fun _ _ _ _ _ _ _ _ _ _ _ _ _ _ _ _ _ _ C _ k => zs_bipush C hcd k)
      case sipush a =>
        cases zgo_inv hp
        exact (go hnx hx rfl).step ⟨rfl, rfl⟩ (fun _ _ _ _ _ _ _ _ _ _ _ _ _ _ _ _ _ _ C _ k => zs_sipush C hcd k)
      case lconst a =>
        cases zgo_inv hp
        exact (go hnx hx rfl).step ⟨rfl, rfl⟩ (fun _ _ _ _ _ _ _ _ _ _ _ _ _ _ _ _ _ _ C _ k => zs_lconst C hcd k)
      case ldc2_w a =>
        cases zgo_inv hp
        exact (go hnx hx rfl).step ⟨rfl, rfl⟩ (fun _ _ _ _ _ _ _ _ _ _ _ _ _ _ _ _ _ _ C _ k => zs_ldc2 C hcd k)
      case goto a =>
        cases zgo_inv hp
        exact (go (Nat.le_of_ble_eq_true hli) hx rfl).step ⟨rfl, rfl⟩ (fun _ _ _ _ _ _ _ _ _ _ _ _ _ _ _ _ _ _ C _ k => zs_goto C hcd k)
      case lcmp =>
        rcases st with _ | ⟨⟨t, y⟩, _ | ⟨⟨u, x⟩, rest⟩⟩
        · cases hp
        · cases hp
        · obtain ⟨h1, h2⟩ := zbif hp
          simp only [Bool.and_eq_true] at h1
          cases zlow h1.1; cases zlow h1.2
          cases zgo_inv h2
          exact (go hnx hx rfl).step ⟨rfl, rfl⟩ (fun _ _ _ _ _ _ _ _ _ _ _ _ _ _ _ _ _ _ C _ k => zs_lcmp C hcd k)
      case i2l =>
        rcases st with _ | ⟨⟨t, x⟩, rest⟩
        · cases hp
        · obtain ⟨h1, h2⟩ := zbif hp
          cases zb0 h1
          cases zgo_inv h2
          exact (go hnx hx rfl).step ⟨rfl, rfl⟩ (fun _ _ _ _ _ _ _ _ _ _ _ _ _ _ _ _ _ _ C _ k => zs_i2l C hcd k)
      case ifCond cd off =>
        rcases st with _ | ⟨⟨t, x⟩, rest⟩
        · cases hp
        · obtain ⟨h1, h2⟩ := zbif hp
          cases zb0 h1
          cases zbr_inv h2
          by_cases hc : zcn cd x 0
          · have hx : zex md n 287 r ls rest S = some (0, v, S') := by simpa only [zrun, zfin, zpick, if_pos hc] using hx
            exact (go (Nat.le_of_ble_eq_true hli) hx rfl).step ⟨rfl, rfl⟩ (fun _ _ _ _ _ _ _ _ _ _ _ _ _ _ _ _ _ _ C _ k => zs_if C hcd (fun _ => k) (fun z => absurd hc z))
          · have hx : zex md n 287 nx ls rest S = some (0, v, S') := by simpa only [zrun, zfin, zpick, if_neg hc] using hx
            exact (go hnx hx rfl).step ⟨rfl, rfl⟩ (fun _ _ _ _ _ _ _ _ _ _ _ _ _ _ _ _ _ _ C _ k => zs_if C hcd (fun z => absurd z hc) (fun _ => k))
      case if_icmp cd off =>
        rcases st with _ | ⟨⟨t, y⟩, _ | ⟨⟨u, x⟩, rest⟩⟩
        · cases hp
        · cases hp
        · obtain ⟨h1, h2⟩ := zbif hp
          simp only [Bool.and_eq_true] at h1
          cases zb0 h1.1; cases zb0 h1.2
          cases zbr_inv h2
          by_cases hc : zcn cd x y
          · have hx : zex md n 287 r ls rest S = some (0, v, S') := by simpa only [zrun, zfin, zpick, if_pos hc] using hx
            exact (go (Nat.le_of_ble_eq_true hli) hx rfl).step ⟨rfl, rfl⟩ (fun _ _ _ _ _ _ _ _ _ _ _ _ _ _ _ _ _ _ C _ k => zs_icmp C hcd (fun _ => k) (fun z => absurd hc z))
          · have hx : zex md n 287 nx ls rest S = some (0, v, S') := by simpa only [zrun, zfin, zpick, if_neg hc] using hx
            exact (go hnx hx rfl).step ⟨rfl, rfl⟩ (fun _ _ _ _ _ _ _ _ _ _ _ _ _ _ _ _ _ _ C _ k => zs_icmp C hcd (fun z => absurd z hc) (fun _ => k))
      case tableswitch df lo hi offs =>
        rcases st with _ | ⟨⟨t, x⟩, rest⟩
        · cases hp
        · obtain ⟨h1, h2⟩ := zbif hp
          cases zb0 h1
          cases zbr_inv h2
          obtain ⟨t, h3, h5, h4⟩ := zpick_mem hx
          have hli : (Nat.ble zL0 (zsw r).2 && (zsw r).1.all (fun q => Nat.ble zL0 q.2)) = true := hli
          rw [Bool.and_eq_true] at hli
          have ht : zL0 ≤ t := by
            rcases h5 with rfl | ⟨c, h5⟩
            · exact Nat.le_of_ble_eq_true hli.1
            · obtain ⟨q, q1, q2⟩ := List.mem_map.mp (zswc_mem h5)
              rw [← q2]
              exact Nat.le_of_ble_eq_true (List.all_eq_true.mp hli.2 q q1)
          exact (go ht h3 rfl).step ⟨rfl, rfl⟩ (fun _ _ _ _ _ _ _ _ _ _ _ _ _ _ _ _ _ _ C _ k => zs_switch C hcd (h4 _ k))
      case arraylength =>
        rcases st with _ | ⟨⟨t, o⟩, rest⟩
        · cases hp
        · obtain ⟨h1, h2⟩ := zbif hp
          simp only [Bool.and_eq_true] at h1
          cases zgo_inv h2
          exact (go hnx hx rfl).step ⟨rfl, rfl⟩ (fun _ _ _ _ _ _ _ _ _ _ _ _ _ _ _ _ _ _ C _ k => zs_alen C hcd ⟨Nat.le_of_ble_eq_true h1.1, Nat.le_of_ble_eq_true h1.2⟩ k)
      case iaload =>
        rcases st with _ | ⟨⟨t, j⟩, _ | ⟨⟨u, o⟩, rest⟩⟩
        · cases hp
        · cases hp
        · obtain ⟨h1, h2⟩ := zbif hp
          simp only [Bool.and_eq_true, Bool.or_eq_true] at h1
          cases zb0 h1.1
          cases zgg_inv h2
          obtain ⟨hg, hx2⟩ := zrun_gg hx
          rcases h1.2 with z | z
          · cases zlow z
            exact (go hnx hx2 rfl).step ⟨rfl, rfl⟩ (fun _ _ _ _ _ _ _ _ _ _ _ _ _ _ _ _ _ _ C _ k => zs_iald C hcd hg k)
          · cases zlow z
            exact (go hnx hx2 rfl).step ⟨rfl, rfl⟩ (fun _ _ _ _ _ _ _ _ _ _ _ _ _ _ _ _ _ _ C _ k => zs_xald C hcd hg k)
      case laload =>
        rcases st with _ | ⟨⟨t, j⟩, _ | ⟨⟨u, o⟩, rest⟩⟩
        · cases hp
        · cases hp
        · obtain ⟨h1, h2⟩ := zbif hp
          simp only [Bool.and_eq_true] at h1
          cases zb0 h1.1; cases zlow h1.2
          cases zgg_inv h2
          obtain ⟨hg, hx2⟩ := zrun_gg hx
          exact (go hnx hx2 rfl).step ⟨rfl, rfl⟩ (fun _ _ _ _ _ _ _ _ _ _ _ _ _ _ _ _ _ _ C _ k => zs_lald C hcd hg k)
      case ireturn =>
        obtain ⟨maxL0, hmi⟩ := zmi_L
        rw [hmi] at hp
        rcases st with _ | ⟨⟨t, a⟩, _ | ⟨w, rest⟩⟩
        · cases hp
        · dsimp only at hp
          cases ht0 : Nat.beq t 0 with
          | false => rw [ht0] at hp; cases hp
          | true =>
            rw [ht0] at hp
            cases zb0 ht0
            cases hp
            unfold zrun at hx
            dsimp only at hx
            by_cases hg : a = 0 ∨ a = 1
            · rw [if_pos hg] at hx
              cases hx
              exact ⟨⟨Nat.le_refl _, rfl⟩, fun maxL hmi D cs E p e R s mid args below meth c cls c0 u0 hc hu hR C hr hlk hXT hL hk => zs_zretL C hcd hg hr hlk⟩
            · rw [if_neg hg] at hx; cases hx
        · cases hp
      case invokevirtual a =>
        simp only [zik, Bool.and_eq_true, Bool.or_eq_true, Bool.not_eq_true'] at hik
        rcases hik with z | ⟨⟨⟨hlk, hr9⟩, hst⟩, hir⟩
        · have := zlow z
          subst this
          unfold zcall at hp
          cases hp
        · have hr9 : r < 266 := Nat.le_of_ble_eq_true hr9
          have h9 : Nat.ble 900 r = false := Bool.eq_false_iff.mpr (fun z => by have := Nat.le_of_ble_eq_true z; omega)
          obtain ⟨tags, maxL, rt, hmi, rfl, e1, e2, e3, e4⟩ := zcall_low h9 hp
          obtain ⟨f1, f2⟩ := zsplit e1
          obtain ⟨v1, S1, c1, c2⟩ := zcall_runL hx
          have h1 := zsim (l := l) n r 0 _ [] S v1 S1 hr9 hir hmd c1
          have h2 := ih nx ls _ S1 v S' hnx (by rw [h1.1.1]; exact hmd) (by rw [h1.1.1]; exact h118) c2
          refine h2.step h1.1 (fun D cs E p e R s mid args below meth c cls nL Q cells slots hle C hcs k => ?_)
          intro H locs hG hok
          have hoka : ∀ w ∈ (st.take tags.length).reverse, zokv S.1 w := fun w hw => hok w (List.mem_of_mem_take (List.mem_reverse.mp hw))
          have hM := zmet_of (l := l) (D := D) (cs := cs) (E := E) (S := S) (S1 := S1) (v := v1) hr9 hmi f2 (fun p e s mid args below meth c cls C hr hlk hL => h1.2 tags maxL rt hmi D cs E p e s mid args below meth c cls C hr hlk hL (zmkl_ok hoka))
          cases has : (st.take tags.length).reverse with
          | nil =>
            rw [has] at f2
            have := ((zrow hr9 hmi).2.2.2.1 hst).1
            rw [f2] at this
            cases this
          | cons a0 as =>
            rw [has] at f1 f2 hM
            rw [f1]
            exact zs_callV (R := R) C hcs hcd hr9 hmi f2 e2 ⟨Nat.le_trans e3 hle.2.2.1, Nat.le_trans e4 hle.2.2.2⟩ h1.1.1 ⟨hle.1, hle.2.1⟩ hM k H locs hG (by rw [← f1]; exact hok)
      case invokestatic a =>
        obtain ⟨h1r, h2r⟩ := zlst_at h0 hcd
        have h9 : Nat.ble 900 r = false := Bool.eq_false_iff.mpr (fun z => by have := Nat.le_of_ble_eq_true z; omega)
        obtain ⟨tags, maxL, rt, hmi, rfl, e1, e2, e3, e4⟩ := zcall_low h9 hp
        obtain ⟨f1, f2⟩ := zsplit e1
        obtain ⟨v1, S1, c1, c2⟩ := zcall_runL hx
        obtain ⟨tg0, mx0, hmi0⟩ := zmi_W h1r h2r
        rw [hmi] at hmi0
        cases hmi0
        have hW := zsimW (l := l) hlt n r 0 _ [] S v1 S1 h1r h2r hmd h118 c1
        have hle1 : S.1 ≤ S1.1 := by rcases hW.1.1 with z | z <;> omega
        obtain ⟨⟨d1, d2⟩, d3⟩ := ih nx ls _ S1 v S' hnx (Nat.le_trans hmd hle1) (Nat.le_trans h118 hle1) c2
        refine ⟨⟨Nat.le_trans hle1 d1, d2.trans hW.1.2⟩, fun maxL' hm' D cs E p e R s mid args below meth c cls c0 u0 hc hu hR C hr hlk hXT hL hk => ?_⟩
        intro H locs hG hok
        have hoka : ∀ w ∈ (st.take tags.length).reverse, zokv S.1 w := fun w hw => hok w (List.mem_of_mem_take (List.mem_reverse.mp hw))
        have hM := zmetW_of (l := l) (D := D) (cs := cs) (E := E) (S := S) (S1 := S1) (v := v1) (mc := S1.1 - S.1) h1r h2r hmi f2 (fun p e s mid args below meth c cls C hr hlk hh hXT hL => hW.2 tags maxL 0 hmi D cs E p e s mid args below meth c cls C hr hlk hh hXT hL (zmkl_ok hoka))
        obtain ⟨t1, t2⟩ := zct_L h1r h2r hmi
        have k := d3 maxL' hm' D cs E p e R s mid args below meth c cls c0 u0 hc hu hR C hr hlk hXT hL (fun w hw => zokv_le (hk w hw) hle1)
        have x1 : c0 + (S1.1 - 118) = c0 + (S.1 - 118) + (S1.1 - S.1) := by omega
        have x2 : u0 + 6 * (S1.1 - 118) = u0 + 6 * (S.1 - 118) + 6 * (S1.1 - S.1) := by omega
        rw [x1, x2] at k
        have hpu : zpush r v1 (st.drop tags.length) = (0, v1) :: st.drop tags.length := by unfold zpush; rw [hmi]; rfl
        rw [hpu] at k
        rw [f1]
        exact zs_callSW (R := R) C hXT hL.2.1 hcd h1r h2r hmi f2 e2 ⟨Nat.le_trans t1 hR.1, Nat.le_trans t2 hR.2⟩ hle1 ⟨by omega, by omega⟩ hM k H locs hG (by rw [← f1]; exact hok)
end ZSIML
