section ZSIM9
variable {l : Launch} {md : Nat}
/-- from there the machine goes as the small one does, and makes as much: in every invocation that fits -/
def zOKC (l : Launch) (m : Nat) (ls : List zV) (v : Int) (S' : zS) (pc : Nat) (st : List zV) (S : zS) : Prop :=
  (S.1 ≤ S'.1 ∧ zno S.1 ≤ zno S'.1 ∧ zus S ≤ zus S') ∧ ∀ (tags : List Nat) (maxL rt : Nat), zmi m = some (tags, maxL, rt) → ∀ (D : va_G) (cs : ClassId × ClassId × ClassId × ClassId) (E : zE) (p : Program) (e : Env) (s : State) (mid : MethodId) (args : Array Value) (below : List Frame) (meth : Method) (c : Code) (cls : Array Slot) (k0 u0 cells slots mc ms : Nat),
    s.heap.size = E.1 + k0 → k0 ≤ zno S.1 → cells + k0 = zno S.1 → slots + u0 = zus S → mc + k0 = zno S'.1 → ms + u0 = zus S' →
    zCx p s mid args meth c m D cs E maxL → meth.sig.returnType = zrty rt → meth.locks = false → zL E maxL ls cls → (∀ w ∈ ls, zokv S.1 w) → zK p l e (zroomC m mc ms) s mid args below meth c cells slots (MQ below (zQc D cs E rt v S') args s mc ms (fun q => E.1 ≤ q)) D cs E cls pc st S
theorem zle1 {a b x y z : Nat} (h1 : a + b = x) (h2 : z + b = y) (h3 : x + 1 ≤ y) : a + 1 ≤ z := by omega
theorem zle2 {a b x y z n : Nat} (h1 : a + b = x) (h2 : z + b = y) (h3 : x + n ≤ y) : a + n ≤ z := by omega
theorem zle1' {a b x y z g w : Nat} (h1 : a + b = x) (h2 : z + b = y) (h3 : w = x + g) (h4 : w ≤ y) : a + g ≤ z := by omega
theorem zle3 {a b x y z : Nat} (h1 : a + b = x) (h2 : z + b = y) (h3 : x ≤ y) : a ≤ z := by omega
theorem zOKC.step {m pc pc1 : Nat} {ls st st1 : List zV} {v : Int} {S S1 S' : zS} (h : zOKC l m ls v S' pc1 st1 S1) (ht : S1.1 = S.1 ∧ S1.2.1 = S.2.1)
    (k : ∀ (D : va_G) (cs : ClassId × ClassId × ClassId × ClassId) (E : zE) (p : Program) (e : Env) (s : State) (mid : MethodId) (args : Array Value) (below : List Frame) (meth : Method) (c : Code) (cls : Array Slot) (nL : Nat) (Q : State → Prop) (cells slots mc ms : Nat), cells ≤ mc ∧ slots ≤ ms → zCx p s mid args meth c m D cs E nL → cls.size = nL →
      zK p l e (zroomC m mc ms) s mid args below meth c cells slots Q D cs E cls pc1 st1 S1 → zK p l e (zroomC m mc ms) s mid args below meth c cells slots Q D cs E cls pc st S) : zOKC l m ls v S' pc st S := by
  have hno : zno S1.1 = zno S.1 := by rw [ht.1]
  have hus : zus S1 = zus S := zus_same hno ht.2
  obtain ⟨⟨b1, b2, b3⟩, b4⟩ := h
  rw [ht.1] at b1 b2
  rw [hus] at b3
  refine ⟨⟨b1, b2, b3⟩, fun tags maxL rt hm D cs E p e s mid args below meth c cls k0 u0 cells slots mc ms hs0 hk0 hc0 hu0 hmc hms C hr hl hL hk => ?_⟩
  exact k D cs E p e s mid args below meth c cls maxL _ cells slots mc ms ⟨zle3 hc0 hmc b2, zle3 hu0 hms b3⟩ C hL.2.1 (b4 tags maxL rt hm D cs E p e s mid args below meth c cls k0 u0 cells slots mc ms hs0 (by rw [hno]; exact hk0) (by rw [hno]; exact hc0) (by rw [hus]; exact hu0) hmc hms C hr hl hL (by rw [ht.1]; exact hk))
theorem zvoid_dec : (List.range 266).all (fun m => !zini m || (match zmi m with
  | some (_, _, rt) => Nat.beq rt 8
  | none => false)) = true := by decide +kernel
theorem zvoid {m : Nat} {tags : List Nat} {maxL rt : Nat} (hm : m < 266) (hi : zini m = true) (h : zmi m = some (tags, maxL, rt)) : rt = 8 := by
  have h1 := List.all_eq_true.mp zvoid_dec m (List.mem_range.mpr hm)
  rw [h, hi] at h1
  exact Nat.eq_of_beq_eq_true h1
theorem znew20_dec : (List.range 266).all (fun m => (List.range (zbl m)).all (fun pc => match zcd m pc with
  | some (.new _, _, r) => Nat.ble 1000 r || Nat.ble 20 r
  | _ => true)) = true := by decide +kernel
theorem znew_20 {m pc j nx r : Nat} (hm : m < 266) (h : zcd m pc = some (.new j, nx, r)) (h1 : Nat.ble 1000 r = false) : 20 ≤ r := by
  have hlt : pc < zbl m := by
    unfold zcd at h
    cases hb : (Nat.blt m 288 && Nat.blt pc (zbl m)) with
    | false => rw [hb] at h; cases h
    | true => rw [Bool.and_eq_true] at hb; exact Nat.le_of_ble_eq_true hb.2
  have h2 := List.all_eq_true.mp (List.all_eq_true.mp znew20_dec m (List.mem_range.mpr hm)) pc (List.mem_range.mpr hlt)
  rw [h] at h2
  dsimp only at h2
  rw [h1] at h2
  exact Nat.le_of_ble_eq_true h2
set_option maxHeartbeats 4000000 in
/-- the same of constructors -/
theorem zsimC : ∀ (n m pc : Nat) (ls st : List zV) (S : zS) (v : Int) (S' : zS), m < 266 → zini m = true → md ≤ S.1 → zex md n m pc ls st S = some (0, v, S') → zOKC l m ls v S' pc st S := by
  intro n
  induction n with
  | zero => intro m pc ls st S v S' _ _ _ h; cases h
  | succ n ih =>
    intro m pc ls st S v S' hm hin hmd hx
    have hx : zone md (zex md n) m pc ls st S = some (0, v, S') := hx
    unfold zone at hx
    cases hcd : zcd m pc with
    | none => rw [hcd] at hx; cases hx
    | some q =>
    obtain ⟨i, nx, r⟩ := q
    rw [hcd] at hx
    dsimp only at hx
    obtain ⟨hd, hlt, hil, hik⟩ := zdec (zdk_ok hm) hcd
    cases hl : zlk i with
    | some q =>
      rw [hl] at hx
      dsimp only at hx
      cases hz : zloc q (zinc i) ls st with
      | none => rw [hz] at hx; cases hx
      | some w =>
        obtain ⟨ls', st'⟩ := w
        rw [hz] at hx
        have h1 := ih m nx ls' st' S v S' hm hin hmd hx
        refine ⟨h1.1, fun tags maxL rt hmi D cs E p e s mid args below meth c cls k0 u0 cells slots mc ms hs0 hk0 hc0 hu0 hmc hms C hr hlk hL hk => ?_⟩
        intro H locs hG hok
        obtain ⟨o1, o2⟩ := zloc_ok hz hk hok
        exact zs_loc C hcd hl hz hL hk (fun cls' hL' => h1.2 tags maxL rt hmi D cs E p e s mid args below meth c cls' k0 u0 cells slots mc ms hs0 hk0 hc0 hu0 hmc hms C hr hlk hL' o1) H locs hG hok
    | none =>
      rw [hl] at hx
      dsimp only at hx
      cases hp : zpure md m i nx r st S with
      | none => rw [hp] at hx; cases hx
      | some N =>
      rw [hp] at hx
      have hx : zrun md n m nx ls S N = some (0, v, S') := by
        rcases N with N | ⟨g, N⟩ <;> exact hx
      have go : ∀ {pc1 : Nat} {st1 : List zV} {S1 : zS}, zex md n m pc1 ls st1 S1 = some (0, v, S') → S1.1 = S.1 → zOKC l m ls v S' pc1 st1 S1 := fun h ht => ih m _ ls _ _ v S' hm hin (by rw [ht]; exact hmd) h
      unfold zpure at hp
      cases hb : zbin i with
      | some f =>
        rw [hb] at hp
        dsimp only at hp
        rcases st with _ | ⟨⟨t, y⟩, _ | ⟨⟨u, x⟩, rest⟩⟩
        · cases hp
        · cases hp
        · obtain ⟨h1, h2⟩ := zbif hp
          simp only [Bool.and_eq_true] at h1
          cases zb0 h1.1; cases zb0 h1.2
          cases zgo_inv h2
          exact (go hx rfl).step ⟨rfl, rfl⟩ (fun _ _ _ _ _ _ _ _ _ _ _ _ _ _ _ _ _ _ hle C _ k => zs_bin C hcd hb k)
      | none =>
      rw [hb] at hp
      dsimp only at hp
      cases hlb : zlb i with
      | some f =>
        rw [hlb] at hp
        dsimp only at hp
        rcases st with _ | ⟨⟨t, y⟩, _ | ⟨⟨u, x⟩, rest⟩⟩
        · cases hp
        · cases hp
        · obtain ⟨h1, h2⟩ := zbif hp
          simp only [Bool.and_eq_true] at h1
          cases zlow h1.1; cases zlow h1.2
          cases zgo_inv h2
          exact (go hx rfl).step ⟨rfl, rfl⟩ (fun _ _ _ _ _ _ _ _ _ _ _ _ _ _ _ _ _ _ hle C _ k => zs_lb C hcd hlb k)
      | none =>
      rw [hlb] at hp
      dsimp only at hp
      cases hls : zlsh i with
      | some f =>
        rw [hls] at hp
        dsimp only at hp
        rcases st with _ | ⟨⟨t, y⟩, _ | ⟨⟨u, x⟩, rest⟩⟩
        · cases hp
        · cases hp
        · obtain ⟨h1, h2⟩ := zbif hp
          simp only [Bool.and_eq_true] at h1
          cases zlow h1.1; cases zlow h1.2
          cases zgo_inv h2
          exact (go hx rfl).step ⟨rfl, rfl⟩ (fun _ _ _ _ _ _ _ _ _ _ _ _ _ _ _ _ _ _ hle C _ k => zs_lsh C hcd hls k)
      | none =>
      rw [hls] at hp
      dsimp only at hp
      cases i
      case iconst a =>
        cases zgo_inv hp
        exact (go hx rfl).step ⟨rfl, rfl⟩ (fun _ _ _ _ _ _ _ _ _ _ _ _ _ _ _ _ _ _ hle C _ k => zs_iconst C hcd k)
      case bipush a =>
        cases zgo_inv hp
        exact (go hx rfl).step ⟨rfl, rfl⟩ (fun _ _ _ _ _ _ _ _ _ _ _ _ _ _ _ _ _ _ hle C _ k => zs_bipush C hcd k)
      case sipush a =>
        cases zgo_inv hp
        exact (go hx rfl).step ⟨rfl, rfl⟩ (fun _ _ _ _ _ _ _ _ _ _ _ _ _ _ _ _ _ _ hle C _ k => zs_sipush C hcd k)
      case lconst a =>
        cases zgo_inv hp
        exact (go hx rfl).step ⟨rfl, rfl⟩ (fun _ _ _ _ _ _ _ _ _ _ _ _ _ _ _ _ _ _ hle C _ k => zs_lconst C hcd k)
      case ldc2_w a =>
        cases zgo_inv hp
        exact (go hx rfl).step ⟨rfl, rfl⟩ (fun _ _ _ _ _ _ _ _ _ _ _ _ _ _ _ _ _ _ hle C _ k => zs_ldc2 C hcd k)
      case ldc a =>
        dsimp only at hp
        cases h0 : Nat.beq r 0 with
        | true => rw [h0] at hp; cases hp
        | false =>
          rw [h0] at hp
          cases zgo_inv hp
          exact (go hx rfl).step ⟨rfl, rfl⟩ (fun _ _ _ _ _ _ _ _ _ _ _ _ _ _ _ _ _ _ hle C _ k => zs_ldc C hcd h0 k)
      case ldc_w a =>
        dsimp only at hp
        cases h0 : Nat.beq r 0 with
        | true => rw [h0] at hp; cases hp
        | false =>
          rw [h0] at hp
          cases zgo_inv hp
          exact (go hx rfl).step ⟨rfl, rfl⟩ (fun _ _ _ _ _ _ _ _ _ _ _ _ _ _ _ _ _ _ hle C _ k => zs_ldcw C hcd h0 k)
      case goto a =>
        cases zgo_inv hp
        exact (go hx rfl).step ⟨rfl, rfl⟩ (fun _ _ _ _ _ _ _ _ _ _ _ _ _ _ _ _ _ _ hle C _ k => zs_goto C hcd k)
      case getstatic a =>
        cases zgo_inv hp
        exact (go hx rfl).step ⟨rfl, rfl⟩ (fun _ _ _ _ _ _ _ _ _ _ _ _ _ _ _ _ _ _ hle C _ k => zs_gets C hcd k)
      case idiv =>
        rcases st with _ | ⟨⟨t, y⟩, _ | ⟨⟨u, x⟩, rest⟩⟩
        · cases hp
        · cases hp
        · obtain ⟨h1, h2⟩ := zbif hp
          simp only [Bool.and_eq_true] at h1
          cases zb0 h1.1; cases zb0 h1.2
          cases zgg_inv h2
          obtain ⟨hg, hx2⟩ := zrun_gg hx
          exact (go hx2 rfl).step ⟨rfl, rfl⟩ (fun _ _ _ _ _ _ _ _ _ _ _ _ _ _ _ _ _ _ hle C _ k => zs_idiv C hcd hg k)
      case irem =>
        rcases st with _ | ⟨⟨t, y⟩, _ | ⟨⟨u, x⟩, rest⟩⟩
        · cases hp
        · cases hp
        · obtain ⟨h1, h2⟩ := zbif hp
          simp only [Bool.and_eq_true] at h1
          cases zb0 h1.1; cases zb0 h1.2
          cases zgg_inv h2
          obtain ⟨hg, hx2⟩ := zrun_gg hx
          exact (go hx2 rfl).step ⟨rfl, rfl⟩ (fun _ _ _ _ _ _ _ _ _ _ _ _ _ _ _ _ _ _ hle C _ k => zs_irem C hcd hg k)
      case lcmp =>
        rcases st with _ | ⟨⟨t, y⟩, _ | ⟨⟨u, x⟩, rest⟩⟩
        · cases hp
        · cases hp
        · obtain ⟨h1, h2⟩ := zbif hp
          simp only [Bool.and_eq_true] at h1
          cases zlow h1.1; cases zlow h1.2
          cases zgo_inv h2
          exact (go hx rfl).step ⟨rfl, rfl⟩ (fun _ _ _ _ _ _ _ _ _ _ _ _ _ _ _ _ _ _ hle C _ k => zs_lcmp C hcd k)
      case i2l =>
        rcases st with _ | ⟨⟨t, x⟩, rest⟩
        · cases hp
        · obtain ⟨h1, h2⟩ := zbif hp
          cases zb0 h1
          cases zgo_inv h2
          exact (go hx rfl).step ⟨rfl, rfl⟩ (fun _ _ _ _ _ _ _ _ _ _ _ _ _ _ _ _ _ _ hle C _ k => zs_i2l C hcd k)
      case l2i =>
        rcases st with _ | ⟨⟨t, x⟩, rest⟩
        · cases hp
        · obtain ⟨h1, h2⟩ := zbif hp
          cases zlow h1
          cases zgo_inv h2
          exact (go hx rfl).step ⟨rfl, rfl⟩ (fun _ _ _ _ _ _ _ _ _ _ _ _ _ _ _ _ _ _ hle C _ k => zs_l2i C hcd k)
      case i2b =>
        rcases st with _ | ⟨⟨t, x⟩, rest⟩
        · cases hp
        · obtain ⟨h1, h2⟩ := zbif hp
          cases zb0 h1
          cases zgo_inv h2
          exact (go hx rfl).step ⟨rfl, rfl⟩ (fun _ _ _ _ _ _ _ _ _ _ _ _ _ _ _ _ _ _ hle C _ k => zs_i2b C hcd k)
      case dup =>
        rcases st with _ | ⟨a, rest⟩
        · cases hp
        · obtain ⟨h1, h2⟩ := zbif hp
          cases zgo_inv h2
          exact (go hx rfl).step ⟨rfl, rfl⟩ (fun _ _ _ _ _ _ _ _ _ _ _ _ _ _ _ _ _ _ hle C _ k => zs_dup C hcd (zlow h1) k)
      case pop =>
        rcases st with _ | ⟨a, rest⟩
        · cases hp
        · obtain ⟨h1, h2⟩ := zbif hp
          cases zgo_inv h2
          exact (go hx rfl).step ⟨rfl, rfl⟩ (fun _ _ _ _ _ _ _ _ _ _ _ _ _ _ _ _ _ _ hle C _ k => zs_pop C hcd (zlow h1) k)
      case dup2 =>
        rcases st with _ | ⟨a, _ | ⟨b, rest⟩⟩
        · cases hp
        · cases hp
        · obtain ⟨h1, h2⟩ := zbif hp
          simp only [Bool.and_eq_true] at h1
          cases zgo_inv h2
          exact (go hx rfl).step ⟨rfl, rfl⟩ (fun _ _ _ _ _ _ _ _ _ _ _ _ _ _ _ _ _ _ hle C _ k => zs_dup2 C hcd (zlow h1.1) (zlow h1.2) k)
      case dup_x1 =>
        rcases st with _ | ⟨a, _ | ⟨b, rest⟩⟩
        · cases hp
        · cases hp
        · obtain ⟨h1, h2⟩ := zbif hp
          simp only [Bool.and_eq_true] at h1
          cases zgo_inv h2
          exact (go hx rfl).step ⟨rfl, rfl⟩ (fun _ _ _ _ _ _ _ _ _ _ _ _ _ _ _ _ _ _ hle C _ k => zs_dup_x1 C hcd (zlow h1.1) (zlow h1.2) k)
      case dup_x2 =>
        rcases st with _ | ⟨a, _ | ⟨b, _ | ⟨d, rest⟩⟩⟩
        · cases hp
        · cases hp
        · cases hp
        · obtain ⟨h1, h2⟩ := zbif hp
          simp only [Bool.and_eq_true] at h1
          cases zgo_inv h2
          exact (go hx rfl).step ⟨rfl, rfl⟩ (fun _ _ _ _ _ _ _ _ _ _ _ _ _ _ _ _ _ _ hle C _ k => zs_dup_x2 C hcd (zlow h1.1.1) (zlow h1.1.2) (zlow h1.2) k)
      case ifCond cd off =>
        rcases st with _ | ⟨⟨t, x⟩, rest⟩
        · cases hp
        · obtain ⟨h1, h2⟩ := zbif hp
          cases zb0 h1
          cases zbr_inv h2
          by_cases hc : zcn cd x 0
          · have hx : zex md n m r ls rest S = some (0, v, S') := by simpa only [zrun, zfin, zpick, if_pos hc] using hx
            exact (go hx rfl).step ⟨rfl, rfl⟩ (fun _ _ _ _ _ _ _ _ _ _ _ _ _ _ _ _ _ _ hle C _ k => zs_if C hcd (fun _ => k) (fun z => absurd hc z))
          · have hx : zex md n m nx ls rest S = some (0, v, S') := by simpa only [zrun, zfin, zpick, if_neg hc] using hx
            exact (go hx rfl).step ⟨rfl, rfl⟩ (fun _ _ _ _ _ _ _ _ _ _ _ _ _ _ _ _ _ _ hle C _ k => zs_if C hcd (fun z => absurd z hc) (fun _ => k))
      case if_icmp cd off =>
        rcases st with _ | ⟨⟨t, y⟩, _ | ⟨⟨u, x⟩, rest⟩⟩
        · cases hp
        · cases hp
        · obtain ⟨h1, h2⟩ := zbif hp
          simp only [Bool.and_eq_true] at h1
          cases zb0 h1.1; cases zb0 h1.2
          cases zbr_inv h2
          by_cases hc : zcn cd x y
          · have hx : zex md n m r ls rest S = some (0, v, S') := by simpa only [zrun, zfin, zpick, if_pos hc] using hx
            exact (go hx rfl).step ⟨rfl, rfl⟩ (fun _ _ _ _ _ _ _ _ _ _ _ _ _ _ _ _ _ _ hle C _ k => zs_icmp C hcd (fun _ => k) (fun z => absurd hc z))
          · have hx : zex md n m nx ls rest S = some (0, v, S') := by simpa only [zrun, zfin, zpick, if_neg hc] using hx
            exact (go hx rfl).step ⟨rfl, rfl⟩ (fun _ _ _ _ _ _ _ _ _ _ _ _ _ _ _ _ _ _ hle C _ k => zs_icmp C hcd (fun z => absurd z hc) (fun _ => k))
      case tableswitch df lo hi offs =>
        rcases st with _ | ⟨⟨t, x⟩, rest⟩
        · cases hp
        · obtain ⟨h1, h2⟩ := zbif hp
          cases zb0 h1
          cases zbr_inv h2
          obtain ⟨t, h3, h4⟩ := zpick_one hx
          exact (go h3 rfl).step ⟨rfl, rfl⟩ (fun _ _ _ _ _ _ _ _ _ _ _ _ _ _ _ _ _ _ hle C _ k => zs_switch C hcd (h4 _ k))
      case lookupswitch a b => cases hik
      case arraylength =>
        rcases st with _ | ⟨⟨t, o⟩, rest⟩
        · cases hp
        · obtain ⟨h1, h2⟩ := zbif hp
          simp only [Bool.and_eq_true] at h1
          cases zgo_inv h2
          exact (go hx rfl).step ⟨rfl, rfl⟩ (fun _ _ _ _ _ _ _ _ _ _ _ _ _ _ _ _ _ _ hle C _ k => zs_alen C hcd ⟨Nat.le_of_ble_eq_true h1.1, Nat.le_of_ble_eq_true h1.2⟩ k)
      case iaload =>
        rcases st with _ | ⟨⟨t, j⟩, _ | ⟨⟨u, o⟩, rest⟩⟩
        · cases hp
        · cases hp
        · obtain ⟨h1, h2⟩ := zbif hp
          simp only [Bool.and_eq_true, Bool.or_eq_true] at h1
          cases zb0 h1.1
          cases zgg_inv h2
          obtain ⟨hg, hx2⟩ := zrun_gg hx
          rcases h1.2 with z | z
          · cases zlow z
            exact (go hx2 rfl).step ⟨rfl, rfl⟩ (fun _ _ _ _ _ _ _ _ _ _ _ _ _ _ _ _ _ _ hle C _ k => zs_iald C hcd hg k)
          · cases zlow z
            exact (go hx2 rfl).step ⟨rfl, rfl⟩ (fun _ _ _ _ _ _ _ _ _ _ _ _ _ _ _ _ _ _ hle C _ k => zs_xald C hcd hg k)
      case laload =>
        rcases st with _ | ⟨⟨t, j⟩, _ | ⟨⟨u, o⟩, rest⟩⟩
        · cases hp
        · cases hp
        · obtain ⟨h1, h2⟩ := zbif hp
          simp only [Bool.and_eq_true] at h1
          cases zb0 h1.1; cases zlow h1.2
          cases zgg_inv h2
          obtain ⟨hg, hx2⟩ := zrun_gg hx
          exact (go hx2 rfl).step ⟨rfl, rfl⟩ (fun _ _ _ _ _ _ _ _ _ _ _ _ _ _ _ _ _ _ hle C _ k => zs_lald C hcd hg k)
      case baload =>
        rcases st with _ | ⟨⟨t, j⟩, _ | ⟨⟨u, o⟩, rest⟩⟩
        · cases hp
        · cases hp
        · obtain ⟨h1, h2⟩ := zbif hp
          simp only [Bool.and_eq_true, Bool.or_eq_true] at h1
          cases zb0 h1.1
          cases zgg_inv h2
          obtain ⟨hg, hx2⟩ := zrun_gg hx
          rcases h1.2 with z | z
          · cases zlow z
            exact (go hx2 rfl).step ⟨rfl, rfl⟩ (fun _ _ _ _ _ _ _ _ _ _ _ _ _ _ _ _ _ _ hle C _ k => zs_bald C hcd hg k)
          · cases zlow z
            exact (go hx2 rfl).step ⟨rfl, rfl⟩ (fun _ _ _ _ _ _ _ _ _ _ _ _ _ _ _ _ _ _ hle C _ k => zs_zald C hcd hg k)
      case iastore =>
        rcases st with _ | ⟨⟨w, a⟩, _ | ⟨⟨t, j⟩, _ | ⟨⟨u, o⟩, rest⟩⟩⟩
        · cases hp
        · cases hp
        · cases hp
        · obtain ⟨h1, h2⟩ := zbif hp
          simp only [Bool.and_eq_true] at h1
          cases zb0 h1.1.1; cases zb0 h1.1.2; cases zlow h1.2
          cases zgg_inv h2
          obtain ⟨hg, hx2⟩ := zrun_gg hx
          exact (go hx2 rfl).step ⟨rfl, rfl⟩ (fun _ _ _ _ _ _ _ _ _ _ _ _ _ _ _ _ _ _ hle C _ k => zs_iast C hcd hg k)
      case lastore =>
        rcases st with _ | ⟨⟨w, a⟩, _ | ⟨⟨t, j⟩, _ | ⟨⟨u, o⟩, rest⟩⟩⟩
        · cases hp
        · cases hp
        · cases hp
        · obtain ⟨h1, h2⟩ := zbif hp
          simp only [Bool.and_eq_true] at h1
          cases zlow h1.1.1; cases zb0 h1.1.2; cases zlow h1.2
          cases zgg_inv h2
          obtain ⟨hg, hx2⟩ := zrun_gg hx
          exact (go hx2 rfl).step ⟨rfl, rfl⟩ (fun _ _ _ _ _ _ _ _ _ _ _ _ _ _ _ _ _ _ hle C _ k => zs_last C hcd hg k)
      case bastore =>
        rcases st with _ | ⟨⟨w, a⟩, _ | ⟨⟨t, j⟩, _ | ⟨⟨u, o⟩, rest⟩⟩⟩
        · cases hp
        · cases hp
        · cases hp
        · dsimp only at hp
          cases h1 : (Nat.beq w 0 && Nat.beq t 0 && Nat.beq u 12) with
          | true =>
            rw [h1] at hp
            simp only [Bool.and_eq_true] at h1
            cases zb0 h1.1.1; cases zb0 h1.1.2; cases zlow h1.2
            cases zgg_inv hp
            obtain ⟨hg, hx2⟩ := zrun_gg hx
            exact (go hx2 rfl).step ⟨rfl, rfl⟩ (fun _ _ _ _ _ _ _ _ _ _ _ _ _ _ _ _ _ _ hle C _ k => zs_bast C hcd hg k)
          | false =>
            rw [h1] at hp
            obtain ⟨h3, h2⟩ := zbif hp
            simp only [Bool.and_eq_true] at h3
            cases zb0 h3.1.1; cases zb0 h3.1.2; cases zlow h3.2
            cases zgg_inv h2
            obtain ⟨hg, hx2⟩ := zrun_gg hx
            exact (go hx2 rfl).step ⟨rfl, rfl⟩ (fun _ _ _ _ _ _ _ _ _ _ _ _ _ _ _ _ _ _ hle C _ k => zs_zast C hcd hg k)
      case getfield a =>
        dsimp only at hp
        unfold zfield at hp
        cases hf : zfl r with
        | none => rw [hf] at hp; cases hp
        | some q =>
          obtain ⟨ci, k, ft, tg, tm⟩ := q
          rw [hf] at hp
          dsimp only at hp
          rcases st with _ | ⟨⟨t, o⟩, rest⟩
          · cases hp
          · obtain ⟨h1, h2⟩ := zbif hp
            cases zlow h1
            cases h10 : Nat.ble 10 ft with
            | true =>
              rw [h10] at h2
              simp only [cond_true] at h2
              have h10 := Nat.le_of_ble_eq_true h10
              cases h3 : Nat.blt tm md with
              | true =>
                rw [h3] at h2
                cases zgo_inv h2
                have h3 : tm < S.1 := Nat.lt_of_lt_of_le (Nat.le_of_ble_eq_true h3) hmd
                exact (go hx rfl).step ⟨rfl, rfl⟩ (fun _ _ _ _ _ _ _ _ _ _ _ _ _ _ _ _ _ _ hle C _ k => zs_get C hcd hf ⟨fun _ => k, fun z => by omega⟩ (fun _ => h3))
              | false =>
                rw [h3] at h2
                cases zgg_inv h2
                obtain ⟨hg, hx2⟩ := zrun_gg hx
                exact (go hx2 rfl).step ⟨rfl, rfl⟩ (fun _ _ _ _ _ _ _ _ _ _ _ _ _ _ _ _ _ _ hle C _ k => zs_get C hcd hf ⟨fun _ => k, fun z => by omega⟩ (fun _ => hg))
            | false =>
              rw [h10] at h2
              simp only [cond_false] at h2
              have hlt : ft < 10 := Nat.not_le.mp (fun z => by rw [Nat.ble_eq_true_of_le z] at h10; cases h10)
              have h0 : (bif Nat.beq ft 3 then 0 else ft) = 0 := by
                rcases (zfl_facts hf).2.2.2.2.2.2.2.1 hlt with rfl | rfl <;> rfl
              rw [h0] at h2
              cases zgo_inv h2
              exact (go hx rfl).step ⟨rfl, rfl⟩ (fun _ _ _ _ _ _ _ _ _ _ _ _ _ _ _ _ _ _ hle C _ k => zs_get C hcd hf ⟨fun z => by omega, fun _ => k⟩ (fun z => by omega))
      case putfield a =>
        dsimp only at hp
        unfold zputf at hp
        cases hf : zfl r with
        | none => rw [hf] at hp; cases hp
        | some q =>
          obtain ⟨ci, k, ft, tg, tm⟩ := q
          rw [hf] at hp
          dsimp only at hp
          rcases st with _ | ⟨⟨u, a⟩, _ | ⟨⟨t, o⟩, rest⟩⟩
          · cases hp
          · cases hp
          · obtain ⟨h1, h2⟩ := zbif hp
            cases zlow h1
            cases h10 : Nat.ble 10 ft with
            | false =>
              rw [h10] at h2
              simp only [cond_false] at h2
              have hlt : ft < 10 := Nat.not_le.mp (fun z => by rw [Nat.ble_eq_true_of_le z] at h10; cases h10)
              rcases (zfl_facts hf).2.2.2.2.2.2.2.1 hlt with rfl | rfl
              · obtain ⟨h3, h4⟩ := zbif h2
                cases zb0 h3
                cases zgo_inv h4
                exact (go hx rfl).step ⟨rfl, rfl⟩ (fun _ _ _ _ _ _ _ _ _ _ _ _ _ _ _ _ _ _ hle C _ k => zs_put C hcd hf hlt (fun z => by cases z) k)
              · obtain ⟨h3, h4⟩ := zbif h2
                cases zb0 h3
                cases zgg_inv h4
                obtain ⟨hg, hx2⟩ := zrun_gg hx
                exact (go hx2 rfl).step ⟨rfl, rfl⟩ (fun _ _ _ _ _ _ _ _ _ _ _ _ _ _ _ _ _ _ hle C _ k => zs_put C hcd hf hlt (fun _ => hg) k)
            | true =>
              rw [h10] at h2
              simp only [cond_true] at h2
              have h10 := Nat.le_of_ble_eq_true h10
              obtain ⟨h3, h4⟩ := zbif h2
              cases zlow h3
              cases zgg_inv h4
              obtain ⟨⟨hg1, hg2⟩, hx2⟩ := zrun_gg hx
              cases hg2
              have h1 := ih m _ ls _ _ v S' hm hin (Nat.le_trans hmd (Nat.le_succ _)) hx2
              have hno : zno (S.1 + 1) = zno S.1 := by rw [zno_succ, hg1, (zfr_facts hf h10).1]; rfl
              have hus : zus (S.1 + 1, S.2.1, S.2.2) = zus S := zus_same hno rfl
              obtain ⟨⟨b1, b2, b3⟩, b4⟩ := h1
              have b2 : zno (S.1 + 1) ≤ zno S'.1 := b2
              rw [hno] at b2
              rw [hus] at b3
              refine ⟨⟨Nat.le_trans (Nat.le_succ _) b1, b2, b3⟩, fun tags maxL rt hmi D cs E p e s mid args below meth c cls k0 u0 cells slots mc ms hs0 hk0 hc0 hu0 hmc hms C hr hlk hL hk => ?_⟩
              exact zs_putr C hcd hf h10 hg1 (b4 tags maxL rt hmi D cs E p e s mid args below meth c cls k0 u0 cells slots mc ms hs0 (by show k0 ≤ zno (S.1 + 1); rw [hno]; exact hk0) (by show cells + k0 = zno (S.1 + 1); rw [hno]; exact hc0) (by rw [hus]; exact hu0) hmc hms C hr hlk hL (fun w hw => zokv_le (hk w hw) (Nat.le_succ _)))
      case newarray a =>
        dsimp only at hp
        rcases st with _ | ⟨⟨t, n0⟩, rest⟩
        · cases hp
        · cases ha : zal S.1 with
          | none => rw [ha] at hp; cases hp
          | some q =>
            obtain ⟨tag, o⟩ := q
            rw [ha] at hp
            obtain ⟨h1, h2⟩ := zbif hp
            simp only [Bool.and_eq_true] at h1
            cases zb0 h1.1
            have htag := zlow h1.2
            cases zgg_inv h2
            obtain ⟨⟨hg1, hg2⟩, hx2⟩ := zrun_gg hx
            obtain ⟨⟨b1, b2, b3⟩, b4⟩ := ih m _ ls _ _ v S' hm hin (Nat.le_trans hmd (Nat.le_succ _)) hx2
            obtain ⟨a1, a2, a3, a4⟩ := zal_facts ha
            have hus : zus (S.1 + 1, zlen S.2.1 o n0, S.2.2) = zus S + n0.toNat := by
              rw [zus_new (S := S) a3 (fun q hq => ?_)]
              · congr 1
                unfold zsz
                rw [a2, htag]
                have : Nat.ble 20 (zat a) = false := by
                  rw [← htag]
                  rcases a4 with z | z | z | z | ⟨z, z', -⟩
                  · rw [z]; rfl
                  · rw [z]; rfl
                  · rw [z]; rfl
                  · rw [z]; rfl
                  · exfalso
                    rw [htag] at z z'
                    revert z z'
                    cases a <;> decide
                rw [this, a1]
                show (zlen S.2.1 (zno S.1) n0 (zno S.1)).toNat = _
                unfold zlen
                rw [if_pos rfl]
              · show zlen S.2.1 o n0 q = _
                have hqz : ¬ ((q : Int) = (zno S.1 : Int)) := fun z => Nat.ne_of_lt hq (Int.ofNat.inj z)
                unfold zlen
                rw [a1, if_neg hqz]
            have b2 : zno (S.1 + 1) ≤ zno S'.1 := b2
            rw [a3] at b2
            rw [hus] at b3
            refine ⟨⟨Nat.le_trans (Nat.le_succ _) b1, Nat.le_trans (Nat.le_succ _) b2, Nat.le_trans (Nat.le_add_right _ _) b3⟩, fun tags maxL rt hmi D cs E p e s mid args below meth c cls k0 u0 cells slots mc ms hs0 hk0 hc0 hu0 hmc hms C hr hlk hL hk => ?_⟩
            have y1 : cells + 1 ≤ mc := zle1 hc0 hmc b2
            have y2 : slots + n0.toNat ≤ ms := zle2 hu0 hms b3
            exact zs_newa C hcd ha htag hg1 hg2 hs0 hk0 hc0 y1 y2 (b4 tags maxL rt hmi D cs E p e s mid args below meth c cls k0 u0 (cells + 1) (slots + n0.toNat) mc ms hs0 (by show k0 ≤ zno (S.1 + 1); rw [a3]; exact Nat.le_succ_of_le hk0) (by show cells + 1 + k0 = zno (S.1 + 1); rw [a3, ← hc0, Nat.add_right_comm]) (by rw [hus, ← hu0, Nat.add_right_comm]) hmc hms C hr hlk hL (fun w hw => zokv_le (hk w hw) (Nat.le_succ _)))
      case new a =>
        dsimp only at hp
        cases h1000 : Nat.ble 1000 r with
        | true =>
          rw [h1000] at hp
          simp only [cond_true] at hp
          obtain ⟨hsum, hp2⟩ := zbif hp
          cases hp2
          unfold zrun at hx
          dsimp only at hx
          exfalso
          by_cases hg : zend ≤ S.1
          · rw [if_pos hg] at hx
            simp only [zfin, Option.some.injEq, Prod.mk.injEq] at hx
            have h1 := znew_ok hm hcd
            have h2 := Nat.le_of_ble_eq_true h1000
            omega
          · rw [if_neg hg] at hx; cases hx
        | false =>
          rw [h1000] at hp
          simp only [cond_false] at hp
          cases ha : zal S.1 with
          | none => rw [ha] at hp; cases hp
          | some q =>
            obtain ⟨tag, o⟩ := q
            rw [ha] at hp
            obtain ⟨h1, h2⟩ := zbif hp
            have htag := zlow h1
            cases zgg_inv h2
            obtain ⟨hg, hx2⟩ := zrun_gg hx
            obtain ⟨⟨b1, b2, b3⟩, b4⟩ := ih m _ ls _ _ v S' hm hin (Nat.le_trans hmd (Nat.le_succ _)) hx2
            subst htag
            obtain ⟨a1, a2, a3, a4⟩ := zal_facts ha
            have h20 : 20 ≤ tag := znew_20 hm hcd h1000
            have hus : zus (S.1 + 1, S.2.1, S.2.2) = zus S + (zfb (tag - 20)).2 := by
              rw [zus_new (S := S) (S1 := (S.1 + 1, S.2.1, S.2.2)) a3 (fun q hq => rfl)]
              congr 1
              unfold zsz
              rw [a2, Nat.ble_eq_true_of_le h20]
              rfl
            have b2 : zno (S.1 + 1) ≤ zno S'.1 := b2
            rw [a3] at b2
            rw [hus] at b3
            refine ⟨⟨Nat.le_trans (Nat.le_succ _) b1, Nat.le_trans (Nat.le_succ _) b2, Nat.le_trans (Nat.le_add_right _ _) b3⟩, fun tags maxL rt hmi D cs E p e s mid args below meth c cls k0 u0 cells slots mc ms hs0 hk0 hc0 hu0 hmc hms C hr hlk hL hk => ?_⟩
            have y1 : cells + 1 ≤ mc := zle1 hc0 hmc b2
            have y2 : slots + (zfb (tag - 20)).2 ≤ ms := zle2 hu0 hms b3
            exact zs_new C hcd h1000 ha h20 hg hs0 hk0 hc0 y1 y2 (b4 tags maxL rt hmi D cs E p e s mid args below meth c cls k0 u0 (cells + 1) (slots + (zfb (tag - 20)).2) mc ms hs0 (by show k0 ≤ zno (S.1 + 1); rw [a3]; exact Nat.le_succ_of_le hk0) (by show cells + 1 + k0 = zno (S.1 + 1); rw [a3, ← hc0, Nat.add_right_comm]) (by rw [hus, ← hu0, Nat.add_right_comm]) hmc hms C hr hlk hL (fun w hw => zokv_le (hk w hw) (Nat.le_succ _)))
      case ireturn =>
        dsimp only at hp
        cases hmi : zmi m with
        | none => rw [hmi] at hp; rcases st with _ | ⟨⟨t, a⟩, _ | ⟨w, rest⟩⟩ <;> cases hp
        | some q =>
          obtain ⟨tags, maxL, rt⟩ := q
          rw [hmi] at hp
          have := zvoid hm hin hmi
          subst this
          rcases st with _ | ⟨⟨t, a⟩, _ | ⟨w, rest⟩⟩
          · cases hp
          · exfalso
            dsimp only at hp
            rw [show Nat.beq 8 0 = false from rfl, show Nat.beq 8 3 = false from rfl, Bool.and_false] at hp
            cases hp
          · cases hp
      case lreturn =>
        dsimp only at hp
        cases hmi : zmi m with
        | none => rw [hmi] at hp; rcases st with _ | ⟨⟨t, a⟩, _ | ⟨w, rest⟩⟩ <;> cases hp
        | some q =>
          obtain ⟨tags, maxL, rt⟩ := q
          rw [hmi] at hp
          have := zvoid hm hin hmi
          subst this
          rcases st with _ | ⟨⟨t, a⟩, _ | ⟨w, rest⟩⟩
          · cases hp
          · exfalso
            dsimp only at hp
            rw [show Nat.beq 8 1 = false from rfl, Bool.and_false] at hp
            cases hp
          · cases hp
      case return_ =>
        dsimp only at hp
        cases hmi : zmi m with
        | none => rw [hmi] at hp; rcases st with _ | ⟨w, rest⟩ <;> cases hp
        | some q =>
          obtain ⟨tags, maxL, rt⟩ := q
          rw [hmi] at hp
          rcases st with _ | ⟨w, rest⟩
          · obtain ⟨h1, h2⟩ := zbif hp
            cases zlow h1
            cases h2
            cases hx
            refine ⟨⟨Nat.le_refl _, Nat.le_refl _, Nat.le_refl _⟩, fun tags' maxL' rt' hm' D cs E p e s mid args below meth c cls k0 u0 cells slots mc ms hs0 hk0 hc0 hu0 hmc hms C hr hlk hL hk => ?_⟩
            rw [hmi] at hm'
            cases hm'
            have y1 : mc = cells := Nat.add_right_cancel (hmc.trans hc0.symm)
            have y2 : ms = slots := Nat.add_right_cancel (hms.trans hu0.symm)
            subst y1; subst y2
            exact zs_vretC C hcd hr hlk
          · cases hp
      case invokestatic a =>
        dsimp only at hp
        cases h9 : Nat.ble 900 r with
        | false =>
          obtain ⟨tags, maxL, rt, hmi, rfl, e1, e2, e3, e4⟩ := zcall_low h9 hp
          obtain ⟨v1, S1, c1, c2⟩ := zcall_run hm hx
          simp only [zik, Bool.and_eq_true, Bool.or_eq_true, Bool.not_eq_true', h9, Bool.false_and, Bool.false_eq_true, false_or, false_and] at hik
          have hr9 : r < 266 := by
            have h0 := zst_low hm hcd
            rw [h9, Bool.or_false] at h0
            exact Nat.le_of_ble_eq_true h0
          have hst : zst r = true := by
            rcases hik with z | z
            · have := zlow z; omega
            · exact z.2.2
          have hir : zini r = false := by
            cases hz : zini r with
            | false => rfl
            | true => exact absurd ⟨hst, hz⟩ (zrow hr9 hmi).2.2.2.2.2.2
          have h1 := zsim (l := l) n r 0 _ [] S v1 S1 hr9 hir hmd c1
          have h2 := ih m nx ls _ S1 v S' hm hin (by rw [h1.1.1]; exact hmd) c2
          obtain ⟨f1, f2⟩ := zsplit e1
          refine h2.step h1.1 (fun D cs E p e s mid args below meth c cls nL Q cells slots mc ms hle C hcs k => ?_)
          intro H locs hG hok
          have hoka : ∀ w ∈ (st.take tags.length).reverse, zokv S.1 w := fun w hw => hok w (List.mem_of_mem_take (List.mem_reverse.mp hw))
          rw [f1]
          exact zs_callS (R := zroomC m mc ms) C hcs hcd hr9 hmi f2 e2 ⟨e3, e4⟩ h1.1.1 hle (zmet_of hr9 hmi f2 (fun p e s mid args below meth c cls C hr hlk hL => h1.2 tags maxL rt hmi D cs E p e s mid args below meth c cls C hr hlk hL (zmkl_ok hoka))) k H locs hG (by rw [← f1]; exact hok)
        | true =>
          unfold zcall at hp
          rw [h9] at hp
          simp only [cond_true] at hp
          have hge := Nat.le_of_ble_eq_true h9
          cases k0 : Nat.beq r 900 with
          | true =>
            have := zlow k0
            subst this
            simp only [zik, Bool.and_eq_true, Bool.or_eq_true, Bool.not_eq_true'] at hik
            exfalso
            rcases hik with z | ⟨z1, z2 | z2⟩
            · cases z
            · exact absurd z2.2 (by decide)
            · exact absurd z2.1 (by decide)
          | false =>
          rw [k0] at hp
          simp only [cond_false] at hp
          cases k1 : Nat.beq r 901 with
          | true =>
            rw [k1] at hp
            simp only [cond_true] at hp
            have := zlow k1
            subst this
            rcases st with _ | ⟨⟨t, b⟩, _ | ⟨⟨u, a⟩, rest⟩⟩
            · cases hp
            · cases hp
            · obtain ⟨h1, h2⟩ := zbif hp
              simp only [Bool.and_eq_true] at h1
              cases zb0 h1.1.1; cases zb0 h1.1.2
              obtain ⟨n1, n2, n3⟩ := znr_facts h1.2
              cases zgo_inv h2
              exact (go hx rfl).step ⟨rfl, rfl⟩ (fun _ _ _ _ _ _ _ _ _ _ _ _ _ _ _ _ _ _ hle C hcs k => zs_min C hcs ⟨n2, n3, hle.1, hle.2⟩ n1 hcd k)
          | false =>
          rw [k1] at hp
          simp only [cond_false] at hp
          cases k2 : Nat.beq r 902 with
          | true =>
            rw [k2] at hp
            simp only [cond_true] at hp
            have := zlow k2
            subst this
            rcases st with _ | ⟨⟨t, b⟩, _ | ⟨⟨u, a⟩, rest⟩⟩
            · cases hp
            · cases hp
            · obtain ⟨h1, h2⟩ := zbif hp
              simp only [Bool.and_eq_true] at h1
              cases zb0 h1.1.1; cases zb0 h1.1.2
              obtain ⟨n1, n2, n3⟩ := znr_facts h1.2
              cases zgo_inv h2
              exact (go hx rfl).step ⟨rfl, rfl⟩ (fun _ _ _ _ _ _ _ _ _ _ _ _ _ _ _ _ _ _ hle C hcs k => zs_max C hcs ⟨n2, n3, hle.1, hle.2⟩ n1 hcd k)
          | false =>
          rw [k2] at hp
          simp only [cond_false] at hp
          cases k3 : Nat.beq r 903 with
          | true =>
            rw [k3] at hp
            simp only [cond_true] at hp
            have := zlow k3
            subst this
            rcases st with _ | ⟨⟨t1, x1⟩, _ | ⟨⟨t2, x2⟩, _ | ⟨⟨t3, x3⟩, _ | ⟨⟨t4, x4⟩, _ | ⟨⟨t5, x5⟩, rest⟩⟩⟩⟩⟩
            · cases hp
            · cases hp
            · cases hp
            · cases hp
            · cases hp
            · obtain ⟨h1, h2⟩ := zbif hp
              simp only [Bool.and_eq_true] at h1
              obtain ⟨⟨⟨⟨⟨h11, h12⟩, h13⟩, h14⟩, h15⟩, h16⟩ := h1
              cases zb0 h11; cases zb0 h12; cases zlow h13; cases zb0 h14; cases zlow h15
              obtain ⟨n1, n2, n3⟩ := znr_facts h16
              cases zgg_inv h2
              obtain ⟨hg, hx2⟩ := zrun_gg hx
              exact (go hx2 rfl).step ⟨rfl, rfl⟩ (fun _ _ _ _ _ _ _ _ _ _ _ _ _ _ _ _ _ _ hle C hcs k => zs_copy C hcs ⟨n2, n3, hle.1, hle.2⟩ n1 hcd hg k)
          | false =>
          rw [k3] at hp
          cases hp
      case invokevirtual a =>
        dsimp only at hp
        simp only [zik, Bool.and_eq_true, Bool.or_eq_true, Bool.not_eq_true'] at hik
        rcases hik with z | ⟨⟨⟨hlk, hr9⟩, hst⟩, hir⟩
        · have := zlow z
          subst this
          unfold zcall at hp
          cases hp
        · have hr9 : r < 266 := Nat.le_of_ble_eq_true hr9
          have h9 : Nat.ble 900 r = false := Bool.eq_false_iff.mpr (fun z => by have := Nat.le_of_ble_eq_true z; omega)
          obtain ⟨tags, maxL, rt, hmi, rfl, e1, e2, e3, e4⟩ := zcall_low h9 hp
          obtain ⟨v1, S1, c1, c2⟩ := zcall_run hm hx
          have h1 := zsim (l := l) n r 0 _ [] S v1 S1 hr9 hir hmd c1
          have h2 := ih m nx ls _ S1 v S' hm hin (by rw [h1.1.1]; exact hmd) c2
          obtain ⟨f1, f2⟩ := zsplit e1
          refine h2.step h1.1 (fun D cs E p e s mid args below meth c cls nL Q cells slots mc ms hle C hcs k => ?_)
          intro H locs hG hok
          have hoka : ∀ w ∈ (st.take tags.length).reverse, zokv S.1 w := fun w hw => hok w (List.mem_of_mem_take (List.mem_reverse.mp hw))
          have hM := zmet_of (l := l) (D := D) (cs := cs) (E := E) (S := S) (S1 := S1) (v := v1) hr9 hmi f2 (fun p e s mid args below meth c cls C hr hlk hL => h1.2 tags maxL rt hmi D cs E p e s mid args below meth c cls C hr hlk hL (zmkl_ok hoka))
          cases has : (st.take tags.length).reverse with
          | nil =>
            rw [has] at f2
            have := ((zrow hr9 hmi).2.2.2.1 hst).1
            rw [f2] at this
            cases this
          | cons a0 as =>
            rw [has] at f1 f2 hM
            rw [f1]
            exact zs_callV (R := zroomC m mc ms) C hcs hcd hr9 hmi f2 e2 ⟨e3, e4⟩ h1.1.1 hle hM k H locs hG (by rw [← f1]; exact hok)
      case invokespecial a =>
        dsimp only at hp
        simp only [zik, hin, Bool.true_or, Bool.and_true, Bool.and_eq_true, Bool.or_eq_true] at hik
        rcases hik with z | ⟨hlk, z | ⟨hr9, hir⟩⟩
        · have := zlow z
          subst this
          unfold zcall at hp
          cases hp
        · have := zlow z
          subst this
          unfold zcall at hp
          rw [show Nat.ble 900 900 = true from rfl, show Nat.beq 900 900 = true from rfl] at hp
          simp only [cond_true] at hp
          rcases st with _ | ⟨a0, rest⟩
          · cases hp
          · obtain ⟨h1, h2⟩ := zbif hp
            simp only [Bool.and_eq_true] at h1
            obtain ⟨n1, n2, n3⟩ := znr_facts h1.2
            cases zgo_inv h2
            exact (go hx rfl).step ⟨rfl, rfl⟩ (fun _ _ _ _ _ _ _ _ _ _ _ _ _ _ _ _ _ _ hle C hcs k => zs_oinit C hcs ⟨n2, n3⟩ n1 hcd (Nat.le_of_ble_eq_true h1.1) k)
        · have hr9 : r < 266 := Nat.le_of_ble_eq_true hr9
          have h9 : Nat.ble 900 r = false := Bool.eq_false_iff.mpr (fun z => by have := Nat.le_of_ble_eq_true z; omega)
          obtain ⟨tags, maxL, rt, hmi, rfl, e1, e2, e3, e4⟩ := zcall_low h9 hp
          obtain ⟨v1, S1, c1, c2⟩ := zcall_run hm hx
          have := zvoid hr9 hir hmi
          subst this
          have hpu : zpush r v1 (st.drop tags.length) = st.drop tags.length := by unfold zpush; rw [hmi]; rfl
          rw [hpu] at c2
          obtain ⟨⟨b1, b2, b3⟩, b4⟩ := ih r 0 _ [] S v1 S1 hr9 hir hmd c1
          obtain ⟨⟨d1, d2, d3⟩, d4⟩ := ih m nx ls _ S1 v S' hm hin (Nat.le_trans hmd b1) c2
          obtain ⟨f1, f2⟩ := zsplit e1
          refine ⟨⟨Nat.le_trans b1 d1, Nat.le_trans b2 d2, Nat.le_trans b3 d3⟩, fun tags' maxL' rt' hmi' D cs E p e s mid args below meth c cls k0 u0 cells slots mc ms hs0 hk0 hc0 hu0 hmc hms C hr hlk hL hk => ?_⟩
          intro H locs hG hok
          have hoka : ∀ w ∈ (st.take tags.length).reverse, zokv S.1 w := fun w hw => hok w (List.mem_of_mem_take (List.mem_reverse.mp hw))
          obtain ⟨gc, hgc⟩ := Nat.exists_eq_add_of_le b2
          obtain ⟨gs, hgs⟩ := Nat.exists_eq_add_of_le b3
          have hM := zmetC_of (l := l) (D := D) (cs := cs) (E := E) (S := S) (S1 := S1) (v := v1) (mc := gc) (ms := gs) hr9 hmi f2 (fun p e s mid args below meth c cls hsz C hr hlk hL => b4 tags maxL 8 hmi D cs E p e s mid args below meth c cls (zno S.1) (zus S) 0 0 gc gs hsz (Nat.le_refl _) (Nat.zero_add _) (Nat.zero_add _) (by rw [hgc, Nat.add_comm]) (by rw [hgs, Nat.add_comm]) C hr hlk hL (zmkl_ok hoka))
          have y1 : cells + gc ≤ mc := zle1' hc0 hmc hgc d2
          have y2 : slots + gs ≤ ms := zle1' hu0 hms hgs d3
          cases has : (st.take tags.length).reverse with
          | nil =>
            rw [has] at f2
            have hst : zst r = false := by
              cases hz : zst r with
              | false => rfl
              | true => exact absurd ⟨hz, hir⟩ (zrow hr9 hmi).2.2.2.2.2.2
            have := ((zrow hr9 hmi).2.2.2.1 hst).1
            rw [f2] at this
            cases this
          | cons a0 as =>
            rw [has] at f1 f2 hM
            rw [f1]
            exact zs_callI (R := zroomC m mc ms) C hL.2.1 hcd hr9 hir hmi f2 e2 ⟨e3, e4⟩ b1 ⟨y1, y2⟩ hs0 hk0 hc0 hM (d4 tags' maxL' rt' hmi' D cs E p e s mid args below meth c cls k0 u0 (cells + gc) (slots + gs) mc ms hs0 (Nat.le_trans hk0 b2) (by rw [hgc, ← hc0, Nat.add_right_comm]) (by rw [hgs, ← hu0, Nat.add_right_comm]) hmc hms C hr hlk hL (fun w hw => zokv_le (hk w hw) b1)) H locs hG (by rw [← f1]; exact hok)
      all_goals (exfalso; first | (cases hp; done) | (cases hl; done) | (cases hb; done) | (cases hlb; done) | (cases hls; done))
end ZSIM9
