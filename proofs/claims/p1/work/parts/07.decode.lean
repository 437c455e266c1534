def zin4 (l : List (Nat × Nat × Nat × Nat)) (a b d : Nat) : Bool := l.any (fun q => Nat.beq q.1 a && Nat.beq q.2.1 b && Nat.beq q.2.2.1 d)
def zsok (pc : Nat) (d lo : Int) (offs : List Int) (w : List (Int × Nat) × Nat) : Bool :=
  decide ((pc : Int) + d = (w.2 : Int)) && Nat.beq offs.length w.1.length && (List.range offs.length).all (fun j => match offs[j]?, w.1[j]? with
    | some o, some q => decide (q.1 = lo + j) && decide ((pc : Int) + o = (q.2 : Int))
    | _, _ => false)
/-- an instruction's own check -/
def zik (m pc : Nat) (i : Instr) (r : Nat) : Bool := match i with
  | .getfield k => zin4 zLf (zcm m) k r
  | .putfield k => zin4 zLf (zcm m) k r && (!(zfn r).2.2.2 || (zini m && decide ((zfn r).1 = zcl (zcm m)))) && (zini m || (match zfl r with
    | some (_, _, ft, _, _) => Nat.blt ft 10
    | none => false))
  | .ldc k => Nat.beq r 0 || zin4 zLc (zcm m) k r
  | .ldc_w k => Nat.beq r 0 || zin4 zLc (zcm m) k r
  | .ldc2_w k => zin4 zLl (zcm m) k r
  | .new k => Nat.ble 1000 r || (zin4 zLn (zcm m) k r && (zini m || Nat.ble 266 m))
  | .newarray _ => zini m || Nat.ble 266 m
  | .invokestatic k => Nat.beq r 999 || (zin4 zLm (zcm m) k r && ((Nat.ble 900 r && !Nat.beq r 900) || (Nat.blt r 287 && zst r)))
  | .invokevirtual k => Nat.beq r 999 || (zin4 zLm (zcm m) k r && Nat.blt r 266 && !zst r && !zini r)
  | .invokespecial k => Nat.beq r 999 || (zin4 zLm (zcm m) k r && (zini m || Nat.ble 266 m) && (Nat.beq r 900 || (Nat.blt r 266 && zini r)))
  | .bipush n => decide (-128 ≤ n) && decide (n < 128)
  | .sipush n => decide (-32768 ≤ n) && decide (n < 32768)
  | .iconst n => decide (-1 ≤ n) && decide (n < 6)
  | .iinc _ n => decide (-128 ≤ n) && decide (n < 128)
  | .goto off => decide ((pc : Int) + off = (r : Int))
  | .ifCond _ off => decide ((pc : Int) + off = (r : Int))
  | .if_icmp _ off => decide ((pc : Int) + off = (r : Int))
  | .tableswitch d lo hi offs => decide (hi + 1 = lo + offs.size) && zsok pc d lo offs.toList (zsw r)
  | .lookupswitch _ _ => false
  | .getstatic k => Nat.beq (zcm m) 10 && Nat.beq r 8 && zin4 zLs (zcm m) k r
  | _ => true
/-- how long an instruction is (0: a switch) -/
def zil : Instr → Nat
  | .iload _ => 2
  | .lload _ => 2
  | .aload _ => 2
  | .istore _ => 2
  | .lstore _ => 2
  | .astore _ => 2
  | .bipush _ => 2
  | .ldc _ => 2
  | .newarray _ => 2
  | .sipush _ => 3
  | .ldc_w _ => 3
  | .ldc2_w _ => 3
  | .iinc _ _ => 3
  | .ifCond _ _ => 3
  | .if_icmp _ _ => 3
  | .goto _ => 3
  | .getfield _ => 3
  | .putfield _ => 3
  | .getstatic _ => 3
  | .new _ => 3
  | .invokestatic _ => 3
  | .invokevirtual _ => 3
  | .invokespecial _ => 3
  | .tableswitch _ _ _ _ => 0
  | .lookupswitch _ _ => 0
  | _ => 1
def zdb (b : ByteArray) (m a n : Nat) : Bool := (List.range' a n).all (fun pc => match zcd m pc with
    | none => true
    | some (i, nx, r) => decide (decode b pc = .ok (i, nx - pc)) && Nat.blt pc nx && (Nat.beq (zil i) 0 || Nat.beq nx (pc + zil i)) && zik m pc i r)
def zdq (m a n : Nat) : Bool := match lw_tbl[zpc m]? with
  | some (.code _ b _ _) => Nat.blt m 266 && zdb b m a n
  | _ => false
def zdk (m : Nat) : Bool := zdq m 0 (zbl m) || (Nat.ble 266 m && zdb (zb m) m 0 (zbl m))
theorem zdb_app {b : ByteArray} {m a n k : Nat} (h1 : zdb b m a n = true) (h2 : zdb b m (a + n) k = true) : zdb b m a (n + k) = true := by
  unfold zdb at h1 h2 ⊢
  rw [← List.range'_append_1, List.all_append, Bool.and_eq_true]
  exact ⟨h1, h2⟩
theorem zdb_of {m : Nat} (h : zdk m = true) : zdb (zb m) m 0 (zbl m) = true := by
  unfold zdk at h
  rw [Bool.or_eq_true] at h
  rcases h with h | h
  · unfold zdq at h
    cases hw : lw_tbl[zpc m]? with
    | none => rw [hw] at h; cases h
    | some w =>
      rw [hw] at h
      cases w <;> first | (cases h; done) | skip
      rename_i y b ml rt
      dsimp only at h
      rw [Bool.and_eq_true] at h
      have hbm : zb m = b := by
        unfold zb
        rw [h.1, hw]
        rfl
      rw [hbm]
      exact h.2
  · rw [Bool.and_eq_true] at h
    exact h.2
theorem zdq_app {m a n k : Nat} (h1 : zdq m a n = true) (h2 : zdq m (a + n) k = true) : zdq m a (n + k) = true := by
  unfold zdq at h1 h2 ⊢
  cases hw : lw_tbl[zpc m]? with
  | none => rw [hw] at h1; cases h1
  | some w =>
    rw [hw] at h1 h2
    cases w <;> first | (cases h1; done) | skip
    simp only [Bool.and_eq_true] at h1 h2 ⊢
    exact ⟨h1.1, zdb_app h1.2 h2.2⟩
