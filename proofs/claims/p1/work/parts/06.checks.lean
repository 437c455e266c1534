theorem zLf_ok : zLf.all (fun q => decide (lw_tbl[q.2.2.2]? = some (.fieldLink (zcl q.1) q.2.1 (zfn q.2.2.1).1 (zfn q.2.2.1).2.1 (zfn q.2.2.1).2.2.1))) = true := by decide +kernel
def zyn (r : Nat) : MethodName := bif Nat.beq r 900 then Lib.objectInit else bif Nat.beq r 901 then Lib.Math.min.name else bif Nat.beq r 902 then Lib.Math.max.name else bif Nat.beq r 903 then arraycopyName else zy r
theorem zLm_ok : zLm.all (fun q => decide (lw_tbl[q.2.2.2]? = some (.methodLink (zcl q.1) q.2.1 (zyn q.2.2.1)))) = true := by decide +kernel
theorem zLc_ok : zLc.all (fun q => decide (lw_tbl[q.2.2.2]? = some (.constant (zcl q.1) q.2.1 (Int32.ofInt ((q.2.2.1 : Int) - 2147483648))))) = true := by decide +kernel
theorem zLl_ok : zLl.all (fun q => decide (lw_tbl[q.2.2.2]? = some (.constantLong (zcl q.1) q.2.1 (Int64.ofInt ((q.2.2.1 : Int) - 9223372036854775808))))) = true := by decide +kernel
theorem zLn_ok : zLn.all (fun q => decide (lw_tbl[q.2.2.2]? = some (.classLink (zcl q.1) q.2.1 (zcl (q.2.2.1 - 20))))) = true := by decide +kernel
theorem zpc_dec : (List.range 266).all (fun m => match lw_tbl[zpc m]?, zmi m with
  | some (.code y _ ml rt), some (_, maxL, t) => decide (y = zy m) && decide (ml = maxL) && decide (rt = zrty t)
  | _, _ => false) = true := by decide +kernel
theorem zpi_ok : (List.range 266).all (fun m => zst m || decide (lw_tbl[zpi m]? = some (.instanceMethod (zy m)))) = true := by decide +kernel
theorem zps_ok : (List.range 266).all (fun m => !zst m || decide (lw_tbl[zps m]? = some (.static (zy m)))) = true := by decide +kernel
theorem zpl_ok : (List.range 266).all (fun m => zst m || zini m || decide (lw_tbl[zpl m]? = some (.selects (zcl (zcm m)) (zy m) (zy m)))) = true := by decide +kernel
theorem zpn_ok : (List.range 12).all (fun c => decide (lw_tbl[zpn c]? = some (.initialized (zcl c)))) = true := by decide +kernel
theorem zpa_ok : (List.range 10).all (fun c => decide (lw_tbl[zpa c]? = some (.instantiable (zcl c) (zfb c).2))) = true := by decide +kernel
theorem zpf_ok : (List.range 10).all (fun c => (List.range (zfb c).2).all (fun k => decide (lw_tbl[zpf ((zfb c).1 + k)]? = some (u_lay (zcl c) (zTf c) k)))) = true := by decide +kernel
def zcs : List Cond := lw_tbl.filter goodWord
theorem zLs_ok : zLs.all (fun q => decide (lw_tbl[q.2.2.2]? = some (.fieldLink (zcl q.1) q.2.1 "DiskPool$Bytes" "FALLEN" "[I"))) = true := by decide +kernel
/-- a field's rows agree -/
def zfk (r : Nat) : Bool := match zfl r with
  | some (ci, k, ft, _, _) => Nat.blt ci 10 && decide (k = ((r - (zfb ci).1 : Nat) : Int)) && Nat.ble (zfb ci).1 r && Nat.blt (r - (zfb ci).1) (zfb ci).2 && decide (parseFieldDescriptor (zfn r).2.2.1 = some (zft r)) && (match zft r with
    | .int => Nat.beq ft 0
    | .boolean => Nat.beq ft 3
    | .array .int => Nat.beq ft 10
    | .array .long => Nat.beq ft 11
    | .array .byte => Nat.beq ft 12
    | .array .boolean => Nat.beq ft 13
    | .object n => Nat.ble 20 ft && decide (n = zcl (ft - 20))
    | _ => false)
  | none => false
theorem zfk_ok : (List.range 100).all zfk = true := by decide +kernel
/-- a class's fields have names of their own -/
theorem znm_ok : (List.range 10).all (fun c => (List.range (zfb c).2).all (fun a => (List.range (zfb c).2).all (fun b => Nat.beq a b || decide ((zTf c a).2.1 ≠ (zTf c b).2.1)))) = true := by decide +kernel
/-- a reference's field: what it holds was made ahead of its setting -/
def zno (t : Nat) : Nat := ((List.range t).filter (fun u => (zal u).isSome)).length
theorem zfr_ok : (List.range 100).all (fun r => match zfl r with
  | some (_, _, ft, tg, tm) => Nat.blt ft 10 || (decide (0 ≤ tg) && Nat.beq (zob tg.toNat) ft && Nat.blt tg.toNat (zno tm))
  | none => true) = true := by decide +kernel
theorem zin_ok : (List.range 288).all (fun m => !zini m || decide ((zy m).name = "<init>")) = true := by decide +kernel
theorem zmth1 : Cond.static Lib.Math.min.name ∈ zcs := by decide +kernel
theorem zmth2 : Cond.static Lib.Math.max.name ∈ zcs := by decide +kernel
theorem zmth3 : Cond.initialized "java/lang/Math" ∈ zcs := by decide +kernel
theorem zmth4 : Cond.code Lib.Math.min.name Lib.Math.min.code 2 (some .int) ∈ zcs := by decide +kernel
theorem zmth5 : Cond.code Lib.Math.max.name Lib.Math.max.code 2 (some .int) ∈ zcs := by decide +kernel
theorem zmth6 : Cond.native arraycopyName ∈ zcs := by decide +kernel
theorem zmth7 : Cond.static arraycopyName ∈ zcs := by decide +kernel
theorem zmth8 : Cond.initialized "java/lang/System" ∈ zcs := by decide +kernel
theorem zyc_ok : (List.range 266).all (fun m => !(zst m && zini m) && decide ((zy m).cls = zcl (zcm m)) && decide (plainName (zcl (zcm m)) = true) && Nat.blt (zcm m) 12 && (match zmi m with
  | some (tags, maxL, _) => (zst m || decide (tags.head? = some (20 + zcm m))) && Nat.ble (tags.map (fun t => bif Nat.beq t 1 then 2 else 1)).sum maxL && decide ((parseMethodDescriptor (zy m).desc).map (fun d => d.parameters.length) = some (tags.length - (bif zst m then 0 else 1))) && (zst m || Nat.blt (zcm m) 10)
  | none => false)) = true := by decide +kernel
theorem zcl_ok : (List.range 12).all (fun c => decide (zcl c ≠ "java/lang/invoke/MethodHandle") && decide (zcl c ≠ "java/lang/invoke/VarHandle")) = true := by decide +kernel
