theorem znew_dec : (List.range 266).all (fun m => (List.range (zbl m)).all (fun pc => match zcd m pc with
  | some (.new _, _, r) => !Nat.beq r 1000
  | _ => true)) = true := by decide +kernel
theorem znew_ok {m pc j nx r : Nat} (hm : m < 266) (h : zcd m pc = some (.new j, nx, r)) : r ≠ 1000 := by
  have hlt : pc < zbl m := by
    unfold zcd at h
    cases hb : (Nat.blt m 288 && Nat.blt pc (zbl m)) with
    | false => rw [hb] at h; cases h
    | true => rw [Bool.and_eq_true] at hb; exact Nat.le_of_ble_eq_true hb.2
  have h1 := List.all_eq_true.mp (List.all_eq_true.mp znew_dec m (List.mem_range.mpr hm)) pc (List.mem_range.mpr hlt)
  rw [h] at h1
  intro z
  rw [z] at h1
  cases h1
