theorem r_five {X : zHp} {t : Nat} {L : Int → Int} {H : zHp} (ht : 118 ≤ t) (hX : lR X H) (h : rP (t, L, H)) : r5 X t L H := by
  obtain ⟨⟨d, w, r, hr⟩, hz⟩ := h
  exact ⟨fun a b c ha hb hc => q_make ht hX hz hr a b c ha hb hc, fun a b ha hb => q_write ht hX hz hr a b ha hb, fun a b ha hb => q_cut ht hX hz hr a b ha hb, fun a b c e ha hb hc he => q_move ht hX hz hr a b c e ha hb hc he, fun a b ha hb => q_remove ht hX hz hr ha hb⟩
theorem i_vc : Claimed_1_1 ∧ Claimed_1_2 := zclaims (fun L xs hL => r_runs hL (fun t L' H h hX ht => r_five ht hX h))
