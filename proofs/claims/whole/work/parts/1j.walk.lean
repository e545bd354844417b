def fX11_pay (v1 : Int32) (v2 : Int32) (m_now : (Nat → Int32)) : Option (Int32 × (Nat → Int32)) := (if v1 = v2 then some (3, m_now) else if (16 + v1) < 0 ∨ 31 ≤ (16 + v1).toNatClampNeg then none else (if 3 ≤ (m_now (16 + v1).toNatClampNeg) then if (16 + v1) < 0 ∨ 31 ≤ (16 + v1).toNatClampNeg then none else if (16 + v1) < 0 ∨ 31 ≤ (16 + v1).toNatClampNeg then none else if (16 + v2) < 0 ∨ 31 ≤ (16 + v2).toNatClampNeg then none else if (16 + v2) < 0 ∨ 31 ≤ (16 + v2).toNatClampNeg then none else if (8 + v2) < 0 ∨ 31 ≤ (8 + v2).toNatClampNeg then none else some (0, (upd (upd (upd m_now (16 + v1).toNatClampNeg ((m_now (16 + v1).toNatClampNeg) - 3)) (16 + v2).toNatClampNeg (((upd m_now (16 + v1).toNatClampNeg ((m_now (16 + v1).toNatClampNeg) - 3)) (16 + v2).toNatClampNeg) + 3)) (8 + v2).toNatClampNeg 9)) else some (6, m_now)))
def rmX11_pay : Room := { frames := 0, cells := 0, slots := 0, locals := 0 }
set_option maxRecDepth 100000 in
set_option maxHeartbeats 4000000 in
theorem c_X11_pay (l : Launch) (D : va_G) (cI cJ cZ : ClassId) (a a_book a_now a_sight a_pad a_digits a_without a_with a_counts a_fewest a_ways a_more a_chooses a_image a_isKept : Nat) (m_sights : Int32) (m_signs : Int32) (m_sold : Int32) (m_markets : Int32) (m_marketAt : Int32) (m_reason : Int32) (m_acts : Int32) (m_now : (Nat → Int32)) (v1 : Int32) (v2 : Int32) (res : Int32 × (Nat → Int32)) (hf : fX11_pay v1 v2 m_now = some res) : Ct l yX11_pay (cm_ws yX11_pay cX11_pay 3 (some .int)) rmX11_pay D (cm_T cI cJ cZ) [.ref a, .int v1, .int v2] [(a, .inr (11, [.ref a_book, .ref a_now, .int m_sights, .ref a_sight, .int m_signs, .ref a_pad, .int m_sold, .int m_markets, .int m_marketAt, .int m_reason, .int m_acts, .ref a_digits, .ref a_without, .ref a_with, .ref a_counts, .ref a_fewest, .ref a_ways, .ref a_more, .ref a_chooses, .ref a_image, .ref a_isKept])), cm_kI cI a_now 31 m_now] (some (.int res.1)) [(a, .inr (11, [.ref a_book, .ref a_now, .int m_sights, .ref a_sight, .int m_signs, .ref a_pad, .int m_sold, .int m_markets, .int m_marketAt, .int m_reason, .int m_acts, .ref a_digits, .ref a_without, .ref a_with, .ref a_counts, .ref a_fewest, .ref a_ways, .ref a_more, .ref a_chooses, .ref a_image, .ref a_isKept])), cm_kI cI a_now 31 res.2] := by
  refine Ct.of (cc := cX11_pay) (maxL := 3) (ret := (some .int)) (by decide) (Nat.le_of_ble_eq_true rfl) ?_
  intro p e s m below meth c ls args A Q hav hAe hQ hx hb hr hml hown hlocks hts hK hP hD hA hS hl
  have hKa := hK.1
  have hl : lv_has ls 3 [(0, .ref a), (1, .int v1), (2, .int v2)] := hl
  unfold fX11_pay at hf
  refine lv_iload_n (pc := 0) hx hb dX11_pay_0 rfl (lv_at hl 1 rfl) ?_
  refine lv_iload_n (pc := 1) hx hb dX11_pay_1 rfl (lv_at hl 2 rfl) ?_
  refine lv_icmp_ne (pc := 2) (tgt := 7) hx hb dX11_pay_2 (by decide) (fun c_2 => ?_) (fun c_2 => ?_)
  · have hf := cm_in c_2 hf
    refine lv_aload_n (pc := 7) hx hb dX11_pay_7 rfl (lv_at hl 0 rfl) ?_
    refine va_get (pc := 8) (D := D) (ci := 11) (v := .ref a_now) (C := RX11) (T := TX11) (N := 21) hx hb hts in_X11 hown hKa hP 0 rfl rfl 1 (by decide) (hts _ tw_713) (fun _ h9 => h9) rfl dX11_pay_8 ?_
    refine lv_bipush (pc := 11) (v := 16) hx hb dX11_pay_11 (by decide) ?_
    refine lv_iload_n (pc := 13) hx hb dX11_pay_13 rfl (lv_at hl 1 rfl) ?_
    refine lv_iadd (pc := 14) hx hb dX11_pay_14 ?_
    obtain ⟨b_15, hf⟩ := cm_ob hf
    refine va_iald (pc := 15) hx hb hKa hP 1 0 rfl rfl b_15 dX11_pay_15 ?_
    refine lv_iconst (pc := 16) (v := 3) hx hb dX11_pay_16 (by decide) ?_
    refine lv_icmp_ge (pc := 17) (tgt := 23) hx hb dX11_pay_17 (by decide) (fun c_17 => ?_) (fun c_17 => ?_)
    · have hf := cm_ip c_17 hf
      refine lv_aload_n (pc := 23) hx hb dX11_pay_23 rfl (lv_at hl 0 rfl) ?_
      refine va_get (pc := 24) (D := D) (ci := 11) (v := .ref a_now) (C := RX11) (T := TX11) (N := 21) hx hb hts in_X11 hown hKa hP 0 rfl rfl 1 (by decide) (hts _ tw_713) (fun _ h9 => h9) rfl dX11_pay_24 ?_
      refine lv_bipush (pc := 27) (v := 16) hx hb dX11_pay_27 (by decide) ?_
      refine lv_iload_n (pc := 29) hx hb dX11_pay_29 rfl (lv_at hl 1 rfl) ?_
      refine lv_iadd (pc := 30) hx hb dX11_pay_30 ?_
      refine lv_dup2_11 (pc := 31) hx hb dX11_pay_31 rfl rfl ?_
      obtain ⟨b_32, hf⟩ := cm_ob hf
      refine va_iald (pc := 32) hx hb hKa hP 1 0 rfl rfl b_32 dX11_pay_32 ?_
      refine lv_iconst (pc := 33) (v := 3) hx hb dX11_pay_33 (by decide) ?_
      refine lv_isub (pc := 34) hx hb dX11_pay_34 ?_
      obtain ⟨b_35, hf⟩ := cm_ob hf
      refine va_iast (pc := 35) hx hb hKa hP hD hS 1 0 rfl rfl b_35 dX11_pay_35 (fun H locs hP hD hS => ?_)
      have hP : va_P D vwCl [(a, .inr (11, [.ref a_book, .ref a_now, .int m_sights, .ref a_sight, .int m_signs, .ref a_pad, .int m_sold, .int m_markets, .int m_marketAt, .int m_reason, .int m_acts, .ref a_digits, .ref a_without, .ref a_with, .ref a_counts, .ref a_fewest, .ref a_ways, .ref a_more, .ref a_chooses, .ref a_image, .ref a_isKept])), cm_kI cI a_now 31 (upd m_now (16 + v1).toNatClampNeg ((m_now (16 + v1).toNatClampNeg) - 3))] H := hP
      have hD : va_D A [(a, .inr (11, [.ref a_book, .ref a_now, .int m_sights, .ref a_sight, .int m_signs, .ref a_pad, .int m_sold, .int m_markets, .int m_marketAt, .int m_reason, .int m_acts, .ref a_digits, .ref a_without, .ref a_with, .ref a_counts, .ref a_fewest, .ref a_ways, .ref a_more, .ref a_chooses, .ref a_image, .ref a_isKept])), cm_kI cI a_now 31 (upd m_now (16 + v1).toNatClampNeg ((m_now (16 + v1).toNatClampNeg) - 3))] := hD
      refine lv_aload_n (pc := 36) hx hb dX11_pay_36 rfl (lv_at hl 0 rfl) ?_
      refine va_get (pc := 37) (D := D) (ci := 11) (v := .ref a_now) (C := RX11) (T := TX11) (N := 21) hx hb hts in_X11 hown hKa hP 0 rfl rfl 1 (by decide) (hts _ tw_713) (fun _ h9 => h9) rfl dX11_pay_37 ?_
      refine lv_bipush (pc := 40) (v := 16) hx hb dX11_pay_40 (by decide) ?_
      refine lv_iload_n (pc := 42) hx hb dX11_pay_42 rfl (lv_at hl 2 rfl) ?_
      refine lv_iadd (pc := 43) hx hb dX11_pay_43 ?_
      refine lv_dup2_11 (pc := 44) hx hb dX11_pay_44 rfl rfl ?_
      obtain ⟨b_45, hf⟩ := cm_ob hf
      refine va_iald (pc := 45) hx hb hKa hP 1 0 rfl rfl b_45 dX11_pay_45 ?_
      refine lv_iconst (pc := 46) (v := 3) hx hb dX11_pay_46 (by decide) ?_
      refine lv_iadd (pc := 47) hx hb dX11_pay_47 ?_
      obtain ⟨b_48, hf⟩ := cm_ob hf
      refine va_iast (pc := 48) hx hb hKa hP hD hS 1 0 rfl rfl b_48 dX11_pay_48 (fun H locs hP hD hS => ?_)
      have hP : va_P D vwCl [(a, .inr (11, [.ref a_book, .ref a_now, .int m_sights, .ref a_sight, .int m_signs, .ref a_pad, .int m_sold, .int m_markets, .int m_marketAt, .int m_reason, .int m_acts, .ref a_digits, .ref a_without, .ref a_with, .ref a_counts, .ref a_fewest, .ref a_ways, .ref a_more, .ref a_chooses, .ref a_image, .ref a_isKept])), cm_kI cI a_now 31 (upd (upd m_now (16 + v1).toNatClampNeg ((m_now (16 + v1).toNatClampNeg) - 3)) (16 + v2).toNatClampNeg (((upd m_now (16 + v1).toNatClampNeg ((m_now (16 + v1).toNatClampNeg) - 3)) (16 + v2).toNatClampNeg) + 3))] H := hP
      have hD : va_D A [(a, .inr (11, [.ref a_book, .ref a_now, .int m_sights, .ref a_sight, .int m_signs, .ref a_pad, .int m_sold, .int m_markets, .int m_marketAt, .int m_reason, .int m_acts, .ref a_digits, .ref a_without, .ref a_with, .ref a_counts, .ref a_fewest, .ref a_ways, .ref a_more, .ref a_chooses, .ref a_image, .ref a_isKept])), cm_kI cI a_now 31 (upd (upd m_now (16 + v1).toNatClampNeg ((m_now (16 + v1).toNatClampNeg) - 3)) (16 + v2).toNatClampNeg (((upd m_now (16 + v1).toNatClampNeg ((m_now (16 + v1).toNatClampNeg) - 3)) (16 + v2).toNatClampNeg) + 3))] := hD
      refine lv_aload_n (pc := 49) hx hb dX11_pay_49 rfl (lv_at hl 0 rfl) ?_
      refine va_get (pc := 50) (D := D) (ci := 11) (v := .ref a_now) (C := RX11) (T := TX11) (N := 21) hx hb hts in_X11 hown hKa hP 0 rfl rfl 1 (by decide) (hts _ tw_713) (fun _ h9 => h9) rfl dX11_pay_50 ?_
      refine lv_bipush (pc := 53) (v := 8) hx hb dX11_pay_53 (by decide) ?_
      refine lv_iload_n (pc := 55) hx hb dX11_pay_55 rfl (lv_at hl 2 rfl) ?_
      refine lv_iadd (pc := 56) hx hb dX11_pay_56 ?_
      refine lv_bipush (pc := 57) (v := 9) hx hb dX11_pay_57 (by decide) ?_
      obtain ⟨b_59, hf⟩ := cm_ob hf
      refine va_iast (pc := 59) hx hb hKa hP hD hS 1 0 rfl rfl b_59 dX11_pay_59 (fun H locs hP hD hS => ?_)
      have hP : va_P D vwCl [(a, .inr (11, [.ref a_book, .ref a_now, .int m_sights, .ref a_sight, .int m_signs, .ref a_pad, .int m_sold, .int m_markets, .int m_marketAt, .int m_reason, .int m_acts, .ref a_digits, .ref a_without, .ref a_with, .ref a_counts, .ref a_fewest, .ref a_ways, .ref a_more, .ref a_chooses, .ref a_image, .ref a_isKept])), cm_kI cI a_now 31 (upd (upd (upd m_now (16 + v1).toNatClampNeg ((m_now (16 + v1).toNatClampNeg) - 3)) (16 + v2).toNatClampNeg (((upd m_now (16 + v1).toNatClampNeg ((m_now (16 + v1).toNatClampNeg) - 3)) (16 + v2).toNatClampNeg) + 3)) (8 + v2).toNatClampNeg 9)] H := hP
      have hD : va_D A [(a, .inr (11, [.ref a_book, .ref a_now, .int m_sights, .ref a_sight, .int m_signs, .ref a_pad, .int m_sold, .int m_markets, .int m_marketAt, .int m_reason, .int m_acts, .ref a_digits, .ref a_without, .ref a_with, .ref a_counts, .ref a_fewest, .ref a_ways, .ref a_more, .ref a_chooses, .ref a_image, .ref a_isKept])), cm_kI cI a_now 31 (upd (upd (upd m_now (16 + v1).toNatClampNeg ((m_now (16 + v1).toNatClampNeg) - 3)) (16 + v2).toNatClampNeg (((upd m_now (16 + v1).toNatClampNeg ((m_now (16 + v1).toNatClampNeg) - 3)) (16 + v2).toNatClampNeg) + 3)) (8 + v2).toNatClampNeg 9)] := hD
      refine lv_iconst (pc := 60) (v := 0) hx hb dX11_pay_60 (by decide) ?_
      obtain rfl := Option.some.inj hf
      exact cm_iret (pc := 61) hAe hQ hx hb hr hlocks hP hD hS [0, 1] (by decide) rfl dX11_pay_61
    · have hf := cm_in c_17 hf
      refine lv_bipush (pc := 20) (v := 6) hx hb dX11_pay_20 (by decide) ?_
      obtain rfl := Option.some.inj hf
      exact cm_iret (pc := 22) hAe hQ hx hb hr hlocks hP hD hS [0, 1] (by decide) rfl dX11_pay_22
  · have hf := cm_ip c_2 hf
    refine lv_iconst (pc := 5) (v := 3) hx hb dX11_pay_5 (by decide) ?_
    obtain rfl := Option.some.inj hf
    exact cm_iret (pc := 6) hAe hQ hx hb hr hlocks hP hD hS [0, 1] (by decide) rfl dX11_pay_6
def fX11_drive (v1 : Int32) (m_now : (Nat → Int32)) : Option (Int32 × (Nat → Int32)) := if (24 + v1) < 0 ∨ 31 ≤ (24 + v1).toNatClampNeg then none else (if (m_now (24 + v1).toNatClampNeg) = 0 then some (7, m_now) else if (24 + v1) < 0 ∨ 31 ≤ (24 + v1).toNatClampNeg then none else if (24 + v1) < 0 ∨ 31 ≤ (24 + v1).toNatClampNeg then none else some (0, (upd m_now (24 + v1).toNatClampNeg ((m_now (24 + v1).toNatClampNeg) - 1))))
def rmX11_drive : Room := { frames := 0, cells := 0, slots := 0, locals := 0 }
set_option maxRecDepth 100000 in
set_option maxHeartbeats 4000000 in
theorem c_X11_drive (l : Launch) (D : va_G) (cI cJ cZ : ClassId) (a a_book a_now a_sight a_pad a_digits a_without a_with a_counts a_fewest a_ways a_more a_chooses a_image a_isKept : Nat) (m_sights : Int32) (m_signs : Int32) (m_sold : Int32) (m_markets : Int32) (m_marketAt : Int32) (m_reason : Int32) (m_acts : Int32) (m_now : (Nat → Int32)) (v1 : Int32) (res : Int32 × (Nat → Int32)) (hf : fX11_drive v1 m_now = some res) : Ct l yX11_drive (cm_ws yX11_drive cX11_drive 2 (some .int)) rmX11_drive D (cm_T cI cJ cZ) [.ref a, .int v1] [(a, .inr (11, [.ref a_book, .ref a_now, .int m_sights, .ref a_sight, .int m_signs, .ref a_pad, .int m_sold, .int m_markets, .int m_marketAt, .int m_reason, .int m_acts, .ref a_digits, .ref a_without, .ref a_with, .ref a_counts, .ref a_fewest, .ref a_ways, .ref a_more, .ref a_chooses, .ref a_image, .ref a_isKept])), cm_kI cI a_now 31 m_now] (some (.int res.1)) [(a, .inr (11, [.ref a_book, .ref a_now, .int m_sights, .ref a_sight, .int m_signs, .ref a_pad, .int m_sold, .int m_markets, .int m_marketAt, .int m_reason, .int m_acts, .ref a_digits, .ref a_without, .ref a_with, .ref a_counts, .ref a_fewest, .ref a_ways, .ref a_more, .ref a_chooses, .ref a_image, .ref a_isKept])), cm_kI cI a_now 31 res.2] := by
  refine Ct.of (cc := cX11_drive) (maxL := 2) (ret := (some .int)) (by decide) (Nat.le_of_ble_eq_true rfl) ?_
  intro p e s m below meth c ls args A Q hav hAe hQ hx hb hr hml hown hlocks hts hK hP hD hA hS hl
  have hKa := hK.1
  have hl : lv_has ls 2 [(0, .ref a), (1, .int v1)] := hl
  unfold fX11_drive at hf
  refine lv_aload_n (pc := 0) hx hb dX11_drive_0 rfl (lv_at hl 0 rfl) ?_
  refine va_get (pc := 1) (D := D) (ci := 11) (v := .ref a_now) (C := RX11) (T := TX11) (N := 21) hx hb hts in_X11 hown hKa hP 0 rfl rfl 1 (by decide) (hts _ tw_713) (fun _ h9 => h9) rfl dX11_drive_1 ?_
  refine lv_bipush (pc := 4) (v := 24) hx hb dX11_drive_4 (by decide) ?_
  refine lv_iload_n (pc := 6) hx hb dX11_drive_6 rfl (lv_at hl 1 rfl) ?_
  refine lv_iadd (pc := 7) hx hb dX11_drive_7 ?_
  obtain ⟨b_8, hf⟩ := cm_ob hf
  refine va_iald (pc := 8) hx hb hKa hP 1 0 rfl rfl b_8 dX11_drive_8 ?_
  refine lv_if_ne (pc := 9) (tgt := 15) hx hb dX11_drive_9 (by decide) (fun c_9 => ?_) (fun c_9 => ?_)
  · have hf := cm_in c_9 hf
    refine lv_aload_n (pc := 15) hx hb dX11_drive_15 rfl (lv_at hl 0 rfl) ?_
    refine va_get (pc := 16) (D := D) (ci := 11) (v := .ref a_now) (C := RX11) (T := TX11) (N := 21) hx hb hts in_X11 hown hKa hP 0 rfl rfl 1 (by decide) (hts _ tw_713) (fun _ h9 => h9) rfl dX11_drive_16 ?_
    refine lv_bipush (pc := 19) (v := 24) hx hb dX11_drive_19 (by decide) ?_
    refine lv_iload_n (pc := 21) hx hb dX11_drive_21 rfl (lv_at hl 1 rfl) ?_
    refine lv_iadd (pc := 22) hx hb dX11_drive_22 ?_
    refine lv_dup2_11 (pc := 23) hx hb dX11_drive_23 rfl rfl ?_
    obtain ⟨b_24, hf⟩ := cm_ob hf
    refine va_iald (pc := 24) hx hb hKa hP 1 0 rfl rfl b_24 dX11_drive_24 ?_
    refine lv_iconst (pc := 25) (v := 1) hx hb dX11_drive_25 (by decide) ?_
    refine lv_isub (pc := 26) hx hb dX11_drive_26 ?_
    obtain ⟨b_27, hf⟩ := cm_ob hf
    refine va_iast (pc := 27) hx hb hKa hP hD hS 1 0 rfl rfl b_27 dX11_drive_27 (fun H locs hP hD hS => ?_)
    have hP : va_P D vwCl [(a, .inr (11, [.ref a_book, .ref a_now, .int m_sights, .ref a_sight, .int m_signs, .ref a_pad, .int m_sold, .int m_markets, .int m_marketAt, .int m_reason, .int m_acts, .ref a_digits, .ref a_without, .ref a_with, .ref a_counts, .ref a_fewest, .ref a_ways, .ref a_more, .ref a_chooses, .ref a_image, .ref a_isKept])), cm_kI cI a_now 31 (upd m_now (24 + v1).toNatClampNeg ((m_now (24 + v1).toNatClampNeg) - 1))] H := hP
    have hD : va_D A [(a, .inr (11, [.ref a_book, .ref a_now, .int m_sights, .ref a_sight, .int m_signs, .ref a_pad, .int m_sold, .int m_markets, .int m_marketAt, .int m_reason, .int m_acts, .ref a_digits, .ref a_without, .ref a_with, .ref a_counts, .ref a_fewest, .ref a_ways, .ref a_more, .ref a_chooses, .ref a_image, .ref a_isKept])), cm_kI cI a_now 31 (upd m_now (24 + v1).toNatClampNeg ((m_now (24 + v1).toNatClampNeg) - 1))] := hD
    refine lv_iconst (pc := 28) (v := 0) hx hb dX11_drive_28 (by decide) ?_
    obtain rfl := Option.some.inj hf
    exact cm_iret (pc := 29) hAe hQ hx hb hr hlocks hP hD hS [0, 1] (by decide) rfl dX11_drive_29
  · have hf := cm_ip c_9 hf
    refine lv_bipush (pc := 12) (v := 7) hx hb dX11_drive_12 (by decide) ?_
    obtain rfl := Option.some.inj hf
    exact cm_iret (pc := 14) hAe hQ hx hb hr hlocks hP hD hS [0, 1] (by decide) rfl dX11_drive_14
def fX11_endNight_L68 (j56 : Int32) (kx : Int32 → Int32 → (Nat → Int32) → Option (Int32 × Int32 × Int32 × (Nat → Int32))) : Nat → Int32 → Int32 → (Nat → Int32) → Option (Int32 × Int32 × Int32 × (Nat → Int32))
  | 0, _, _, _ => none
  | n + 1, v2_68, m_sold_68, m_now_68 => (if 28 ≤ v2_68 then kx v2_68 m_sold_68 m_now_68 else (if j56 = 0 then (if j56 = 0 then if v2_68 < 0 ∨ 31 ≤ v2_68.toNatClampNeg then none else (if (m_now_68 v2_68.toNatClampNeg) ≤ 0 then fX11_endNight_L68 j56 kx n (v2_68 + 1) m_sold_68 m_now_68 else if v2_68 < 0 ∨ 31 ≤ v2_68.toNatClampNeg then none else if v2_68 < 0 ∨ 31 ≤ v2_68.toNatClampNeg then none else fX11_endNight_L68 j56 kx n (v2_68 + 1) m_sold_68 (upd m_now_68 v2_68.toNatClampNeg ((m_now_68 v2_68.toNatClampNeg) - 1))) else fX11_endNight_L68 j56 kx n (v2_68 + 1) m_sold_68 m_now_68) else if v2_68 < 0 ∨ 31 ≤ v2_68.toNatClampNeg then none else (if (m_now_68 v2_68.toNatClampNeg) = 0 then if v2_68 < 0 ∨ 31 ≤ v2_68.toNatClampNeg then none else fX11_endNight_L68 j56 kx n (v2_68 + 1) (m_sold_68 + 1) (upd (upd m_now_68 30 ((m_now_68 30) + 1)) v2_68.toNatClampNeg 9) else (if j56 = 0 then if v2_68 < 0 ∨ 31 ≤ v2_68.toNatClampNeg then none else (if (m_now_68 v2_68.toNatClampNeg) ≤ 0 then fX11_endNight_L68 j56 kx n (v2_68 + 1) m_sold_68 m_now_68 else if v2_68 < 0 ∨ 31 ≤ v2_68.toNatClampNeg then none else if v2_68 < 0 ∨ 31 ≤ v2_68.toNatClampNeg then none else fX11_endNight_L68 j56 kx n (v2_68 + 1) m_sold_68 (upd m_now_68 v2_68.toNatClampNeg ((m_now_68 v2_68.toNatClampNeg) - 1))) else fX11_endNight_L68 j56 kx n (v2_68 + 1) m_sold_68 m_now_68))))
def fX11_endNight_L150 (j56 : Int32) (kx : Int32 → (Nat → Int32) → Option (Int32 × Int32 × Int32 × (Nat → Int32))) : Nat → Int32 → (Nat → Int32) → Option (Int32 × Int32 × Int32 × (Nat → Int32))
  | 0, _, _ => none
  | n + 1, v2_150, m_now_150 => (if 8 ≤ v2_150 then kx v2_150 m_now_150 else (if j56 = 0 then kx v2_150 m_now_150 else if v2_150 < 0 ∨ 31 ≤ v2_150.toNatClampNeg then none else (if (m_now_150 v2_150.toNatClampNeg) = (m_now_150 28) then if (8 + v2_150) < 0 ∨ 31 ≤ (8 + v2_150).toNatClampNeg then none else fX11_endNight_L150 j56 kx n (v2_150 + 1) (upd m_now_150 (8 + v2_150).toNatClampNeg 0) else if (8 + v2_150) < 0 ∨ 31 ≤ (8 + v2_150).toNatClampNeg then none else (if 9 ≤ (m_now_150 (8 + v2_150).toNatClampNeg) then if (8 + v2_150) < 0 ∨ 31 ≤ (8 + v2_150).toNatClampNeg then none else fX11_endNight_L150 j56 kx n (v2_150 + 1) (upd m_now_150 (8 + v2_150).toNatClampNeg 9) else if (8 + v2_150) < 0 ∨ 31 ≤ (8 + v2_150).toNatClampNeg then none else if (8 + v2_150) < 0 ∨ 31 ≤ (8 + v2_150).toNatClampNeg then none else fX11_endNight_L150 j56 kx n (v2_150 + 1) (upd m_now_150 (8 + v2_150).toNatClampNeg ((m_now_150 (8 + v2_150).toNatClampNeg) + 1))))))
def fX11_endNight (m_sold : Int32) (m_markets : Int32) (m_now : (Nat → Int32)) : Option (Int32 × Int32 × Int32 × (Nat → Int32)) := (if (m_now 29) = 99 then some (8, m_sold, m_markets, m_now) else Option.bind (fX11_theDay (upd (upd m_now 29 ((m_now 29) + 1)) 28 (irm (((upd m_now 29 ((m_now 29) + 1)) 28) + 1) 7))) (fun u46 => cm_let ((if u46 = ((upd (upd m_now 29 ((m_now 29) + 1)) 28 (irm (((upd m_now 29 ((m_now 29) + 1)) 28) + 1) 7)) 28) then 1 else 0) : Int32) (fun j56 => fX11_endNight_L68 j56 (fun v2_68 m_sold_68 m_now_68 => fX11_endNight_L150 j56 (fun v2_150 m_now_150 => cm_let ((if j56 = 0 then 0 else 1) : Int32) (fun j231 => some (0, m_sold_68, (m_markets + j231), m_now_150))) 5000 0 m_now_68) 5000 24 m_sold (upd (upd m_now 29 ((m_now 29) + 1)) 28 (irm (((upd m_now 29 ((m_now 29) + 1)) 28) + 1) 7)))))
def rmX11_endNight : Room := { frames := 2, cells := 0, slots := 0, locals := 45 }
set_option maxRecDepth 100000 in
set_option maxHeartbeats 4000000 in
theorem c_X11_endNight (l : Launch) (D : va_G) (cI cJ cZ : ClassId) (a a_book a_now a_sight a_pad a_digits a_without a_with a_counts a_fewest a_ways a_more a_chooses a_image a_isKept : Nat) (m_sights : Int32) (m_signs : Int32) (m_sold : Int32) (m_markets : Int32) (m_marketAt : Int32) (m_reason : Int32) (m_acts : Int32) (m_now : (Nat → Int32)) (res : Int32 × Int32 × Int32 × (Nat → Int32)) (hf : fX11_endNight m_sold m_markets m_now = some res) : Ct l yX11_endNight (cm_ws yX11_endNight cX11_endNight 3 (some .int)) rmX11_endNight D (cm_T cI cJ cZ) [.ref a] [(a, .inr (11, [.ref a_book, .ref a_now, .int m_sights, .ref a_sight, .int m_signs, .ref a_pad, .int m_sold, .int m_markets, .int m_marketAt, .int m_reason, .int m_acts, .ref a_digits, .ref a_without, .ref a_with, .ref a_counts, .ref a_fewest, .ref a_ways, .ref a_more, .ref a_chooses, .ref a_image, .ref a_isKept])), cm_kI cI a_now 31 m_now] (some (.int res.1)) [(a, .inr (11, [.ref a_book, .ref a_now, .int m_sights, .ref a_sight, .int m_signs, .ref a_pad, .int res.2.1, .int res.2.2.1, .int m_marketAt, .int m_reason, .int m_acts, .ref a_digits, .ref a_without, .ref a_with, .ref a_counts, .ref a_fewest, .ref a_ways, .ref a_more, .ref a_chooses, .ref a_image, .ref a_isKept])), cm_kI cI a_now 31 res.2.2.2] := by
  refine Ct.of (cc := cX11_endNight) (maxL := 3) (ret := (some .int)) (by decide) (Nat.le_of_ble_eq_true rfl) ?_
  intro p e s m below meth c ls args A Q hav hAe hQ hx hb hr hml hown hlocks hts hK hP hD hA hS hl
  have hKa := hK.1
  have hl : lv_has ls 3 [(0, .ref a)] := hl
  unfold fX11_endNight at hf
  refine lv_aload_n (pc := 0) hx hb dX11_endNight_0 rfl (lv_at hl 0 rfl) ?_
  refine va_get (pc := 1) (D := D) (ci := 11) (v := .ref a_now) (C := RX11) (T := TX11) (N := 21) hx hb hts in_X11 hown hKa hP 0 rfl rfl 1 (by decide) (hts _ tw_713) (fun _ h9 => h9) rfl dX11_endNight_1 ?_
  refine lv_bipush (pc := 4) (v := 29) hx hb dX11_endNight_4 (by decide) ?_
  refine cm_iald (pc := 6) hx hb hKa hP 1 0 rfl rfl 29 rfl (by decide) dX11_endNight_6 ?_
  refine lv_bipush (pc := 7) (v := 99) hx hb dX11_endNight_7 (by decide) ?_
  refine lv_icmp_ne (pc := 9) (tgt := 15) hx hb dX11_endNight_9 (by decide) (fun c_9 => ?_) (fun c_9 => ?_)
  · have hf := cm_in c_9 hf
    refine lv_aload_n (pc := 15) hx hb dX11_endNight_15 rfl (lv_at hl 0 rfl) ?_
    refine va_get (pc := 16) (D := D) (ci := 11) (v := .ref a_now) (C := RX11) (T := TX11) (N := 21) hx hb hts in_X11 hown hKa hP 0 rfl rfl 1 (by decide) (hts _ tw_713) (fun _ h9 => h9) rfl dX11_endNight_16 ?_
    refine lv_bipush (pc := 19) (v := 29) hx hb dX11_endNight_19 (by decide) ?_
    refine lv_dup2_11 (pc := 21) hx hb dX11_endNight_21 rfl rfl ?_
    refine cm_iald (pc := 22) hx hb hKa hP 1 0 rfl rfl 29 rfl (by decide) dX11_endNight_22 ?_
    refine lv_iconst (pc := 23) (v := 1) hx hb dX11_endNight_23 (by decide) ?_
    refine lv_iadd (pc := 24) hx hb dX11_endNight_24 ?_
    refine cm_iast (pc := 25) hx hb hKa hP hD hS 1 0 rfl rfl 29 rfl (by decide) dX11_endNight_25 (fun H locs hP hD hS => ?_)
    have hP : va_P D vwCl [(a, .inr (11, [.ref a_book, .ref a_now, .int m_sights, .ref a_sight, .int m_signs, .ref a_pad, .int m_sold, .int m_markets, .int m_marketAt, .int m_reason, .int m_acts, .ref a_digits, .ref a_without, .ref a_with, .ref a_counts, .ref a_fewest, .ref a_ways, .ref a_more, .ref a_chooses, .ref a_image, .ref a_isKept])), cm_kI cI a_now 31 (upd m_now 29 ((m_now 29) + 1))] H := hP
    have hD : va_D A [(a, .inr (11, [.ref a_book, .ref a_now, .int m_sights, .ref a_sight, .int m_signs, .ref a_pad, .int m_sold, .int m_markets, .int m_marketAt, .int m_reason, .int m_acts, .ref a_digits, .ref a_without, .ref a_with, .ref a_counts, .ref a_fewest, .ref a_ways, .ref a_more, .ref a_chooses, .ref a_image, .ref a_isKept])), cm_kI cI a_now 31 (upd m_now 29 ((m_now 29) + 1))] := hD
    refine lv_aload_n (pc := 26) hx hb dX11_endNight_26 rfl (lv_at hl 0 rfl) ?_
    refine va_get (pc := 27) (D := D) (ci := 11) (v := .ref a_now) (C := RX11) (T := TX11) (N := 21) hx hb hts in_X11 hown hKa hP 0 rfl rfl 1 (by decide) (hts _ tw_713) (fun _ h9 => h9) rfl dX11_endNight_27 ?_
    refine lv_bipush (pc := 30) (v := 28) hx hb dX11_endNight_30 (by decide) ?_
    refine lv_aload_n (pc := 32) hx hb dX11_endNight_32 rfl (lv_at hl 0 rfl) ?_
    refine va_get (pc := 33) (D := D) (ci := 11) (v := .ref a_now) (C := RX11) (T := TX11) (N := 21) hx hb hts in_X11 hown hKa hP 0 rfl rfl 1 (by decide) (hts _ tw_713) (fun _ h9 => h9) rfl dX11_endNight_33 ?_
    refine lv_bipush (pc := 36) (v := 28) hx hb dX11_endNight_36 (by decide) ?_
    refine cm_iald (pc := 38) hx hb hKa hP 1 0 rfl rfl 28 rfl (by decide) dX11_endNight_38 ?_
    refine lv_iconst (pc := 39) (v := 1) hx hb dX11_endNight_39 (by decide) ?_
    refine lv_iadd (pc := 40) hx hb dX11_endNight_40 ?_
    refine lv_bipush (pc := 41) (v := 7) hx hb dX11_endNight_41 (by decide) ?_
    refine cm_irem (pc := 43) hx hb dX11_endNight_43 (by decide) ?_
    refine cm_iast (pc := 44) hx hb hKa hP hD hS 1 0 rfl rfl 28 rfl (by decide) dX11_endNight_44 (fun H locs hP hD hS => ?_)
    have hP : va_P D vwCl [(a, .inr (11, [.ref a_book, .ref a_now, .int m_sights, .ref a_sight, .int m_signs, .ref a_pad, .int m_sold, .int m_markets, .int m_marketAt, .int m_reason, .int m_acts, .ref a_digits, .ref a_without, .ref a_with, .ref a_counts, .ref a_fewest, .ref a_ways, .ref a_more, .ref a_chooses, .ref a_image, .ref a_isKept])), cm_kI cI a_now 31 (upd (upd m_now 29 ((m_now 29) + 1)) 28 (irm (((upd m_now 29 ((m_now 29) + 1)) 28) + 1) 7))] H := hP
    have hD : va_D A [(a, .inr (11, [.ref a_book, .ref a_now, .int m_sights, .ref a_sight, .int m_signs, .ref a_pad, .int m_sold, .int m_markets, .int m_marketAt, .int m_reason, .int m_acts, .ref a_digits, .ref a_without, .ref a_with, .ref a_counts, .ref a_fewest, .ref a_ways, .ref a_more, .ref a_chooses, .ref a_image, .ref a_isKept])), cm_kI cI a_now 31 (upd (upd m_now 29 ((m_now 29) + 1)) 28 (irm (((upd m_now 29 ((m_now 29) + 1)) 28) + 1) 7))] := hD
    refine lv_aload_n (pc := 45) hx hb dX11_endNight_45 rfl (lv_at hl 0 rfl) ?_
    obtain ⟨u46, hu46, hf⟩ := cm_bd hf
    refine cm_callV (pc := 46) (As := []) (rest := []) (wr := []) (ci := 11) (q0 := 0) (n := 0) hx hb hml hown hts hK hP hD hS hA (c_X11_theDay l D cI cJ cZ a a_book a_now a_sight a_pad a_digits a_without a_with a_counts a_fewest a_ways a_more a_chooses a_image a_isKept m_sights m_signs m_sold m_markets m_marketAt m_reason m_acts (upd (upd m_now 29 ((m_now 29) + 1)) 28 (irm (((upd m_now 29 ((m_now 29) + 1)) 28) + 1) 7)) u46 hu46) tw_830 tw_827 tw_829 tw_32 tw_56 rfl rfl (by decide +kernel) rfl ⟨Nat.le_of_ble_eq_true rfl, Nat.le_of_ble_eq_true rfl⟩ [0, 1] [] rfl (by decide) rfl (by decide) (by decide) rfl rfl rfl hl.1 rfl (Nat.le_of_ble_eq_true rfl) dX11_endNight_46 ⟨Nat.zero_le _, Nat.zero_le _⟩ (fun H locs hP hD hS => ?_)
    have hP : va_P D vwCl [(a, .inr (11, [.ref a_book, .ref a_now, .int m_sights, .ref a_sight, .int m_signs, .ref a_pad, .int m_sold, .int m_markets, .int m_marketAt, .int m_reason, .int m_acts, .ref a_digits, .ref a_without, .ref a_with, .ref a_counts, .ref a_fewest, .ref a_ways, .ref a_more, .ref a_chooses, .ref a_image, .ref a_isKept])), cm_kI cI a_now 31 (upd (upd m_now 29 ((m_now 29) + 1)) 28 (irm (((upd m_now 29 ((m_now 29) + 1)) 28) + 1) 7))] H := hP
    have hD : va_D A [(a, .inr (11, [.ref a_book, .ref a_now, .int m_sights, .ref a_sight, .int m_signs, .ref a_pad, .int m_sold, .int m_markets, .int m_marketAt, .int m_reason, .int m_acts, .ref a_digits, .ref a_without, .ref a_with, .ref a_counts, .ref a_fewest, .ref a_ways, .ref a_more, .ref a_chooses, .ref a_image, .ref a_isKept])), cm_kI cI a_now 31 (upd (upd m_now 29 ((m_now 29) + 1)) 28 (irm (((upd m_now 29 ((m_now 29) + 1)) 28) + 1) 7))] := hD
    refine W.eq (g2 := F0 m 49 ls [.int u46]) rfl ?_
    refine lv_aload_n (pc := 49) hx hb dX11_endNight_49 rfl (lv_at hl 0 rfl) ?_
    refine va_get (pc := 50) (D := D) (ci := 11) (v := .ref a_now) (C := RX11) (T := TX11) (N := 21) hx hb hts in_X11 hown hKa hP 0 rfl rfl 1 (by decide) (hts _ tw_713) (fun _ h9 => h9) rfl dX11_endNight_50 ?_
    refine lv_bipush (pc := 53) (v := 28) hx hb dX11_endNight_53 (by decide) ?_
    refine cm_iald (pc := 55) hx hb hKa hP 1 0 rfl rfl 28 rfl (by decide) dX11_endNight_55 ?_
    obtain ⟨j56, hj56, hf⟩ := cm_lt hf
    have J56 : ∀ (H : Heap) (locs : List Loc) (ls : Array Slot), va_P D vwCl [(a, .inr (11, [.ref a_book, .ref a_now, .int m_sights, .ref a_sight, .int m_signs, .ref a_pad, .int m_sold, .int m_markets, .int m_marketAt, .int m_reason, .int m_acts, .ref a_digits, .ref a_without, .ref a_with, .ref a_counts, .ref a_fewest, .ref a_ways, .ref a_more, .ref a_chooses, .ref a_image, .ref a_isKept])), cm_kI cI a_now 31 (upd (upd m_now 29 ((m_now 29) + 1)) 28 (irm (((upd m_now 29 ((m_now 29) + 1)) 28) + 1) 7))] H → va_D A [(a, .inr (11, [.ref a_book, .ref a_now, .int m_sights, .ref a_sight, .int m_signs, .ref a_pad, .int m_sold, .int m_markets, .int m_marketAt, .int m_reason, .int m_acts, .ref a_digits, .ref a_without, .ref a_with, .ref a_counts, .ref a_fewest, .ref a_ways, .ref a_more, .ref a_chooses, .ref a_image, .ref a_isKept])), cm_kI cI a_now 31 (upd (upd m_now 29 ((m_now 29) + 1)) 28 (irm (((upd m_now 29 ((m_now 29) + 1)) 28) + 1) 7))] → va_S A s.heap H locs → lv_has ls 3 [(0, .ref a)] → W p l e rmX11_endNight s m args below meth c H locs 0 0 Q (F0 m 64 ls [.int j56]) := by
      intro H locs ls hP hD hS hl
      refine lv_istore_n (pc := 64) (lv' := [(1, .int j56), (0, .ref a)]) hx hb dX11_endNight_64 rfl hl (by decide) rfl (fun ls hl => ?_)
      refine lv_bipush (pc := 65) (v := 24) hx hb dX11_endNight_65 (by decide) ?_
      refine lv_istore_n (pc := 67) (lv' := [(2, .int 24), (1, .int j56), (0, .ref a)]) hx hb dX11_endNight_67 rfl hl (by decide) rfl (fun ls hl => ?_)
      have L68 : ∀ (kx : Int32 → Int32 → (Nat → Int32) → Option (Int32 × Int32 × Int32 × (Nat → Int32))), (∀ (v2_68 : Int32) (m_sold_68 : Int32) (m_now_68 : (Nat → Int32)) (H : Heap) (locs : List Loc) (ls : Array Slot), va_P D vwCl [(a, .inr (11, [.ref a_book, .ref a_now, .int m_sights, .ref a_sight, .int m_signs, .ref a_pad, .int m_sold_68, .int m_markets, .int m_marketAt, .int m_reason, .int m_acts, .ref a_digits, .ref a_without, .ref a_with, .ref a_counts, .ref a_fewest, .ref a_ways, .ref a_more, .ref a_chooses, .ref a_image, .ref a_isKept])), cm_kI cI a_now 31 m_now_68] H → va_D A [(a, .inr (11, [.ref a_book, .ref a_now, .int m_sights, .ref a_sight, .int m_signs, .ref a_pad, .int m_sold_68, .int m_markets, .int m_marketAt, .int m_reason, .int m_acts, .ref a_digits, .ref a_without, .ref a_with, .ref a_counts, .ref a_fewest, .ref a_ways, .ref a_more, .ref a_chooses, .ref a_image, .ref a_isKept])), cm_kI cI a_now 31 m_now_68] → va_S A s.heap H locs → lv_has ls 3 [(1, .int j56), (0, .ref a)] → kx v2_68 m_sold_68 m_now_68 = some res → W p l e rmX11_endNight s m args below meth c H locs 0 0 Q (F0 m 148 ls [])) → ∀ (n : Nat) (v2_68 : Int32) (m_sold_68 : Int32) (m_now_68 : (Nat → Int32)) (H : Heap) (locs : List Loc) (ls : Array Slot), va_P D vwCl [(a, .inr (11, [.ref a_book, .ref a_now, .int m_sights, .ref a_sight, .int m_signs, .ref a_pad, .int m_sold_68, .int m_markets, .int m_marketAt, .int m_reason, .int m_acts, .ref a_digits, .ref a_without, .ref a_with, .ref a_counts, .ref a_fewest, .ref a_ways, .ref a_more, .ref a_chooses, .ref a_image, .ref a_isKept])), cm_kI cI a_now 31 m_now_68] H → va_D A [(a, .inr (11, [.ref a_book, .ref a_now, .int m_sights, .ref a_sight, .int m_signs, .ref a_pad, .int m_sold_68, .int m_markets, .int m_marketAt, .int m_reason, .int m_acts, .ref a_digits, .ref a_without, .ref a_with, .ref a_counts, .ref a_fewest, .ref a_ways, .ref a_more, .ref a_chooses, .ref a_image, .ref a_isKept])), cm_kI cI a_now 31 m_now_68] → va_S A s.heap H locs → lv_has ls 3 [(2, .int v2_68), (1, .int j56), (0, .ref a)] → fX11_endNight_L68 j56 kx n v2_68 m_sold_68 m_now_68 = some res → W p l e rmX11_endNight s m args below meth c H locs 0 0 Q (F0 m 68 ls []) := by
        intro kx hkx n
        induction n with
        | zero => intro v2_68 m_sold_68 m_now_68 H locs ls hP hD hS hl hf; cases hf
        | succ n ih =>
          intro v2_68 m_sold_68 m_now_68 H locs ls hP hD hS hl hf
          rw [fX11_endNight_L68] at hf
          refine lv_iload_n (pc := 68) hx hb dX11_endNight_68 rfl (lv_at hl 0 rfl) ?_
          refine lv_bipush (pc := 69) (v := 28) hx hb dX11_endNight_69 (by decide) ?_
          refine lv_icmp_ge (pc := 71) (tgt := 148) hx hb dX11_endNight_71 (by decide) (fun c_71 => ?_) (fun c_71 => ?_)
          · have hf := cm_ip c_71 hf
            exact hkx v2_68 m_sold_68 m_now_68 _ _ _ hP hD hS (lv_sub hl [1, 2] rfl) hf
          · have hf := cm_in c_71 hf
            refine lv_iload_n (pc := 74) hx hb dX11_endNight_74 rfl (lv_at hl 1 rfl) ?_
            refine lv_if_eq (pc := 75) (tgt := 119) hx hb dX11_endNight_75 (by decide) (fun c_75 => ?_) (fun c_75 => ?_)
            · have hf := cm_ip c_75 hf
              refine lv_iload_n (pc := 119) hx hb dX11_endNight_119 rfl (lv_at hl 1 rfl) ?_
              refine lv_if_ne (pc := 120) (tgt := 142) hx hb dX11_endNight_120 (by decide) (fun c_120 => ?_) (fun c_120 => ?_)
              · have hf := cm_in c_120 hf
                refine lv_iinc (pc := 142) (v := (v2_68 + 1)) (lv' := [(2, .int (v2_68 + 1)), (1, .int j56), (0, .ref a)]) hx hb dX11_endNight_142 hl (k := 0) rfl rfl (by decide) rfl (fun ls hl => ?_)
                refine lv_goto (pc := 145) (tgt := 68) hx hb dX11_endNight_145 (by decide) ?_
                exact ih (v2_68 + 1) m_sold_68 m_now_68 _ _ _ hP hD hS (lv_sub hl [0, 1, 2] rfl) hf
              · have hf := cm_ip c_120 hf
                refine lv_aload_n (pc := 123) hx hb dX11_endNight_123 rfl (lv_at hl 2 rfl) ?_
                refine va_get (pc := 124) (D := D) (ci := 11) (v := .ref a_now) (C := RX11) (T := TX11) (N := 21) hx hb hts in_X11 hown hKa hP 0 rfl rfl 1 (by decide) (hts _ tw_713) (fun _ h9 => h9) rfl dX11_endNight_124 ?_
                refine lv_iload_n (pc := 127) hx hb dX11_endNight_127 rfl (lv_at hl 0 rfl) ?_
                obtain ⟨b_128, hf⟩ := cm_ob hf
                refine va_iald (pc := 128) hx hb hKa hP 1 0 rfl rfl b_128 dX11_endNight_128 ?_
                refine lv_if_le (pc := 129) (tgt := 142) hx hb dX11_endNight_129 (by decide) (fun c_129 => ?_) (fun c_129 => ?_)
                · have hf := cm_ip c_129 hf
                  refine lv_iinc (pc := 142) (v := (v2_68 + 1)) (lv' := [(2, .int (v2_68 + 1)), (1, .int j56), (0, .ref a)]) hx hb dX11_endNight_142 hl (k := 0) rfl rfl (by decide) rfl (fun ls hl => ?_)
                  refine lv_goto (pc := 145) (tgt := 68) hx hb dX11_endNight_145 (by decide) ?_
                  exact ih (v2_68 + 1) m_sold_68 m_now_68 _ _ _ hP hD hS (lv_sub hl [0, 1, 2] rfl) hf
                · have hf := cm_in c_129 hf
                  refine lv_aload_n (pc := 132) hx hb dX11_endNight_132 rfl (lv_at hl 2 rfl) ?_
                  refine va_get (pc := 133) (D := D) (ci := 11) (v := .ref a_now) (C := RX11) (T := TX11) (N := 21) hx hb hts in_X11 hown hKa hP 0 rfl rfl 1 (by decide) (hts _ tw_713) (fun _ h9 => h9) rfl dX11_endNight_133 ?_
                  refine lv_iload_n (pc := 136) hx hb dX11_endNight_136 rfl (lv_at hl 0 rfl) ?_
                  refine lv_dup2_11 (pc := 137) hx hb dX11_endNight_137 rfl rfl ?_
                  obtain ⟨b_138, hf⟩ := cm_ob hf
                  refine va_iald (pc := 138) hx hb hKa hP 1 0 rfl rfl b_138 dX11_endNight_138 ?_
                  refine lv_iconst (pc := 139) (v := 1) hx hb dX11_endNight_139 (by decide) ?_
                  refine lv_isub (pc := 140) hx hb dX11_endNight_140 ?_
                  obtain ⟨b_141, hf⟩ := cm_ob hf
                  refine va_iast (pc := 141) hx hb hKa hP hD hS 1 0 rfl rfl b_141 dX11_endNight_141 (fun H locs hP hD hS => ?_)
                  have hP : va_P D vwCl [(a, .inr (11, [.ref a_book, .ref a_now, .int m_sights, .ref a_sight, .int m_signs, .ref a_pad, .int m_sold_68, .int m_markets, .int m_marketAt, .int m_reason, .int m_acts, .ref a_digits, .ref a_without, .ref a_with, .ref a_counts, .ref a_fewest, .ref a_ways, .ref a_more, .ref a_chooses, .ref a_image, .ref a_isKept])), cm_kI cI a_now 31 (upd m_now_68 v2_68.toNatClampNeg ((m_now_68 v2_68.toNatClampNeg) - 1))] H := hP
                  have hD : va_D A [(a, .inr (11, [.ref a_book, .ref a_now, .int m_sights, .ref a_sight, .int m_signs, .ref a_pad, .int m_sold_68, .int m_markets, .int m_marketAt, .int m_reason, .int m_acts, .ref a_digits, .ref a_without, .ref a_with, .ref a_counts, .ref a_fewest, .ref a_ways, .ref a_more, .ref a_chooses, .ref a_image, .ref a_isKept])), cm_kI cI a_now 31 (upd m_now_68 v2_68.toNatClampNeg ((m_now_68 v2_68.toNatClampNeg) - 1))] := hD
                  refine lv_iinc (pc := 142) (v := (v2_68 + 1)) (lv' := [(2, .int (v2_68 + 1)), (1, .int j56), (0, .ref a)]) hx hb dX11_endNight_142 hl (k := 0) rfl rfl (by decide) rfl (fun ls hl => ?_)
                  refine lv_goto (pc := 145) (tgt := 68) hx hb dX11_endNight_145 (by decide) ?_
                  exact ih (v2_68 + 1) m_sold_68 (upd m_now_68 v2_68.toNatClampNeg ((m_now_68 v2_68.toNatClampNeg) - 1)) _ _ _ hP hD hS (lv_sub hl [0, 1, 2] rfl) hf
            · have hf := cm_in c_75 hf
              refine lv_aload_n (pc := 78) hx hb dX11_endNight_78 rfl (lv_at hl 2 rfl) ?_
              refine va_get (pc := 79) (D := D) (ci := 11) (v := .ref a_now) (C := RX11) (T := TX11) (N := 21) hx hb hts in_X11 hown hKa hP 0 rfl rfl 1 (by decide) (hts _ tw_713) (fun _ h9 => h9) rfl dX11_endNight_79 ?_
              refine lv_iload_n (pc := 82) hx hb dX11_endNight_82 rfl (lv_at hl 0 rfl) ?_
              obtain ⟨b_83, hf⟩ := cm_ob hf
              refine va_iald (pc := 83) hx hb hKa hP 1 0 rfl rfl b_83 dX11_endNight_83 ?_
              refine lv_if_ne (pc := 84) (tgt := 119) hx hb dX11_endNight_84 (by decide) (fun c_84 => ?_) (fun c_84 => ?_)
              · have hf := cm_in c_84 hf
                refine lv_iload_n (pc := 119) hx hb dX11_endNight_119 rfl (lv_at hl 1 rfl) ?_
                refine lv_if_ne (pc := 120) (tgt := 142) hx hb dX11_endNight_120 (by decide) (fun c_120 => ?_) (fun c_120 => ?_)
                · have hf := cm_in c_120 hf
                  refine lv_iinc (pc := 142) (v := (v2_68 + 1)) (lv' := [(2, .int (v2_68 + 1)), (1, .int j56), (0, .ref a)]) hx hb dX11_endNight_142 hl (k := 0) rfl rfl (by decide) rfl (fun ls hl => ?_)
                  refine lv_goto (pc := 145) (tgt := 68) hx hb dX11_endNight_145 (by decide) ?_
                  exact ih (v2_68 + 1) m_sold_68 m_now_68 _ _ _ hP hD hS (lv_sub hl [0, 1, 2] rfl) hf
                · have hf := cm_ip c_120 hf
                  refine lv_aload_n (pc := 123) hx hb dX11_endNight_123 rfl (lv_at hl 2 rfl) ?_
                  refine va_get (pc := 124) (D := D) (ci := 11) (v := .ref a_now) (C := RX11) (T := TX11) (N := 21) hx hb hts in_X11 hown hKa hP 0 rfl rfl 1 (by decide) (hts _ tw_713) (fun _ h9 => h9) rfl dX11_endNight_124 ?_
                  refine lv_iload_n (pc := 127) hx hb dX11_endNight_127 rfl (lv_at hl 0 rfl) ?_
                  obtain ⟨b_128, hf⟩ := cm_ob hf
                  refine va_iald (pc := 128) hx hb hKa hP 1 0 rfl rfl b_128 dX11_endNight_128 ?_
                  refine lv_if_le (pc := 129) (tgt := 142) hx hb dX11_endNight_129 (by decide) (fun c_129 => ?_) (fun c_129 => ?_)
                  · have hf := cm_ip c_129 hf
                    refine lv_iinc (pc := 142) (v := (v2_68 + 1)) (lv' := [(2, .int (v2_68 + 1)), (1, .int j56), (0, .ref a)]) hx hb dX11_endNight_142 hl (k := 0) rfl rfl (by decide) rfl (fun ls hl => ?_)
                    refine lv_goto (pc := 145) (tgt := 68) hx hb dX11_endNight_145 (by decide) ?_
                    exact ih (v2_68 + 1) m_sold_68 m_now_68 _ _ _ hP hD hS (lv_sub hl [0, 1, 2] rfl) hf
                  · have hf := cm_in c_129 hf
                    refine lv_aload_n (pc := 132) hx hb dX11_endNight_132 rfl (lv_at hl 2 rfl) ?_
                    refine va_get (pc := 133) (D := D) (ci := 11) (v := .ref a_now) (C := RX11) (T := TX11) (N := 21) hx hb hts in_X11 hown hKa hP 0 rfl rfl 1 (by decide) (hts _ tw_713) (fun _ h9 => h9) rfl dX11_endNight_133 ?_
                    refine lv_iload_n (pc := 136) hx hb dX11_endNight_136 rfl (lv_at hl 0 rfl) ?_
                    refine lv_dup2_11 (pc := 137) hx hb dX11_endNight_137 rfl rfl ?_
                    obtain ⟨b_138, hf⟩ := cm_ob hf
                    refine va_iald (pc := 138) hx hb hKa hP 1 0 rfl rfl b_138 dX11_endNight_138 ?_
                    refine lv_iconst (pc := 139) (v := 1) hx hb dX11_endNight_139 (by decide) ?_
                    refine lv_isub (pc := 140) hx hb dX11_endNight_140 ?_
                    obtain ⟨b_141, hf⟩ := cm_ob hf
                    refine va_iast (pc := 141) hx hb hKa hP hD hS 1 0 rfl rfl b_141 dX11_endNight_141 (fun H locs hP hD hS => ?_)
                    have hP : va_P D vwCl [(a, .inr (11, [.ref a_book, .ref a_now, .int m_sights, .ref a_sight, .int m_signs, .ref a_pad, .int m_sold_68, .int m_markets, .int m_marketAt, .int m_reason, .int m_acts, .ref a_digits, .ref a_without, .ref a_with, .ref a_counts, .ref a_fewest, .ref a_ways, .ref a_more, .ref a_chooses, .ref a_image, .ref a_isKept])), cm_kI cI a_now 31 (upd m_now_68 v2_68.toNatClampNeg ((m_now_68 v2_68.toNatClampNeg) - 1))] H := hP
                    have hD : va_D A [(a, .inr (11, [.ref a_book, .ref a_now, .int m_sights, .ref a_sight, .int m_signs, .ref a_pad, .int m_sold_68, .int m_markets, .int m_marketAt, .int m_reason, .int m_acts, .ref a_digits, .ref a_without, .ref a_with, .ref a_counts, .ref a_fewest, .ref a_ways, .ref a_more, .ref a_chooses, .ref a_image, .ref a_isKept])), cm_kI cI a_now 31 (upd m_now_68 v2_68.toNatClampNeg ((m_now_68 v2_68.toNatClampNeg) - 1))] := hD
                    refine lv_iinc (pc := 142) (v := (v2_68 + 1)) (lv' := [(2, .int (v2_68 + 1)), (1, .int j56), (0, .ref a)]) hx hb dX11_endNight_142 hl (k := 0) rfl rfl (by decide) rfl (fun ls hl => ?_)
                    refine lv_goto (pc := 145) (tgt := 68) hx hb dX11_endNight_145 (by decide) ?_
                    exact ih (v2_68 + 1) m_sold_68 (upd m_now_68 v2_68.toNatClampNeg ((m_now_68 v2_68.toNatClampNeg) - 1)) _ _ _ hP hD hS (lv_sub hl [0, 1, 2] rfl) hf
              · have hf := cm_ip c_84 hf
                refine lv_aload_n (pc := 87) hx hb dX11_endNight_87 rfl (lv_at hl 2 rfl) ?_
                refine lv_dup (pc := 88) hx hb dX11_endNight_88 rfl ?_
                refine va_get (pc := 89) (D := D) (ci := 11) (v := .int m_sold_68) (C := RX11) (T := TX11) (N := 21) hx hb hts in_X11 hown hKa hP 0 rfl rfl 6 (by decide) (hts _ tw_718) (fun _ h9 => h9) rfl dX11_endNight_89 ?_
                refine lv_iconst (pc := 92) (v := 1) hx hb dX11_endNight_92 (by decide) ?_
                refine lv_iadd (pc := 93) hx hb dX11_endNight_93 ?_
                refine va_put (pc := 94) (D := D) (ci := 11) (v := .int (m_sold_68 + 1)) (ty := .int) (C := RX11) (T := TX11) (N := 21) hx hb hts in_X11 tyX11 tyX11_ok nmX11 hown hKa hP hD hS 0 rfl rfl 6 (by decide) (hts _ tw_718) (fun _ h9 => h9) rfl (by decide +kernel) rfl rfl (Nat.le_of_ble_eq_true rfl) dX11_endNight_94 (fun H locs hP hD hS => ?_)
                have hP : va_P D vwCl [(a, .inr (11, [.ref a_book, .ref a_now, .int m_sights, .ref a_sight, .int m_signs, .ref a_pad, .int (m_sold_68 + 1), .int m_markets, .int m_marketAt, .int m_reason, .int m_acts, .ref a_digits, .ref a_without, .ref a_with, .ref a_counts, .ref a_fewest, .ref a_ways, .ref a_more, .ref a_chooses, .ref a_image, .ref a_isKept])), cm_kI cI a_now 31 m_now_68] H := hP
                have hD : va_D A [(a, .inr (11, [.ref a_book, .ref a_now, .int m_sights, .ref a_sight, .int m_signs, .ref a_pad, .int (m_sold_68 + 1), .int m_markets, .int m_marketAt, .int m_reason, .int m_acts, .ref a_digits, .ref a_without, .ref a_with, .ref a_counts, .ref a_fewest, .ref a_ways, .ref a_more, .ref a_chooses, .ref a_image, .ref a_isKept])), cm_kI cI a_now 31 m_now_68] := hD
                refine lv_aload_n (pc := 97) hx hb dX11_endNight_97 rfl (lv_at hl 2 rfl) ?_
                refine va_get (pc := 98) (D := D) (ci := 11) (v := .ref a_now) (C := RX11) (T := TX11) (N := 21) hx hb hts in_X11 hown hKa hP 0 rfl rfl 1 (by decide) (hts _ tw_713) (fun _ h9 => h9) rfl dX11_endNight_98 ?_
                refine lv_bipush (pc := 101) (v := 30) hx hb dX11_endNight_101 (by decide) ?_
                refine lv_dup2_11 (pc := 103) hx hb dX11_endNight_103 rfl rfl ?_
                refine cm_iald (pc := 104) hx hb hKa hP 1 0 rfl rfl 30 rfl (by decide) dX11_endNight_104 ?_
                refine lv_iconst (pc := 105) (v := 1) hx hb dX11_endNight_105 (by decide) ?_
                refine lv_iadd (pc := 106) hx hb dX11_endNight_106 ?_
                refine cm_iast (pc := 107) hx hb hKa hP hD hS 1 0 rfl rfl 30 rfl (by decide) dX11_endNight_107 (fun H locs hP hD hS => ?_)
                have hP : va_P D vwCl [(a, .inr (11, [.ref a_book, .ref a_now, .int m_sights, .ref a_sight, .int m_signs, .ref a_pad, .int (m_sold_68 + 1), .int m_markets, .int m_marketAt, .int m_reason, .int m_acts, .ref a_digits, .ref a_without, .ref a_with, .ref a_counts, .ref a_fewest, .ref a_ways, .ref a_more, .ref a_chooses, .ref a_image, .ref a_isKept])), cm_kI cI a_now 31 (upd m_now_68 30 ((m_now_68 30) + 1))] H := hP
                have hD : va_D A [(a, .inr (11, [.ref a_book, .ref a_now, .int m_sights, .ref a_sight, .int m_signs, .ref a_pad, .int (m_sold_68 + 1), .int m_markets, .int m_marketAt, .int m_reason, .int m_acts, .ref a_digits, .ref a_without, .ref a_with, .ref a_counts, .ref a_fewest, .ref a_ways, .ref a_more, .ref a_chooses, .ref a_image, .ref a_isKept])), cm_kI cI a_now 31 (upd m_now_68 30 ((m_now_68 30) + 1))] := hD
                refine lv_aload_n (pc := 108) hx hb dX11_endNight_108 rfl (lv_at hl 2 rfl) ?_
                refine va_get (pc := 109) (D := D) (ci := 11) (v := .ref a_now) (C := RX11) (T := TX11) (N := 21) hx hb hts in_X11 hown hKa hP 0 rfl rfl 1 (by decide) (hts _ tw_713) (fun _ h9 => h9) rfl dX11_endNight_109 ?_
                refine lv_iload_n (pc := 112) hx hb dX11_endNight_112 rfl (lv_at hl 0 rfl) ?_
                refine lv_bipush (pc := 113) (v := 9) hx hb dX11_endNight_113 (by decide) ?_
                obtain ⟨b_115, hf⟩ := cm_ob hf
                refine va_iast (pc := 115) hx hb hKa hP hD hS 1 0 rfl rfl b_115 dX11_endNight_115 (fun H locs hP hD hS => ?_)
                have hP : va_P D vwCl [(a, .inr (11, [.ref a_book, .ref a_now, .int m_sights, .ref a_sight, .int m_signs, .ref a_pad, .int (m_sold_68 + 1), .int m_markets, .int m_marketAt, .int m_reason, .int m_acts, .ref a_digits, .ref a_without, .ref a_with, .ref a_counts, .ref a_fewest, .ref a_ways, .ref a_more, .ref a_chooses, .ref a_image, .ref a_isKept])), cm_kI cI a_now 31 (upd (upd m_now_68 30 ((m_now_68 30) + 1)) v2_68.toNatClampNeg 9)] H := hP
                have hD : va_D A [(a, .inr (11, [.ref a_book, .ref a_now, .int m_sights, .ref a_sight, .int m_signs, .ref a_pad, .int (m_sold_68 + 1), .int m_markets, .int m_marketAt, .int m_reason, .int m_acts, .ref a_digits, .ref a_without, .ref a_with, .ref a_counts, .ref a_fewest, .ref a_ways, .ref a_more, .ref a_chooses, .ref a_image, .ref a_isKept])), cm_kI cI a_now 31 (upd (upd m_now_68 30 ((m_now_68 30) + 1)) v2_68.toNatClampNeg 9)] := hD
                refine lv_goto (pc := 116) (tgt := 142) hx hb dX11_endNight_116 (by decide) ?_
                refine lv_iinc (pc := 142) (v := (v2_68 + 1)) (lv' := [(2, .int (v2_68 + 1)), (1, .int j56), (0, .ref a)]) hx hb dX11_endNight_142 hl (k := 0) rfl rfl (by decide) rfl (fun ls hl => ?_)
                refine lv_goto (pc := 145) (tgt := 68) hx hb dX11_endNight_145 (by decide) ?_
                exact ih (v2_68 + 1) (m_sold_68 + 1) (upd (upd m_now_68 30 ((m_now_68 30) + 1)) v2_68.toNatClampNeg 9) _ _ _ hP hD hS (lv_sub hl [0, 1, 2] rfl) hf
      refine L68 _ (fun v2_68 m_sold_68 m_now_68 H locs ls hP hD hS hl hf => ?_) 5000 24 m_sold (upd (upd m_now 29 ((m_now 29) + 1)) 28 (irm (((upd m_now 29 ((m_now 29) + 1)) 28) + 1) 7)) _ _ _ hP hD hS (lv_sub hl [0, 1, 2] rfl) hf
      refine lv_iconst (pc := 148) (v := 0) hx hb dX11_endNight_148 (by decide) ?_
      refine lv_istore_n (pc := 149) (lv' := [(2, .int 0), (1, .int j56), (0, .ref a)]) hx hb dX11_endNight_149 rfl hl (by decide) rfl (fun ls hl => ?_)
      have L150 : ∀ (kx : Int32 → (Nat → Int32) → Option (Int32 × Int32 × Int32 × (Nat → Int32))), (∀ (v2_150 : Int32) (m_now_150 : (Nat → Int32)) (H : Heap) (locs : List Loc) (ls : Array Slot), va_P D vwCl [(a, .inr (11, [.ref a_book, .ref a_now, .int m_sights, .ref a_sight, .int m_signs, .ref a_pad, .int m_sold_68, .int m_markets, .int m_marketAt, .int m_reason, .int m_acts, .ref a_digits, .ref a_without, .ref a_with, .ref a_counts, .ref a_fewest, .ref a_ways, .ref a_more, .ref a_chooses, .ref a_image, .ref a_isKept])), cm_kI cI a_now 31 m_now_150] H → va_D A [(a, .inr (11, [.ref a_book, .ref a_now, .int m_sights, .ref a_sight, .int m_signs, .ref a_pad, .int m_sold_68, .int m_markets, .int m_marketAt, .int m_reason, .int m_acts, .ref a_digits, .ref a_without, .ref a_with, .ref a_counts, .ref a_fewest, .ref a_ways, .ref a_more, .ref a_chooses, .ref a_image, .ref a_isKept])), cm_kI cI a_now 31 m_now_150] → va_S A s.heap H locs → lv_has ls 3 [(1, .int j56), (0, .ref a)] → kx v2_150 m_now_150 = some res → W p l e rmX11_endNight s m args below meth c H locs 0 0 Q (F0 m 225 ls [])) → ∀ (n : Nat) (v2_150 : Int32) (m_now_150 : (Nat → Int32)) (H : Heap) (locs : List Loc) (ls : Array Slot), va_P D vwCl [(a, .inr (11, [.ref a_book, .ref a_now, .int m_sights, .ref a_sight, .int m_signs, .ref a_pad, .int m_sold_68, .int m_markets, .int m_marketAt, .int m_reason, .int m_acts, .ref a_digits, .ref a_without, .ref a_with, .ref a_counts, .ref a_fewest, .ref a_ways, .ref a_more, .ref a_chooses, .ref a_image, .ref a_isKept])), cm_kI cI a_now 31 m_now_150] H → va_D A [(a, .inr (11, [.ref a_book, .ref a_now, .int m_sights, .ref a_sight, .int m_signs, .ref a_pad, .int m_sold_68, .int m_markets, .int m_marketAt, .int m_reason, .int m_acts, .ref a_digits, .ref a_without, .ref a_with, .ref a_counts, .ref a_fewest, .ref a_ways, .ref a_more, .ref a_chooses, .ref a_image, .ref a_isKept])), cm_kI cI a_now 31 m_now_150] → va_S A s.heap H locs → lv_has ls 3 [(2, .int v2_150), (1, .int j56), (0, .ref a)] → fX11_endNight_L150 j56 kx n v2_150 m_now_150 = some res → W p l e rmX11_endNight s m args below meth c H locs 0 0 Q (F0 m 150 ls []) := by
        intro kx hkx n
        induction n with
        | zero => intro v2_150 m_now_150 H locs ls hP hD hS hl hf; cases hf
        | succ n ih =>
          intro v2_150 m_now_150 H locs ls hP hD hS hl hf
          rw [fX11_endNight_L150] at hf
          refine lv_iload_n (pc := 150) hx hb dX11_endNight_150 rfl (lv_at hl 0 rfl) ?_
          refine lv_bipush (pc := 151) (v := 8) hx hb dX11_endNight_151 (by decide) ?_
          refine lv_icmp_ge (pc := 153) (tgt := 225) hx hb dX11_endNight_153 (by decide) (fun c_153 => ?_) (fun c_153 => ?_)
          · have hf := cm_ip c_153 hf
            exact hkx v2_150 m_now_150 _ _ _ hP hD hS (lv_sub hl [1, 2] rfl) hf
          · have hf := cm_in c_153 hf
            refine lv_iload_n (pc := 156) hx hb dX11_endNight_156 rfl (lv_at hl 1 rfl) ?_
            refine lv_if_eq (pc := 157) (tgt := 225) hx hb dX11_endNight_157 (by decide) (fun c_157 => ?_) (fun c_157 => ?_)
            · have hf := cm_ip c_157 hf
              exact hkx v2_150 m_now_150 _ _ _ hP hD hS (lv_sub hl [1, 2] rfl) hf
            · have hf := cm_in c_157 hf
              refine lv_aload_n (pc := 160) hx hb dX11_endNight_160 rfl (lv_at hl 2 rfl) ?_
              refine va_get (pc := 161) (D := D) (ci := 11) (v := .ref a_now) (C := RX11) (T := TX11) (N := 21) hx hb hts in_X11 hown hKa hP 0 rfl rfl 1 (by decide) (hts _ tw_713) (fun _ h9 => h9) rfl dX11_endNight_161 ?_
              refine lv_bipush (pc := 164) (v := 8) hx hb dX11_endNight_164 (by decide) ?_
              refine lv_iload_n (pc := 166) hx hb dX11_endNight_166 rfl (lv_at hl 0 rfl) ?_
              refine lv_iadd (pc := 167) hx hb dX11_endNight_167 ?_
              refine lv_aload_n (pc := 168) hx hb dX11_endNight_168 rfl (lv_at hl 2 rfl) ?_
              refine va_get (pc := 169) (D := D) (ci := 11) (v := .ref a_now) (C := RX11) (T := TX11) (N := 21) hx hb hts in_X11 hown hKa hP 0 rfl rfl 1 (by decide) (hts _ tw_713) (fun _ h9 => h9) rfl dX11_endNight_169 ?_
              refine lv_iload_n (pc := 172) hx hb dX11_endNight_172 rfl (lv_at hl 0 rfl) ?_
              obtain ⟨b_173, hf⟩ := cm_ob hf
              refine va_iald (pc := 173) hx hb hKa hP 1 0 rfl rfl b_173 dX11_endNight_173 ?_
              refine lv_aload_n (pc := 174) hx hb dX11_endNight_174 rfl (lv_at hl 2 rfl) ?_
              refine va_get (pc := 175) (D := D) (ci := 11) (v := .ref a_now) (C := RX11) (T := TX11) (N := 21) hx hb hts in_X11 hown hKa hP 0 rfl rfl 1 (by decide) (hts _ tw_713) (fun _ h9 => h9) rfl dX11_endNight_175 ?_
              refine lv_bipush (pc := 178) (v := 28) hx hb dX11_endNight_178 (by decide) ?_
              refine cm_iald (pc := 180) hx hb hKa hP 1 0 rfl rfl 28 rfl (by decide) dX11_endNight_180 ?_
              refine lv_icmp_ne (pc := 181) (tgt := 188) hx hb dX11_endNight_181 (by decide) (fun c_181 => ?_) (fun c_181 => ?_)
              · have hf := cm_in c_181 hf
                refine lv_aload_n (pc := 188) hx hb dX11_endNight_188 rfl (lv_at hl 2 rfl) ?_
                refine va_get (pc := 189) (D := D) (ci := 11) (v := .ref a_now) (C := RX11) (T := TX11) (N := 21) hx hb hts in_X11 hown hKa hP 0 rfl rfl 1 (by decide) (hts _ tw_713) (fun _ h9 => h9) rfl dX11_endNight_189 ?_
                refine lv_bipush (pc := 192) (v := 8) hx hb dX11_endNight_192 (by decide) ?_
                refine lv_iload_n (pc := 194) hx hb dX11_endNight_194 rfl (lv_at hl 0 rfl) ?_
                refine lv_iadd (pc := 195) hx hb dX11_endNight_195 ?_
                obtain ⟨b_196, hf⟩ := cm_ob hf
                refine va_iald (pc := 196) hx hb hKa hP 1 0 rfl rfl b_196 dX11_endNight_196 ?_
                refine lv_bipush (pc := 197) (v := 9) hx hb dX11_endNight_197 (by decide) ?_
                refine lv_icmp_ge (pc := 199) (tgt := 216) hx hb dX11_endNight_199 (by decide) (fun c_199 => ?_) (fun c_199 => ?_)
                · have hf := cm_ip c_199 hf
                  refine lv_bipush (pc := 216) (v := 9) hx hb dX11_endNight_216 (by decide) ?_
                  obtain ⟨b_218, hf⟩ := cm_ob hf
                  refine va_iast (pc := 218) hx hb hKa hP hD hS 1 0 rfl rfl b_218 dX11_endNight_218 (fun H locs hP hD hS => ?_)
                  have hP : va_P D vwCl [(a, .inr (11, [.ref a_book, .ref a_now, .int m_sights, .ref a_sight, .int m_signs, .ref a_pad, .int m_sold_68, .int m_markets, .int m_marketAt, .int m_reason, .int m_acts, .ref a_digits, .ref a_without, .ref a_with, .ref a_counts, .ref a_fewest, .ref a_ways, .ref a_more, .ref a_chooses, .ref a_image, .ref a_isKept])), cm_kI cI a_now 31 (upd m_now_150 (8 + v2_150).toNatClampNeg 9)] H := hP
                  have hD : va_D A [(a, .inr (11, [.ref a_book, .ref a_now, .int m_sights, .ref a_sight, .int m_signs, .ref a_pad, .int m_sold_68, .int m_markets, .int m_marketAt, .int m_reason, .int m_acts, .ref a_digits, .ref a_without, .ref a_with, .ref a_counts, .ref a_fewest, .ref a_ways, .ref a_more, .ref a_chooses, .ref a_image, .ref a_isKept])), cm_kI cI a_now 31 (upd m_now_150 (8 + v2_150).toNatClampNeg 9)] := hD
                  refine lv_iinc (pc := 219) (v := (v2_150 + 1)) (lv' := [(2, .int (v2_150 + 1)), (1, .int j56), (0, .ref a)]) hx hb dX11_endNight_219 hl (k := 0) rfl rfl (by decide) rfl (fun ls hl => ?_)
                  refine lv_goto (pc := 222) (tgt := 150) hx hb dX11_endNight_222 (by decide) ?_
                  exact ih (v2_150 + 1) (upd m_now_150 (8 + v2_150).toNatClampNeg 9) _ _ _ hP hD hS (lv_sub hl [0, 1, 2] rfl) hf
                · have hf := cm_in c_199 hf
                  refine lv_aload_n (pc := 202) hx hb dX11_endNight_202 rfl (lv_at hl 2 rfl) ?_
                  refine va_get (pc := 203) (D := D) (ci := 11) (v := .ref a_now) (C := RX11) (T := TX11) (N := 21) hx hb hts in_X11 hown hKa hP 0 rfl rfl 1 (by decide) (hts _ tw_713) (fun _ h9 => h9) rfl dX11_endNight_203 ?_
                  refine lv_bipush (pc := 206) (v := 8) hx hb dX11_endNight_206 (by decide) ?_
                  refine lv_iload_n (pc := 208) hx hb dX11_endNight_208 rfl (lv_at hl 0 rfl) ?_
                  refine lv_iadd (pc := 209) hx hb dX11_endNight_209 ?_
                  obtain ⟨b_210, hf⟩ := cm_ob hf
                  refine va_iald (pc := 210) hx hb hKa hP 1 0 rfl rfl b_210 dX11_endNight_210 ?_
                  refine lv_iconst (pc := 211) (v := 1) hx hb dX11_endNight_211 (by decide) ?_
                  refine lv_iadd (pc := 212) hx hb dX11_endNight_212 ?_
                  refine lv_goto (pc := 213) (tgt := 218) hx hb dX11_endNight_213 (by decide) ?_
                  obtain ⟨b_218, hf⟩ := cm_ob hf
                  refine va_iast (pc := 218) hx hb hKa hP hD hS 1 0 rfl rfl b_218 dX11_endNight_218 (fun H locs hP hD hS => ?_)
                  have hP : va_P D vwCl [(a, .inr (11, [.ref a_book, .ref a_now, .int m_sights, .ref a_sight, .int m_signs, .ref a_pad, .int m_sold_68, .int m_markets, .int m_marketAt, .int m_reason, .int m_acts, .ref a_digits, .ref a_without, .ref a_with, .ref a_counts, .ref a_fewest, .ref a_ways, .ref a_more, .ref a_chooses, .ref a_image, .ref a_isKept])), cm_kI cI a_now 31 (upd m_now_150 (8 + v2_150).toNatClampNeg ((m_now_150 (8 + v2_150).toNatClampNeg) + 1))] H := hP
                  have hD : va_D A [(a, .inr (11, [.ref a_book, .ref a_now, .int m_sights, .ref a_sight, .int m_signs, .ref a_pad, .int m_sold_68, .int m_markets, .int m_marketAt, .int m_reason, .int m_acts, .ref a_digits, .ref a_without, .ref a_with, .ref a_counts, .ref a_fewest, .ref a_ways, .ref a_more, .ref a_chooses, .ref a_image, .ref a_isKept])), cm_kI cI a_now 31 (upd m_now_150 (8 + v2_150).toNatClampNeg ((m_now_150 (8 + v2_150).toNatClampNeg) + 1))] := hD
                  refine lv_iinc (pc := 219) (v := (v2_150 + 1)) (lv' := [(2, .int (v2_150 + 1)), (1, .int j56), (0, .ref a)]) hx hb dX11_endNight_219 hl (k := 0) rfl rfl (by decide) rfl (fun ls hl => ?_)
                  refine lv_goto (pc := 222) (tgt := 150) hx hb dX11_endNight_222 (by decide) ?_
                  exact ih (v2_150 + 1) (upd m_now_150 (8 + v2_150).toNatClampNeg ((m_now_150 (8 + v2_150).toNatClampNeg) + 1)) _ _ _ hP hD hS (lv_sub hl [0, 1, 2] rfl) hf
              · have hf := cm_ip c_181 hf
                refine lv_iconst (pc := 184) (v := 0) hx hb dX11_endNight_184 (by decide) ?_
                refine lv_goto (pc := 185) (tgt := 218) hx hb dX11_endNight_185 (by decide) ?_
                obtain ⟨b_218, hf⟩ := cm_ob hf
                refine va_iast (pc := 218) hx hb hKa hP hD hS 1 0 rfl rfl b_218 dX11_endNight_218 (fun H locs hP hD hS => ?_)
                have hP : va_P D vwCl [(a, .inr (11, [.ref a_book, .ref a_now, .int m_sights, .ref a_sight, .int m_signs, .ref a_pad, .int m_sold_68, .int m_markets, .int m_marketAt, .int m_reason, .int m_acts, .ref a_digits, .ref a_without, .ref a_with, .ref a_counts, .ref a_fewest, .ref a_ways, .ref a_more, .ref a_chooses, .ref a_image, .ref a_isKept])), cm_kI cI a_now 31 (upd m_now_150 (8 + v2_150).toNatClampNeg 0)] H := hP
                have hD : va_D A [(a, .inr (11, [.ref a_book, .ref a_now, .int m_sights, .ref a_sight, .int m_signs, .ref a_pad, .int m_sold_68, .int m_markets, .int m_marketAt, .int m_reason, .int m_acts, .ref a_digits, .ref a_without, .ref a_with, .ref a_counts, .ref a_fewest, .ref a_ways, .ref a_more, .ref a_chooses, .ref a_image, .ref a_isKept])), cm_kI cI a_now 31 (upd m_now_150 (8 + v2_150).toNatClampNeg 0)] := hD
                refine lv_iinc (pc := 219) (v := (v2_150 + 1)) (lv' := [(2, .int (v2_150 + 1)), (1, .int j56), (0, .ref a)]) hx hb dX11_endNight_219 hl (k := 0) rfl rfl (by decide) rfl (fun ls hl => ?_)
                refine lv_goto (pc := 222) (tgt := 150) hx hb dX11_endNight_222 (by decide) ?_
                exact ih (v2_150 + 1) (upd m_now_150 (8 + v2_150).toNatClampNeg 0) _ _ _ hP hD hS (lv_sub hl [0, 1, 2] rfl) hf
      refine L150 _ (fun v2_150 m_now_150 H locs ls hP hD hS hl hf => ?_) 5000 0 m_now_68 _ _ _ hP hD hS (lv_sub hl [0, 1, 2] rfl) hf
      refine lv_aload_n (pc := 225) hx hb dX11_endNight_225 rfl (lv_at hl 1 rfl) ?_
      refine lv_dup (pc := 226) hx hb dX11_endNight_226 rfl ?_
      refine va_get (pc := 227) (D := D) (ci := 11) (v := .int m_markets) (C := RX11) (T := TX11) (N := 21) hx hb hts in_X11 hown hKa hP 0 rfl rfl 7 (by decide) (hts _ tw_719) (fun _ h9 => h9) rfl dX11_endNight_227 ?_
      refine lv_iload_n (pc := 230) hx hb dX11_endNight_230 rfl (lv_at hl 0 rfl) ?_
      obtain ⟨j231, hj231, hf⟩ := cm_lt hf
      have J231 : ∀ (H : Heap) (locs : List Loc) (ls : Array Slot), va_P D vwCl [(a, .inr (11, [.ref a_book, .ref a_now, .int m_sights, .ref a_sight, .int m_signs, .ref a_pad, .int m_sold_68, .int m_markets, .int m_marketAt, .int m_reason, .int m_acts, .ref a_digits, .ref a_without, .ref a_with, .ref a_counts, .ref a_fewest, .ref a_ways, .ref a_more, .ref a_chooses, .ref a_image, .ref a_isKept])), cm_kI cI a_now 31 m_now_150] H → va_D A [(a, .inr (11, [.ref a_book, .ref a_now, .int m_sights, .ref a_sight, .int m_signs, .ref a_pad, .int m_sold_68, .int m_markets, .int m_marketAt, .int m_reason, .int m_acts, .ref a_digits, .ref a_without, .ref a_with, .ref a_counts, .ref a_fewest, .ref a_ways, .ref a_more, .ref a_chooses, .ref a_image, .ref a_isKept])), cm_kI cI a_now 31 m_now_150] → va_S A s.heap H locs → lv_has ls 3 [] → W p l e rmX11_endNight s m args below meth c H locs 0 0 Q (F0 m 239 ls [.int j231, .int m_markets, .ref a]) := by
        intro H locs ls hP hD hS hl
        refine lv_iadd (pc := 239) hx hb dX11_endNight_239 ?_
        refine va_put (pc := 240) (D := D) (ci := 11) (v := .int (m_markets + j231)) (ty := .int) (C := RX11) (T := TX11) (N := 21) hx hb hts in_X11 tyX11 tyX11_ok nmX11 hown hKa hP hD hS 0 rfl rfl 7 (by decide) (hts _ tw_719) (fun _ h9 => h9) rfl (by decide +kernel) rfl rfl (Nat.le_of_ble_eq_true rfl) dX11_endNight_240 (fun H locs hP hD hS => ?_)
        have hP : va_P D vwCl [(a, .inr (11, [.ref a_book, .ref a_now, .int m_sights, .ref a_sight, .int m_signs, .ref a_pad, .int m_sold_68, .int (m_markets + j231), .int m_marketAt, .int m_reason, .int m_acts, .ref a_digits, .ref a_without, .ref a_with, .ref a_counts, .ref a_fewest, .ref a_ways, .ref a_more, .ref a_chooses, .ref a_image, .ref a_isKept])), cm_kI cI a_now 31 m_now_150] H := hP
        have hD : va_D A [(a, .inr (11, [.ref a_book, .ref a_now, .int m_sights, .ref a_sight, .int m_signs, .ref a_pad, .int m_sold_68, .int (m_markets + j231), .int m_marketAt, .int m_reason, .int m_acts, .ref a_digits, .ref a_without, .ref a_with, .ref a_counts, .ref a_fewest, .ref a_ways, .ref a_more, .ref a_chooses, .ref a_image, .ref a_isKept])), cm_kI cI a_now 31 m_now_150] := hD
        refine lv_iconst (pc := 243) (v := 0) hx hb dX11_endNight_243 (by decide) ?_
        obtain rfl := Option.some.inj hf
        exact cm_iret (pc := 244) hAe hQ hx hb hr hlocks hP hD hS [0, 1] (by decide) rfl dX11_endNight_244
      clear hf
      have hf := hj231
      refine lv_if_eq (pc := 231) (tgt := 238) hx hb dX11_endNight_231 (by decide) (fun c_231 => ?_) (fun c_231 => ?_)
      · have hf := cm_ip c_231 hf
        refine lv_iconst (pc := 238) (v := 0) hx hb dX11_endNight_238 (by decide) ?_
        obtain rfl := hf
        exact J231 _ _ _ hP hD hS (lv_sub hl [] rfl)
      · have hf := cm_in c_231 hf
        refine lv_iconst (pc := 234) (v := 1) hx hb dX11_endNight_234 (by decide) ?_
        refine lv_goto (pc := 235) (tgt := 239) hx hb dX11_endNight_235 (by decide) ?_
        obtain rfl := hf
        exact J231 _ _ _ hP hD hS (lv_sub hl [] rfl)
    clear hf
    have hf := hj56
    refine lv_icmp_ne (pc := 56) (tgt := 63) hx hb dX11_endNight_56 (by decide) (fun c_56 => ?_) (fun c_56 => ?_)
    · have hf := cm_in c_56 hf
      refine lv_iconst (pc := 63) (v := 0) hx hb dX11_endNight_63 (by decide) ?_
      obtain rfl := hf
      exact J56 _ _ _ hP hD hS (lv_sub hl [0] rfl)
    · have hf := cm_ip c_56 hf
      refine lv_iconst (pc := 59) (v := 1) hx hb dX11_endNight_59 (by decide) ?_
      refine lv_goto (pc := 60) (tgt := 64) hx hb dX11_endNight_60 (by decide) ?_
      obtain rfl := hf
      exact J56 _ _ _ hP hD hS (lv_sub hl [0] rfl)
  · have hf := cm_ip c_9 hf
    refine lv_bipush (pc := 12) (v := 8) hx hb dX11_endNight_12 (by decide) ?_
    obtain rfl := Option.some.inj hf
    exact cm_iret (pc := 14) hAe hQ hx hb hr hlocks hP hD hS [0, 1] (by decide) rfl dX11_endNight_14
def fX11_oneAct (v1 : Int32) (m_now : (Nat → Int32)) (m_pad : (Nat → Int32)) : Option (Int32 × (Nat → Int32)) := if v1 < 0 ∨ 60 ≤ v1.toNatClampNeg then none else if (v1 + 1) < 0 ∨ 60 ≤ (v1 + 1).toNatClampNeg then none else if v1 < 0 ∨ 60 ≤ v1.toNatClampNeg then none else (if (m_pad v1.toNatClampNeg) = 99 then Option.bind (fX11_drive ((m_pad (v1 + 1).toNatClampNeg) - 48) m_now) (fun u35 => some (u35.1, u35.2)) else (if (m_pad (v1 + 1).toNatClampNeg) = 62 then if (v1 + 2) < 0 ∨ 60 ≤ (v1 + 2).toNatClampNeg then none else Option.bind (fX11_talk ((m_pad v1.toNatClampNeg) - 65) ((m_pad (v1 + 2).toNatClampNeg) - 65) m_now) (fun u58 => some (u58.1, u58.2)) else (if (m_pad (v1 + 1).toNatClampNeg) = 36 then if (v1 + 2) < 0 ∨ 60 ≤ (v1 + 2).toNatClampNeg then none else Option.bind (fX11_pay ((m_pad v1.toNatClampNeg) - 65) ((m_pad (v1 + 2).toNatClampNeg) - 65) m_now) (fun u83 => some (u83.1, u83.2)) else (if (m_pad (v1 + 1).toNatClampNeg) = 43 then Option.bind (fX11_grow ((m_pad v1.toNatClampNeg) - 65) m_now) (fun u97 => some (u97.1, u97.2)) else (if (m_pad (v1 + 1).toNatClampNeg) = 45 then Option.bind (fX11_think ((m_pad v1.toNatClampNeg) - 65) (-6) m_now) (fun u120 => some (u120.1, u120.2)) else Option.bind (fX11_think ((m_pad v1.toNatClampNeg) - 65) ((m_pad (v1 + 1).toNatClampNeg) - 48) m_now) (fun u120 => some (u120.1, u120.2)))))))
def rmX11_oneAct : Room := { frames := 1, cells := 0, slots := 0, locals := 22 }
set_option maxRecDepth 100000 in
set_option maxHeartbeats 4000000 in
theorem c_X11_oneAct (l : Launch) (D : va_G) (cI cJ cZ : ClassId) (a a_book a_now a_sight a_pad a_digits a_without a_with a_counts a_fewest a_ways a_more a_chooses a_image a_isKept : Nat) (m_sights : Int32) (m_signs : Int32) (m_sold : Int32) (m_markets : Int32) (m_marketAt : Int32) (m_reason : Int32) (m_acts : Int32) (m_now : (Nat → Int32)) (m_pad : (Nat → Int32)) (v1 : Int32) (res : Int32 × (Nat → Int32)) (hf : fX11_oneAct v1 m_now m_pad = some res) : Ct l yX11_oneAct (cm_ws yX11_oneAct cX11_oneAct 4 (some .int)) rmX11_oneAct D (cm_T cI cJ cZ) [.ref a, .int v1] [(a, .inr (11, [.ref a_book, .ref a_now, .int m_sights, .ref a_sight, .int m_signs, .ref a_pad, .int m_sold, .int m_markets, .int m_marketAt, .int m_reason, .int m_acts, .ref a_digits, .ref a_without, .ref a_with, .ref a_counts, .ref a_fewest, .ref a_ways, .ref a_more, .ref a_chooses, .ref a_image, .ref a_isKept])), cm_kI cI a_now 31 m_now, cm_kI cI a_pad 60 m_pad] (some (.int res.1)) [(a, .inr (11, [.ref a_book, .ref a_now, .int m_sights, .ref a_sight, .int m_signs, .ref a_pad, .int m_sold, .int m_markets, .int m_marketAt, .int m_reason, .int m_acts, .ref a_digits, .ref a_without, .ref a_with, .ref a_counts, .ref a_fewest, .ref a_ways, .ref a_more, .ref a_chooses, .ref a_image, .ref a_isKept])), cm_kI cI a_now 31 res.2, cm_kI cI a_pad 60 m_pad] := by
  refine Ct.of (cc := cX11_oneAct) (maxL := 4) (ret := (some .int)) (by decide) (Nat.le_of_ble_eq_true rfl) ?_
  intro p e s m below meth c ls args A Q hav hAe hQ hx hb hr hml hown hlocks hts hK hP hD hA hS hl
  have hKa := hK.1
  have hl : lv_has ls 4 [(0, .ref a), (1, .int v1)] := hl
  unfold fX11_oneAct at hf
  refine lv_aload_n (pc := 0) hx hb dX11_oneAct_0 rfl (lv_at hl 0 rfl) ?_
  refine va_get (pc := 1) (D := D) (ci := 11) (v := .ref a_pad) (C := RX11) (T := TX11) (N := 21) hx hb hts in_X11 hown hKa hP 0 rfl rfl 5 (by decide) (hts _ tw_717) (fun _ h9 => h9) rfl dX11_oneAct_1 ?_
  refine lv_iload_n (pc := 4) hx hb dX11_oneAct_4 rfl (lv_at hl 1 rfl) ?_
  obtain ⟨b_5, hf⟩ := cm_ob hf
  refine va_iald (pc := 5) hx hb hKa hP 2 0 rfl rfl b_5 dX11_oneAct_5 ?_
  refine lv_bipush (pc := 6) (v := 65) hx hb dX11_oneAct_6 (by decide) ?_
  refine lv_isub (pc := 8) hx hb dX11_oneAct_8 ?_
  refine lv_istore_n (pc := 9) (lv' := [(2, .int ((m_pad v1.toNatClampNeg) - 65)), (0, .ref a), (1, .int v1)]) hx hb dX11_oneAct_9 rfl hl (by decide) rfl (fun ls hl => ?_)
  refine lv_aload_n (pc := 10) hx hb dX11_oneAct_10 rfl (lv_at hl 1 rfl) ?_
  refine va_get (pc := 11) (D := D) (ci := 11) (v := .ref a_pad) (C := RX11) (T := TX11) (N := 21) hx hb hts in_X11 hown hKa hP 0 rfl rfl 5 (by decide) (hts _ tw_717) (fun _ h9 => h9) rfl dX11_oneAct_11 ?_
  refine lv_iload_n (pc := 14) hx hb dX11_oneAct_14 rfl (lv_at hl 2 rfl) ?_
  refine lv_iconst (pc := 15) (v := 1) hx hb dX11_oneAct_15 (by decide) ?_
  refine lv_iadd (pc := 16) hx hb dX11_oneAct_16 ?_
  obtain ⟨b_17, hf⟩ := cm_ob hf
  refine va_iald (pc := 17) hx hb hKa hP 2 0 rfl rfl b_17 dX11_oneAct_17 ?_
  refine lv_istore_n (pc := 18) (lv' := [(3, .int (m_pad (v1 + 1).toNatClampNeg)), (2, .int ((m_pad v1.toNatClampNeg) - 65)), (0, .ref a), (1, .int v1)]) hx hb dX11_oneAct_18 rfl hl (by decide) rfl (fun ls hl => ?_)
  refine lv_aload_n (pc := 19) hx hb dX11_oneAct_19 rfl (lv_at hl 2 rfl) ?_
  refine va_get (pc := 20) (D := D) (ci := 11) (v := .ref a_pad) (C := RX11) (T := TX11) (N := 21) hx hb hts in_X11 hown hKa hP 0 rfl rfl 5 (by decide) (hts _ tw_717) (fun _ h9 => h9) rfl dX11_oneAct_20 ?_
  refine lv_iload_n (pc := 23) hx hb dX11_oneAct_23 rfl (lv_at hl 3 rfl) ?_
  obtain ⟨b_24, hf⟩ := cm_ob hf
  refine va_iald (pc := 24) hx hb hKa hP 2 0 rfl rfl b_24 dX11_oneAct_24 ?_
  refine lv_bipush (pc := 25) (v := 99) hx hb dX11_oneAct_25 (by decide) ?_
  refine lv_icmp_ne (pc := 27) (tgt := 39) hx hb dX11_oneAct_27 (by decide) (fun c_27 => ?_) (fun c_27 => ?_)
  · have hf := cm_in c_27 hf
    refine lv_iload_n (pc := 39) hx hb dX11_oneAct_39 rfl (lv_at hl 0 rfl) ?_
    refine lv_bipush (pc := 40) (v := 62) hx hb dX11_oneAct_40 (by decide) ?_
    refine lv_icmp_ne (pc := 42) (tgt := 64) hx hb dX11_oneAct_42 (by decide) (fun c_42 => ?_) (fun c_42 => ?_)
    · have hf := cm_in c_42 hf
      refine lv_iload_n (pc := 64) hx hb dX11_oneAct_64 rfl (lv_at hl 0 rfl) ?_
      refine lv_bipush (pc := 65) (v := 36) hx hb dX11_oneAct_65 (by decide) ?_
      refine lv_icmp_ne (pc := 67) (tgt := 89) hx hb dX11_oneAct_67 (by decide) (fun c_67 => ?_) (fun c_67 => ?_)
      · have hf := cm_in c_67 hf
        refine lv_iload_n (pc := 89) hx hb dX11_oneAct_89 rfl (lv_at hl 0 rfl) ?_
        refine lv_bipush (pc := 90) (v := 43) hx hb dX11_oneAct_90 (by decide) ?_
        refine lv_icmp_ne (pc := 92) (tgt := 103) hx hb dX11_oneAct_92 (by decide) (fun c_92 => ?_) (fun c_92 => ?_)
        · have hf := cm_in c_92 hf
          refine lv_aload_n (pc := 103) hx hb dX11_oneAct_103 rfl (lv_at hl 2 rfl) ?_
          refine lv_iload_n (pc := 104) hx hb dX11_oneAct_104 rfl (lv_at hl 1 rfl) ?_
          refine lv_iload_n (pc := 105) hx hb dX11_oneAct_105 rfl (lv_at hl 0 rfl) ?_
          refine lv_bipush (pc := 106) (v := 45) hx hb dX11_oneAct_106 (by decide) ?_
          refine lv_icmp_ne (pc := 108) (tgt := 116) hx hb dX11_oneAct_108 (by decide) (fun c_108 => ?_) (fun c_108 => ?_)
          · have hf := cm_in c_108 hf
            refine lv_iload_n (pc := 116) hx hb dX11_oneAct_116 rfl (lv_at hl 0 rfl) ?_
            refine lv_bipush (pc := 117) (v := 48) hx hb dX11_oneAct_117 (by decide) ?_
            refine lv_isub (pc := 119) hx hb dX11_oneAct_119 ?_
            obtain ⟨u120, hu120, hf⟩ := cm_bd hf
            refine cm_callV (pc := 120) (As := [.int ((m_pad v1.toNatClampNeg) - 65), .int ((m_pad (v1 + 1).toNatClampNeg) - 48)]) (rest := []) (wr := [cm_kI cI a_pad 60 m_pad]) (ci := 11) (q0 := 0) (n := 2) hx hb hml hown hts hK hP hD hS hA (c_X11_think l D cI cJ cZ a a_book a_now a_sight a_pad a_digits a_without a_with a_counts a_fewest a_ways a_more a_chooses a_image a_isKept m_sights m_signs m_sold m_markets m_marketAt m_reason m_acts m_now ((m_pad v1.toNatClampNeg) - 65) ((m_pad (v1 + 1).toNatClampNeg) - 48) u120 hu120) tw_858 tw_855 tw_857 tw_39 tw_56 rfl rfl (by decide +kernel) rfl ⟨Nat.le_of_ble_eq_true rfl, Nat.le_of_ble_eq_true rfl⟩ [0, 1] [2] rfl (by decide) rfl (by decide) (by decide) rfl rfl rfl hl.1 rfl (Nat.le_of_ble_eq_true rfl) dX11_oneAct_120 ⟨Nat.zero_le _, Nat.zero_le _⟩ (fun H locs hP hD hS => ?_)
            have hP : va_P D vwCl [cm_kI cI a_pad 60 m_pad, (a, .inr (11, [.ref a_book, .ref a_now, .int m_sights, .ref a_sight, .int m_signs, .ref a_pad, .int m_sold, .int m_markets, .int m_marketAt, .int m_reason, .int m_acts, .ref a_digits, .ref a_without, .ref a_with, .ref a_counts, .ref a_fewest, .ref a_ways, .ref a_more, .ref a_chooses, .ref a_image, .ref a_isKept])), cm_kI cI a_now 31 u120.2] H := hP
            have hD : va_D A [cm_kI cI a_pad 60 m_pad, (a, .inr (11, [.ref a_book, .ref a_now, .int m_sights, .ref a_sight, .int m_signs, .ref a_pad, .int m_sold, .int m_markets, .int m_marketAt, .int m_reason, .int m_acts, .ref a_digits, .ref a_without, .ref a_with, .ref a_counts, .ref a_fewest, .ref a_ways, .ref a_more, .ref a_chooses, .ref a_image, .ref a_isKept])), cm_kI cI a_now 31 u120.2] := hD
            refine W.eq (g2 := F0 m 123 ls [.int u120.1]) rfl ?_
            obtain rfl := Option.some.inj hf
            exact cm_iret (pc := 123) hAe hQ hx hb hr hlocks hP hD hS [1, 2, 0] (by decide) rfl dX11_oneAct_123
          · have hf := cm_ip c_108 hf
            refine lv_bipush (pc := 111) (v := (-6)) hx hb dX11_oneAct_111 (by decide) ?_
            refine lv_goto (pc := 113) (tgt := 120) hx hb dX11_oneAct_113 (by decide) ?_
            obtain ⟨u120, hu120, hf⟩ := cm_bd hf
            refine cm_callV (pc := 120) (As := [.int ((m_pad v1.toNatClampNeg) - 65), .int (-6)]) (rest := []) (wr := [cm_kI cI a_pad 60 m_pad]) (ci := 11) (q0 := 0) (n := 2) hx hb hml hown hts hK hP hD hS hA (c_X11_think l D cI cJ cZ a a_book a_now a_sight a_pad a_digits a_without a_with a_counts a_fewest a_ways a_more a_chooses a_image a_isKept m_sights m_signs m_sold m_markets m_marketAt m_reason m_acts m_now ((m_pad v1.toNatClampNeg) - 65) (-6) u120 hu120) tw_858 tw_855 tw_857 tw_39 tw_56 rfl rfl (by decide +kernel) rfl ⟨Nat.le_of_ble_eq_true rfl, Nat.le_of_ble_eq_true rfl⟩ [0, 1] [2] rfl (by decide) rfl (by decide) (by decide) rfl rfl rfl hl.1 rfl (Nat.le_of_ble_eq_true rfl) dX11_oneAct_120 ⟨Nat.zero_le _, Nat.zero_le _⟩ (fun H locs hP hD hS => ?_)
            have hP : va_P D vwCl [cm_kI cI a_pad 60 m_pad, (a, .inr (11, [.ref a_book, .ref a_now, .int m_sights, .ref a_sight, .int m_signs, .ref a_pad, .int m_sold, .int m_markets, .int m_marketAt, .int m_reason, .int m_acts, .ref a_digits, .ref a_without, .ref a_with, .ref a_counts, .ref a_fewest, .ref a_ways, .ref a_more, .ref a_chooses, .ref a_image, .ref a_isKept])), cm_kI cI a_now 31 u120.2] H := hP
            have hD : va_D A [cm_kI cI a_pad 60 m_pad, (a, .inr (11, [.ref a_book, .ref a_now, .int m_sights, .ref a_sight, .int m_signs, .ref a_pad, .int m_sold, .int m_markets, .int m_marketAt, .int m_reason, .int m_acts, .ref a_digits, .ref a_without, .ref a_with, .ref a_counts, .ref a_fewest, .ref a_ways, .ref a_more, .ref a_chooses, .ref a_image, .ref a_isKept])), cm_kI cI a_now 31 u120.2] := hD
            refine W.eq (g2 := F0 m 123 ls [.int u120.1]) rfl ?_
            obtain rfl := Option.some.inj hf
            exact cm_iret (pc := 123) hAe hQ hx hb hr hlocks hP hD hS [1, 2, 0] (by decide) rfl dX11_oneAct_123
        · have hf := cm_ip c_92 hf
          refine lv_aload_n (pc := 95) hx hb dX11_oneAct_95 rfl (lv_at hl 2 rfl) ?_
          refine lv_iload_n (pc := 96) hx hb dX11_oneAct_96 rfl (lv_at hl 1 rfl) ?_
          obtain ⟨u97, hu97, hf⟩ := cm_bd hf
          refine cm_callV (pc := 97) (As := [.int ((m_pad v1.toNatClampNeg) - 65)]) (rest := []) (wr := [cm_kI cI a_pad 60 m_pad]) (ci := 11) (q0 := 0) (n := 1) hx hb hml hown hts hK hP hD hS hA (c_X11_grow l D cI cJ cZ a a_book a_now a_sight a_pad a_digits a_without a_with a_counts a_fewest a_ways a_more a_chooses a_image a_isKept m_sights m_signs m_sold m_markets m_marketAt m_reason m_acts m_now ((m_pad v1.toNatClampNeg) - 65) u97 hu97) tw_854 tw_851 tw_853 tw_38 tw_56 rfl rfl (by decide +kernel) rfl ⟨Nat.le_of_ble_eq_true rfl, Nat.le_of_ble_eq_true rfl⟩ [0, 1] [2] rfl (by decide) rfl (by decide) (by decide) rfl rfl rfl hl.1 rfl (Nat.le_of_ble_eq_true rfl) dX11_oneAct_97 ⟨Nat.zero_le _, Nat.zero_le _⟩ (fun H locs hP hD hS => ?_)
          have hP : va_P D vwCl [cm_kI cI a_pad 60 m_pad, (a, .inr (11, [.ref a_book, .ref a_now, .int m_sights, .ref a_sight, .int m_signs, .ref a_pad, .int m_sold, .int m_markets, .int m_marketAt, .int m_reason, .int m_acts, .ref a_digits, .ref a_without, .ref a_with, .ref a_counts, .ref a_fewest, .ref a_ways, .ref a_more, .ref a_chooses, .ref a_image, .ref a_isKept])), cm_kI cI a_now 31 u97.2] H := hP
          have hD : va_D A [cm_kI cI a_pad 60 m_pad, (a, .inr (11, [.ref a_book, .ref a_now, .int m_sights, .ref a_sight, .int m_signs, .ref a_pad, .int m_sold, .int m_markets, .int m_marketAt, .int m_reason, .int m_acts, .ref a_digits, .ref a_without, .ref a_with, .ref a_counts, .ref a_fewest, .ref a_ways, .ref a_more, .ref a_chooses, .ref a_image, .ref a_isKept])), cm_kI cI a_now 31 u97.2] := hD
          refine W.eq (g2 := F0 m 100 ls [.int u97.1]) rfl ?_
          refine lv_goto (pc := 100) (tgt := 123) hx hb dX11_oneAct_100 (by decide) ?_
          obtain rfl := Option.some.inj hf
          exact cm_iret (pc := 123) hAe hQ hx hb hr hlocks hP hD hS [1, 2, 0] (by decide) rfl dX11_oneAct_123
      · have hf := cm_ip c_67 hf
        refine lv_aload_n (pc := 70) hx hb dX11_oneAct_70 rfl (lv_at hl 2 rfl) ?_
        refine lv_iload_n (pc := 71) hx hb dX11_oneAct_71 rfl (lv_at hl 1 rfl) ?_
        refine lv_aload_n (pc := 72) hx hb dX11_oneAct_72 rfl (lv_at hl 2 rfl) ?_
        refine va_get (pc := 73) (D := D) (ci := 11) (v := .ref a_pad) (C := RX11) (T := TX11) (N := 21) hx hb hts in_X11 hown hKa hP 0 rfl rfl 5 (by decide) (hts _ tw_717) (fun _ h9 => h9) rfl dX11_oneAct_73 ?_
        refine lv_iload_n (pc := 76) hx hb dX11_oneAct_76 rfl (lv_at hl 3 rfl) ?_
        refine lv_iconst (pc := 77) (v := 2) hx hb dX11_oneAct_77 (by decide) ?_
        refine lv_iadd (pc := 78) hx hb dX11_oneAct_78 ?_
        obtain ⟨b_79, hf⟩ := cm_ob hf
        refine va_iald (pc := 79) hx hb hKa hP 2 0 rfl rfl b_79 dX11_oneAct_79 ?_
        refine lv_bipush (pc := 80) (v := 65) hx hb dX11_oneAct_80 (by decide) ?_
        refine lv_isub (pc := 82) hx hb dX11_oneAct_82 ?_
        obtain ⟨u83, hu83, hf⟩ := cm_bd hf
        refine cm_callV (pc := 83) (As := [.int ((m_pad v1.toNatClampNeg) - 65), .int ((m_pad (v1 + 2).toNatClampNeg) - 65)]) (rest := []) (wr := [cm_kI cI a_pad 60 m_pad]) (ci := 11) (q0 := 0) (n := 2) hx hb hml hown hts hK hP hD hS hA (c_X11_pay l D cI cJ cZ a a_book a_now a_sight a_pad a_digits a_without a_with a_counts a_fewest a_ways a_more a_chooses a_image a_isKept m_sights m_signs m_sold m_markets m_marketAt m_reason m_acts m_now ((m_pad v1.toNatClampNeg) - 65) ((m_pad (v1 + 2).toNatClampNeg) - 65) u83 hu83) tw_850 tw_847 tw_849 tw_37 tw_56 rfl rfl (by decide +kernel) rfl ⟨Nat.le_of_ble_eq_true rfl, Nat.le_of_ble_eq_true rfl⟩ [0, 1] [2] rfl (by decide) rfl (by decide) (by decide) rfl rfl rfl hl.1 rfl (Nat.le_of_ble_eq_true rfl) dX11_oneAct_83 ⟨Nat.zero_le _, Nat.zero_le _⟩ (fun H locs hP hD hS => ?_)
        have hP : va_P D vwCl [cm_kI cI a_pad 60 m_pad, (a, .inr (11, [.ref a_book, .ref a_now, .int m_sights, .ref a_sight, .int m_signs, .ref a_pad, .int m_sold, .int m_markets, .int m_marketAt, .int m_reason, .int m_acts, .ref a_digits, .ref a_without, .ref a_with, .ref a_counts, .ref a_fewest, .ref a_ways, .ref a_more, .ref a_chooses, .ref a_image, .ref a_isKept])), cm_kI cI a_now 31 u83.2] H := hP
        have hD : va_D A [cm_kI cI a_pad 60 m_pad, (a, .inr (11, [.ref a_book, .ref a_now, .int m_sights, .ref a_sight, .int m_signs, .ref a_pad, .int m_sold, .int m_markets, .int m_marketAt, .int m_reason, .int m_acts, .ref a_digits, .ref a_without, .ref a_with, .ref a_counts, .ref a_fewest, .ref a_ways, .ref a_more, .ref a_chooses, .ref a_image, .ref a_isKept])), cm_kI cI a_now 31 u83.2] := hD
        refine W.eq (g2 := F0 m 86 ls [.int u83.1]) rfl ?_
        refine lv_goto (pc := 86) (tgt := 123) hx hb dX11_oneAct_86 (by decide) ?_
        obtain rfl := Option.some.inj hf
        exact cm_iret (pc := 123) hAe hQ hx hb hr hlocks hP hD hS [1, 2, 0] (by decide) rfl dX11_oneAct_123
    · have hf := cm_ip c_42 hf
      refine lv_aload_n (pc := 45) hx hb dX11_oneAct_45 rfl (lv_at hl 2 rfl) ?_
      refine lv_iload_n (pc := 46) hx hb dX11_oneAct_46 rfl (lv_at hl 1 rfl) ?_
      refine lv_aload_n (pc := 47) hx hb dX11_oneAct_47 rfl (lv_at hl 2 rfl) ?_
      refine va_get (pc := 48) (D := D) (ci := 11) (v := .ref a_pad) (C := RX11) (T := TX11) (N := 21) hx hb hts in_X11 hown hKa hP 0 rfl rfl 5 (by decide) (hts _ tw_717) (fun _ h9 => h9) rfl dX11_oneAct_48 ?_
      refine lv_iload_n (pc := 51) hx hb dX11_oneAct_51 rfl (lv_at hl 3 rfl) ?_
      refine lv_iconst (pc := 52) (v := 2) hx hb dX11_oneAct_52 (by decide) ?_
      refine lv_iadd (pc := 53) hx hb dX11_oneAct_53 ?_
      obtain ⟨b_54, hf⟩ := cm_ob hf
      refine va_iald (pc := 54) hx hb hKa hP 2 0 rfl rfl b_54 dX11_oneAct_54 ?_
      refine lv_bipush (pc := 55) (v := 65) hx hb dX11_oneAct_55 (by decide) ?_
      refine lv_isub (pc := 57) hx hb dX11_oneAct_57 ?_
      obtain ⟨u58, hu58, hf⟩ := cm_bd hf
      refine cm_callV (pc := 58) (As := [.int ((m_pad v1.toNatClampNeg) - 65), .int ((m_pad (v1 + 2).toNatClampNeg) - 65)]) (rest := []) (wr := [cm_kI cI a_pad 60 m_pad]) (ci := 11) (q0 := 0) (n := 2) hx hb hml hown hts hK hP hD hS hA (c_X11_talk l D cI cJ cZ a a_book a_now a_sight a_pad a_digits a_without a_with a_counts a_fewest a_ways a_more a_chooses a_image a_isKept m_sights m_signs m_sold m_markets m_marketAt m_reason m_acts m_now ((m_pad v1.toNatClampNeg) - 65) ((m_pad (v1 + 2).toNatClampNeg) - 65) u58 hu58) tw_846 tw_843 tw_845 tw_36 tw_56 rfl rfl (by decide +kernel) rfl ⟨Nat.le_of_ble_eq_true rfl, Nat.le_of_ble_eq_true rfl⟩ [0, 1] [2] rfl (by decide) rfl (by decide) (by decide) rfl rfl rfl hl.1 rfl (Nat.le_of_ble_eq_true rfl) dX11_oneAct_58 ⟨Nat.zero_le _, Nat.zero_le _⟩ (fun H locs hP hD hS => ?_)
      have hP : va_P D vwCl [cm_kI cI a_pad 60 m_pad, (a, .inr (11, [.ref a_book, .ref a_now, .int m_sights, .ref a_sight, .int m_signs, .ref a_pad, .int m_sold, .int m_markets, .int m_marketAt, .int m_reason, .int m_acts, .ref a_digits, .ref a_without, .ref a_with, .ref a_counts, .ref a_fewest, .ref a_ways, .ref a_more, .ref a_chooses, .ref a_image, .ref a_isKept])), cm_kI cI a_now 31 u58.2] H := hP
      have hD : va_D A [cm_kI cI a_pad 60 m_pad, (a, .inr (11, [.ref a_book, .ref a_now, .int m_sights, .ref a_sight, .int m_signs, .ref a_pad, .int m_sold, .int m_markets, .int m_marketAt, .int m_reason, .int m_acts, .ref a_digits, .ref a_without, .ref a_with, .ref a_counts, .ref a_fewest, .ref a_ways, .ref a_more, .ref a_chooses, .ref a_image, .ref a_isKept])), cm_kI cI a_now 31 u58.2] := hD
      refine W.eq (g2 := F0 m 61 ls [.int u58.1]) rfl ?_
      refine lv_goto (pc := 61) (tgt := 123) hx hb dX11_oneAct_61 (by decide) ?_
      obtain rfl := Option.some.inj hf
      exact cm_iret (pc := 123) hAe hQ hx hb hr hlocks hP hD hS [1, 2, 0] (by decide) rfl dX11_oneAct_123
  · have hf := cm_ip c_27 hf
    refine lv_aload_n (pc := 30) hx hb dX11_oneAct_30 rfl (lv_at hl 2 rfl) ?_
    refine lv_iload_n (pc := 31) hx hb dX11_oneAct_31 rfl (lv_at hl 0 rfl) ?_
    refine lv_bipush (pc := 32) (v := 48) hx hb dX11_oneAct_32 (by decide) ?_
    refine lv_isub (pc := 34) hx hb dX11_oneAct_34 ?_
    obtain ⟨u35, hu35, hf⟩ := cm_bd hf
    refine cm_callV (pc := 35) (As := [.int ((m_pad (v1 + 1).toNatClampNeg) - 48)]) (rest := []) (wr := [cm_kI cI a_pad 60 m_pad]) (ci := 11) (q0 := 0) (n := 1) hx hb hml hown hts hK hP hD hS hA (c_X11_drive l D cI cJ cZ a a_book a_now a_sight a_pad a_digits a_without a_with a_counts a_fewest a_ways a_more a_chooses a_image a_isKept m_sights m_signs m_sold m_markets m_marketAt m_reason m_acts m_now ((m_pad (v1 + 1).toNatClampNeg) - 48) u35 hu35) tw_842 tw_839 tw_841 tw_35 tw_56 rfl rfl (by decide +kernel) rfl ⟨Nat.le_of_ble_eq_true rfl, Nat.le_of_ble_eq_true rfl⟩ [0, 1] [2] rfl (by decide) rfl (by decide) (by decide) rfl rfl rfl hl.1 rfl (Nat.le_of_ble_eq_true rfl) dX11_oneAct_35 ⟨Nat.zero_le _, Nat.zero_le _⟩ (fun H locs hP hD hS => ?_)
    have hP : va_P D vwCl [cm_kI cI a_pad 60 m_pad, (a, .inr (11, [.ref a_book, .ref a_now, .int m_sights, .ref a_sight, .int m_signs, .ref a_pad, .int m_sold, .int m_markets, .int m_marketAt, .int m_reason, .int m_acts, .ref a_digits, .ref a_without, .ref a_with, .ref a_counts, .ref a_fewest, .ref a_ways, .ref a_more, .ref a_chooses, .ref a_image, .ref a_isKept])), cm_kI cI a_now 31 u35.2] H := hP
    have hD : va_D A [cm_kI cI a_pad 60 m_pad, (a, .inr (11, [.ref a_book, .ref a_now, .int m_sights, .ref a_sight, .int m_signs, .ref a_pad, .int m_sold, .int m_markets, .int m_marketAt, .int m_reason, .int m_acts, .ref a_digits, .ref a_without, .ref a_with, .ref a_counts, .ref a_fewest, .ref a_ways, .ref a_more, .ref a_chooses, .ref a_image, .ref a_isKept])), cm_kI cI a_now 31 u35.2] := hD
    refine W.eq (g2 := F0 m 38 ls [.int u35.1]) rfl ?_
    obtain rfl := Option.some.inj hf
    exact cm_iret (pc := 38) hAe hQ hx hb hr hlocks hP hD hS [1, 2, 0] (by decide) rfl dX11_oneAct_38
def fX11_goWeeks_L11 (m_signs : Int32) (m_pad : (Nat → Int32)) (kx : Int32 → Int32 → Int32 → Int32 → Int32 → Int32 → (Nat → Int32) → Option (Int32 × Int32 × Int32 × Int32 × Int32 × Int32 × (Nat → Int32))) : Nat → Int32 → Int32 → Int32 → Int32 → Int32 → Int32 → (Nat → Int32) → Option (Int32 × Int32 × Int32 × Int32 × Int32 × Int32 × (Nat → Int32))
  | 0, _, _, _, _, _, _, _ => none
  | n + 1, v1_11, m_sold_11, m_markets_11, m_marketAt_11, m_reason_11, m_acts_11, m_now_11 => (if m_signs ≤ v1_11 then kx v1_11 m_sold_11 m_markets_11 m_marketAt_11 m_reason_11 m_acts_11 m_now_11 else if v1_11 < 0 ∨ 60 ≤ v1_11.toNatClampNeg then none else cm_let ((if (m_pad v1_11.toNatClampNeg) = 46 then 1 else 0) : Int32) (fun j32 => Option.bind ((if j32 = 0 then Option.bind (fX11_oneAct v1_11 m_now_11 m_pad) (fun u55 => some (u55.1, m_sold_11, m_markets_11, u55.2)) else Option.bind (fX11_endNight m_sold_11 m_markets_11 m_now_11) (fun u47 => some (u47.1, u47.2.1, u47.2.2.1, u47.2.2.2))) : Option (Int32 × Int32 × Int32 × (Nat → Int32))) (fun j43 => Option.bind ((if j32 = 0 then if (v1_11 + 1) < 0 ∨ 60 ≤ (v1_11 + 1).toNatClampNeg then none else (if (m_pad (v1_11 + 1).toNatClampNeg) = 62 then some 3 else if (v1_11 + 1) < 0 ∨ 60 ≤ (v1_11 + 1).toNatClampNeg then none else (if (m_pad (v1_11 + 1).toNatClampNeg) = 36 then some 3 else some 2)) else some 1) : Option (Int32)) (fun j63 => (if j43.1 ≤ 0 then cm_let ((if j43.2.2.1 ≤ m_markets_11 then m_marketAt_11 else (if 0 ≤ m_marketAt_11 then m_marketAt_11 else m_acts_11)) : Int32) (fun j121 => fX11_goWeeks_L11 m_signs m_pad kx n (v1_11 + j63) j43.2.1 j43.2.2.1 j121 j43.1 (m_acts_11 + 1) j43.2.2.2) else some (m_acts_11, j43.2.1, j43.2.2.1, m_marketAt_11, j43.1, m_acts_11, j43.2.2.2))))))
def fX11_goWeeks (m_signs : Int32) (m_sold : Int32) (m_markets : Int32) (m_marketAt : Int32) (m_reason : Int32) (m_acts : Int32) (m_book : (Nat → Int32)) (m_now : (Nat → Int32)) (m_pad : (Nat → Int32)) : Option (Int32 × Int32 × Int32 × Int32 × Int32 × Int32 × (Nat → Int32)) := Option.bind (fX11_asNow m_sold m_markets m_marketAt m_book m_now) (fun u1 => fX11_goWeeks_L11 m_signs m_pad (fun v1_11 m_sold_11 m_markets_11 m_marketAt_11 m_reason_11 m_acts_11 m_now_11 => some ((-6), m_sold_11, m_markets_11, m_marketAt_11, m_reason_11, m_acts_11, m_now_11)) 5000 0 u1.1 u1.2.1 u1.2.2.1 m_reason 0 u1.2.2.2)
def rmX11_goWeeks : Room := { frames := 3, cells := 0, slots := 0, locals := 67 }
set_option maxRecDepth 100000 in
set_option maxHeartbeats 4000000 in
theorem c_X11_goWeeks (l : Launch) (D : va_G) (cI cJ cZ : ClassId) (a a_book a_now a_sight a_pad a_digits a_without a_with a_counts a_fewest a_ways a_more a_chooses a_image a_isKept : Nat) (m_sights : Int32) (m_signs : Int32) (m_sold : Int32) (m_markets : Int32) (m_marketAt : Int32) (m_reason : Int32) (m_acts : Int32) (m_book : (Nat → Int32)) (m_now : (Nat → Int32)) (m_pad : (Nat → Int32)) (res : Int32 × Int32 × Int32 × Int32 × Int32 × Int32 × (Nat → Int32)) (hf : fX11_goWeeks m_signs m_sold m_markets m_marketAt m_reason m_acts m_book m_now m_pad = some res) : Ct l yX11_goWeeks (cm_ws yX11_goWeeks cX11_goWeeks 4 (some .int)) rmX11_goWeeks D (cm_T cI cJ cZ) [.ref a] [(a, .inr (11, [.ref a_book, .ref a_now, .int m_sights, .ref a_sight, .int m_signs, .ref a_pad, .int m_sold, .int m_markets, .int m_marketAt, .int m_reason, .int m_acts, .ref a_digits, .ref a_without, .ref a_with, .ref a_counts, .ref a_fewest, .ref a_ways, .ref a_more, .ref a_chooses, .ref a_image, .ref a_isKept])), cm_kI cI a_book 31 m_book, cm_kI cI a_now 31 m_now, cm_kI cI a_pad 60 m_pad] (some (.int res.1)) [(a, .inr (11, [.ref a_book, .ref a_now, .int m_sights, .ref a_sight, .int m_signs, .ref a_pad, .int res.2.1, .int res.2.2.1, .int res.2.2.2.1, .int res.2.2.2.2.1, .int res.2.2.2.2.2.1, .ref a_digits, .ref a_without, .ref a_with, .ref a_counts, .ref a_fewest, .ref a_ways, .ref a_more, .ref a_chooses, .ref a_image, .ref a_isKept])), cm_kI cI a_book 31 m_book, cm_kI cI a_now 31 res.2.2.2.2.2.2, cm_kI cI a_pad 60 m_pad] := by
  refine Ct.of (cc := cX11_goWeeks) (maxL := 4) (ret := (some .int)) (by decide) (Nat.le_of_ble_eq_true rfl) ?_
  intro p e s m below meth c ls args A Q hav hAe hQ hx hb hr hml hown hlocks hts hK hP hD hA hS hl
  have hKa := hK.1
  have hl : lv_has ls 4 [(0, .ref a)] := hl
  unfold fX11_goWeeks at hf
  refine lv_aload_n (pc := 0) hx hb dX11_goWeeks_0 rfl (lv_at hl 0 rfl) ?_
  obtain ⟨u1, hu1, hf⟩ := cm_bd hf
  refine cm_callV (pc := 1) (As := []) (rest := []) (wr := [cm_kI cI a_pad 60 m_pad]) (ci := 11) (q0 := 0) (n := 0) hx hb hml hown hts hK hP hD hS hA (c_X11_asNow l D cI cJ cZ a a_book a_now a_sight a_pad a_digits a_without a_with a_counts a_fewest a_ways a_more a_chooses a_image a_isKept m_sights m_signs m_sold m_markets m_marketAt m_reason m_acts m_book m_now u1 hu1) tw_822 tw_819 tw_821 tw_30 tw_56 rfl rfl (by decide +kernel) rfl ⟨Nat.le_of_ble_eq_true rfl, Nat.le_of_ble_eq_true rfl⟩ [0, 1, 2] [3] rfl (by decide) rfl (by decide) (by decide) rfl rfl rfl hl.1 rfl (Nat.le_of_ble_eq_true rfl) dX11_goWeeks_1 ⟨Nat.zero_le _, Nat.zero_le _⟩ (fun H locs hP hD hS => ?_)
  have hP : va_P D vwCl [cm_kI cI a_pad 60 m_pad, (a, .inr (11, [.ref a_book, .ref a_now, .int m_sights, .ref a_sight, .int m_signs, .ref a_pad, .int u1.1, .int u1.2.1, .int u1.2.2.1, .int m_reason, .int m_acts, .ref a_digits, .ref a_without, .ref a_with, .ref a_counts, .ref a_fewest, .ref a_ways, .ref a_more, .ref a_chooses, .ref a_image, .ref a_isKept])), cm_kI cI a_book 31 m_book, cm_kI cI a_now 31 u1.2.2.2] H := hP
  have hD : va_D A [cm_kI cI a_pad 60 m_pad, (a, .inr (11, [.ref a_book, .ref a_now, .int m_sights, .ref a_sight, .int m_signs, .ref a_pad, .int u1.1, .int u1.2.1, .int u1.2.2.1, .int m_reason, .int m_acts, .ref a_digits, .ref a_without, .ref a_with, .ref a_counts, .ref a_fewest, .ref a_ways, .ref a_more, .ref a_chooses, .ref a_image, .ref a_isKept])), cm_kI cI a_book 31 m_book, cm_kI cI a_now 31 u1.2.2.2] := hD
  refine W.eq (g2 := F0 m 4 ls []) rfl ?_
  refine lv_aload_n (pc := 4) hx hb dX11_goWeeks_4 rfl (lv_at hl 0 rfl) ?_
  refine lv_iconst (pc := 5) (v := 0) hx hb dX11_goWeeks_5 (by decide) ?_
  refine va_put (pc := 6) (D := D) (ci := 11) (v := .int 0) (ty := .int) (C := RX11) (T := TX11) (N := 21) hx hb hts in_X11 tyX11 tyX11_ok nmX11 hown hKa hP hD hS 1 rfl rfl 10 (by decide) (hts _ tw_722) (fun _ h9 => h9) rfl (by decide +kernel) rfl rfl (Nat.le_of_ble_eq_true rfl) dX11_goWeeks_6 (fun H locs hP hD hS => ?_)
  have hP : va_P D vwCl [cm_kI cI a_pad 60 m_pad, (a, .inr (11, [.ref a_book, .ref a_now, .int m_sights, .ref a_sight, .int m_signs, .ref a_pad, .int u1.1, .int u1.2.1, .int u1.2.2.1, .int m_reason, .int 0, .ref a_digits, .ref a_without, .ref a_with, .ref a_counts, .ref a_fewest, .ref a_ways, .ref a_more, .ref a_chooses, .ref a_image, .ref a_isKept])), cm_kI cI a_book 31 m_book, cm_kI cI a_now 31 u1.2.2.2] H := hP
  have hD : va_D A [cm_kI cI a_pad 60 m_pad, (a, .inr (11, [.ref a_book, .ref a_now, .int m_sights, .ref a_sight, .int m_signs, .ref a_pad, .int u1.1, .int u1.2.1, .int u1.2.2.1, .int m_reason, .int 0, .ref a_digits, .ref a_without, .ref a_with, .ref a_counts, .ref a_fewest, .ref a_ways, .ref a_more, .ref a_chooses, .ref a_image, .ref a_isKept])), cm_kI cI a_book 31 m_book, cm_kI cI a_now 31 u1.2.2.2] := hD
  refine lv_iconst (pc := 9) (v := 0) hx hb dX11_goWeeks_9 (by decide) ?_
  refine lv_istore_n (pc := 10) (lv' := [(1, .int 0), (0, .ref a)]) hx hb dX11_goWeeks_10 rfl hl (by decide) rfl (fun ls hl => ?_)
  have L11 : ∀ (kx : Int32 → Int32 → Int32 → Int32 → Int32 → Int32 → (Nat → Int32) → Option (Int32 × Int32 × Int32 × Int32 × Int32 × Int32 × (Nat → Int32))), (∀ (v1_11 : Int32) (m_sold_11 : Int32) (m_markets_11 : Int32) (m_marketAt_11 : Int32) (m_reason_11 : Int32) (m_acts_11 : Int32) (m_now_11 : (Nat → Int32)) (H : Heap) (locs : List Loc) (ls : Array Slot), va_P D vwCl [cm_kI cI a_pad 60 m_pad, (a, .inr (11, [.ref a_book, .ref a_now, .int m_sights, .ref a_sight, .int m_signs, .ref a_pad, .int m_sold_11, .int m_markets_11, .int m_marketAt_11, .int m_reason_11, .int m_acts_11, .ref a_digits, .ref a_without, .ref a_with, .ref a_counts, .ref a_fewest, .ref a_ways, .ref a_more, .ref a_chooses, .ref a_image, .ref a_isKept])), cm_kI cI a_book 31 m_book, cm_kI cI a_now 31 m_now_11] H → va_D A [cm_kI cI a_pad 60 m_pad, (a, .inr (11, [.ref a_book, .ref a_now, .int m_sights, .ref a_sight, .int m_signs, .ref a_pad, .int m_sold_11, .int m_markets_11, .int m_marketAt_11, .int m_reason_11, .int m_acts_11, .ref a_digits, .ref a_without, .ref a_with, .ref a_counts, .ref a_fewest, .ref a_ways, .ref a_more, .ref a_chooses, .ref a_image, .ref a_isKept])), cm_kI cI a_book 31 m_book, cm_kI cI a_now 31 m_now_11] → va_S A s.heap H locs → lv_has ls 4 [] → kx v1_11 m_sold_11 m_markets_11 m_marketAt_11 m_reason_11 m_acts_11 m_now_11 = some res → W p l e rmX11_goWeeks s m args below meth c H locs 0 0 Q (F0 m 158 ls [])) → ∀ (n : Nat) (v1_11 : Int32) (m_sold_11 : Int32) (m_markets_11 : Int32) (m_marketAt_11 : Int32) (m_reason_11 : Int32) (m_acts_11 : Int32) (m_now_11 : (Nat → Int32)) (H : Heap) (locs : List Loc) (ls : Array Slot), va_P D vwCl [cm_kI cI a_pad 60 m_pad, (a, .inr (11, [.ref a_book, .ref a_now, .int m_sights, .ref a_sight, .int m_signs, .ref a_pad, .int m_sold_11, .int m_markets_11, .int m_marketAt_11, .int m_reason_11, .int m_acts_11, .ref a_digits, .ref a_without, .ref a_with, .ref a_counts, .ref a_fewest, .ref a_ways, .ref a_more, .ref a_chooses, .ref a_image, .ref a_isKept])), cm_kI cI a_book 31 m_book, cm_kI cI a_now 31 m_now_11] H → va_D A [cm_kI cI a_pad 60 m_pad, (a, .inr (11, [.ref a_book, .ref a_now, .int m_sights, .ref a_sight, .int m_signs, .ref a_pad, .int m_sold_11, .int m_markets_11, .int m_marketAt_11, .int m_reason_11, .int m_acts_11, .ref a_digits, .ref a_without, .ref a_with, .ref a_counts, .ref a_fewest, .ref a_ways, .ref a_more, .ref a_chooses, .ref a_image, .ref a_isKept])), cm_kI cI a_book 31 m_book, cm_kI cI a_now 31 m_now_11] → va_S A s.heap H locs → lv_has ls 4 [(1, .int v1_11), (0, .ref a)] → fX11_goWeeks_L11 m_signs m_pad kx n v1_11 m_sold_11 m_markets_11 m_marketAt_11 m_reason_11 m_acts_11 m_now_11 = some res → W p l e rmX11_goWeeks s m args below meth c H locs 0 0 Q (F0 m 11 ls []) := by
    intro kx hkx n
    induction n with
    | zero => intro v1_11 m_sold_11 m_markets_11 m_marketAt_11 m_reason_11 m_acts_11 m_now_11 H locs ls hP hD hS hl hf; cases hf
    | succ n ih =>
      intro v1_11 m_sold_11 m_markets_11 m_marketAt_11 m_reason_11 m_acts_11 m_now_11 H locs ls hP hD hS hl hf
      rw [fX11_goWeeks_L11] at hf
      refine lv_iload_n (pc := 11) hx hb dX11_goWeeks_11 rfl (lv_at hl 0 rfl) ?_
      refine lv_aload_n (pc := 12) hx hb dX11_goWeeks_12 rfl (lv_at hl 1 rfl) ?_
      refine va_get (pc := 13) (D := D) (ci := 11) (v := .int m_signs) (C := RX11) (T := TX11) (N := 21) hx hb hts in_X11 hown hKa hP 1 rfl rfl 4 (by decide) (hts _ tw_716) (fun _ h9 => h9) rfl dX11_goWeeks_13 ?_
      refine lv_icmp_ge (pc := 16) (tgt := 158) hx hb dX11_goWeeks_16 (by decide) (fun c_16 => ?_) (fun c_16 => ?_)
      · have hf := cm_ip c_16 hf
        exact hkx v1_11 m_sold_11 m_markets_11 m_marketAt_11 m_reason_11 m_acts_11 m_now_11 _ _ _ hP hD hS (lv_sub hl [] rfl) hf
      · have hf := cm_in c_16 hf
        refine lv_aload_n (pc := 19) hx hb dX11_goWeeks_19 rfl (lv_at hl 1 rfl) ?_
        refine va_get (pc := 20) (D := D) (ci := 11) (v := .int m_markets_11) (C := RX11) (T := TX11) (N := 21) hx hb hts in_X11 hown hKa hP 1 rfl rfl 7 (by decide) (hts _ tw_719) (fun _ h9 => h9) rfl dX11_goWeeks_20 ?_
        refine lv_istore_n (pc := 23) (lv' := [(2, .int m_markets_11), (1, .int v1_11), (0, .ref a)]) hx hb dX11_goWeeks_23 rfl hl (by decide) rfl (fun ls hl => ?_)
        refine lv_aload_n (pc := 24) hx hb dX11_goWeeks_24 rfl (lv_at hl 2 rfl) ?_
        refine va_get (pc := 25) (D := D) (ci := 11) (v := .ref a_pad) (C := RX11) (T := TX11) (N := 21) hx hb hts in_X11 hown hKa hP 1 rfl rfl 5 (by decide) (hts _ tw_717) (fun _ h9 => h9) rfl dX11_goWeeks_25 ?_
        refine lv_iload_n (pc := 28) hx hb dX11_goWeeks_28 rfl (lv_at hl 1 rfl) ?_
        obtain ⟨b_29, hf⟩ := cm_ob hf
        refine va_iald (pc := 29) hx hb hKa hP 0 0 rfl rfl b_29 dX11_goWeeks_29 ?_
        refine lv_bipush (pc := 30) (v := 46) hx hb dX11_goWeeks_30 (by decide) ?_
        obtain ⟨j32, hj32, hf⟩ := cm_lt hf
        have J32 : ∀ (H : Heap) (locs : List Loc) (ls : Array Slot), va_P D vwCl [cm_kI cI a_pad 60 m_pad, (a, .inr (11, [.ref a_book, .ref a_now, .int m_sights, .ref a_sight, .int m_signs, .ref a_pad, .int m_sold_11, .int m_markets_11, .int m_marketAt_11, .int m_reason_11, .int m_acts_11, .ref a_digits, .ref a_without, .ref a_with, .ref a_counts, .ref a_fewest, .ref a_ways, .ref a_more, .ref a_chooses, .ref a_image, .ref a_isKept])), cm_kI cI a_book 31 m_book, cm_kI cI a_now 31 m_now_11] H → va_D A [cm_kI cI a_pad 60 m_pad, (a, .inr (11, [.ref a_book, .ref a_now, .int m_sights, .ref a_sight, .int m_signs, .ref a_pad, .int m_sold_11, .int m_markets_11, .int m_marketAt_11, .int m_reason_11, .int m_acts_11, .ref a_digits, .ref a_without, .ref a_with, .ref a_counts, .ref a_fewest, .ref a_ways, .ref a_more, .ref a_chooses, .ref a_image, .ref a_isKept])), cm_kI cI a_book 31 m_book, cm_kI cI a_now 31 m_now_11] → va_S A s.heap H locs → lv_has ls 4 [(2, .int m_markets_11), (1, .int v1_11), (0, .ref a)] → W p l e rmX11_goWeeks s m args below meth c H locs 0 0 Q (F0 m 40 ls [.int j32]) := by
          intro H locs ls hP hD hS hl
          refine lv_istore_n (pc := 40) (lv' := [(3, .int j32), (2, .int m_markets_11), (1, .int v1_11), (0, .ref a)]) hx hb dX11_goWeeks_40 rfl hl (by decide) rfl (fun ls hl => ?_)
          refine lv_aload_n (pc := 41) hx hb dX11_goWeeks_41 rfl (lv_at hl 3 rfl) ?_
          refine lv_iload_n (pc := 42) hx hb dX11_goWeeks_42 rfl (lv_at hl 0 rfl) ?_
          obtain ⟨j43, hj43, hf⟩ := cm_bd hf
          have J43 : ∀ (H : Heap) (locs : List Loc) (ls : Array Slot), va_P D vwCl [cm_kI cI a_pad 60 m_pad, (a, .inr (11, [.ref a_book, .ref a_now, .int m_sights, .ref a_sight, .int m_signs, .ref a_pad, .int j43.2.1, .int j43.2.2.1, .int m_marketAt_11, .int m_reason_11, .int m_acts_11, .ref a_digits, .ref a_without, .ref a_with, .ref a_counts, .ref a_fewest, .ref a_ways, .ref a_more, .ref a_chooses, .ref a_image, .ref a_isKept])), cm_kI cI a_book 31 m_book, cm_kI cI a_now 31 j43.2.2.2] H → va_D A [cm_kI cI a_pad 60 m_pad, (a, .inr (11, [.ref a_book, .ref a_now, .int m_sights, .ref a_sight, .int m_signs, .ref a_pad, .int j43.2.1, .int j43.2.2.1, .int m_marketAt_11, .int m_reason_11, .int m_acts_11, .ref a_digits, .ref a_without, .ref a_with, .ref a_counts, .ref a_fewest, .ref a_ways, .ref a_more, .ref a_chooses, .ref a_image, .ref a_isKept])), cm_kI cI a_book 31 m_book, cm_kI cI a_now 31 j43.2.2.2] → va_S A s.heap H locs → lv_has ls 4 [(3, .int j32), (2, .int m_markets_11), (1, .int v1_11), (0, .ref a)] → W p l e rmX11_goWeeks s m args below meth c H locs 0 0 Q (F0 m 58 ls [.int j43.1, .ref a]) := by
            intro H locs ls hP hD hS hl
            refine va_put (pc := 58) (D := D) (ci := 11) (v := .int j43.1) (ty := .int) (C := RX11) (T := TX11) (N := 21) hx hb hts in_X11 tyX11 tyX11_ok nmX11 hown hKa hP hD hS 1 rfl rfl 9 (by decide) (hts _ tw_721) (fun _ h9 => h9) rfl (by decide +kernel) rfl rfl (Nat.le_of_ble_eq_true rfl) dX11_goWeeks_58 (fun H locs hP hD hS => ?_)
            have hP : va_P D vwCl [cm_kI cI a_pad 60 m_pad, (a, .inr (11, [.ref a_book, .ref a_now, .int m_sights, .ref a_sight, .int m_signs, .ref a_pad, .int j43.2.1, .int j43.2.2.1, .int m_marketAt_11, .int j43.1, .int m_acts_11, .ref a_digits, .ref a_without, .ref a_with, .ref a_counts, .ref a_fewest, .ref a_ways, .ref a_more, .ref a_chooses, .ref a_image, .ref a_isKept])), cm_kI cI a_book 31 m_book, cm_kI cI a_now 31 j43.2.2.2] H := hP
            have hD : va_D A [cm_kI cI a_pad 60 m_pad, (a, .inr (11, [.ref a_book, .ref a_now, .int m_sights, .ref a_sight, .int m_signs, .ref a_pad, .int j43.2.1, .int j43.2.2.1, .int m_marketAt_11, .int j43.1, .int m_acts_11, .ref a_digits, .ref a_without, .ref a_with, .ref a_counts, .ref a_fewest, .ref a_ways, .ref a_more, .ref a_chooses, .ref a_image, .ref a_isKept])), cm_kI cI a_book 31 m_book, cm_kI cI a_now 31 j43.2.2.2] := hD
            refine lv_iload_n (pc := 61) hx hb dX11_goWeeks_61 rfl (lv_at hl 2 rfl) ?_
            refine lv_iload_n (pc := 62) hx hb dX11_goWeeks_62 rfl (lv_at hl 0 rfl) ?_
            obtain ⟨j63, hj63, hf⟩ := cm_bd hf
            have J63 : ∀ (H : Heap) (locs : List Loc) (ls : Array Slot), va_P D vwCl [cm_kI cI a_pad 60 m_pad, (a, .inr (11, [.ref a_book, .ref a_now, .int m_sights, .ref a_sight, .int m_signs, .ref a_pad, .int j43.2.1, .int j43.2.2.1, .int m_marketAt_11, .int j43.1, .int m_acts_11, .ref a_digits, .ref a_without, .ref a_with, .ref a_counts, .ref a_fewest, .ref a_ways, .ref a_more, .ref a_chooses, .ref a_image, .ref a_isKept])), cm_kI cI a_book 31 m_book, cm_kI cI a_now 31 j43.2.2.2] H → va_D A [cm_kI cI a_pad 60 m_pad, (a, .inr (11, [.ref a_book, .ref a_now, .int m_sights, .ref a_sight, .int m_signs, .ref a_pad, .int j43.2.1, .int j43.2.2.1, .int m_marketAt_11, .int j43.1, .int m_acts_11, .ref a_digits, .ref a_without, .ref a_with, .ref a_counts, .ref a_fewest, .ref a_ways, .ref a_more, .ref a_chooses, .ref a_image, .ref a_isKept])), cm_kI cI a_book 31 m_book, cm_kI cI a_now 31 j43.2.2.2] → va_S A s.heap H locs → lv_has ls 4 [(2, .int m_markets_11), (0, .ref a)] → W p l e rmX11_goWeeks s m args below meth c H locs 0 0 Q (F0 m 101 ls [.int j63, .int v1_11]) := by
              intro H locs ls hP hD hS hl
              refine lv_iadd (pc := 101) hx hb dX11_goWeeks_101 ?_
              refine lv_istore_n (pc := 102) (lv' := [(1, .int (v1_11 + j63)), (2, .int m_markets_11), (0, .ref a)]) hx hb dX11_goWeeks_102 rfl hl (by decide) rfl (fun ls hl => ?_)
              refine lv_aload_n (pc := 103) hx hb dX11_goWeeks_103 rfl (lv_at hl 2 rfl) ?_
              refine va_get (pc := 104) (D := D) (ci := 11) (v := .int j43.1) (C := RX11) (T := TX11) (N := 21) hx hb hts in_X11 hown hKa hP 1 rfl rfl 9 (by decide) (hts _ tw_721) (fun _ h9 => h9) rfl dX11_goWeeks_104 ?_
              refine lv_if_le (pc := 107) (tgt := 115) hx hb dX11_goWeeks_107 (by decide) (fun c_107 => ?_) (fun c_107 => ?_)
              · have hf := cm_ip c_107 hf
                refine lv_aload_n (pc := 115) hx hb dX11_goWeeks_115 rfl (lv_at hl 2 rfl) ?_
                refine lv_aload_n (pc := 116) hx hb dX11_goWeeks_116 rfl (lv_at hl 2 rfl) ?_
                refine va_get (pc := 117) (D := D) (ci := 11) (v := .int j43.2.2.1) (C := RX11) (T := TX11) (N := 21) hx hb hts in_X11 hown hKa hP 1 rfl rfl 7 (by decide) (hts _ tw_719) (fun _ h9 => h9) rfl dX11_goWeeks_117 ?_
                refine lv_iload_n (pc := 120) hx hb dX11_goWeeks_120 rfl (lv_at hl 1 rfl) ?_
                obtain ⟨j121, hj121, hf⟩ := cm_lt hf
                have J121 : ∀ (H : Heap) (locs : List Loc) (ls : Array Slot), va_P D vwCl [cm_kI cI a_pad 60 m_pad, (a, .inr (11, [.ref a_book, .ref a_now, .int m_sights, .ref a_sight, .int m_signs, .ref a_pad, .int j43.2.1, .int j43.2.2.1, .int m_marketAt_11, .int j43.1, .int m_acts_11, .ref a_digits, .ref a_without, .ref a_with, .ref a_counts, .ref a_fewest, .ref a_ways, .ref a_more, .ref a_chooses, .ref a_image, .ref a_isKept])), cm_kI cI a_book 31 m_book, cm_kI cI a_now 31 j43.2.2.2] H → va_D A [cm_kI cI a_pad 60 m_pad, (a, .inr (11, [.ref a_book, .ref a_now, .int m_sights, .ref a_sight, .int m_signs, .ref a_pad, .int j43.2.1, .int j43.2.2.1, .int m_marketAt_11, .int j43.1, .int m_acts_11, .ref a_digits, .ref a_without, .ref a_with, .ref a_counts, .ref a_fewest, .ref a_ways, .ref a_more, .ref a_chooses, .ref a_image, .ref a_isKept])), cm_kI cI a_book 31 m_book, cm_kI cI a_now 31 j43.2.2.2] → va_S A s.heap H locs → lv_has ls 4 [(1, .int (v1_11 + j63)), (0, .ref a)] → W p l e rmX11_goWeeks s m args below meth c H locs 0 0 Q (F0 m 142 ls [.int j121, .ref a]) := by
                  intro H locs ls hP hD hS hl
                  refine va_put (pc := 142) (D := D) (ci := 11) (v := .int j121) (ty := .int) (C := RX11) (T := TX11) (N := 21) hx hb hts in_X11 tyX11 tyX11_ok nmX11 hown hKa hP hD hS 1 rfl rfl 8 (by decide) (hts _ tw_720) (fun _ h9 => h9) rfl (by decide +kernel) rfl rfl (Nat.le_of_ble_eq_true rfl) dX11_goWeeks_142 (fun H locs hP hD hS => ?_)
                  have hP : va_P D vwCl [cm_kI cI a_pad 60 m_pad, (a, .inr (11, [.ref a_book, .ref a_now, .int m_sights, .ref a_sight, .int m_signs, .ref a_pad, .int j43.2.1, .int j43.2.2.1, .int j121, .int j43.1, .int m_acts_11, .ref a_digits, .ref a_without, .ref a_with, .ref a_counts, .ref a_fewest, .ref a_ways, .ref a_more, .ref a_chooses, .ref a_image, .ref a_isKept])), cm_kI cI a_book 31 m_book, cm_kI cI a_now 31 j43.2.2.2] H := hP
                  have hD : va_D A [cm_kI cI a_pad 60 m_pad, (a, .inr (11, [.ref a_book, .ref a_now, .int m_sights, .ref a_sight, .int m_signs, .ref a_pad, .int j43.2.1, .int j43.2.2.1, .int j121, .int j43.1, .int m_acts_11, .ref a_digits, .ref a_without, .ref a_with, .ref a_counts, .ref a_fewest, .ref a_ways, .ref a_more, .ref a_chooses, .ref a_image, .ref a_isKept])), cm_kI cI a_book 31 m_book, cm_kI cI a_now 31 j43.2.2.2] := hD
                  refine lv_aload_n (pc := 145) hx hb dX11_goWeeks_145 rfl (lv_at hl 1 rfl) ?_
                  refine lv_dup (pc := 146) hx hb dX11_goWeeks_146 rfl ?_
                  refine va_get (pc := 147) (D := D) (ci := 11) (v := .int m_acts_11) (C := RX11) (T := TX11) (N := 21) hx hb hts in_X11 hown hKa hP 1 rfl rfl 10 (by decide) (hts _ tw_722) (fun _ h9 => h9) rfl dX11_goWeeks_147 ?_
                  refine lv_iconst (pc := 150) (v := 1) hx hb dX11_goWeeks_150 (by decide) ?_
                  refine lv_iadd (pc := 151) hx hb dX11_goWeeks_151 ?_
                  refine va_put (pc := 152) (D := D) (ci := 11) (v := .int (m_acts_11 + 1)) (ty := .int) (C := RX11) (T := TX11) (N := 21) hx hb hts in_X11 tyX11 tyX11_ok nmX11 hown hKa hP hD hS 1 rfl rfl 10 (by decide) (hts _ tw_722) (fun _ h9 => h9) rfl (by decide +kernel) rfl rfl (Nat.le_of_ble_eq_true rfl) dX11_goWeeks_152 (fun H locs hP hD hS => ?_)
                  have hP : va_P D vwCl [cm_kI cI a_pad 60 m_pad, (a, .inr (11, [.ref a_book, .ref a_now, .int m_sights, .ref a_sight, .int m_signs, .ref a_pad, .int j43.2.1, .int j43.2.2.1, .int j121, .int j43.1, .int (m_acts_11 + 1), .ref a_digits, .ref a_without, .ref a_with, .ref a_counts, .ref a_fewest, .ref a_ways, .ref a_more, .ref a_chooses, .ref a_image, .ref a_isKept])), cm_kI cI a_book 31 m_book, cm_kI cI a_now 31 j43.2.2.2] H := hP
                  have hD : va_D A [cm_kI cI a_pad 60 m_pad, (a, .inr (11, [.ref a_book, .ref a_now, .int m_sights, .ref a_sight, .int m_signs, .ref a_pad, .int j43.2.1, .int j43.2.2.1, .int j121, .int j43.1, .int (m_acts_11 + 1), .ref a_digits, .ref a_without, .ref a_with, .ref a_counts, .ref a_fewest, .ref a_ways, .ref a_more, .ref a_chooses, .ref a_image, .ref a_isKept])), cm_kI cI a_book 31 m_book, cm_kI cI a_now 31 j43.2.2.2] := hD
                  refine lv_goto (pc := 155) (tgt := 11) hx hb dX11_goWeeks_155 (by decide) ?_
                  exact ih (v1_11 + j63) j43.2.1 j43.2.2.1 j121 j43.1 (m_acts_11 + 1) j43.2.2.2 _ _ _ hP hD hS (lv_sub hl [0, 1] rfl) hf
                clear hf
                have hf := hj121
                refine lv_icmp_le (pc := 121) (tgt := 138) hx hb dX11_goWeeks_121 (by decide) (fun c_121 => ?_) (fun c_121 => ?_)
                · have hf := cm_ip c_121 hf
                  refine lv_aload_n (pc := 138) hx hb dX11_goWeeks_138 rfl (lv_at hl 2 rfl) ?_
                  refine va_get (pc := 139) (D := D) (ci := 11) (v := .int m_marketAt_11) (C := RX11) (T := TX11) (N := 21) hx hb hts in_X11 hown hKa hP 1 rfl rfl 8 (by decide) (hts _ tw_720) (fun _ h9 => h9) rfl dX11_goWeeks_139 ?_
                  obtain rfl := hf
                  exact J121 _ _ _ hP hD hS (lv_sub hl [0, 2] rfl)
                · have hf := cm_in c_121 hf
                  refine lv_aload_n (pc := 124) hx hb dX11_goWeeks_124 rfl (lv_at hl 2 rfl) ?_
                  refine va_get (pc := 125) (D := D) (ci := 11) (v := .int m_marketAt_11) (C := RX11) (T := TX11) (N := 21) hx hb hts in_X11 hown hKa hP 1 rfl rfl 8 (by decide) (hts _ tw_720) (fun _ h9 => h9) rfl dX11_goWeeks_125 ?_
                  refine lv_if_ge (pc := 128) (tgt := 138) hx hb dX11_goWeeks_128 (by decide) (fun c_128 => ?_) (fun c_128 => ?_)
                  · have hf := cm_ip c_128 hf
                    refine lv_aload_n (pc := 138) hx hb dX11_goWeeks_138 rfl (lv_at hl 2 rfl) ?_
                    refine va_get (pc := 139) (D := D) (ci := 11) (v := .int m_marketAt_11) (C := RX11) (T := TX11) (N := 21) hx hb hts in_X11 hown hKa hP 1 rfl rfl 8 (by decide) (hts _ tw_720) (fun _ h9 => h9) rfl dX11_goWeeks_139 ?_
                    obtain rfl := hf
                    exact J121 _ _ _ hP hD hS (lv_sub hl [0, 2] rfl)
                  · have hf := cm_in c_128 hf
                    refine lv_aload_n (pc := 131) hx hb dX11_goWeeks_131 rfl (lv_at hl 2 rfl) ?_
                    refine va_get (pc := 132) (D := D) (ci := 11) (v := .int m_acts_11) (C := RX11) (T := TX11) (N := 21) hx hb hts in_X11 hown hKa hP 1 rfl rfl 10 (by decide) (hts _ tw_722) (fun _ h9 => h9) rfl dX11_goWeeks_132 ?_
                    refine lv_goto (pc := 135) (tgt := 142) hx hb dX11_goWeeks_135 (by decide) ?_
                    obtain rfl := hf
                    exact J121 _ _ _ hP hD hS (lv_sub hl [0, 2] rfl)
              · have hf := cm_in c_107 hf
                refine lv_aload_n (pc := 110) hx hb dX11_goWeeks_110 rfl (lv_at hl 2 rfl) ?_
                refine va_get (pc := 111) (D := D) (ci := 11) (v := .int m_acts_11) (C := RX11) (T := TX11) (N := 21) hx hb hts in_X11 hown hKa hP 1 rfl rfl 10 (by decide) (hts _ tw_722) (fun _ h9 => h9) rfl dX11_goWeeks_111 ?_
                obtain rfl := Option.some.inj hf
                exact cm_iret (pc := 114) hAe hQ hx hb hr hlocks hP hD hS [1, 2, 3, 0] (by decide) rfl dX11_goWeeks_114
            clear hf
            have hf := hj63
            refine lv_if_eq (pc := 63) (tgt := 70) hx hb dX11_goWeeks_63 (by decide) (fun c_63 => ?_) (fun c_63 => ?_)
            · have hf := cm_ip c_63 hf
              refine lv_aload_n (pc := 70) hx hb dX11_goWeeks_70 rfl (lv_at hl 3 rfl) ?_
              refine va_get (pc := 71) (D := D) (ci := 11) (v := .ref a_pad) (C := RX11) (T := TX11) (N := 21) hx hb hts in_X11 hown hKa hP 1 rfl rfl 5 (by decide) (hts _ tw_717) (fun _ h9 => h9) rfl dX11_goWeeks_71 ?_
              refine lv_iload_n (pc := 74) hx hb dX11_goWeeks_74 rfl (lv_at hl 2 rfl) ?_
              refine lv_iconst (pc := 75) (v := 1) hx hb dX11_goWeeks_75 (by decide) ?_
              refine lv_iadd (pc := 76) hx hb dX11_goWeeks_76 ?_
              obtain ⟨b_77, hf⟩ := cm_ob hf
              refine va_iald (pc := 77) hx hb hKa hP 0 0 rfl rfl b_77 dX11_goWeeks_77 ?_
              refine lv_bipush (pc := 78) (v := 62) hx hb dX11_goWeeks_78 (by decide) ?_
              refine lv_icmp_eq (pc := 80) (tgt := 96) hx hb dX11_goWeeks_80 (by decide) (fun c_80 => ?_) (fun c_80 => ?_)
              · have hf := cm_ip c_80 hf
                refine lv_iconst (pc := 96) (v := 3) hx hb dX11_goWeeks_96 (by decide) ?_
                refine lv_goto (pc := 97) (tgt := 101) hx hb dX11_goWeeks_97 (by decide) ?_
                obtain rfl := Option.some.inj hf
                exact J63 _ _ _ hP hD hS (lv_sub hl [1, 3] rfl)
              · have hf := cm_in c_80 hf
                refine lv_aload_n (pc := 83) hx hb dX11_goWeeks_83 rfl (lv_at hl 3 rfl) ?_
                refine va_get (pc := 84) (D := D) (ci := 11) (v := .ref a_pad) (C := RX11) (T := TX11) (N := 21) hx hb hts in_X11 hown hKa hP 1 rfl rfl 5 (by decide) (hts _ tw_717) (fun _ h9 => h9) rfl dX11_goWeeks_84 ?_
                refine lv_iload_n (pc := 87) hx hb dX11_goWeeks_87 rfl (lv_at hl 2 rfl) ?_
                refine lv_iconst (pc := 88) (v := 1) hx hb dX11_goWeeks_88 (by decide) ?_
                refine lv_iadd (pc := 89) hx hb dX11_goWeeks_89 ?_
                obtain ⟨b_90, hf⟩ := cm_ob hf
                refine va_iald (pc := 90) hx hb hKa hP 0 0 rfl rfl b_90 dX11_goWeeks_90 ?_
                refine lv_bipush (pc := 91) (v := 36) hx hb dX11_goWeeks_91 (by decide) ?_
                refine lv_icmp_ne (pc := 93) (tgt := 100) hx hb dX11_goWeeks_93 (by decide) (fun c_93 => ?_) (fun c_93 => ?_)
                · have hf := cm_in c_93 hf
                  refine lv_iconst (pc := 100) (v := 2) hx hb dX11_goWeeks_100 (by decide) ?_
                  obtain rfl := Option.some.inj hf
                  exact J63 _ _ _ hP hD hS (lv_sub hl [1, 3] rfl)
                · have hf := cm_ip c_93 hf
                  refine lv_iconst (pc := 96) (v := 3) hx hb dX11_goWeeks_96 (by decide) ?_
                  refine lv_goto (pc := 97) (tgt := 101) hx hb dX11_goWeeks_97 (by decide) ?_
                  obtain rfl := Option.some.inj hf
                  exact J63 _ _ _ hP hD hS (lv_sub hl [1, 3] rfl)
            · have hf := cm_in c_63 hf
              refine lv_iconst (pc := 66) (v := 1) hx hb dX11_goWeeks_66 (by decide) ?_
              refine lv_goto (pc := 67) (tgt := 101) hx hb dX11_goWeeks_67 (by decide) ?_
              obtain rfl := Option.some.inj hf
              exact J63 _ _ _ hP hD hS (lv_sub hl [1, 3] rfl)
          clear hf
          have hf := hj43
          refine lv_if_eq (pc := 43) (tgt := 53) hx hb dX11_goWeeks_43 (by decide) (fun c_43 => ?_) (fun c_43 => ?_)
          · have hf := cm_ip c_43 hf
            refine lv_aload_n (pc := 53) hx hb dX11_goWeeks_53 rfl (lv_at hl 3 rfl) ?_
            refine lv_iload_n (pc := 54) hx hb dX11_goWeeks_54 rfl (lv_at hl 2 rfl) ?_
            obtain ⟨u55, hu55, hf⟩ := cm_bd hf
            refine cm_callV (pc := 55) (As := [.int v1_11]) (rest := [.ref a]) (wr := [cm_kI cI a_book 31 m_book]) (ci := 11) (q0 := 1) (n := 1) hx hb hml hown hts hK hP hD hS hA (c_X11_oneAct l D cI cJ cZ a a_book a_now a_sight a_pad a_digits a_without a_with a_counts a_fewest a_ways a_more a_chooses a_image a_isKept m_sights m_signs m_sold_11 m_markets_11 m_marketAt_11 m_reason_11 m_acts_11 m_now_11 m_pad v1_11 u55 hu55) tw_838 tw_835 tw_837 tw_34 tw_56 rfl rfl (by decide +kernel) rfl ⟨Nat.le_of_ble_eq_true rfl, Nat.le_of_ble_eq_true rfl⟩ [1, 3, 0] [2] rfl (by decide) rfl (by decide) (by decide) rfl rfl rfl hl.1 rfl (Nat.le_of_ble_eq_true rfl) dX11_goWeeks_55 ⟨Nat.zero_le _, Nat.zero_le _⟩ (fun H locs hP hD hS => ?_)
            have hP : va_P D vwCl [cm_kI cI a_book 31 m_book, (a, .inr (11, [.ref a_book, .ref a_now, .int m_sights, .ref a_sight, .int m_signs, .ref a_pad, .int m_sold_11, .int m_markets_11, .int m_marketAt_11, .int m_reason_11, .int m_acts_11, .ref a_digits, .ref a_without, .ref a_with, .ref a_counts, .ref a_fewest, .ref a_ways, .ref a_more, .ref a_chooses, .ref a_image, .ref a_isKept])), cm_kI cI a_now 31 u55.2, cm_kI cI a_pad 60 m_pad] H := hP
            have hD : va_D A [cm_kI cI a_book 31 m_book, (a, .inr (11, [.ref a_book, .ref a_now, .int m_sights, .ref a_sight, .int m_signs, .ref a_pad, .int m_sold_11, .int m_markets_11, .int m_marketAt_11, .int m_reason_11, .int m_acts_11, .ref a_digits, .ref a_without, .ref a_with, .ref a_counts, .ref a_fewest, .ref a_ways, .ref a_more, .ref a_chooses, .ref a_image, .ref a_isKept])), cm_kI cI a_now 31 u55.2, cm_kI cI a_pad 60 m_pad] := hD
            refine W.eq (g2 := F0 m 58 ls [.int u55.1, .ref a]) rfl ?_
            obtain rfl := Option.some.inj hf
            have hP := hP.sub (ws' := [cm_kI cI a_pad 60 m_pad, (a, .inr (11, [.ref a_book, .ref a_now, .int m_sights, .ref a_sight, .int m_signs, .ref a_pad, .int m_sold_11, .int m_markets_11, .int m_marketAt_11, .int m_reason_11, .int m_acts_11, .ref a_digits, .ref a_without, .ref a_with, .ref a_counts, .ref a_fewest, .ref a_ways, .ref a_more, .ref a_chooses, .ref a_image, .ref a_isKept])), cm_kI cI a_book 31 m_book, cm_kI cI a_now 31 u55.2]) [3, 1, 0, 2] rfl
            have hD := hD.sub (ws' := [cm_kI cI a_pad 60 m_pad, (a, .inr (11, [.ref a_book, .ref a_now, .int m_sights, .ref a_sight, .int m_signs, .ref a_pad, .int m_sold_11, .int m_markets_11, .int m_marketAt_11, .int m_reason_11, .int m_acts_11, .ref a_digits, .ref a_without, .ref a_with, .ref a_counts, .ref a_fewest, .ref a_ways, .ref a_more, .ref a_chooses, .ref a_image, .ref a_isKept])), cm_kI cI a_book 31 m_book, cm_kI cI a_now 31 u55.2]) [3, 1, 0, 2] (by decide) rfl
            exact J43 _ _ _ hP hD hS (lv_sub hl [0, 1, 2, 3] rfl)
          · have hf := cm_in c_43 hf
            refine lv_aload_n (pc := 46) hx hb dX11_goWeeks_46 rfl (lv_at hl 3 rfl) ?_
            obtain ⟨u47, hu47, hf⟩ := cm_bd hf
            refine cm_callV (pc := 47) (As := []) (rest := [.ref a]) (wr := [cm_kI cI a_pad 60 m_pad, cm_kI cI a_book 31 m_book]) (ci := 11) (q0 := 1) (n := 0) hx hb hml hown hts hK hP hD hS hA (c_X11_endNight l D cI cJ cZ a a_book a_now a_sight a_pad a_digits a_without a_with a_counts a_fewest a_ways a_more a_chooses a_image a_isKept m_sights m_signs m_sold_11 m_markets_11 m_marketAt_11 m_reason_11 m_acts_11 m_now_11 u47 hu47) tw_826 tw_823 tw_825 tw_31 tw_56 rfl rfl (by decide +kernel) rfl ⟨Nat.le_of_ble_eq_true rfl, Nat.le_of_ble_eq_true rfl⟩ [1, 3] [0, 2] rfl (by decide) rfl (by decide) (by decide) rfl rfl rfl hl.1 rfl (Nat.le_of_ble_eq_true rfl) dX11_goWeeks_47 ⟨Nat.zero_le _, Nat.zero_le _⟩ (fun H locs hP hD hS => ?_)
            have hP : va_P D vwCl [cm_kI cI a_pad 60 m_pad, cm_kI cI a_book 31 m_book, (a, .inr (11, [.ref a_book, .ref a_now, .int m_sights, .ref a_sight, .int m_signs, .ref a_pad, .int u47.2.1, .int u47.2.2.1, .int m_marketAt_11, .int m_reason_11, .int m_acts_11, .ref a_digits, .ref a_without, .ref a_with, .ref a_counts, .ref a_fewest, .ref a_ways, .ref a_more, .ref a_chooses, .ref a_image, .ref a_isKept])), cm_kI cI a_now 31 u47.2.2.2] H := hP
            have hD : va_D A [cm_kI cI a_pad 60 m_pad, cm_kI cI a_book 31 m_book, (a, .inr (11, [.ref a_book, .ref a_now, .int m_sights, .ref a_sight, .int m_signs, .ref a_pad, .int u47.2.1, .int u47.2.2.1, .int m_marketAt_11, .int m_reason_11, .int m_acts_11, .ref a_digits, .ref a_without, .ref a_with, .ref a_counts, .ref a_fewest, .ref a_ways, .ref a_more, .ref a_chooses, .ref a_image, .ref a_isKept])), cm_kI cI a_now 31 u47.2.2.2] := hD
            refine W.eq (g2 := F0 m 50 ls [.int u47.1, .ref a]) rfl ?_
            refine lv_goto (pc := 50) (tgt := 58) hx hb dX11_goWeeks_50 (by decide) ?_
            obtain rfl := Option.some.inj hf
            have hP := hP.sub (ws' := [cm_kI cI a_pad 60 m_pad, (a, .inr (11, [.ref a_book, .ref a_now, .int m_sights, .ref a_sight, .int m_signs, .ref a_pad, .int u47.2.1, .int u47.2.2.1, .int m_marketAt_11, .int m_reason_11, .int m_acts_11, .ref a_digits, .ref a_without, .ref a_with, .ref a_counts, .ref a_fewest, .ref a_ways, .ref a_more, .ref a_chooses, .ref a_image, .ref a_isKept])), cm_kI cI a_book 31 m_book, cm_kI cI a_now 31 u47.2.2.2]) [0, 2, 1, 3] rfl
            have hD := hD.sub (ws' := [cm_kI cI a_pad 60 m_pad, (a, .inr (11, [.ref a_book, .ref a_now, .int m_sights, .ref a_sight, .int m_signs, .ref a_pad, .int u47.2.1, .int u47.2.2.1, .int m_marketAt_11, .int m_reason_11, .int m_acts_11, .ref a_digits, .ref a_without, .ref a_with, .ref a_counts, .ref a_fewest, .ref a_ways, .ref a_more, .ref a_chooses, .ref a_image, .ref a_isKept])), cm_kI cI a_book 31 m_book, cm_kI cI a_now 31 u47.2.2.2]) [0, 2, 1, 3] (by decide) rfl
            exact J43 _ _ _ hP hD hS (lv_sub hl [0, 1, 2, 3] rfl)
        clear hf
        have hf := hj32
        refine lv_icmp_ne (pc := 32) (tgt := 39) hx hb dX11_goWeeks_32 (by decide) (fun c_32 => ?_) (fun c_32 => ?_)
        · have hf := cm_in c_32 hf
          refine lv_iconst (pc := 39) (v := 0) hx hb dX11_goWeeks_39 (by decide) ?_
          obtain rfl := hf
          exact J32 _ _ _ hP hD hS (lv_sub hl [0, 1, 2] rfl)
        · have hf := cm_ip c_32 hf
          refine lv_iconst (pc := 35) (v := 1) hx hb dX11_goWeeks_35 (by decide) ?_
          refine lv_goto (pc := 36) (tgt := 40) hx hb dX11_goWeeks_36 (by decide) ?_
          obtain rfl := hf
          exact J32 _ _ _ hP hD hS (lv_sub hl [0, 1, 2] rfl)
  refine L11 _ (fun v1_11 m_sold_11 m_markets_11 m_marketAt_11 m_reason_11 m_acts_11 m_now_11 H locs ls hP hD hS hl hf => ?_) 5000 0 u1.1 u1.2.1 u1.2.2.1 m_reason 0 u1.2.2.2 _ _ _ hP hD hS (lv_sub hl [0, 1] rfl) hf
  refine lv_bipush (pc := 158) (v := (-6)) hx hb dX11_goWeeks_158 (by decide) ?_
  obtain rfl := Option.some.inj hf
  exact cm_iret (pc := 160) hAe hQ hx hb hr hlocks hP hD hS [1, 2, 3, 0] (by decide) rfl dX11_goWeeks_160
def fX11_judge (v1 : Int32) (m_signs : Int32) (m_sold : Int32) (m_markets : Int32) (m_marketAt : Int32) (m_reason : Int32) (m_acts : Int32) (m_book : (Nat → Int32)) (m_now : (Nat → Int32)) (m_pad : (Nat → Int32)) : Option (Int32 × Int32 × Int32 × Int32 × Int32 × Int32 × (Nat → Int32)) := cm_let (fX11_in v1 0 1) (fun u3 => (if u3 = 0 then some ((-2), m_sold, m_markets, m_marketAt, m_reason, m_acts, m_now) else Option.bind (fX11_faultOf m_signs m_pad) (fun u13 => (if u13 < 0 then Option.bind (fX11_goWeeks m_signs m_sold m_markets m_marketAt m_reason m_acts m_book m_now m_pad) (fun u23 => (if u23.1 < 0 then some (u23.1, u23.2.1, u23.2.2.1, u23.2.2.2.1, u23.2.2.2.2.1, u23.2.2.2.2.2.1, u23.2.2.2.2.2.2) else (if v1 = 0 then some (u23.1, u23.2.1, u23.2.2.1, u23.2.2.2.1, u23.2.2.2.2.1, u23.2.2.2.2.2.1, u23.2.2.2.2.2.2) else some (u23.2.2.2.2.1, u23.2.1, u23.2.2.1, u23.2.2.2.1, u23.2.2.2.2.1, u23.2.2.2.2.2.1, u23.2.2.2.2.2.2)))) else some ((-5), m_sold, m_markets, m_marketAt, m_reason, m_acts, m_now)))))
def rmX11_judge : Room := { frames := 4, cells := 0, slots := 0, locals := 90 }
set_option maxRecDepth 100000 in
set_option maxHeartbeats 4000000 in
theorem c_X11_judge (l : Launch) (D : va_G) (cI cJ cZ : ClassId) (a a_book a_now a_sight a_pad a_digits a_without a_with a_counts a_fewest a_ways a_more a_chooses a_image a_isKept : Nat) (m_sights : Int32) (m_signs : Int32) (m_sold : Int32) (m_markets : Int32) (m_marketAt : Int32) (m_reason : Int32) (m_acts : Int32) (m_book : (Nat → Int32)) (m_now : (Nat → Int32)) (m_pad : (Nat → Int32)) (v1 : Int32) (res : Int32 × Int32 × Int32 × Int32 × Int32 × Int32 × (Nat → Int32)) (hf : fX11_judge v1 m_signs m_sold m_markets m_marketAt m_reason m_acts m_book m_now m_pad = some res) : Ct l yX11_judge (cm_ws yX11_judge cX11_judge 3 (some .int)) rmX11_judge D (cm_T cI cJ cZ) [.ref a, .int v1] [(a, .inr (11, [.ref a_book, .ref a_now, .int m_sights, .ref a_sight, .int m_signs, .ref a_pad, .int m_sold, .int m_markets, .int m_marketAt, .int m_reason, .int m_acts, .ref a_digits, .ref a_without, .ref a_with, .ref a_counts, .ref a_fewest, .ref a_ways, .ref a_more, .ref a_chooses, .ref a_image, .ref a_isKept])), cm_kI cI a_book 31 m_book, cm_kI cI a_now 31 m_now, cm_kI cI a_pad 60 m_pad] (some (.int res.1)) [(a, .inr (11, [.ref a_book, .ref a_now, .int m_sights, .ref a_sight, .int m_signs, .ref a_pad, .int res.2.1, .int res.2.2.1, .int res.2.2.2.1, .int res.2.2.2.2.1, .int res.2.2.2.2.2.1, .ref a_digits, .ref a_without, .ref a_with, .ref a_counts, .ref a_fewest, .ref a_ways, .ref a_more, .ref a_chooses, .ref a_image, .ref a_isKept])), cm_kI cI a_book 31 m_book, cm_kI cI a_now 31 res.2.2.2.2.2.2, cm_kI cI a_pad 60 m_pad] := by
  refine Ct.of (cc := cX11_judge) (maxL := 3) (ret := (some .int)) (by decide) (Nat.le_of_ble_eq_true rfl) ?_
  intro p e s m below meth c ls args A Q hav hAe hQ hx hb hr hml hown hlocks hts hK hP hD hA hS hl
  have hKa := hK.1
  have hl : lv_has ls 3 [(0, .ref a), (1, .int v1)] := hl
  unfold fX11_judge at hf
  refine lv_iload_n (pc := 0) hx hb dX11_judge_0 rfl (lv_at hl 1 rfl) ?_
  refine lv_iconst (pc := 1) (v := 0) hx hb dX11_judge_1 (by decide) ?_
  refine lv_iconst (pc := 2) (v := 1) hx hb dX11_judge_2 (by decide) ?_
  obtain ⟨u3, hu3, hf⟩ := cm_lt hf
  refine cm_callS (pc := 3) (As := [.int v1, .int 0, .int 1]) (rest := []) (wr := [(a, .inr (11, [.ref a_book, .ref a_now, .int m_sights, .ref a_sight, .int m_signs, .ref a_pad, .int m_sold, .int m_markets, .int m_marketAt, .int m_reason, .int m_acts, .ref a_digits, .ref a_without, .ref a_with, .ref a_counts, .ref a_fewest, .ref a_ways, .ref a_more, .ref a_chooses, .ref a_image, .ref a_isKept])), cm_kI cI a_book 31 m_book, cm_kI cI a_now 31 m_now, cm_kI cI a_pad 60 m_pad]) (n := 3) hx hb hml hown hts hK hP hD hS hA (c_X11_in l D cI cJ cZ v1 0 1 u3 hu3) tw_783 tw_781 tw_782 tw_56 rfl rfl (by decide +kernel) rfl ⟨Nat.le_of_ble_eq_true rfl, Nat.le_of_ble_eq_true rfl⟩ [] [0, 1, 2, 3] rfl (by decide) rfl (by decide) (by decide) hl.1 rfl (Nat.le_of_ble_eq_true rfl) dX11_judge_3 ⟨Nat.zero_le _, Nat.zero_le _⟩ (fun H locs hP hD hS => ?_)
  have hP : va_P D vwCl [(a, .inr (11, [.ref a_book, .ref a_now, .int m_sights, .ref a_sight, .int m_signs, .ref a_pad, .int m_sold, .int m_markets, .int m_marketAt, .int m_reason, .int m_acts, .ref a_digits, .ref a_without, .ref a_with, .ref a_counts, .ref a_fewest, .ref a_ways, .ref a_more, .ref a_chooses, .ref a_image, .ref a_isKept])), cm_kI cI a_book 31 m_book, cm_kI cI a_now 31 m_now, cm_kI cI a_pad 60 m_pad] H := hP
  have hD : va_D A [(a, .inr (11, [.ref a_book, .ref a_now, .int m_sights, .ref a_sight, .int m_signs, .ref a_pad, .int m_sold, .int m_markets, .int m_marketAt, .int m_reason, .int m_acts, .ref a_digits, .ref a_without, .ref a_with, .ref a_counts, .ref a_fewest, .ref a_ways, .ref a_more, .ref a_chooses, .ref a_image, .ref a_isKept])), cm_kI cI a_book 31 m_book, cm_kI cI a_now 31 m_now, cm_kI cI a_pad 60 m_pad] := hD
  refine W.eq (g2 := F0 m 6 ls [.int u3]) rfl ?_
  refine lv_if_ne (pc := 6) (tgt := 12) hx hb dX11_judge_6 (by decide) (fun c_6 => ?_) (fun c_6 => ?_)
  · have hf := cm_in c_6 hf
    refine lv_aload_n (pc := 12) hx hb dX11_judge_12 rfl (lv_at hl 0 rfl) ?_
    obtain ⟨u13, hu13, hf⟩ := cm_bd hf
    refine cm_callV (pc := 13) (As := []) (rest := []) (wr := [cm_kI cI a_book 31 m_book, cm_kI cI a_now 31 m_now]) (ci := 11) (q0 := 0) (n := 0) hx hb hml hown hts hK hP hD hS hA (c_X11_faultOf l D cI cJ cZ a a_book a_now a_sight a_pad a_digits a_without a_with a_counts a_fewest a_ways a_more a_chooses a_image a_isKept m_sights m_signs m_sold m_markets m_marketAt m_reason m_acts m_pad u13 hu13) tw_807 tw_804 tw_806 tw_28 tw_56 rfl rfl (by decide +kernel) rfl ⟨Nat.le_of_ble_eq_true rfl, Nat.le_of_ble_eq_true rfl⟩ [0, 3] [1, 2] rfl (by decide) rfl (by decide) (by decide) rfl rfl rfl hl.1 rfl (Nat.le_of_ble_eq_true rfl) dX11_judge_13 ⟨Nat.zero_le _, Nat.zero_le _⟩ (fun H locs hP hD hS => ?_)
    have hP : va_P D vwCl [cm_kI cI a_book 31 m_book, cm_kI cI a_now 31 m_now, (a, .inr (11, [.ref a_book, .ref a_now, .int m_sights, .ref a_sight, .int m_signs, .ref a_pad, .int m_sold, .int m_markets, .int m_marketAt, .int m_reason, .int m_acts, .ref a_digits, .ref a_without, .ref a_with, .ref a_counts, .ref a_fewest, .ref a_ways, .ref a_more, .ref a_chooses, .ref a_image, .ref a_isKept])), cm_kI cI a_pad 60 m_pad] H := hP
    have hD : va_D A [cm_kI cI a_book 31 m_book, cm_kI cI a_now 31 m_now, (a, .inr (11, [.ref a_book, .ref a_now, .int m_sights, .ref a_sight, .int m_signs, .ref a_pad, .int m_sold, .int m_markets, .int m_marketAt, .int m_reason, .int m_acts, .ref a_digits, .ref a_without, .ref a_with, .ref a_counts, .ref a_fewest, .ref a_ways, .ref a_more, .ref a_chooses, .ref a_image, .ref a_isKept])), cm_kI cI a_pad 60 m_pad] := hD
    refine W.eq (g2 := F0 m 16 ls [.int u13]) rfl ?_
    refine lv_if_lt (pc := 16) (tgt := 22) hx hb dX11_judge_16 (by decide) (fun c_16 => ?_) (fun c_16 => ?_)
    · have hf := cm_ip c_16 hf
      refine lv_aload_n (pc := 22) hx hb dX11_judge_22 rfl (lv_at hl 0 rfl) ?_
      obtain ⟨u23, hu23, hf⟩ := cm_bd hf
      refine cm_callV (pc := 23) (As := []) (rest := []) (wr := []) (ci := 11) (q0 := 2) (n := 0) hx hb hml hown hts hK hP hD hS hA (c_X11_goWeeks l D cI cJ cZ a a_book a_now a_sight a_pad a_digits a_without a_with a_counts a_fewest a_ways a_more a_chooses a_image a_isKept m_sights m_signs m_sold m_markets m_marketAt m_reason m_acts m_book m_now m_pad u23 hu23) tw_818 tw_815 tw_817 tw_29 tw_56 rfl rfl (by decide +kernel) rfl ⟨Nat.le_of_ble_eq_true rfl, Nat.le_of_ble_eq_true rfl⟩ [2, 0, 1, 3] [] rfl (by decide) rfl (by decide) (by decide) rfl rfl rfl hl.1 rfl (Nat.le_of_ble_eq_true rfl) dX11_judge_23 ⟨Nat.zero_le _, Nat.zero_le _⟩ (fun H locs hP hD hS => ?_)
      have hP : va_P D vwCl [(a, .inr (11, [.ref a_book, .ref a_now, .int m_sights, .ref a_sight, .int m_signs, .ref a_pad, .int u23.2.1, .int u23.2.2.1, .int u23.2.2.2.1, .int u23.2.2.2.2.1, .int u23.2.2.2.2.2.1, .ref a_digits, .ref a_without, .ref a_with, .ref a_counts, .ref a_fewest, .ref a_ways, .ref a_more, .ref a_chooses, .ref a_image, .ref a_isKept])), cm_kI cI a_book 31 m_book, cm_kI cI a_now 31 u23.2.2.2.2.2.2, cm_kI cI a_pad 60 m_pad] H := hP
      have hD : va_D A [(a, .inr (11, [.ref a_book, .ref a_now, .int m_sights, .ref a_sight, .int m_signs, .ref a_pad, .int u23.2.1, .int u23.2.2.1, .int u23.2.2.2.1, .int u23.2.2.2.2.1, .int u23.2.2.2.2.2.1, .ref a_digits, .ref a_without, .ref a_with, .ref a_counts, .ref a_fewest, .ref a_ways, .ref a_more, .ref a_chooses, .ref a_image, .ref a_isKept])), cm_kI cI a_book 31 m_book, cm_kI cI a_now 31 u23.2.2.2.2.2.2, cm_kI cI a_pad 60 m_pad] := hD
      refine W.eq (g2 := F0 m 26 ls [.int u23.1]) rfl ?_
      refine lv_istore_n (pc := 26) (lv' := [(2, .int u23.1), (0, .ref a), (1, .int v1)]) hx hb dX11_judge_26 rfl hl (by decide) rfl (fun ls hl => ?_)
      refine lv_iload_n (pc := 27) hx hb dX11_judge_27 rfl (lv_at hl 0 rfl) ?_
      refine lv_if_lt (pc := 28) (tgt := 35) hx hb dX11_judge_28 (by decide) (fun c_28 => ?_) (fun c_28 => ?_)
      · have hf := cm_ip c_28 hf
        refine lv_iload_n (pc := 35) hx hb dX11_judge_35 rfl (lv_at hl 0 rfl) ?_
        refine lv_goto (pc := 36) (tgt := 43) hx hb dX11_judge_36 (by decide) ?_
        obtain rfl := Option.some.inj hf
        exact cm_iret (pc := 43) hAe hQ hx hb hr hlocks hP hD hS [0, 1, 2, 3] (by decide) rfl dX11_judge_43
      · have hf := cm_in c_28 hf
        refine lv_iload_n (pc := 31) hx hb dX11_judge_31 rfl (lv_at hl 2 rfl) ?_
        refine lv_if_ne (pc := 32) (tgt := 39) hx hb dX11_judge_32 (by decide) (fun c_32 => ?_) (fun c_32 => ?_)
        · have hf := cm_in c_32 hf
          refine lv_aload_n (pc := 39) hx hb dX11_judge_39 rfl (lv_at hl 1 rfl) ?_
          refine va_get (pc := 40) (D := D) (ci := 11) (v := .int u23.2.2.2.2.1) (C := RX11) (T := TX11) (N := 21) hx hb hts in_X11 hown hKa hP 0 rfl rfl 9 (by decide) (hts _ tw_721) (fun _ h9 => h9) rfl dX11_judge_40 ?_
          obtain rfl := Option.some.inj hf
          exact cm_iret (pc := 43) hAe hQ hx hb hr hlocks hP hD hS [0, 1, 2, 3] (by decide) rfl dX11_judge_43
        · have hf := cm_ip c_32 hf
          refine lv_iload_n (pc := 35) hx hb dX11_judge_35 rfl (lv_at hl 0 rfl) ?_
          refine lv_goto (pc := 36) (tgt := 43) hx hb dX11_judge_36 (by decide) ?_
          obtain rfl := Option.some.inj hf
          exact cm_iret (pc := 43) hAe hQ hx hb hr hlocks hP hD hS [0, 1, 2, 3] (by decide) rfl dX11_judge_43
    · have hf := cm_in c_16 hf
      refine lv_bipush (pc := 19) (v := (-5)) hx hb dX11_judge_19 (by decide) ?_
      obtain rfl := Option.some.inj hf
      exact cm_iret (pc := 21) hAe hQ hx hb hr hlocks hP hD hS [2, 0, 1, 3] (by decide) rfl dX11_judge_21
  · have hf := cm_ip c_6 hf
    refine lv_bipush (pc := 9) (v := (-2)) hx hb dX11_judge_9 (by decide) ?_
    obtain rfl := Option.some.inj hf
    exact cm_iret (pc := 11) hAe hQ hx hb hr hlocks hP hD hS [0, 1, 2, 3] (by decide) rfl dX11_judge_11
def fX11_barOfWeeks (m_signs : Int32) (m_sold : Int32) (m_markets : Int32) (m_marketAt : Int32) (m_reason : Int32) (m_acts : Int32) (m_book : (Nat → Int32)) (m_now : (Nat → Int32)) (m_pad : (Nat → Int32)) : Option (Int32 × Int32 × Int32 × Int32 × Int32 × Int32 × (Nat → Int32)) := Option.bind (fX11_faultOf m_signs m_pad) (fun u1 => (if 0 ≤ u1 then some ((-5), m_sold, m_markets, m_marketAt, m_reason, m_acts, m_now) else Option.bind (fX11_goWeeks m_signs m_sold m_markets m_marketAt m_reason m_acts m_book m_now m_pad) (fun u8 => (if u8.1 < 0 then some (0, u8.2.1, u8.2.2.1, u8.2.2.2.1, u8.2.2.2.2.1, u8.2.2.2.2.2.1, u8.2.2.2.2.2.2) else some ((-5), u8.2.1, u8.2.2.1, u8.2.2.2.1, u8.2.2.2.2.1, u8.2.2.2.2.2.1, u8.2.2.2.2.2.2)))))
def rmX11_barOfWeeks : Room := { frames := 4, cells := 0, slots := 0, locals := 90 }
set_option maxRecDepth 100000 in
set_option maxHeartbeats 4000000 in
theorem c_X11_barOfWeeks (l : Launch) (D : va_G) (cI cJ cZ : ClassId) (a a_book a_now a_sight a_pad a_digits a_without a_with a_counts a_fewest a_ways a_more a_chooses a_image a_isKept : Nat) (m_sights : Int32) (m_signs : Int32) (m_sold : Int32) (m_markets : Int32) (m_marketAt : Int32) (m_reason : Int32) (m_acts : Int32) (m_book : (Nat → Int32)) (m_now : (Nat → Int32)) (m_pad : (Nat → Int32)) (res : Int32 × Int32 × Int32 × Int32 × Int32 × Int32 × (Nat → Int32)) (hf : fX11_barOfWeeks m_signs m_sold m_markets m_marketAt m_reason m_acts m_book m_now m_pad = some res) : Ct l yX11_barOfWeeks (cm_ws yX11_barOfWeeks cX11_barOfWeeks 1 (some .int)) rmX11_barOfWeeks D (cm_T cI cJ cZ) [.ref a] [(a, .inr (11, [.ref a_book, .ref a_now, .int m_sights, .ref a_sight, .int m_signs, .ref a_pad, .int m_sold, .int m_markets, .int m_marketAt, .int m_reason, .int m_acts, .ref a_digits, .ref a_without, .ref a_with, .ref a_counts, .ref a_fewest, .ref a_ways, .ref a_more, .ref a_chooses, .ref a_image, .ref a_isKept])), cm_kI cI a_book 31 m_book, cm_kI cI a_now 31 m_now, cm_kI cI a_pad 60 m_pad] (some (.int res.1)) [(a, .inr (11, [.ref a_book, .ref a_now, .int m_sights, .ref a_sight, .int m_signs, .ref a_pad, .int res.2.1, .int res.2.2.1, .int res.2.2.2.1, .int res.2.2.2.2.1, .int res.2.2.2.2.2.1, .ref a_digits, .ref a_without, .ref a_with, .ref a_counts, .ref a_fewest, .ref a_ways, .ref a_more, .ref a_chooses, .ref a_image, .ref a_isKept])), cm_kI cI a_book 31 m_book, cm_kI cI a_now 31 res.2.2.2.2.2.2, cm_kI cI a_pad 60 m_pad] := by
  refine Ct.of (cc := cX11_barOfWeeks) (maxL := 1) (ret := (some .int)) (by decide) (Nat.le_of_ble_eq_true rfl) ?_
  intro p e s m below meth c ls args A Q hav hAe hQ hx hb hr hml hown hlocks hts hK hP hD hA hS hl
  have hKa := hK.1
  have hl : lv_has ls 1 [(0, .ref a)] := hl
  unfold fX11_barOfWeeks at hf
  refine lv_aload_n (pc := 0) hx hb dX11_barOfWeeks_0 rfl (lv_at hl 0 rfl) ?_
  obtain ⟨u1, hu1, hf⟩ := cm_bd hf
  refine cm_callV (pc := 1) (As := []) (rest := []) (wr := [cm_kI cI a_book 31 m_book, cm_kI cI a_now 31 m_now]) (ci := 11) (q0 := 0) (n := 0) hx hb hml hown hts hK hP hD hS hA (c_X11_faultOf l D cI cJ cZ a a_book a_now a_sight a_pad a_digits a_without a_with a_counts a_fewest a_ways a_more a_chooses a_image a_isKept m_sights m_signs m_sold m_markets m_marketAt m_reason m_acts m_pad u1 hu1) tw_807 tw_804 tw_806 tw_28 tw_56 rfl rfl (by decide +kernel) rfl ⟨Nat.le_of_ble_eq_true rfl, Nat.le_of_ble_eq_true rfl⟩ [0, 3] [1, 2] rfl (by decide) rfl (by decide) (by decide) rfl rfl rfl hl.1 rfl (Nat.le_of_ble_eq_true rfl) dX11_barOfWeeks_1 ⟨Nat.zero_le _, Nat.zero_le _⟩ (fun H locs hP hD hS => ?_)
  have hP : va_P D vwCl [cm_kI cI a_book 31 m_book, cm_kI cI a_now 31 m_now, (a, .inr (11, [.ref a_book, .ref a_now, .int m_sights, .ref a_sight, .int m_signs, .ref a_pad, .int m_sold, .int m_markets, .int m_marketAt, .int m_reason, .int m_acts, .ref a_digits, .ref a_without, .ref a_with, .ref a_counts, .ref a_fewest, .ref a_ways, .ref a_more, .ref a_chooses, .ref a_image, .ref a_isKept])), cm_kI cI a_pad 60 m_pad] H := hP
  have hD : va_D A [cm_kI cI a_book 31 m_book, cm_kI cI a_now 31 m_now, (a, .inr (11, [.ref a_book, .ref a_now, .int m_sights, .ref a_sight, .int m_signs, .ref a_pad, .int m_sold, .int m_markets, .int m_marketAt, .int m_reason, .int m_acts, .ref a_digits, .ref a_without, .ref a_with, .ref a_counts, .ref a_fewest, .ref a_ways, .ref a_more, .ref a_chooses, .ref a_image, .ref a_isKept])), cm_kI cI a_pad 60 m_pad] := hD
  refine W.eq (g2 := F0 m 4 ls [.int u1]) rfl ?_
  refine lv_if_ge (pc := 4) (tgt := 14) hx hb dX11_barOfWeeks_4 (by decide) (fun c_4 => ?_) (fun c_4 => ?_)
  · have hf := cm_ip c_4 hf
    refine lv_bipush (pc := 14) (v := (-5)) hx hb dX11_barOfWeeks_14 (by decide) ?_
    refine lv_goto (pc := 16) (tgt := 20) hx hb dX11_barOfWeeks_16 (by decide) ?_
    obtain rfl := Option.some.inj hf
    exact cm_iret (pc := 20) hAe hQ hx hb hr hlocks hP hD hS [2, 0, 1, 3] (by decide) rfl dX11_barOfWeeks_20
  · have hf := cm_in c_4 hf
    refine lv_aload_n (pc := 7) hx hb dX11_barOfWeeks_7 rfl (lv_at hl 0 rfl) ?_
    obtain ⟨u8, hu8, hf⟩ := cm_bd hf
    refine cm_callV (pc := 8) (As := []) (rest := []) (wr := []) (ci := 11) (q0 := 2) (n := 0) hx hb hml hown hts hK hP hD hS hA (c_X11_goWeeks l D cI cJ cZ a a_book a_now a_sight a_pad a_digits a_without a_with a_counts a_fewest a_ways a_more a_chooses a_image a_isKept m_sights m_signs m_sold m_markets m_marketAt m_reason m_acts m_book m_now m_pad u8 hu8) tw_818 tw_815 tw_817 tw_29 tw_56 rfl rfl (by decide +kernel) rfl ⟨Nat.le_of_ble_eq_true rfl, Nat.le_of_ble_eq_true rfl⟩ [2, 0, 1, 3] [] rfl (by decide) rfl (by decide) (by decide) rfl rfl rfl hl.1 rfl (Nat.le_of_ble_eq_true rfl) dX11_barOfWeeks_8 ⟨Nat.zero_le _, Nat.zero_le _⟩ (fun H locs hP hD hS => ?_)
    have hP : va_P D vwCl [(a, .inr (11, [.ref a_book, .ref a_now, .int m_sights, .ref a_sight, .int m_signs, .ref a_pad, .int u8.2.1, .int u8.2.2.1, .int u8.2.2.2.1, .int u8.2.2.2.2.1, .int u8.2.2.2.2.2.1, .ref a_digits, .ref a_without, .ref a_with, .ref a_counts, .ref a_fewest, .ref a_ways, .ref a_more, .ref a_chooses, .ref a_image, .ref a_isKept])), cm_kI cI a_book 31 m_book, cm_kI cI a_now 31 u8.2.2.2.2.2.2, cm_kI cI a_pad 60 m_pad] H := hP
    have hD : va_D A [(a, .inr (11, [.ref a_book, .ref a_now, .int m_sights, .ref a_sight, .int m_signs, .ref a_pad, .int u8.2.1, .int u8.2.2.1, .int u8.2.2.2.1, .int u8.2.2.2.2.1, .int u8.2.2.2.2.2.1, .ref a_digits, .ref a_without, .ref a_with, .ref a_counts, .ref a_fewest, .ref a_ways, .ref a_more, .ref a_chooses, .ref a_image, .ref a_isKept])), cm_kI cI a_book 31 m_book, cm_kI cI a_now 31 u8.2.2.2.2.2.2, cm_kI cI a_pad 60 m_pad] := hD
    refine W.eq (g2 := F0 m 11 ls [.int u8.1]) rfl ?_
    refine lv_if_lt (pc := 11) (tgt := 19) hx hb dX11_barOfWeeks_11 (by decide) (fun c_11 => ?_) (fun c_11 => ?_)
    · have hf := cm_ip c_11 hf
      refine lv_iconst (pc := 19) (v := 0) hx hb dX11_barOfWeeks_19 (by decide) ?_
      obtain rfl := Option.some.inj hf
      exact cm_iret (pc := 20) hAe hQ hx hb hr hlocks hP hD hS [0, 1, 2, 3] (by decide) rfl dX11_barOfWeeks_20
    · have hf := cm_in c_11 hf
      refine lv_bipush (pc := 14) (v := (-5)) hx hb dX11_barOfWeeks_14 (by decide) ?_
      refine lv_goto (pc := 16) (tgt := 20) hx hb dX11_barOfWeeks_16 (by decide) ?_
      obtain rfl := Option.some.inj hf
      exact cm_iret (pc := 20) hAe hQ hx hb hr hlocks hP hD hS [0, 1, 2, 3] (by decide) rfl dX11_barOfWeeks_20
