def fX10_seen (v1 : Int32) (v2 : Int32) (v3 : Int32) (sights_si : SSI) : Option (Int32 × SSI) := cm_let (fX10_isWithin v1 0 9) (fun u4 => (if u4 = 0 then some ((-2), sights_si) else cm_let (fX10_isWithin v2 0 9) (fun u14 => (if u14 = 0 then some ((-2), sights_si) else cm_let (fX10_isWithin v3 0 2) (fun u23 => (if u23 = 0 then some ((-2), sights_si) else Option.bind (fX6_add (v1 - v2) v3 sights_si) (fun u40 => (if u40.1 = 0 then some ((-4), u40.2) else some (u40.2.2.2.2, u40.2)))))))))
def rmX10_seen : Room := { frames := 1, cells := 0, slots := 0, locals := 22 }
set_option maxRecDepth 100000 in
set_option maxHeartbeats 4000000 in
theorem c_X10_seen (l : Launch) (D : va_G) (cI cJ cZ : ClassId) (a a_now a_pad a_trial a_sights a_im0 a_im1 a_digits a_voters a_trades a_bells a_sights_leads a_sights_answers a_sights_slatesByGap : Nat) (sights_si : SSI) (v1 : Int32) (v2 : Int32) (v3 : Int32) (res : Int32 × SSI) (hf : fX10_seen v1 v2 v3 sights_si = some res) : Ct l yX10_seen (cm_ws yX10_seen cX10_seen 4 (some .int)) rmX10_seen D (cm_T cI cJ cZ) [.ref a, .int v1, .int v2, .int v3] [(a, .inr (10, [.ref a_now, .ref a_pad, .ref a_trial, .ref a_sights, .ref a_im0, .ref a_im1, .ref a_digits, .ref a_voters, .ref a_trades, .ref a_bells])), (a_sights, .inr (6, [.ref a_sights_leads, .ref a_sights_answers, .ref a_sights_slatesByGap, .int sights_si.2.2.2])), cm_kI cI a_sights_leads 8 sights_si.1, cm_kI cI a_sights_answers 8 sights_si.2.1, cm_kI cI a_sights_slatesByGap 17 sights_si.2.2.1] (some (.int res.1)) [(a, .inr (10, [.ref a_now, .ref a_pad, .ref a_trial, .ref a_sights, .ref a_im0, .ref a_im1, .ref a_digits, .ref a_voters, .ref a_trades, .ref a_bells])), (a_sights, .inr (6, [.ref a_sights_leads, .ref a_sights_answers, .ref a_sights_slatesByGap, .int res.2.2.2.2])), cm_kI cI a_sights_leads 8 res.2.1, cm_kI cI a_sights_answers 8 res.2.2.1, cm_kI cI a_sights_slatesByGap 17 res.2.2.2.1] := by
  refine Ct.of (cc := cX10_seen) (maxL := 4) (ret := (some .int)) (by decide) (Nat.le_of_ble_eq_true rfl) ?_
  intro p e s m below meth c ls args A Q hav hAe hQ hx hb hr hml hown hlocks hts hK hP hD hA hS hl
  have hKa := hK.1
  have hl : lv_has ls 4 [(0, .ref a), (1, .int v1), (2, .int v2), (3, .int v3)] := hl
  unfold fX10_seen at hf
  refine lv_iload_n (pc := 0) hx hb dX10_seen_0 rfl (lv_at hl 1 rfl) ?_
  refine lv_iconst (pc := 1) (v := 0) hx hb dX10_seen_1 (by decide) ?_
  refine lv_bipush (pc := 2) (v := 9) hx hb dX10_seen_2 (by decide) ?_
  obtain ⟨u4, hu4, hf⟩ := cm_lt hf
  refine cm_callS (pc := 4) (As := [.int v1, .int 0, .int 9]) (rest := []) (wr := [(a, .inr (10, [.ref a_now, .ref a_pad, .ref a_trial, .ref a_sights, .ref a_im0, .ref a_im1, .ref a_digits, .ref a_voters, .ref a_trades, .ref a_bells])), (a_sights, .inr (6, [.ref a_sights_leads, .ref a_sights_answers, .ref a_sights_slatesByGap, .int sights_si.2.2.2])), cm_kI cI a_sights_leads 8 sights_si.1, cm_kI cI a_sights_answers 8 sights_si.2.1, cm_kI cI a_sights_slatesByGap 17 sights_si.2.2.1]) (n := 3) hx hb hml hown hts hK hP hD hS hA (c_X10_isWithin l D cI cJ cZ v1 0 9 u4 hu4) tw_312 tw_310 tw_311 tw_45 rfl rfl (by decide +kernel) rfl ⟨Nat.le_of_ble_eq_true rfl, Nat.le_of_ble_eq_true rfl⟩ [] [0, 1, 2, 3, 4] rfl (by decide) rfl (by decide) (by decide) hl.1 rfl (Nat.le_of_ble_eq_true rfl) dX10_seen_4 ⟨Nat.zero_le _, Nat.zero_le _⟩ (fun H locs hP hD hS => ?_)
  have hP : va_P D vwCl [(a, .inr (10, [.ref a_now, .ref a_pad, .ref a_trial, .ref a_sights, .ref a_im0, .ref a_im1, .ref a_digits, .ref a_voters, .ref a_trades, .ref a_bells])), (a_sights, .inr (6, [.ref a_sights_leads, .ref a_sights_answers, .ref a_sights_slatesByGap, .int sights_si.2.2.2])), cm_kI cI a_sights_leads 8 sights_si.1, cm_kI cI a_sights_answers 8 sights_si.2.1, cm_kI cI a_sights_slatesByGap 17 sights_si.2.2.1] H := hP
  have hD : va_D A [(a, .inr (10, [.ref a_now, .ref a_pad, .ref a_trial, .ref a_sights, .ref a_im0, .ref a_im1, .ref a_digits, .ref a_voters, .ref a_trades, .ref a_bells])), (a_sights, .inr (6, [.ref a_sights_leads, .ref a_sights_answers, .ref a_sights_slatesByGap, .int sights_si.2.2.2])), cm_kI cI a_sights_leads 8 sights_si.1, cm_kI cI a_sights_answers 8 sights_si.2.1, cm_kI cI a_sights_slatesByGap 17 sights_si.2.2.1] := hD
  refine W.eq (g2 := F0 m 7 ls [.int u4]) rfl ?_
  refine lv_if_eq (pc := 7) (tgt := 29) hx hb dX10_seen_7 (by decide) (fun c_7 => ?_) (fun c_7 => ?_)
  · have hf := cm_ip c_7 hf
    refine lv_bipush (pc := 29) (v := (-2)) hx hb dX10_seen_29 (by decide) ?_
    obtain rfl := Option.some.inj hf
    exact cm_iret (pc := 31) hAe hQ hx hb hr hlocks hP hD hS [0, 1, 2, 3, 4] (by decide) rfl dX10_seen_31
  · have hf := cm_in c_7 hf
    refine lv_iload_n (pc := 10) hx hb dX10_seen_10 rfl (lv_at hl 2 rfl) ?_
    refine lv_iconst (pc := 11) (v := 0) hx hb dX10_seen_11 (by decide) ?_
    refine lv_bipush (pc := 12) (v := 9) hx hb dX10_seen_12 (by decide) ?_
    obtain ⟨u14, hu14, hf⟩ := cm_lt hf
    refine cm_callS (pc := 14) (As := [.int v2, .int 0, .int 9]) (rest := []) (wr := [(a, .inr (10, [.ref a_now, .ref a_pad, .ref a_trial, .ref a_sights, .ref a_im0, .ref a_im1, .ref a_digits, .ref a_voters, .ref a_trades, .ref a_bells])), (a_sights, .inr (6, [.ref a_sights_leads, .ref a_sights_answers, .ref a_sights_slatesByGap, .int sights_si.2.2.2])), cm_kI cI a_sights_leads 8 sights_si.1, cm_kI cI a_sights_answers 8 sights_si.2.1, cm_kI cI a_sights_slatesByGap 17 sights_si.2.2.1]) (n := 3) hx hb hml hown hts hK hP hD hS hA (c_X10_isWithin l D cI cJ cZ v2 0 9 u14 hu14) tw_312 tw_310 tw_311 tw_45 rfl rfl (by decide +kernel) rfl ⟨Nat.le_of_ble_eq_true rfl, Nat.le_of_ble_eq_true rfl⟩ [] [0, 1, 2, 3, 4] rfl (by decide) rfl (by decide) (by decide) hl.1 rfl (Nat.le_of_ble_eq_true rfl) dX10_seen_14 ⟨Nat.zero_le _, Nat.zero_le _⟩ (fun H locs hP hD hS => ?_)
    have hP : va_P D vwCl [(a, .inr (10, [.ref a_now, .ref a_pad, .ref a_trial, .ref a_sights, .ref a_im0, .ref a_im1, .ref a_digits, .ref a_voters, .ref a_trades, .ref a_bells])), (a_sights, .inr (6, [.ref a_sights_leads, .ref a_sights_answers, .ref a_sights_slatesByGap, .int sights_si.2.2.2])), cm_kI cI a_sights_leads 8 sights_si.1, cm_kI cI a_sights_answers 8 sights_si.2.1, cm_kI cI a_sights_slatesByGap 17 sights_si.2.2.1] H := hP
    have hD : va_D A [(a, .inr (10, [.ref a_now, .ref a_pad, .ref a_trial, .ref a_sights, .ref a_im0, .ref a_im1, .ref a_digits, .ref a_voters, .ref a_trades, .ref a_bells])), (a_sights, .inr (6, [.ref a_sights_leads, .ref a_sights_answers, .ref a_sights_slatesByGap, .int sights_si.2.2.2])), cm_kI cI a_sights_leads 8 sights_si.1, cm_kI cI a_sights_answers 8 sights_si.2.1, cm_kI cI a_sights_slatesByGap 17 sights_si.2.2.1] := hD
    refine W.eq (g2 := F0 m 17 ls [.int u14]) rfl ?_
    refine lv_if_eq (pc := 17) (tgt := 29) hx hb dX10_seen_17 (by decide) (fun c_17 => ?_) (fun c_17 => ?_)
    · have hf := cm_ip c_17 hf
      refine lv_bipush (pc := 29) (v := (-2)) hx hb dX10_seen_29 (by decide) ?_
      obtain rfl := Option.some.inj hf
      exact cm_iret (pc := 31) hAe hQ hx hb hr hlocks hP hD hS [0, 1, 2, 3, 4] (by decide) rfl dX10_seen_31
    · have hf := cm_in c_17 hf
      refine lv_iload_n (pc := 20) hx hb dX10_seen_20 rfl (lv_at hl 3 rfl) ?_
      refine lv_iconst (pc := 21) (v := 0) hx hb dX10_seen_21 (by decide) ?_
      refine lv_iconst (pc := 22) (v := 2) hx hb dX10_seen_22 (by decide) ?_
      obtain ⟨u23, hu23, hf⟩ := cm_lt hf
      refine cm_callS (pc := 23) (As := [.int v3, .int 0, .int 2]) (rest := []) (wr := [(a, .inr (10, [.ref a_now, .ref a_pad, .ref a_trial, .ref a_sights, .ref a_im0, .ref a_im1, .ref a_digits, .ref a_voters, .ref a_trades, .ref a_bells])), (a_sights, .inr (6, [.ref a_sights_leads, .ref a_sights_answers, .ref a_sights_slatesByGap, .int sights_si.2.2.2])), cm_kI cI a_sights_leads 8 sights_si.1, cm_kI cI a_sights_answers 8 sights_si.2.1, cm_kI cI a_sights_slatesByGap 17 sights_si.2.2.1]) (n := 3) hx hb hml hown hts hK hP hD hS hA (c_X10_isWithin l D cI cJ cZ v3 0 2 u23 hu23) tw_312 tw_310 tw_311 tw_45 rfl rfl (by decide +kernel) rfl ⟨Nat.le_of_ble_eq_true rfl, Nat.le_of_ble_eq_true rfl⟩ [] [0, 1, 2, 3, 4] rfl (by decide) rfl (by decide) (by decide) hl.1 rfl (Nat.le_of_ble_eq_true rfl) dX10_seen_23 ⟨Nat.zero_le _, Nat.zero_le _⟩ (fun H locs hP hD hS => ?_)
      have hP : va_P D vwCl [(a, .inr (10, [.ref a_now, .ref a_pad, .ref a_trial, .ref a_sights, .ref a_im0, .ref a_im1, .ref a_digits, .ref a_voters, .ref a_trades, .ref a_bells])), (a_sights, .inr (6, [.ref a_sights_leads, .ref a_sights_answers, .ref a_sights_slatesByGap, .int sights_si.2.2.2])), cm_kI cI a_sights_leads 8 sights_si.1, cm_kI cI a_sights_answers 8 sights_si.2.1, cm_kI cI a_sights_slatesByGap 17 sights_si.2.2.1] H := hP
      have hD : va_D A [(a, .inr (10, [.ref a_now, .ref a_pad, .ref a_trial, .ref a_sights, .ref a_im0, .ref a_im1, .ref a_digits, .ref a_voters, .ref a_trades, .ref a_bells])), (a_sights, .inr (6, [.ref a_sights_leads, .ref a_sights_answers, .ref a_sights_slatesByGap, .int sights_si.2.2.2])), cm_kI cI a_sights_leads 8 sights_si.1, cm_kI cI a_sights_answers 8 sights_si.2.1, cm_kI cI a_sights_slatesByGap 17 sights_si.2.2.1] := hD
      refine W.eq (g2 := F0 m 26 ls [.int u23]) rfl ?_
      refine lv_if_ne (pc := 26) (tgt := 32) hx hb dX10_seen_26 (by decide) (fun c_26 => ?_) (fun c_26 => ?_)
      · have hf := cm_in c_26 hf
        refine lv_aload_n (pc := 32) hx hb dX10_seen_32 rfl (lv_at hl 0 rfl) ?_
        refine va_get (pc := 33) (D := D) (ci := 10) (v := .ref a_sights) (C := RX10) (T := TX10) (N := 10) hx hb hts in_X10 hown hKa hP 0 rfl rfl 3 (by decide) (hts _ tw_272) (fun _ h9 => h9) rfl dX10_seen_33 ?_
        refine lv_iload_n (pc := 36) hx hb dX10_seen_36 rfl (lv_at hl 1 rfl) ?_
        refine lv_iload_n (pc := 37) hx hb dX10_seen_37 rfl (lv_at hl 2 rfl) ?_
        refine lv_isub (pc := 38) hx hb dX10_seen_38 ?_
        refine lv_iload_n (pc := 39) hx hb dX10_seen_39 rfl (lv_at hl 3 rfl) ?_
        obtain ⟨u40, hu40, hf⟩ := cm_bd hf
        refine cm_callV (pc := 40) (As := [.int (v1 - v2), .int v3]) (rest := []) (wr := [(a, .inr (10, [.ref a_now, .ref a_pad, .ref a_trial, .ref a_sights, .ref a_im0, .ref a_im1, .ref a_digits, .ref a_voters, .ref a_trades, .ref a_bells]))]) (ci := 6) (q0 := 1) (n := 2) hx hb hml hown hts hK hP hD hS hA (c_X6_add l D cI cJ cZ a_sights a_sights_leads a_sights_answers a_sights_slatesByGap sights_si (v1 - v2) v3 u40 hu40) tw_566 tw_563 tw_564 tw_565 tw_50 rfl rfl (by decide +kernel) rfl ⟨Nat.le_of_ble_eq_true rfl, Nat.le_of_ble_eq_true rfl⟩ [1, 2, 3, 4] [0] rfl (by decide) rfl (by decide) (by decide) rfl rfl rfl hl.1 rfl (Nat.le_of_ble_eq_true rfl) dX10_seen_40 ⟨Nat.zero_le _, Nat.zero_le _⟩ (fun H locs hP hD hS => ?_)
        have hP : va_P D vwCl [(a, .inr (10, [.ref a_now, .ref a_pad, .ref a_trial, .ref a_sights, .ref a_im0, .ref a_im1, .ref a_digits, .ref a_voters, .ref a_trades, .ref a_bells])), (a_sights, .inr (6, [.ref a_sights_leads, .ref a_sights_answers, .ref a_sights_slatesByGap, .int u40.2.2.2.2])), cm_kI cI a_sights_leads 8 u40.2.1, cm_kI cI a_sights_answers 8 u40.2.2.1, cm_kI cI a_sights_slatesByGap 17 u40.2.2.2.1] H := hP
        have hD : va_D A [(a, .inr (10, [.ref a_now, .ref a_pad, .ref a_trial, .ref a_sights, .ref a_im0, .ref a_im1, .ref a_digits, .ref a_voters, .ref a_trades, .ref a_bells])), (a_sights, .inr (6, [.ref a_sights_leads, .ref a_sights_answers, .ref a_sights_slatesByGap, .int u40.2.2.2.2])), cm_kI cI a_sights_leads 8 u40.2.1, cm_kI cI a_sights_answers 8 u40.2.2.1, cm_kI cI a_sights_slatesByGap 17 u40.2.2.2.1] := hD
        refine W.eq (g2 := F0 m 43 ls [.int u40.1]) rfl ?_
        refine lv_if_eq (pc := 43) (tgt := 56) hx hb dX10_seen_43 (by decide) (fun c_43 => ?_) (fun c_43 => ?_)
        · have hf := cm_ip c_43 hf
          refine lv_bipush (pc := 56) (v := (-4)) hx hb dX10_seen_56 (by decide) ?_
          obtain rfl := Option.some.inj hf
          exact cm_iret (pc := 58) hAe hQ hx hb hr hlocks hP hD hS [0, 1, 2, 3, 4] (by decide) rfl dX10_seen_58
        · have hf := cm_in c_43 hf
          refine lv_aload_n (pc := 46) hx hb dX10_seen_46 rfl (lv_at hl 0 rfl) ?_
          refine va_get (pc := 47) (D := D) (ci := 10) (v := .ref a_sights) (C := RX10) (T := TX10) (N := 10) hx hb hts in_X10 hown hKa hP 0 rfl rfl 3 (by decide) (hts _ tw_272) (fun _ h9 => h9) rfl dX10_seen_47 ?_
          refine va_get (pc := 50) (D := D) (ci := 6) (v := .int u40.2.2.2.2) (C := RX6) (T := TX6) (N := 4) hx hb hts in_X6 hown hKa hP 1 rfl rfl 3 (by decide) (hts _ tw_190) (fun _ h9 => h9) rfl dX10_seen_50 ?_
          refine lv_goto (pc := 53) (tgt := 58) hx hb dX10_seen_53 (by decide) ?_
          obtain rfl := Option.some.inj hf
          exact cm_iret (pc := 58) hAe hQ hx hb hr hlocks hP hD hS [0, 1, 2, 3, 4] (by decide) rfl dX10_seen_58
      · have hf := cm_ip c_26 hf
        refine lv_bipush (pc := 29) (v := (-2)) hx hb dX10_seen_29 (by decide) ?_
        obtain rfl := Option.some.inj hf
        exact cm_iret (pc := 31) hAe hQ hx hb hr hlocks hP hD hS [0, 1, 2, 3, 4] (by decide) rfl dX10_seen_31
def fX6_clear (si : SSI) : Int32 × SSI := (si.2.2.2, (si.1, si.2.1, si.2.2.1, 0))
def rmX6_clear : Room := { frames := 0, cells := 0, slots := 0, locals := 0 }
set_option maxRecDepth 100000 in
set_option maxHeartbeats 4000000 in
theorem c_X6_clear (l : Launch) (D : va_G) (cI cJ cZ : ClassId) (a a_leads a_answers a_slatesByGap : Nat) (si : SSI) (res : Int32 × SSI) (hf : fX6_clear si = res) : Ct l yX6_clear (cm_ws yX6_clear cX6_clear 2 (some .int)) rmX6_clear D (cm_T cI cJ cZ) [.ref a] [(a, .inr (6, [.ref a_leads, .ref a_answers, .ref a_slatesByGap, .int si.2.2.2])), cm_kI cI a_leads 8 si.1, cm_kI cI a_answers 8 si.2.1, cm_kI cI a_slatesByGap 17 si.2.2.1] (some (.int res.1)) [(a, .inr (6, [.ref a_leads, .ref a_answers, .ref a_slatesByGap, .int res.2.2.2.2])), cm_kI cI a_leads 8 res.2.1, cm_kI cI a_answers 8 res.2.2.1, cm_kI cI a_slatesByGap 17 res.2.2.2.1] := by
  refine Ct.of (cc := cX6_clear) (maxL := 2) (ret := (some .int)) (by decide) (Nat.le_of_ble_eq_true rfl) ?_
  intro p e s m below meth c ls args A Q hav hAe hQ hx hb hr hml hown hlocks hts hK hP hD hA hS hl
  have hKa := hK.1
  have hl : lv_has ls 2 [(0, .ref a)] := hl
  unfold fX6_clear at hf
  refine lv_aload_n (pc := 0) hx hb dX6_clear_0 rfl (lv_at hl 0 rfl) ?_
  refine va_get (pc := 1) (D := D) (ci := 6) (v := .int si.2.2.2) (C := RX6) (T := TX6) (N := 4) hx hb hts in_X6 hown hKa hP 0 rfl rfl 3 (by decide) (hts _ tw_189) (fun _ h9 => h9) rfl dX6_clear_1 ?_
  refine lv_istore_n (pc := 4) (lv' := [(1, .int si.2.2.2), (0, .ref a)]) hx hb dX6_clear_4 rfl hl (by decide) rfl (fun ls hl => ?_)
  refine lv_aload_n (pc := 5) hx hb dX6_clear_5 rfl (lv_at hl 1 rfl) ?_
  refine lv_iconst (pc := 6) (v := 0) hx hb dX6_clear_6 (by decide) ?_
  refine va_put (pc := 7) (D := D) (ci := 6) (v := .int 0) (ty := .int) (C := RX6) (T := TX6) (N := 4) hx hb hts in_X6 tyX6 tyX6_ok nmX6 hown hKa hP hD hS 0 rfl rfl 3 (by decide) (hts _ tw_189) (fun _ h9 => h9) rfl (by decide +kernel) rfl rfl (Nat.le_of_ble_eq_true rfl) dX6_clear_7 (fun H locs hP hD hS => ?_)
  have hP : va_P D vwCl [(a, .inr (6, [.ref a_leads, .ref a_answers, .ref a_slatesByGap, .int 0])), cm_kI cI a_leads 8 si.1, cm_kI cI a_answers 8 si.2.1, cm_kI cI a_slatesByGap 17 si.2.2.1] H := hP
  have hD : va_D A [(a, .inr (6, [.ref a_leads, .ref a_answers, .ref a_slatesByGap, .int 0])), cm_kI cI a_leads 8 si.1, cm_kI cI a_answers 8 si.2.1, cm_kI cI a_slatesByGap 17 si.2.2.1] := hD
  refine lv_iload_n (pc := 10) hx hb dX6_clear_10 rfl (lv_at hl 0 rfl) ?_
  obtain rfl := hf
  exact cm_iret (pc := 11) hAe hQ hx hb hr hlocks hP hD hS [0, 1, 2, 3] (by decide) rfl dX6_clear_11
def fX10_forget (sights_si : SSI) : Int32 × SSI := cm_let (fX6_clear sights_si) (fun u4 => (u4.1, u4.2))
def rmX10_forget : Room := { frames := 1, cells := 0, slots := 0, locals := 21 }
set_option maxRecDepth 100000 in
set_option maxHeartbeats 4000000 in
theorem c_X10_forget (l : Launch) (D : va_G) (cI cJ cZ : ClassId) (a a_now a_pad a_trial a_sights a_im0 a_im1 a_digits a_voters a_trades a_bells a_sights_leads a_sights_answers a_sights_slatesByGap : Nat) (sights_si : SSI) (res : Int32 × SSI) (hf : fX10_forget sights_si = res) : Ct l yX10_forget (cm_ws yX10_forget cX10_forget 1 (some .int)) rmX10_forget D (cm_T cI cJ cZ) [.ref a] [(a, .inr (10, [.ref a_now, .ref a_pad, .ref a_trial, .ref a_sights, .ref a_im0, .ref a_im1, .ref a_digits, .ref a_voters, .ref a_trades, .ref a_bells])), (a_sights, .inr (6, [.ref a_sights_leads, .ref a_sights_answers, .ref a_sights_slatesByGap, .int sights_si.2.2.2])), cm_kI cI a_sights_leads 8 sights_si.1, cm_kI cI a_sights_answers 8 sights_si.2.1, cm_kI cI a_sights_slatesByGap 17 sights_si.2.2.1] (some (.int res.1)) [(a, .inr (10, [.ref a_now, .ref a_pad, .ref a_trial, .ref a_sights, .ref a_im0, .ref a_im1, .ref a_digits, .ref a_voters, .ref a_trades, .ref a_bells])), (a_sights, .inr (6, [.ref a_sights_leads, .ref a_sights_answers, .ref a_sights_slatesByGap, .int res.2.2.2.2])), cm_kI cI a_sights_leads 8 res.2.1, cm_kI cI a_sights_answers 8 res.2.2.1, cm_kI cI a_sights_slatesByGap 17 res.2.2.2.1] := by
  refine Ct.of (cc := cX10_forget) (maxL := 1) (ret := (some .int)) (by decide) (Nat.le_of_ble_eq_true rfl) ?_
  intro p e s m below meth c ls args A Q hav hAe hQ hx hb hr hml hown hlocks hts hK hP hD hA hS hl
  have hKa := hK.1
  have hl : lv_has ls 1 [(0, .ref a)] := hl
  unfold fX10_forget at hf
  refine lv_aload_n (pc := 0) hx hb dX10_forget_0 rfl (lv_at hl 0 rfl) ?_
  refine va_get (pc := 1) (D := D) (ci := 10) (v := .ref a_sights) (C := RX10) (T := TX10) (N := 10) hx hb hts in_X10 hown hKa hP 0 rfl rfl 3 (by decide) (hts _ tw_272) (fun _ h9 => h9) rfl dX10_forget_1 ?_
  obtain ⟨u4, hu4, hf⟩ := cm_lt hf
  refine cm_callV (pc := 4) (As := []) (rest := []) (wr := [(a, .inr (10, [.ref a_now, .ref a_pad, .ref a_trial, .ref a_sights, .ref a_im0, .ref a_im1, .ref a_digits, .ref a_voters, .ref a_trades, .ref a_bells]))]) (ci := 6) (q0 := 1) (n := 0) hx hb hml hown hts hK hP hD hS hA (c_X6_clear l D cI cJ cZ a_sights a_sights_leads a_sights_answers a_sights_slatesByGap sights_si u4 hu4) tw_574 tw_571 tw_572 tw_573 tw_50 rfl rfl (by decide +kernel) rfl ⟨Nat.le_of_ble_eq_true rfl, Nat.le_of_ble_eq_true rfl⟩ [1, 2, 3, 4] [0] rfl (by decide) rfl (by decide) (by decide) rfl rfl rfl hl.1 rfl (Nat.le_of_ble_eq_true rfl) dX10_forget_4 ⟨Nat.zero_le _, Nat.zero_le _⟩ (fun H locs hP hD hS => ?_)
  have hP : va_P D vwCl [(a, .inr (10, [.ref a_now, .ref a_pad, .ref a_trial, .ref a_sights, .ref a_im0, .ref a_im1, .ref a_digits, .ref a_voters, .ref a_trades, .ref a_bells])), (a_sights, .inr (6, [.ref a_sights_leads, .ref a_sights_answers, .ref a_sights_slatesByGap, .int u4.2.2.2.2])), cm_kI cI a_sights_leads 8 u4.2.1, cm_kI cI a_sights_answers 8 u4.2.2.1, cm_kI cI a_sights_slatesByGap 17 u4.2.2.2.1] H := hP
  have hD : va_D A [(a, .inr (10, [.ref a_now, .ref a_pad, .ref a_trial, .ref a_sights, .ref a_im0, .ref a_im1, .ref a_digits, .ref a_voters, .ref a_trades, .ref a_bells])), (a_sights, .inr (6, [.ref a_sights_leads, .ref a_sights_answers, .ref a_sights_slatesByGap, .int u4.2.2.2.2])), cm_kI cI a_sights_leads 8 u4.2.1, cm_kI cI a_sights_answers 8 u4.2.2.1, cm_kI cI a_sights_slatesByGap 17 u4.2.2.2.1] := hD
  refine W.eq (g2 := F0 m 7 ls [.int u4.1]) rfl ?_
  obtain rfl := hf
  exact cm_iret (pc := 7) hAe hQ hx hb hr hlocks hP hD hS [0, 1, 2, 3, 4] (by decide) rfl dX10_forget_7
def fX6_answerFor (v0 : Int32) : Int32 := (if v0 = 0 then 2 else (if v0 ≤ 0 then 1 else 0))
def rmX6_answerFor : Room := { frames := 0, cells := 0, slots := 0, locals := 0 }
set_option maxRecDepth 100000 in
set_option maxHeartbeats 4000000 in
theorem c_X6_answerFor (l : Launch) (D : va_G) (cI cJ cZ : ClassId) (v0 : Int32) (res : Int32) (hf : fX6_answerFor v0 = res) : Ct l yX6_answerFor (cm_ws yX6_answerFor cX6_answerFor 1 (some .int)) rmX6_answerFor D (cm_T cI cJ cZ) [.int v0] [] (some (.int res)) [] := by
  refine Ct.of (cc := cX6_answerFor) (maxL := 1) (ret := (some .int)) (by decide) (Nat.le_of_ble_eq_true rfl) ?_
  intro p e s m below meth c ls args A Q hav hAe hQ hx hb hr hml hown hlocks hts hK hP hD hA hS hl
  have hKa := hK.1
  have hl : lv_has ls 1 [(0, .int v0)] := hl
  unfold fX6_answerFor at hf
  refine lv_iload_n (pc := 0) hx hb dX6_answerFor_0 rfl (lv_at hl 0 rfl) ?_
  refine lv_if_ne (pc := 1) (tgt := 6) hx hb dX6_answerFor_1 (by decide) (fun c_1 => ?_) (fun c_1 => ?_)
  · have hf := cm_in c_1 hf
    refine lv_iload_n (pc := 6) hx hb dX6_answerFor_6 rfl (lv_at hl 0 rfl) ?_
    refine lv_if_le (pc := 7) (tgt := 14) hx hb dX6_answerFor_7 (by decide) (fun c_7 => ?_) (fun c_7 => ?_)
    · have hf := cm_ip c_7 hf
      refine lv_iconst (pc := 14) (v := 1) hx hb dX6_answerFor_14 (by decide) ?_
      obtain rfl := hf
      exact cm_iret (pc := 15) hAe hQ hx hb hr hlocks hP hD hS [] (by decide) rfl dX6_answerFor_15
    · have hf := cm_in c_7 hf
      refine lv_iconst (pc := 10) (v := 0) hx hb dX6_answerFor_10 (by decide) ?_
      refine lv_goto (pc := 11) (tgt := 15) hx hb dX6_answerFor_11 (by decide) ?_
      obtain rfl := hf
      exact cm_iret (pc := 15) hAe hQ hx hb hr hlocks hP hD hS [] (by decide) rfl dX6_answerFor_15
  · have hf := cm_ip c_1 hf
    refine lv_iconst (pc := 4) (v := 2) hx hb dX6_answerFor_4 (by decide) ?_
    obtain rfl := hf
    exact cm_iret (pc := 5) hAe hQ hx hb hr hlocks hP hD hS [] (by decide) rfl dX6_answerFor_5
def fX6_fits_L2 (v1 : Int32) (si : SSI) (kx : Int32 → Option (Int32)) : Nat → Int32 → Option (Int32)
  | 0, _ => none
  | n + 1, v2_2 => (if si.2.2.2 ≤ v2_2 then kx v2_2 else (if 8 ≤ v2_2 then kx v2_2 else if v2_2 < 0 ∨ 8 ≤ v2_2.toNatClampNeg then none else cm_let (fX6_answerFor (v1 + (si.1 v2_2.toNatClampNeg))) (fun u24 => if v2_2 < 0 ∨ 8 ≤ v2_2.toNatClampNeg then none else (if u24 = (si.2.1 v2_2.toNatClampNeg) then fX6_fits_L2 v1 si kx n (v2_2 + 1) else some 0))))
def fX6_fits (v1 : Int32) (si : SSI) : Option (Int32) := fX6_fits_L2 v1 si (fun v2_2 => some 1) 5000 0
def rmX6_fits : Room := { frames := 1, cells := 0, slots := 0, locals := 20 }
set_option maxRecDepth 100000 in
set_option maxHeartbeats 4000000 in
theorem c_X6_fits (l : Launch) (D : va_G) (cI cJ cZ : ClassId) (a a_leads a_answers a_slatesByGap : Nat) (si : SSI) (v1 : Int32) (res : Int32) (hf : fX6_fits v1 si = some res) : Ct l yX6_fits (cm_ws yX6_fits cX6_fits 3 (some .boolean)) rmX6_fits D (cm_T cI cJ cZ) [.ref a, .int v1] [(a, .inr (6, [.ref a_leads, .ref a_answers, .ref a_slatesByGap, .int si.2.2.2])), cm_kI cI a_leads 8 si.1, cm_kI cI a_answers 8 si.2.1, cm_kI cI a_slatesByGap 17 si.2.2.1] (some (.int res)) [(a, .inr (6, [.ref a_leads, .ref a_answers, .ref a_slatesByGap, .int si.2.2.2])), cm_kI cI a_leads 8 si.1, cm_kI cI a_answers 8 si.2.1, cm_kI cI a_slatesByGap 17 si.2.2.1] := by
  refine Ct.of (cc := cX6_fits) (maxL := 3) (ret := (some .boolean)) (by decide) (Nat.le_of_ble_eq_true rfl) ?_
  intro p e s m below meth c ls args A Q hav hAe hQ hx hb hr hml hown hlocks hts hK hP hD hA hS hl
  have hKa := hK.1
  have hl : lv_has ls 3 [(0, .ref a), (1, .int v1)] := hl
  unfold fX6_fits at hf
  refine lv_iconst (pc := 0) (v := 0) hx hb dX6_fits_0 (by decide) ?_
  refine lv_istore_n (pc := 1) (lv' := [(2, .int 0), (0, .ref a), (1, .int v1)]) hx hb dX6_fits_1 rfl hl (by decide) rfl (fun ls hl => ?_)
  have L2 : ∀ (kx : Int32 → Option (Int32)), (∀ (v2_2 : Int32) (H : Heap) (locs : List Loc) (ls : Array Slot), va_P D vwCl [(a, .inr (6, [.ref a_leads, .ref a_answers, .ref a_slatesByGap, .int si.2.2.2])), cm_kI cI a_leads 8 si.1, cm_kI cI a_answers 8 si.2.1, cm_kI cI a_slatesByGap 17 si.2.2.1] H → va_D A [(a, .inr (6, [.ref a_leads, .ref a_answers, .ref a_slatesByGap, .int si.2.2.2])), cm_kI cI a_leads 8 si.1, cm_kI cI a_answers 8 si.2.1, cm_kI cI a_slatesByGap 17 si.2.2.1] → va_S A s.heap H locs → lv_has ls 3 [] → kx v2_2 = some res → W p l e rmX6_fits s m args below meth c H locs 0 0 Q (F0 m 44 ls [])) → ∀ (n : Nat) (v2_2 : Int32) (H : Heap) (locs : List Loc) (ls : Array Slot), va_P D vwCl [(a, .inr (6, [.ref a_leads, .ref a_answers, .ref a_slatesByGap, .int si.2.2.2])), cm_kI cI a_leads 8 si.1, cm_kI cI a_answers 8 si.2.1, cm_kI cI a_slatesByGap 17 si.2.2.1] H → va_D A [(a, .inr (6, [.ref a_leads, .ref a_answers, .ref a_slatesByGap, .int si.2.2.2])), cm_kI cI a_leads 8 si.1, cm_kI cI a_answers 8 si.2.1, cm_kI cI a_slatesByGap 17 si.2.2.1] → va_S A s.heap H locs → lv_has ls 3 [(2, .int v2_2), (0, .ref a), (1, .int v1)] → fX6_fits_L2 v1 si kx n v2_2 = some res → W p l e rmX6_fits s m args below meth c H locs 0 0 Q (F0 m 2 ls []) := by
    intro kx hkx n
    induction n with
    | zero => intro v2_2 H locs ls hP hD hS hl hf; cases hf
    | succ n ih =>
      intro v2_2 H locs ls hP hD hS hl hf
      rw [fX6_fits_L2] at hf
      refine lv_iload_n (pc := 2) hx hb dX6_fits_2 rfl (lv_at hl 0 rfl) ?_
      refine lv_aload_n (pc := 3) hx hb dX6_fits_3 rfl (lv_at hl 1 rfl) ?_
      refine va_get (pc := 4) (D := D) (ci := 6) (v := .int si.2.2.2) (C := RX6) (T := TX6) (N := 4) hx hb hts in_X6 hown hKa hP 0 rfl rfl 3 (by decide) (hts _ tw_189) (fun _ h9 => h9) rfl dX6_fits_4 ?_
      refine lv_icmp_ge (pc := 7) (tgt := 44) hx hb dX6_fits_7 (by decide) (fun c_7 => ?_) (fun c_7 => ?_)
      · have hf := cm_ip c_7 hf
        exact hkx v2_2 _ _ _ hP hD hS (lv_sub hl [] rfl) hf
      · have hf := cm_in c_7 hf
        refine lv_iload_n (pc := 10) hx hb dX6_fits_10 rfl (lv_at hl 0 rfl) ?_
        refine lv_bipush (pc := 11) (v := 8) hx hb dX6_fits_11 (by decide) ?_
        refine lv_icmp_ge (pc := 13) (tgt := 44) hx hb dX6_fits_13 (by decide) (fun c_13 => ?_) (fun c_13 => ?_)
        · have hf := cm_ip c_13 hf
          exact hkx v2_2 _ _ _ hP hD hS (lv_sub hl [] rfl) hf
        · have hf := cm_in c_13 hf
          refine lv_iload_n (pc := 16) hx hb dX6_fits_16 rfl (lv_at hl 2 rfl) ?_
          refine lv_aload_n (pc := 17) hx hb dX6_fits_17 rfl (lv_at hl 1 rfl) ?_
          refine va_get (pc := 18) (D := D) (ci := 6) (v := .ref a_leads) (C := RX6) (T := TX6) (N := 4) hx hb hts in_X6 hown hKa hP 0 rfl rfl 0 (by decide) (hts _ tw_186) (fun _ h9 => h9) rfl dX6_fits_18 ?_
          refine lv_iload_n (pc := 21) hx hb dX6_fits_21 rfl (lv_at hl 0 rfl) ?_
          obtain ⟨b_22, hf⟩ := cm_ob hf
          refine va_iald (pc := 22) hx hb hKa hP 1 0 rfl rfl b_22 dX6_fits_22 ?_
          refine lv_iadd (pc := 23) hx hb dX6_fits_23 ?_
          obtain ⟨u24, hu24, hf⟩ := cm_lt hf
          refine cm_callS (pc := 24) (As := [.int (v1 + (si.1 v2_2.toNatClampNeg))]) (rest := []) (wr := [(a, .inr (6, [.ref a_leads, .ref a_answers, .ref a_slatesByGap, .int si.2.2.2])), cm_kI cI a_leads 8 si.1, cm_kI cI a_answers 8 si.2.1, cm_kI cI a_slatesByGap 17 si.2.2.1]) (n := 1) hx hb hml hown hts hK hP hD hS hA (c_X6_answerFor l D cI cJ cZ (v1 + (si.1 v2_2.toNatClampNeg)) u24 hu24) tw_589 tw_587 tw_588 tw_50 rfl rfl (by decide +kernel) rfl ⟨Nat.le_of_ble_eq_true rfl, Nat.le_of_ble_eq_true rfl⟩ [] [0, 1, 2, 3] rfl (by decide) rfl (by decide) (by decide) hl.1 rfl (Nat.le_of_ble_eq_true rfl) dX6_fits_24 ⟨Nat.zero_le _, Nat.zero_le _⟩ (fun H locs hP hD hS => ?_)
          have hP : va_P D vwCl [(a, .inr (6, [.ref a_leads, .ref a_answers, .ref a_slatesByGap, .int si.2.2.2])), cm_kI cI a_leads 8 si.1, cm_kI cI a_answers 8 si.2.1, cm_kI cI a_slatesByGap 17 si.2.2.1] H := hP
          have hD : va_D A [(a, .inr (6, [.ref a_leads, .ref a_answers, .ref a_slatesByGap, .int si.2.2.2])), cm_kI cI a_leads 8 si.1, cm_kI cI a_answers 8 si.2.1, cm_kI cI a_slatesByGap 17 si.2.2.1] := hD
          refine W.eq (g2 := F0 m 27 ls [.int u24]) rfl ?_
          refine lv_aload_n (pc := 27) hx hb dX6_fits_27 rfl (lv_at hl 1 rfl) ?_
          refine va_get (pc := 28) (D := D) (ci := 6) (v := .ref a_answers) (C := RX6) (T := TX6) (N := 4) hx hb hts in_X6 hown hKa hP 0 rfl rfl 1 (by decide) (hts _ tw_187) (fun _ h9 => h9) rfl dX6_fits_28 ?_
          refine lv_iload_n (pc := 31) hx hb dX6_fits_31 rfl (lv_at hl 0 rfl) ?_
          obtain ⟨b_32, hf⟩ := cm_ob hf
          refine va_iald (pc := 32) hx hb hKa hP 2 0 rfl rfl b_32 dX6_fits_32 ?_
          refine lv_icmp_eq (pc := 33) (tgt := 38) hx hb dX6_fits_33 (by decide) (fun c_33 => ?_) (fun c_33 => ?_)
          · have hf := cm_ip c_33 hf
            refine lv_iinc (pc := 38) (v := (v2_2 + 1)) (lv' := [(2, .int (v2_2 + 1)), (0, .ref a), (1, .int v1)]) hx hb dX6_fits_38 hl (k := 0) rfl rfl (by decide) rfl (fun ls hl => ?_)
            refine lv_goto (pc := 41) (tgt := 2) hx hb dX6_fits_41 (by decide) ?_
            exact ih (v2_2 + 1) _ _ _ hP hD hS (lv_sub hl [0, 1, 2] rfl) hf
          · have hf := cm_in c_33 hf
            refine lv_iconst (pc := 36) (v := 0) hx hb dX6_fits_36 (by decide) ?_
            obtain rfl := Option.some.inj hf
            exact cm_zret (Or.inl rfl) (pc := 37) hAe hQ hx hb hr hlocks hP hD hS [0, 1, 2, 3] (by decide) rfl dX6_fits_37
  refine L2 _ (fun v2_2 H locs ls hP hD hS hl hf => ?_) 5000 0 _ _ _ hP hD hS (lv_sub hl [0, 1, 2] rfl) hf
  refine lv_iconst (pc := 44) (v := 1) hx hb dX6_fits_44 (by decide) ?_
  obtain rfl := Option.some.inj hf
  exact cm_zret (Or.inr rfl) (pc := 45) hAe hQ hx hb hr hlocks hP hD hS [0, 1, 2, 3] (by decide) rfl dX6_fits_45
def fX6_countSlates_L12 (v2_4 : Int32) (si : SSI) (kx : Int32 → Int32 → Option (Int32)) : Nat → Int32 → Int32 → Option (Int32)
  | 0, _, _ => none
  | n + 1, v1_12, v3_12 => (if 8 < (v2_4 + v3_12) then kx v1_12 v3_12 else Option.bind (fX6_fits (v2_4 - v3_12) si) (fun u25 => cm_let ((if u25 = 0 then 0 else 1) : Int32) (fun j28 => fX6_countSlates_L12 v2_4 si kx n (v1_12 + j28) (v3_12 + 1))))
def fX6_countSlates_L4 (si : SSI) (kx : Int32 → Int32 → Option (Int32)) : Nat → Int32 → Int32 → Option (Int32)
  | 0, _, _ => none
  | n + 1, v1_4, v2_4 => (if 8 < v2_4 then kx v1_4 v2_4 else fX6_countSlates_L12 v2_4 si (fun v1_12 v3_12 => fX6_countSlates_L4 si kx n v1_12 (v2_4 + 1)) 5000 v1_4 0)
def fX6_countSlates (si : SSI) : Option (Int32) := fX6_countSlates_L4 si (fun v1_4 v2_4 => some v1_4) 5000 0 0
def rmX6_countSlates : Room := { frames := 2, cells := 0, slots := 0, locals := 42 }
set_option maxRecDepth 100000 in
set_option maxHeartbeats 4000000 in
theorem c_X6_countSlates (l : Launch) (D : va_G) (cI cJ cZ : ClassId) (a a_leads a_answers a_slatesByGap : Nat) (si : SSI) (res : Int32) (hf : fX6_countSlates si = some res) : Ct l yX6_countSlates (cm_ws yX6_countSlates cX6_countSlates 4 (some .int)) rmX6_countSlates D (cm_T cI cJ cZ) [.ref a] [(a, .inr (6, [.ref a_leads, .ref a_answers, .ref a_slatesByGap, .int si.2.2.2])), cm_kI cI a_leads 8 si.1, cm_kI cI a_answers 8 si.2.1, cm_kI cI a_slatesByGap 17 si.2.2.1] (some (.int res)) [(a, .inr (6, [.ref a_leads, .ref a_answers, .ref a_slatesByGap, .int si.2.2.2])), cm_kI cI a_leads 8 si.1, cm_kI cI a_answers 8 si.2.1, cm_kI cI a_slatesByGap 17 si.2.2.1] := by
  refine Ct.of (cc := cX6_countSlates) (maxL := 4) (ret := (some .int)) (by decide) (Nat.le_of_ble_eq_true rfl) ?_
  intro p e s m below meth c ls args A Q hav hAe hQ hx hb hr hml hown hlocks hts hK hP hD hA hS hl
  have hKa := hK.1
  have hl : lv_has ls 4 [(0, .ref a)] := hl
  unfold fX6_countSlates at hf
  refine lv_iconst (pc := 0) (v := 0) hx hb dX6_countSlates_0 (by decide) ?_
  refine lv_istore_n (pc := 1) (lv' := [(1, .int 0), (0, .ref a)]) hx hb dX6_countSlates_1 rfl hl (by decide) rfl (fun ls hl => ?_)
  refine lv_iconst (pc := 2) (v := 0) hx hb dX6_countSlates_2 (by decide) ?_
  refine lv_istore_n (pc := 3) (lv' := [(2, .int 0), (1, .int 0), (0, .ref a)]) hx hb dX6_countSlates_3 rfl hl (by decide) rfl (fun ls hl => ?_)
  have L4 : ∀ (kx : Int32 → Int32 → Option (Int32)), (∀ (v1_4 : Int32) (v2_4 : Int32) (H : Heap) (locs : List Loc) (ls : Array Slot), va_P D vwCl [(a, .inr (6, [.ref a_leads, .ref a_answers, .ref a_slatesByGap, .int si.2.2.2])), cm_kI cI a_leads 8 si.1, cm_kI cI a_answers 8 si.2.1, cm_kI cI a_slatesByGap 17 si.2.2.1] H → va_D A [(a, .inr (6, [.ref a_leads, .ref a_answers, .ref a_slatesByGap, .int si.2.2.2])), cm_kI cI a_leads 8 si.1, cm_kI cI a_answers 8 si.2.1, cm_kI cI a_slatesByGap 17 si.2.2.1] → va_S A s.heap H locs → lv_has ls 4 [(1, .int v1_4)] → kx v1_4 v2_4 = some res → W p l e rmX6_countSlates s m args below meth c H locs 0 0 Q (F0 m 50 ls [])) → ∀ (n : Nat) (v1_4 : Int32) (v2_4 : Int32) (H : Heap) (locs : List Loc) (ls : Array Slot), va_P D vwCl [(a, .inr (6, [.ref a_leads, .ref a_answers, .ref a_slatesByGap, .int si.2.2.2])), cm_kI cI a_leads 8 si.1, cm_kI cI a_answers 8 si.2.1, cm_kI cI a_slatesByGap 17 si.2.2.1] H → va_D A [(a, .inr (6, [.ref a_leads, .ref a_answers, .ref a_slatesByGap, .int si.2.2.2])), cm_kI cI a_leads 8 si.1, cm_kI cI a_answers 8 si.2.1, cm_kI cI a_slatesByGap 17 si.2.2.1] → va_S A s.heap H locs → lv_has ls 4 [(2, .int v2_4), (1, .int v1_4), (0, .ref a)] → fX6_countSlates_L4 si kx n v1_4 v2_4 = some res → W p l e rmX6_countSlates s m args below meth c H locs 0 0 Q (F0 m 4 ls []) := by
    intro kx hkx n
    induction n with
    | zero => intro v1_4 v2_4 H locs ls hP hD hS hl hf; cases hf
    | succ n ih =>
      intro v1_4 v2_4 H locs ls hP hD hS hl hf
      rw [fX6_countSlates_L4] at hf
      refine lv_iload_n (pc := 4) hx hb dX6_countSlates_4 rfl (lv_at hl 0 rfl) ?_
      refine lv_bipush (pc := 5) (v := 8) hx hb dX6_countSlates_5 (by decide) ?_
      refine lv_icmp_gt (pc := 7) (tgt := 50) hx hb dX6_countSlates_7 (by decide) (fun c_7 => ?_) (fun c_7 => ?_)
      · have hf := cm_ip c_7 hf
        exact hkx v1_4 v2_4 _ _ _ hP hD hS (lv_sub hl [1] rfl) hf
      · have hf := cm_in c_7 hf
        refine lv_iconst (pc := 10) (v := 0) hx hb dX6_countSlates_10 (by decide) ?_
        refine lv_istore_n (pc := 11) (lv' := [(3, .int 0), (2, .int v2_4), (1, .int v1_4), (0, .ref a)]) hx hb dX6_countSlates_11 rfl hl (by decide) rfl (fun ls hl => ?_)
        have L12 : ∀ (kx : Int32 → Int32 → Option (Int32)), (∀ (v1_12 : Int32) (v3_12 : Int32) (H : Heap) (locs : List Loc) (ls : Array Slot), va_P D vwCl [(a, .inr (6, [.ref a_leads, .ref a_answers, .ref a_slatesByGap, .int si.2.2.2])), cm_kI cI a_leads 8 si.1, cm_kI cI a_answers 8 si.2.1, cm_kI cI a_slatesByGap 17 si.2.2.1] H → va_D A [(a, .inr (6, [.ref a_leads, .ref a_answers, .ref a_slatesByGap, .int si.2.2.2])), cm_kI cI a_leads 8 si.1, cm_kI cI a_answers 8 si.2.1, cm_kI cI a_slatesByGap 17 si.2.2.1] → va_S A s.heap H locs → lv_has ls 4 [(2, .int v2_4), (1, .int v1_12), (0, .ref a)] → kx v1_12 v3_12 = some res → W p l e rmX6_countSlates s m args below meth c H locs 0 0 Q (F0 m 44 ls [])) → ∀ (n : Nat) (v1_12 : Int32) (v3_12 : Int32) (H : Heap) (locs : List Loc) (ls : Array Slot), va_P D vwCl [(a, .inr (6, [.ref a_leads, .ref a_answers, .ref a_slatesByGap, .int si.2.2.2])), cm_kI cI a_leads 8 si.1, cm_kI cI a_answers 8 si.2.1, cm_kI cI a_slatesByGap 17 si.2.2.1] H → va_D A [(a, .inr (6, [.ref a_leads, .ref a_answers, .ref a_slatesByGap, .int si.2.2.2])), cm_kI cI a_leads 8 si.1, cm_kI cI a_answers 8 si.2.1, cm_kI cI a_slatesByGap 17 si.2.2.1] → va_S A s.heap H locs → lv_has ls 4 [(3, .int v3_12), (2, .int v2_4), (1, .int v1_12), (0, .ref a)] → fX6_countSlates_L12 v2_4 si kx n v1_12 v3_12 = some res → W p l e rmX6_countSlates s m args below meth c H locs 0 0 Q (F0 m 12 ls []) := by
          intro kx hkx n
          induction n with
          | zero => intro v1_12 v3_12 H locs ls hP hD hS hl hf; cases hf
          | succ n ih =>
            intro v1_12 v3_12 H locs ls hP hD hS hl hf
            rw [fX6_countSlates_L12] at hf
            refine lv_iload_n (pc := 12) hx hb dX6_countSlates_12 rfl (lv_at hl 1 rfl) ?_
            refine lv_iload_n (pc := 13) hx hb dX6_countSlates_13 rfl (lv_at hl 0 rfl) ?_
            refine lv_iadd (pc := 14) hx hb dX6_countSlates_14 ?_
            refine lv_bipush (pc := 15) (v := 8) hx hb dX6_countSlates_15 (by decide) ?_
            refine lv_icmp_gt (pc := 17) (tgt := 44) hx hb dX6_countSlates_17 (by decide) (fun c_17 => ?_) (fun c_17 => ?_)
            · have hf := cm_ip c_17 hf
              exact hkx v1_12 v3_12 _ _ _ hP hD hS (lv_sub hl [1, 2, 3] rfl) hf
            · have hf := cm_in c_17 hf
              refine lv_iload_n (pc := 20) hx hb dX6_countSlates_20 rfl (lv_at hl 2 rfl) ?_
              refine lv_aload_n (pc := 21) hx hb dX6_countSlates_21 rfl (lv_at hl 3 rfl) ?_
              refine lv_iload_n (pc := 22) hx hb dX6_countSlates_22 rfl (lv_at hl 1 rfl) ?_
              refine lv_iload_n (pc := 23) hx hb dX6_countSlates_23 rfl (lv_at hl 0 rfl) ?_
              refine lv_isub (pc := 24) hx hb dX6_countSlates_24 ?_
              obtain ⟨u25, hu25, hf⟩ := cm_bd hf
              refine cm_callV (pc := 25) (As := [.int (v2_4 - v3_12)]) (rest := [.int v1_12]) (wr := []) (ci := 6) (q0 := 0) (n := 1) hx hb hml hown hts hK hP hD hS hA (c_X6_fits l D cI cJ cZ a a_leads a_answers a_slatesByGap si (v2_4 - v3_12) u25 hu25) tw_586 tw_583 tw_585 tw_19 tw_50 rfl rfl (by decide +kernel) rfl ⟨Nat.le_of_ble_eq_true rfl, Nat.le_of_ble_eq_true rfl⟩ [0, 1, 2, 3] [] rfl (by decide) rfl (by decide) (by decide) rfl rfl rfl hl.1 rfl (Nat.le_of_ble_eq_true rfl) dX6_countSlates_25 ⟨Nat.zero_le _, Nat.zero_le _⟩ (fun H locs hP hD hS => ?_)
              have hP : va_P D vwCl [(a, .inr (6, [.ref a_leads, .ref a_answers, .ref a_slatesByGap, .int si.2.2.2])), cm_kI cI a_leads 8 si.1, cm_kI cI a_answers 8 si.2.1, cm_kI cI a_slatesByGap 17 si.2.2.1] H := hP
              have hD : va_D A [(a, .inr (6, [.ref a_leads, .ref a_answers, .ref a_slatesByGap, .int si.2.2.2])), cm_kI cI a_leads 8 si.1, cm_kI cI a_answers 8 si.2.1, cm_kI cI a_slatesByGap 17 si.2.2.1] := hD
              refine W.eq (g2 := F0 m 28 ls [.int u25, .int v1_12]) rfl ?_
              obtain ⟨j28, hj28, hf⟩ := cm_lt hf
              have J28 : ∀ (H : Heap) (locs : List Loc) (ls : Array Slot), va_P D vwCl [(a, .inr (6, [.ref a_leads, .ref a_answers, .ref a_slatesByGap, .int si.2.2.2])), cm_kI cI a_leads 8 si.1, cm_kI cI a_answers 8 si.2.1, cm_kI cI a_slatesByGap 17 si.2.2.1] H → va_D A [(a, .inr (6, [.ref a_leads, .ref a_answers, .ref a_slatesByGap, .int si.2.2.2])), cm_kI cI a_leads 8 si.1, cm_kI cI a_answers 8 si.2.1, cm_kI cI a_slatesByGap 17 si.2.2.1] → va_S A s.heap H locs → lv_has ls 4 [(3, .int v3_12), (2, .int v2_4), (0, .ref a)] → W p l e rmX6_countSlates s m args below meth c H locs 0 0 Q (F0 m 36 ls [.int j28, .int v1_12]) := by
                intro H locs ls hP hD hS hl
                refine lv_iadd (pc := 36) hx hb dX6_countSlates_36 ?_
                refine lv_istore_n (pc := 37) (lv' := [(1, .int (v1_12 + j28)), (3, .int v3_12), (2, .int v2_4), (0, .ref a)]) hx hb dX6_countSlates_37 rfl hl (by decide) rfl (fun ls hl => ?_)
                refine lv_iinc (pc := 38) (v := (v3_12 + 1)) (lv' := [(3, .int (v3_12 + 1)), (1, .int (v1_12 + j28)), (2, .int v2_4), (0, .ref a)]) hx hb dX6_countSlates_38 hl (k := 1) rfl rfl (by decide) rfl (fun ls hl => ?_)
                refine lv_goto (pc := 41) (tgt := 12) hx hb dX6_countSlates_41 (by decide) ?_
                exact ih (v1_12 + j28) (v3_12 + 1) _ _ _ hP hD hS (lv_sub hl [0, 2, 1, 3] rfl) hf
              clear hf
              have hf := hj28
              refine lv_if_eq (pc := 28) (tgt := 35) hx hb dX6_countSlates_28 (by decide) (fun c_28 => ?_) (fun c_28 => ?_)
              · have hf := cm_ip c_28 hf
                refine lv_iconst (pc := 35) (v := 0) hx hb dX6_countSlates_35 (by decide) ?_
                obtain rfl := hf
                exact J28 _ _ _ hP hD hS (lv_sub hl [0, 1, 3] rfl)
              · have hf := cm_in c_28 hf
                refine lv_iconst (pc := 31) (v := 1) hx hb dX6_countSlates_31 (by decide) ?_
                refine lv_goto (pc := 32) (tgt := 36) hx hb dX6_countSlates_32 (by decide) ?_
                obtain rfl := hf
                exact J28 _ _ _ hP hD hS (lv_sub hl [0, 1, 3] rfl)
        refine L12 _ (fun v1_12 v3_12 H locs ls hP hD hS hl hf => ?_) 5000 v1_4 0 _ _ _ hP hD hS (lv_sub hl [0, 1, 2, 3] rfl) hf
        refine lv_iinc (pc := 44) (v := (v2_4 + 1)) (lv' := [(2, .int (v2_4 + 1)), (1, .int v1_12), (0, .ref a)]) hx hb dX6_countSlates_44 hl (k := 0) rfl rfl (by decide) rfl (fun ls hl => ?_)
        refine lv_goto (pc := 47) (tgt := 4) hx hb dX6_countSlates_47 (by decide) ?_
        exact ih v1_12 (v2_4 + 1) _ _ _ hP hD hS (lv_sub hl [0, 1, 2] rfl) hf
  refine L4 _ (fun v1_4 v2_4 H locs ls hP hD hS hl hf => ?_) 5000 0 0 _ _ _ hP hD hS (lv_sub hl [0, 1, 2] rfl) hf
  refine lv_iload_n (pc := 50) hx hb dX6_countSlates_50 rfl (lv_at hl 0 rfl) ?_
  obtain rfl := Option.some.inj hf
  exact cm_iret (pc := 51) hAe hQ hx hb hr hlocks hP hD hS [0, 1, 2, 3] (by decide) rfl dX6_countSlates_51
def fX6_slate_L13 (v1 : Int32) (v3_4 : Int32) (si : SSI) (kx : Int32 → Int32 → Option (Int32)) : Nat → Int32 → Int32 → Option (Int32)
  | 0, _, _ => none
  | n + 1, v2_13, v4_13 => (if 8 < (v3_4 + v4_13) then kx v2_13 v4_13 else Option.bind (fX6_fits (v3_4 - v4_13) si) (fun u27 => (if u27 = 0 then fX6_slate_L13 v1 v3_4 si kx n v2_13 (v4_13 + 1) else (if v2_13 = v1 then some ((10 * v3_4) + v4_13) else fX6_slate_L13 v1 v3_4 si kx n (v2_13 + 1) (v4_13 + 1)))))
def fX6_slate_L4 (v1 : Int32) (si : SSI) (kx : Int32 → Int32 → Option (Int32)) : Nat → Int32 → Int32 → Option (Int32)
  | 0, _, _ => none
  | n + 1, v2_4, v3_4 => (if 8 < v3_4 then kx v2_4 v3_4 else fX6_slate_L13 v1 v3_4 si (fun v2_13 v4_13 => fX6_slate_L4 v1 si kx n v2_13 (v3_4 + 1)) 5000 v2_4 0)
def fX6_slate (v1 : Int32) (si : SSI) : Option (Int32) := fX6_slate_L4 v1 si (fun v2_4 v3_4 => some (-6)) 5000 0 0
def rmX6_slate : Room := { frames := 2, cells := 0, slots := 0, locals := 42 }
set_option maxRecDepth 100000 in
set_option maxHeartbeats 4000000 in
theorem c_X6_slate (l : Launch) (D : va_G) (cI cJ cZ : ClassId) (a a_leads a_answers a_slatesByGap : Nat) (si : SSI) (v1 : Int32) (res : Int32) (hf : fX6_slate v1 si = some res) : Ct l yX6_slate (cm_ws yX6_slate cX6_slate 5 (some .int)) rmX6_slate D (cm_T cI cJ cZ) [.ref a, .int v1] [(a, .inr (6, [.ref a_leads, .ref a_answers, .ref a_slatesByGap, .int si.2.2.2])), cm_kI cI a_leads 8 si.1, cm_kI cI a_answers 8 si.2.1, cm_kI cI a_slatesByGap 17 si.2.2.1] (some (.int res)) [(a, .inr (6, [.ref a_leads, .ref a_answers, .ref a_slatesByGap, .int si.2.2.2])), cm_kI cI a_leads 8 si.1, cm_kI cI a_answers 8 si.2.1, cm_kI cI a_slatesByGap 17 si.2.2.1] := by
  refine Ct.of (cc := cX6_slate) (maxL := 5) (ret := (some .int)) (by decide) (Nat.le_of_ble_eq_true rfl) ?_
  intro p e s m below meth c ls args A Q hav hAe hQ hx hb hr hml hown hlocks hts hK hP hD hA hS hl
  have hKa := hK.1
  have hl : lv_has ls 5 [(0, .ref a), (1, .int v1)] := hl
  unfold fX6_slate at hf
  refine lv_iconst (pc := 0) (v := 0) hx hb dX6_slate_0 (by decide) ?_
  refine lv_istore_n (pc := 1) (lv' := [(2, .int 0), (0, .ref a), (1, .int v1)]) hx hb dX6_slate_1 rfl hl (by decide) rfl (fun ls hl => ?_)
  refine lv_iconst (pc := 2) (v := 0) hx hb dX6_slate_2 (by decide) ?_
  refine lv_istore_n (pc := 3) (lv' := [(3, .int 0), (2, .int 0), (0, .ref a), (1, .int v1)]) hx hb dX6_slate_3 rfl hl (by decide) rfl (fun ls hl => ?_)
  have L4 : ∀ (kx : Int32 → Int32 → Option (Int32)), (∀ (v2_4 : Int32) (v3_4 : Int32) (H : Heap) (locs : List Loc) (ls : Array Slot), va_P D vwCl [(a, .inr (6, [.ref a_leads, .ref a_answers, .ref a_slatesByGap, .int si.2.2.2])), cm_kI cI a_leads 8 si.1, cm_kI cI a_answers 8 si.2.1, cm_kI cI a_slatesByGap 17 si.2.2.1] H → va_D A [(a, .inr (6, [.ref a_leads, .ref a_answers, .ref a_slatesByGap, .int si.2.2.2])), cm_kI cI a_leads 8 si.1, cm_kI cI a_answers 8 si.2.1, cm_kI cI a_slatesByGap 17 si.2.2.1] → va_S A s.heap H locs → lv_has ls 5 [] → kx v2_4 v3_4 = some res → W p l e rmX6_slate s m args below meth c H locs 0 0 Q (F0 m 61 ls [])) → ∀ (n : Nat) (v2_4 : Int32) (v3_4 : Int32) (H : Heap) (locs : List Loc) (ls : Array Slot), va_P D vwCl [(a, .inr (6, [.ref a_leads, .ref a_answers, .ref a_slatesByGap, .int si.2.2.2])), cm_kI cI a_leads 8 si.1, cm_kI cI a_answers 8 si.2.1, cm_kI cI a_slatesByGap 17 si.2.2.1] H → va_D A [(a, .inr (6, [.ref a_leads, .ref a_answers, .ref a_slatesByGap, .int si.2.2.2])), cm_kI cI a_leads 8 si.1, cm_kI cI a_answers 8 si.2.1, cm_kI cI a_slatesByGap 17 si.2.2.1] → va_S A s.heap H locs → lv_has ls 5 [(3, .int v3_4), (2, .int v2_4), (0, .ref a), (1, .int v1)] → fX6_slate_L4 v1 si kx n v2_4 v3_4 = some res → W p l e rmX6_slate s m args below meth c H locs 0 0 Q (F0 m 4 ls []) := by
    intro kx hkx n
    induction n with
    | zero => intro v2_4 v3_4 H locs ls hP hD hS hl hf; cases hf
    | succ n ih =>
      intro v2_4 v3_4 H locs ls hP hD hS hl hf
      rw [fX6_slate_L4] at hf
      refine lv_iload_n (pc := 4) hx hb dX6_slate_4 rfl (lv_at hl 0 rfl) ?_
      refine lv_bipush (pc := 5) (v := 8) hx hb dX6_slate_5 (by decide) ?_
      refine lv_icmp_gt (pc := 7) (tgt := 61) hx hb dX6_slate_7 (by decide) (fun c_7 => ?_) (fun c_7 => ?_)
      · have hf := cm_ip c_7 hf
        exact hkx v2_4 v3_4 _ _ _ hP hD hS (lv_sub hl [] rfl) hf
      · have hf := cm_in c_7 hf
        refine lv_iconst (pc := 10) (v := 0) hx hb dX6_slate_10 (by decide) ?_
        refine lv_istore (pc := 11) (lv' := [(4, .int 0), (3, .int v3_4), (2, .int v2_4), (0, .ref a), (1, .int v1)]) hx hb dX6_slate_11 hl (by decide) rfl (fun ls hl => ?_)
        have L13 : ∀ (kx : Int32 → Int32 → Option (Int32)), (∀ (v2_13 : Int32) (v4_13 : Int32) (H : Heap) (locs : List Loc) (ls : Array Slot), va_P D vwCl [(a, .inr (6, [.ref a_leads, .ref a_answers, .ref a_slatesByGap, .int si.2.2.2])), cm_kI cI a_leads 8 si.1, cm_kI cI a_answers 8 si.2.1, cm_kI cI a_slatesByGap 17 si.2.2.1] H → va_D A [(a, .inr (6, [.ref a_leads, .ref a_answers, .ref a_slatesByGap, .int si.2.2.2])), cm_kI cI a_leads 8 si.1, cm_kI cI a_answers 8 si.2.1, cm_kI cI a_slatesByGap 17 si.2.2.1] → va_S A s.heap H locs → lv_has ls 5 [(3, .int v3_4), (2, .int v2_13), (0, .ref a), (1, .int v1)] → kx v2_13 v4_13 = some res → W p l e rmX6_slate s m args below meth c H locs 0 0 Q (F0 m 55 ls [])) → ∀ (n : Nat) (v2_13 : Int32) (v4_13 : Int32) (H : Heap) (locs : List Loc) (ls : Array Slot), va_P D vwCl [(a, .inr (6, [.ref a_leads, .ref a_answers, .ref a_slatesByGap, .int si.2.2.2])), cm_kI cI a_leads 8 si.1, cm_kI cI a_answers 8 si.2.1, cm_kI cI a_slatesByGap 17 si.2.2.1] H → va_D A [(a, .inr (6, [.ref a_leads, .ref a_answers, .ref a_slatesByGap, .int si.2.2.2])), cm_kI cI a_leads 8 si.1, cm_kI cI a_answers 8 si.2.1, cm_kI cI a_slatesByGap 17 si.2.2.1] → va_S A s.heap H locs → lv_has ls 5 [(4, .int v4_13), (3, .int v3_4), (2, .int v2_13), (0, .ref a), (1, .int v1)] → fX6_slate_L13 v1 v3_4 si kx n v2_13 v4_13 = some res → W p l e rmX6_slate s m args below meth c H locs 0 0 Q (F0 m 13 ls []) := by
          intro kx hkx n
          induction n with
          | zero => intro v2_13 v4_13 H locs ls hP hD hS hl hf; cases hf
          | succ n ih =>
            intro v2_13 v4_13 H locs ls hP hD hS hl hf
            rw [fX6_slate_L13] at hf
            refine lv_iload_n (pc := 13) hx hb dX6_slate_13 rfl (lv_at hl 1 rfl) ?_
            refine lv_iload (pc := 14) hx hb dX6_slate_14 (lv_at hl 0 rfl) ?_
            refine lv_iadd (pc := 16) hx hb dX6_slate_16 ?_
            refine lv_bipush (pc := 17) (v := 8) hx hb dX6_slate_17 (by decide) ?_
            refine lv_icmp_gt (pc := 19) (tgt := 55) hx hb dX6_slate_19 (by decide) (fun c_19 => ?_) (fun c_19 => ?_)
            · have hf := cm_ip c_19 hf
              exact hkx v2_13 v4_13 _ _ _ hP hD hS (lv_sub hl [1, 2, 3, 4] rfl) hf
            · have hf := cm_in c_19 hf
              refine lv_aload_n (pc := 22) hx hb dX6_slate_22 rfl (lv_at hl 3 rfl) ?_
              refine lv_iload_n (pc := 23) hx hb dX6_slate_23 rfl (lv_at hl 1 rfl) ?_
              refine lv_iload (pc := 24) hx hb dX6_slate_24 (lv_at hl 0 rfl) ?_
              refine lv_isub (pc := 26) hx hb dX6_slate_26 ?_
              obtain ⟨u27, hu27, hf⟩ := cm_bd hf
              refine cm_callV (pc := 27) (As := [.int (v3_4 - v4_13)]) (rest := []) (wr := []) (ci := 6) (q0 := 0) (n := 1) hx hb hml hown hts hK hP hD hS hA (c_X6_fits l D cI cJ cZ a a_leads a_answers a_slatesByGap si (v3_4 - v4_13) u27 hu27) tw_586 tw_583 tw_585 tw_19 tw_50 rfl rfl (by decide +kernel) rfl ⟨Nat.le_of_ble_eq_true rfl, Nat.le_of_ble_eq_true rfl⟩ [0, 1, 2, 3] [] rfl (by decide) rfl (by decide) (by decide) rfl rfl rfl hl.1 rfl (Nat.le_of_ble_eq_true rfl) dX6_slate_27 ⟨Nat.zero_le _, Nat.zero_le _⟩ (fun H locs hP hD hS => ?_)
              have hP : va_P D vwCl [(a, .inr (6, [.ref a_leads, .ref a_answers, .ref a_slatesByGap, .int si.2.2.2])), cm_kI cI a_leads 8 si.1, cm_kI cI a_answers 8 si.2.1, cm_kI cI a_slatesByGap 17 si.2.2.1] H := hP
              have hD : va_D A [(a, .inr (6, [.ref a_leads, .ref a_answers, .ref a_slatesByGap, .int si.2.2.2])), cm_kI cI a_leads 8 si.1, cm_kI cI a_answers 8 si.2.1, cm_kI cI a_slatesByGap 17 si.2.2.1] := hD
              refine W.eq (g2 := F0 m 30 ls [.int u27]) rfl ?_
              refine lv_if_eq (pc := 30) (tgt := 49) hx hb dX6_slate_30 (by decide) (fun c_30 => ?_) (fun c_30 => ?_)
              · have hf := cm_ip c_30 hf
                refine lv_iinc (pc := 49) (v := (v4_13 + 1)) (lv' := [(4, .int (v4_13 + 1)), (3, .int v3_4), (2, .int v2_13), (0, .ref a), (1, .int v1)]) hx hb dX6_slate_49 hl (k := 0) rfl rfl (by decide) rfl (fun ls hl => ?_)
                refine lv_goto (pc := 52) (tgt := 13) hx hb dX6_slate_52 (by decide) ?_
                exact ih v2_13 (v4_13 + 1) _ _ _ hP hD hS (lv_sub hl [0, 1, 2, 3, 4] rfl) hf
              · have hf := cm_in c_30 hf
                refine lv_iload_n (pc := 33) hx hb dX6_slate_33 rfl (lv_at hl 2 rfl) ?_
                refine lv_iload_n (pc := 34) hx hb dX6_slate_34 rfl (lv_at hl 4 rfl) ?_
                refine lv_icmp_ne (pc := 35) (tgt := 46) hx hb dX6_slate_35 (by decide) (fun c_35 => ?_) (fun c_35 => ?_)
                · have hf := cm_in c_35 hf
                  refine lv_iinc (pc := 46) (v := (v2_13 + 1)) (lv' := [(2, .int (v2_13 + 1)), (4, .int v4_13), (3, .int v3_4), (0, .ref a), (1, .int v1)]) hx hb dX6_slate_46 hl (k := 2) rfl rfl (by decide) rfl (fun ls hl => ?_)
                  refine lv_iinc (pc := 49) (v := (v4_13 + 1)) (lv' := [(4, .int (v4_13 + 1)), (2, .int (v2_13 + 1)), (3, .int v3_4), (0, .ref a), (1, .int v1)]) hx hb dX6_slate_49 hl (k := 1) rfl rfl (by decide) rfl (fun ls hl => ?_)
                  refine lv_goto (pc := 52) (tgt := 13) hx hb dX6_slate_52 (by decide) ?_
                  exact ih (v2_13 + 1) (v4_13 + 1) _ _ _ hP hD hS (lv_sub hl [0, 2, 1, 3, 4] rfl) hf
                · have hf := cm_ip c_35 hf
                  refine lv_bipush (pc := 38) (v := 10) hx hb dX6_slate_38 (by decide) ?_
                  refine lv_iload_n (pc := 40) hx hb dX6_slate_40 rfl (lv_at hl 1 rfl) ?_
                  refine lv_imul (pc := 41) hx hb dX6_slate_41 ?_
                  refine lv_iload (pc := 42) hx hb dX6_slate_42 (lv_at hl 0 rfl) ?_
                  refine lv_iadd (pc := 44) hx hb dX6_slate_44 ?_
                  obtain rfl := Option.some.inj hf
                  exact cm_iret (pc := 45) hAe hQ hx hb hr hlocks hP hD hS [0, 1, 2, 3] (by decide) rfl dX6_slate_45
        refine L13 _ (fun v2_13 v4_13 H locs ls hP hD hS hl hf => ?_) 5000 v2_4 0 _ _ _ hP hD hS (lv_sub hl [0, 1, 2, 3, 4] rfl) hf
        refine lv_iinc (pc := 55) (v := (v3_4 + 1)) (lv' := [(3, .int (v3_4 + 1)), (2, .int v2_13), (0, .ref a), (1, .int v1)]) hx hb dX6_slate_55 hl (k := 0) rfl rfl (by decide) rfl (fun ls hl => ?_)
        refine lv_goto (pc := 58) (tgt := 4) hx hb dX6_slate_58 (by decide) ?_
        exact ih v2_13 (v3_4 + 1) _ _ _ hP hD hS (lv_sub hl [0, 1, 2, 3] rfl) hf
  refine L4 _ (fun v2_4 v3_4 H locs ls hP hD hS hl hf => ?_) 5000 0 0 _ _ _ hP hD hS (lv_sub hl [0, 1, 2, 3] rfl) hf
  refine lv_bipush (pc := 61) (v := (-6)) hx hb dX6_slate_61 (by decide) ?_
  obtain rfl := Option.some.inj hf
  exact cm_iret (pc := 63) hAe hQ hx hb hr hlocks hP hD hS [0, 1, 2, 3] (by decide) rfl dX6_slate_63
def fX10_slates (v1 : Int32) (sights_si : SSI) : Option (Int32) := (if v1 = (-1) then Option.bind (fX6_countSlates sights_si) (fun u9 => some u9) else Option.bind (fX6_slate v1 sights_si) (fun u20 => some u20))
def rmX10_slates : Room := { frames := 3, cells := 0, slots := 0, locals := 66 }
set_option maxRecDepth 100000 in
set_option maxHeartbeats 4000000 in
theorem c_X10_slates (l : Launch) (D : va_G) (cI cJ cZ : ClassId) (a a_now a_pad a_trial a_sights a_im0 a_im1 a_digits a_voters a_trades a_bells a_sights_leads a_sights_answers a_sights_slatesByGap : Nat) (sights_si : SSI) (v1 : Int32) (res : Int32) (hf : fX10_slates v1 sights_si = some res) : Ct l yX10_slates (cm_ws yX10_slates cX10_slates 2 (some .int)) rmX10_slates D (cm_T cI cJ cZ) [.ref a, .int v1] [(a, .inr (10, [.ref a_now, .ref a_pad, .ref a_trial, .ref a_sights, .ref a_im0, .ref a_im1, .ref a_digits, .ref a_voters, .ref a_trades, .ref a_bells])), (a_sights, .inr (6, [.ref a_sights_leads, .ref a_sights_answers, .ref a_sights_slatesByGap, .int sights_si.2.2.2])), cm_kI cI a_sights_leads 8 sights_si.1, cm_kI cI a_sights_answers 8 sights_si.2.1, cm_kI cI a_sights_slatesByGap 17 sights_si.2.2.1] (some (.int res)) [(a, .inr (10, [.ref a_now, .ref a_pad, .ref a_trial, .ref a_sights, .ref a_im0, .ref a_im1, .ref a_digits, .ref a_voters, .ref a_trades, .ref a_bells])), (a_sights, .inr (6, [.ref a_sights_leads, .ref a_sights_answers, .ref a_sights_slatesByGap, .int sights_si.2.2.2])), cm_kI cI a_sights_leads 8 sights_si.1, cm_kI cI a_sights_answers 8 sights_si.2.1, cm_kI cI a_sights_slatesByGap 17 sights_si.2.2.1] := by
  refine Ct.of (cc := cX10_slates) (maxL := 2) (ret := (some .int)) (by decide) (Nat.le_of_ble_eq_true rfl) ?_
  intro p e s m below meth c ls args A Q hav hAe hQ hx hb hr hml hown hlocks hts hK hP hD hA hS hl
  have hKa := hK.1
  have hl : lv_has ls 2 [(0, .ref a), (1, .int v1)] := hl
  unfold fX10_slates at hf
  refine lv_iload_n (pc := 0) hx hb dX10_slates_0 rfl (lv_at hl 1 rfl) ?_
  refine lv_iconst (pc := 1) (v := (-1)) hx hb dX10_slates_1 (by decide) ?_
  refine lv_icmp_ne (pc := 2) (tgt := 15) hx hb dX10_slates_2 (by decide) (fun c_2 => ?_) (fun c_2 => ?_)
  · have hf := cm_in c_2 hf
    refine lv_aload_n (pc := 15) hx hb dX10_slates_15 rfl (lv_at hl 0 rfl) ?_
    refine va_get (pc := 16) (D := D) (ci := 10) (v := .ref a_sights) (C := RX10) (T := TX10) (N := 10) hx hb hts in_X10 hown hKa hP 0 rfl rfl 3 (by decide) (hts _ tw_272) (fun _ h9 => h9) rfl dX10_slates_16 ?_
    refine lv_iload_n (pc := 19) hx hb dX10_slates_19 rfl (lv_at hl 1 rfl) ?_
    obtain ⟨u20, hu20, hf⟩ := cm_bd hf
    refine cm_callV (pc := 20) (As := [.int v1]) (rest := []) (wr := [(a, .inr (10, [.ref a_now, .ref a_pad, .ref a_trial, .ref a_sights, .ref a_im0, .ref a_im1, .ref a_digits, .ref a_voters, .ref a_trades, .ref a_bells]))]) (ci := 6) (q0 := 1) (n := 1) hx hb hml hown hts hK hP hD hS hA (c_X6_slate l D cI cJ cZ a_sights a_sights_leads a_sights_answers a_sights_slatesByGap sights_si v1 u20 hu20) tw_593 tw_590 tw_591 tw_592 tw_50 rfl rfl (by decide +kernel) rfl ⟨Nat.le_of_ble_eq_true rfl, Nat.le_of_ble_eq_true rfl⟩ [1, 2, 3, 4] [0] rfl (by decide) rfl (by decide) (by decide) rfl rfl rfl hl.1 rfl (Nat.le_of_ble_eq_true rfl) dX10_slates_20 ⟨Nat.zero_le _, Nat.zero_le _⟩ (fun H locs hP hD hS => ?_)
    have hP : va_P D vwCl [(a, .inr (10, [.ref a_now, .ref a_pad, .ref a_trial, .ref a_sights, .ref a_im0, .ref a_im1, .ref a_digits, .ref a_voters, .ref a_trades, .ref a_bells])), (a_sights, .inr (6, [.ref a_sights_leads, .ref a_sights_answers, .ref a_sights_slatesByGap, .int sights_si.2.2.2])), cm_kI cI a_sights_leads 8 sights_si.1, cm_kI cI a_sights_answers 8 sights_si.2.1, cm_kI cI a_sights_slatesByGap 17 sights_si.2.2.1] H := hP
    have hD : va_D A [(a, .inr (10, [.ref a_now, .ref a_pad, .ref a_trial, .ref a_sights, .ref a_im0, .ref a_im1, .ref a_digits, .ref a_voters, .ref a_trades, .ref a_bells])), (a_sights, .inr (6, [.ref a_sights_leads, .ref a_sights_answers, .ref a_sights_slatesByGap, .int sights_si.2.2.2])), cm_kI cI a_sights_leads 8 sights_si.1, cm_kI cI a_sights_answers 8 sights_si.2.1, cm_kI cI a_sights_slatesByGap 17 sights_si.2.2.1] := hD
    refine W.eq (g2 := F0 m 23 ls [.int u20]) rfl ?_
    obtain rfl := Option.some.inj hf
    exact cm_iret (pc := 23) hAe hQ hx hb hr hlocks hP hD hS [0, 1, 2, 3, 4] (by decide) rfl dX10_slates_23
  · have hf := cm_ip c_2 hf
    refine lv_aload_n (pc := 5) hx hb dX10_slates_5 rfl (lv_at hl 0 rfl) ?_
    refine va_get (pc := 6) (D := D) (ci := 10) (v := .ref a_sights) (C := RX10) (T := TX10) (N := 10) hx hb hts in_X10 hown hKa hP 0 rfl rfl 3 (by decide) (hts _ tw_272) (fun _ h9 => h9) rfl dX10_slates_6 ?_
    obtain ⟨u9, hu9, hf⟩ := cm_bd hf
    refine cm_callV (pc := 9) (As := []) (rest := []) (wr := [(a, .inr (10, [.ref a_now, .ref a_pad, .ref a_trial, .ref a_sights, .ref a_im0, .ref a_im1, .ref a_digits, .ref a_voters, .ref a_trades, .ref a_bells]))]) (ci := 6) (q0 := 1) (n := 0) hx hb hml hown hts hK hP hD hS hA (c_X6_countSlates l D cI cJ cZ a_sights a_sights_leads a_sights_answers a_sights_slatesByGap sights_si u9 hu9) tw_582 tw_579 tw_580 tw_581 tw_50 rfl rfl (by decide +kernel) rfl ⟨Nat.le_of_ble_eq_true rfl, Nat.le_of_ble_eq_true rfl⟩ [1, 2, 3, 4] [0] rfl (by decide) rfl (by decide) (by decide) rfl rfl rfl hl.1 rfl (Nat.le_of_ble_eq_true rfl) dX10_slates_9 ⟨Nat.zero_le _, Nat.zero_le _⟩ (fun H locs hP hD hS => ?_)
    have hP : va_P D vwCl [(a, .inr (10, [.ref a_now, .ref a_pad, .ref a_trial, .ref a_sights, .ref a_im0, .ref a_im1, .ref a_digits, .ref a_voters, .ref a_trades, .ref a_bells])), (a_sights, .inr (6, [.ref a_sights_leads, .ref a_sights_answers, .ref a_sights_slatesByGap, .int sights_si.2.2.2])), cm_kI cI a_sights_leads 8 sights_si.1, cm_kI cI a_sights_answers 8 sights_si.2.1, cm_kI cI a_sights_slatesByGap 17 sights_si.2.2.1] H := hP
    have hD : va_D A [(a, .inr (10, [.ref a_now, .ref a_pad, .ref a_trial, .ref a_sights, .ref a_im0, .ref a_im1, .ref a_digits, .ref a_voters, .ref a_trades, .ref a_bells])), (a_sights, .inr (6, [.ref a_sights_leads, .ref a_sights_answers, .ref a_sights_slatesByGap, .int sights_si.2.2.2])), cm_kI cI a_sights_leads 8 sights_si.1, cm_kI cI a_sights_answers 8 sights_si.2.1, cm_kI cI a_sights_slatesByGap 17 sights_si.2.2.1] := hD
    refine W.eq (g2 := F0 m 12 ls [.int u9]) rfl ?_
    refine lv_goto (pc := 12) (tgt := 23) hx hb dX10_slates_12 (by decide) ?_
    obtain rfl := Option.some.inj hf
    exact cm_iret (pc := 23) hAe hQ hx hb hr hlocks hP hD hS [0, 1, 2, 3, 4] (by decide) rfl dX10_slates_23
def fX6_tallySlates_L5 (kx : Int32 → Int32 → SSI → Option (Int32 × SSI)) : Nat → Int32 → Int32 → SSI → Option (Int32 × SSI)
  | 0, _, _, _ => none
  | n + 1, v1_5, v2_5, si_5 => (if 8 < v2_5 then kx v1_5 v2_5 si_5 else Option.bind (fX6_fits v2_5 si_5) (fun u13 => cm_let ((if u13 = 0 then 0 else (((8 - (if 0 ≤ v2_5 then v2_5 else 0 - v2_5)) / 2) + 1)) : Int32) (fun j16 => if (v2_5 + 8) < 0 ∨ 17 ≤ (v2_5 + 8).toNatClampNeg then none else fX6_tallySlates_L5 kx n (v1_5 + j16) (v2_5 + 1) (si_5.1, si_5.2.1, (upd si_5.2.2.1 (v2_5 + 8).toNatClampNeg j16), si_5.2.2.2))))
def fX6_tallySlates (si : SSI) : Option (Int32 × SSI) := fX6_tallySlates_L5 (fun v1_5 v2_5 si_5 => some (v1_5, si_5)) 5000 0 (-8) si
def rmX6_tallySlates : Room := { frames := 2, cells := 0, slots := 0, locals := 42 }
set_option maxRecDepth 100000 in
set_option maxHeartbeats 4000000 in
theorem c_X6_tallySlates (l : Launch) (D : va_G) (cI cJ cZ : ClassId) (a a_leads a_answers a_slatesByGap : Nat) (si : SSI) (res : Int32 × SSI) (hf : fX6_tallySlates si = some res) : Ct l yX6_tallySlates (cm_ws yX6_tallySlates cX6_tallySlates 4 (some .int)) rmX6_tallySlates D (cm_T cI cJ cZ) [.ref a] [(a, .inr (6, [.ref a_leads, .ref a_answers, .ref a_slatesByGap, .int si.2.2.2])), cm_kI cI a_leads 8 si.1, cm_kI cI a_answers 8 si.2.1, cm_kI cI a_slatesByGap 17 si.2.2.1] (some (.int res.1)) [(a, .inr (6, [.ref a_leads, .ref a_answers, .ref a_slatesByGap, .int res.2.2.2.2])), cm_kI cI a_leads 8 res.2.1, cm_kI cI a_answers 8 res.2.2.1, cm_kI cI a_slatesByGap 17 res.2.2.2.1] := by
  refine Ct.of (cc := cX6_tallySlates) (maxL := 4) (ret := (some .int)) (by decide) (Nat.le_of_ble_eq_true rfl) ?_
  intro p e s m below meth c ls args A Q hav hAe hQ hx hb hr hml hown hlocks hts hK hP hD hA hS hl
  have hKa := hK.1
  have hl : lv_has ls 4 [(0, .ref a)] := hl
  unfold fX6_tallySlates at hf
  refine lv_iconst (pc := 0) (v := 0) hx hb dX6_tallySlates_0 (by decide) ?_
  refine lv_istore_n (pc := 1) (lv' := [(1, .int 0), (0, .ref a)]) hx hb dX6_tallySlates_1 rfl hl (by decide) rfl (fun ls hl => ?_)
  refine lv_bipush (pc := 2) (v := (-8)) hx hb dX6_tallySlates_2 (by decide) ?_
  refine lv_istore_n (pc := 4) (lv' := [(2, .int (-8)), (1, .int 0), (0, .ref a)]) hx hb dX6_tallySlates_4 rfl hl (by decide) rfl (fun ls hl => ?_)
  have L5 : ∀ (kx : Int32 → Int32 → SSI → Option (Int32 × SSI)), (∀ (v1_5 : Int32) (v2_5 : Int32) (si_5 : SSI) (H : Heap) (locs : List Loc) (ls : Array Slot), va_P D vwCl [(a, .inr (6, [.ref a_leads, .ref a_answers, .ref a_slatesByGap, .int si_5.2.2.2])), cm_kI cI a_leads 8 si_5.1, cm_kI cI a_answers 8 si_5.2.1, cm_kI cI a_slatesByGap 17 si_5.2.2.1] H → va_D A [(a, .inr (6, [.ref a_leads, .ref a_answers, .ref a_slatesByGap, .int si_5.2.2.2])), cm_kI cI a_leads 8 si_5.1, cm_kI cI a_answers 8 si_5.2.1, cm_kI cI a_slatesByGap 17 si_5.2.2.1] → va_S A s.heap H locs → lv_has ls 4 [(1, .int v1_5)] → kx v1_5 v2_5 si_5 = some res → W p l e rmX6_tallySlates s m args below meth c H locs 0 0 Q (F0 m 55 ls [])) → ∀ (n : Nat) (v1_5 : Int32) (v2_5 : Int32) (si_5 : SSI) (H : Heap) (locs : List Loc) (ls : Array Slot), va_P D vwCl [(a, .inr (6, [.ref a_leads, .ref a_answers, .ref a_slatesByGap, .int si_5.2.2.2])), cm_kI cI a_leads 8 si_5.1, cm_kI cI a_answers 8 si_5.2.1, cm_kI cI a_slatesByGap 17 si_5.2.2.1] H → va_D A [(a, .inr (6, [.ref a_leads, .ref a_answers, .ref a_slatesByGap, .int si_5.2.2.2])), cm_kI cI a_leads 8 si_5.1, cm_kI cI a_answers 8 si_5.2.1, cm_kI cI a_slatesByGap 17 si_5.2.2.1] → va_S A s.heap H locs → lv_has ls 4 [(2, .int v2_5), (1, .int v1_5), (0, .ref a)] → fX6_tallySlates_L5 kx n v1_5 v2_5 si_5 = some res → W p l e rmX6_tallySlates s m args below meth c H locs 0 0 Q (F0 m 5 ls []) := by
    intro kx hkx n
    induction n with
    | zero => intro v1_5 v2_5 si_5 H locs ls hP hD hS hl hf; cases hf
    | succ n ih =>
      intro v1_5 v2_5 si_5 H locs ls hP hD hS hl hf
      rw [fX6_tallySlates_L5] at hf
      refine lv_iload_n (pc := 5) hx hb dX6_tallySlates_5 rfl (lv_at hl 0 rfl) ?_
      refine lv_bipush (pc := 6) (v := 8) hx hb dX6_tallySlates_6 (by decide) ?_
      refine lv_icmp_gt (pc := 8) (tgt := 55) hx hb dX6_tallySlates_8 (by decide) (fun c_8 => ?_) (fun c_8 => ?_)
      · have hf := cm_ip c_8 hf
        exact hkx v1_5 v2_5 si_5 _ _ _ hP hD hS (lv_sub hl [1] rfl) hf
      · have hf := cm_in c_8 hf
        refine lv_aload_n (pc := 11) hx hb dX6_tallySlates_11 rfl (lv_at hl 2 rfl) ?_
        refine lv_iload_n (pc := 12) hx hb dX6_tallySlates_12 rfl (lv_at hl 0 rfl) ?_
        obtain ⟨u13, hu13, hf⟩ := cm_bd hf
        refine cm_callV (pc := 13) (As := [.int v2_5]) (rest := []) (wr := []) (ci := 6) (q0 := 0) (n := 1) hx hb hml hown hts hK hP hD hS hA (c_X6_fits l D cI cJ cZ a a_leads a_answers a_slatesByGap si_5 v2_5 u13 hu13) tw_586 tw_583 tw_585 tw_19 tw_50 rfl rfl (by decide +kernel) rfl ⟨Nat.le_of_ble_eq_true rfl, Nat.le_of_ble_eq_true rfl⟩ [0, 1, 2, 3] [] rfl (by decide) rfl (by decide) (by decide) rfl rfl rfl hl.1 rfl (Nat.le_of_ble_eq_true rfl) dX6_tallySlates_13 ⟨Nat.zero_le _, Nat.zero_le _⟩ (fun H locs hP hD hS => ?_)
        have hP : va_P D vwCl [(a, .inr (6, [.ref a_leads, .ref a_answers, .ref a_slatesByGap, .int si_5.2.2.2])), cm_kI cI a_leads 8 si_5.1, cm_kI cI a_answers 8 si_5.2.1, cm_kI cI a_slatesByGap 17 si_5.2.2.1] H := hP
        have hD : va_D A [(a, .inr (6, [.ref a_leads, .ref a_answers, .ref a_slatesByGap, .int si_5.2.2.2])), cm_kI cI a_leads 8 si_5.1, cm_kI cI a_answers 8 si_5.2.1, cm_kI cI a_slatesByGap 17 si_5.2.2.1] := hD
        refine W.eq (g2 := F0 m 16 ls [.int u13]) rfl ?_
        obtain ⟨j16, hj16, hf⟩ := cm_lt hf
        have J16 : ∀ (H : Heap) (locs : List Loc) (ls : Array Slot), va_P D vwCl [(a, .inr (6, [.ref a_leads, .ref a_answers, .ref a_slatesByGap, .int si_5.2.2.2])), cm_kI cI a_leads 8 si_5.1, cm_kI cI a_answers 8 si_5.2.1, cm_kI cI a_slatesByGap 17 si_5.2.2.1] H → va_D A [(a, .inr (6, [.ref a_leads, .ref a_answers, .ref a_slatesByGap, .int si_5.2.2.2])), cm_kI cI a_leads 8 si_5.1, cm_kI cI a_answers 8 si_5.2.1, cm_kI cI a_slatesByGap 17 si_5.2.2.1] → va_S A s.heap H locs → lv_has ls 4 [(2, .int v2_5), (1, .int v1_5), (0, .ref a)] → W p l e rmX6_tallySlates s m args below meth c H locs 0 0 Q (F0 m 34 ls [.int j16]) := by
          intro H locs ls hP hD hS hl
          refine lv_istore_n (pc := 34) (lv' := [(3, .int j16), (2, .int v2_5), (1, .int v1_5), (0, .ref a)]) hx hb dX6_tallySlates_34 rfl hl (by decide) rfl (fun ls hl => ?_)
          refine lv_aload_n (pc := 35) hx hb dX6_tallySlates_35 rfl (lv_at hl 3 rfl) ?_
          refine va_get (pc := 36) (D := D) (ci := 6) (v := .ref a_slatesByGap) (C := RX6) (T := TX6) (N := 4) hx hb hts in_X6 hown hKa hP 0 rfl rfl 2 (by decide) (hts _ tw_188) (fun _ h9 => h9) rfl dX6_tallySlates_36 ?_
          refine lv_iload_n (pc := 39) hx hb dX6_tallySlates_39 rfl (lv_at hl 1 rfl) ?_
          refine lv_bipush (pc := 40) (v := 8) hx hb dX6_tallySlates_40 (by decide) ?_
          refine lv_iadd (pc := 42) hx hb dX6_tallySlates_42 ?_
          refine lv_iload_n (pc := 43) hx hb dX6_tallySlates_43 rfl (lv_at hl 0 rfl) ?_
          obtain ⟨b_44, hf⟩ := cm_ob hf
          refine va_iast (pc := 44) hx hb hKa hP hD hS 3 0 rfl rfl b_44 dX6_tallySlates_44 (fun H locs hP hD hS => ?_)
          have hP : va_P D vwCl [(a, .inr (6, [.ref a_leads, .ref a_answers, .ref a_slatesByGap, .int si_5.2.2.2])), cm_kI cI a_leads 8 si_5.1, cm_kI cI a_answers 8 si_5.2.1, cm_kI cI a_slatesByGap 17 (upd si_5.2.2.1 (v2_5 + 8).toNatClampNeg j16)] H := hP
          have hD : va_D A [(a, .inr (6, [.ref a_leads, .ref a_answers, .ref a_slatesByGap, .int si_5.2.2.2])), cm_kI cI a_leads 8 si_5.1, cm_kI cI a_answers 8 si_5.2.1, cm_kI cI a_slatesByGap 17 (upd si_5.2.2.1 (v2_5 + 8).toNatClampNeg j16)] := hD
          refine lv_iload_n (pc := 45) hx hb dX6_tallySlates_45 rfl (lv_at hl 2 rfl) ?_
          refine lv_iload_n (pc := 46) hx hb dX6_tallySlates_46 rfl (lv_at hl 0 rfl) ?_
          refine lv_iadd (pc := 47) hx hb dX6_tallySlates_47 ?_
          refine lv_istore_n (pc := 48) (lv' := [(1, .int (v1_5 + j16)), (3, .int j16), (2, .int v2_5), (0, .ref a)]) hx hb dX6_tallySlates_48 rfl hl (by decide) rfl (fun ls hl => ?_)
          refine lv_iinc (pc := 49) (v := (v2_5 + 1)) (lv' := [(2, .int (v2_5 + 1)), (1, .int (v1_5 + j16)), (3, .int j16), (0, .ref a)]) hx hb dX6_tallySlates_49 hl (k := 2) rfl rfl (by decide) rfl (fun ls hl => ?_)
          refine lv_goto (pc := 52) (tgt := 5) hx hb dX6_tallySlates_52 (by decide) ?_
          exact ih (v1_5 + j16) (v2_5 + 1) (si_5.1, si_5.2.1, (upd si_5.2.2.1 (v2_5 + 8).toNatClampNeg j16), si_5.2.2.2) _ _ _ hP hD hS (lv_sub hl [0, 1, 3] rfl) hf
        clear hf
        have hf := hj16
        refine lv_if_eq (pc := 16) (tgt := 33) hx hb dX6_tallySlates_16 (by decide) (fun c_16 => ?_) (fun c_16 => ?_)
        · have hf := cm_ip c_16 hf
          refine lv_iconst (pc := 33) (v := 0) hx hb dX6_tallySlates_33 (by decide) ?_
          obtain rfl := hf
          exact J16 _ _ _ hP hD hS (lv_sub hl [0, 1, 2] rfl)
        · have hf := cm_in c_16 hf
          refine lv_bipush (pc := 19) (v := 8) hx hb dX6_tallySlates_19 (by decide) ?_
          refine lv_iload_n (pc := 21) hx hb dX6_tallySlates_21 rfl (lv_at hl 0 rfl) ?_
          refine va_mabs (pc := 22) hx hb (hml.trans hl.1.symm) hown (hts _ tw_606) (hts _ tw_607) (hts _ tw_57) (hts _ tw_608) (Nat.le_of_ble_eq_true rfl) (Nat.le_of_ble_eq_true rfl) (Nat.zero_le _) (Nat.zero_le _) dX6_tallySlates_22 ?_
          refine lv_isub (pc := 25) hx hb dX6_tallySlates_25 ?_
          refine lv_iconst (pc := 26) (v := 2) hx hb dX6_tallySlates_26 (by decide) ?_
          refine lv_idiv (pc := 27) hx hb dX6_tallySlates_27 (by decide) ?_
          refine lv_iconst (pc := 28) (v := 1) hx hb dX6_tallySlates_28 (by decide) ?_
          refine lv_iadd (pc := 29) hx hb dX6_tallySlates_29 ?_
          refine lv_goto (pc := 30) (tgt := 34) hx hb dX6_tallySlates_30 (by decide) ?_
          obtain rfl := hf
          exact J16 _ _ _ hP hD hS (lv_sub hl [0, 1, 2] rfl)
  refine L5 _ (fun v1_5 v2_5 si_5 H locs ls hP hD hS hl hf => ?_) 5000 0 (-8) si _ _ _ hP hD hS (lv_sub hl [0, 1, 2] rfl) hf
  refine lv_iload_n (pc := 55) hx hb dX6_tallySlates_55 rfl (lv_at hl 0 rfl) ?_
  obtain rfl := Option.some.inj hf
  exact cm_iret (pc := 56) hAe hQ hx hb hr hlocks hP hD hS [0, 1, 2, 3] (by decide) rfl dX6_tallySlates_56
def fX6_mostLeft_L11 (v1 : Int32) (si : SSI) (kx : Int32 → Int32 → Int32 → Int32 → Option (Int32)) : Nat → Int32 → Int32 → Int32 → Int32 → Option (Int32)
  | 0, _, _, _, _ => none
  | n + 1, v2_11, v3_11, v4_11, v5_11 => (if 8 < v5_11 then kx v2_11 v3_11 v4_11 v5_11 else if (v5_11 + 8) < 0 ∨ 17 ≤ (v5_11 + 8).toNatClampNeg then none else cm_let (fX6_answerFor (v5_11 + v1)) (fun u34 => (if u34 = 0 then fX6_mostLeft_L11 v1 si kx n (v2_11 + (si.2.2.1 (v5_11 + 8).toNatClampNeg)) v3_11 v4_11 (v5_11 + 1) else (if u34 = 1 then fX6_mostLeft_L11 v1 si kx n v2_11 (v3_11 + (si.2.2.1 (v5_11 + 8).toNatClampNeg)) v4_11 (v5_11 + 1) else fX6_mostLeft_L11 v1 si kx n v2_11 v3_11 (v4_11 + (si.2.2.1 (v5_11 + 8).toNatClampNeg)) (v5_11 + 1)))))
def fX6_mostLeft (v1 : Int32) (si : SSI) : Option (Int32) := fX6_mostLeft_L11 v1 si (fun v2_11 v3_11 v4_11 v5_11 => some (if v2_11 < (if v3_11 < v4_11 then v4_11 else v3_11) then (if v3_11 < v4_11 then v4_11 else v3_11) else v2_11)) 5000 0 0 0 (-8)
def rmX6_mostLeft : Room := { frames := 1, cells := 0, slots := 0, locals := 21 }
set_option maxRecDepth 100000 in
set_option maxHeartbeats 4000000 in
theorem c_X6_mostLeft (l : Launch) (D : va_G) (cI cJ cZ : ClassId) (a a_leads a_answers a_slatesByGap : Nat) (si : SSI) (v1 : Int32) (res : Int32) (hf : fX6_mostLeft v1 si = some res) : Ct l yX6_mostLeft (cm_ws yX6_mostLeft cX6_mostLeft 7 (some .int)) rmX6_mostLeft D (cm_T cI cJ cZ) [.ref a, .int v1] [(a, .inr (6, [.ref a_leads, .ref a_answers, .ref a_slatesByGap, .int si.2.2.2])), cm_kI cI a_leads 8 si.1, cm_kI cI a_answers 8 si.2.1, cm_kI cI a_slatesByGap 17 si.2.2.1] (some (.int res)) [(a, .inr (6, [.ref a_leads, .ref a_answers, .ref a_slatesByGap, .int si.2.2.2])), cm_kI cI a_leads 8 si.1, cm_kI cI a_answers 8 si.2.1, cm_kI cI a_slatesByGap 17 si.2.2.1] := by
  refine Ct.of (cc := cX6_mostLeft) (maxL := 7) (ret := (some .int)) (by decide) (Nat.le_of_ble_eq_true rfl) ?_
  intro p e s m below meth c ls args A Q hav hAe hQ hx hb hr hml hown hlocks hts hK hP hD hA hS hl
  have hKa := hK.1
  have hl : lv_has ls 7 [(0, .ref a), (1, .int v1)] := hl
  unfold fX6_mostLeft at hf
  refine lv_iconst (pc := 0) (v := 0) hx hb dX6_mostLeft_0 (by decide) ?_
  refine lv_istore_n (pc := 1) (lv' := [(2, .int 0), (0, .ref a), (1, .int v1)]) hx hb dX6_mostLeft_1 rfl hl (by decide) rfl (fun ls hl => ?_)
  refine lv_iconst (pc := 2) (v := 0) hx hb dX6_mostLeft_2 (by decide) ?_
  refine lv_istore_n (pc := 3) (lv' := [(3, .int 0), (2, .int 0), (0, .ref a), (1, .int v1)]) hx hb dX6_mostLeft_3 rfl hl (by decide) rfl (fun ls hl => ?_)
  refine lv_iconst (pc := 4) (v := 0) hx hb dX6_mostLeft_4 (by decide) ?_
  refine lv_istore (pc := 5) (lv' := [(4, .int 0), (3, .int 0), (2, .int 0), (0, .ref a), (1, .int v1)]) hx hb dX6_mostLeft_5 hl (by decide) rfl (fun ls hl => ?_)
  refine lv_bipush (pc := 7) (v := (-8)) hx hb dX6_mostLeft_7 (by decide) ?_
  refine lv_istore (pc := 9) (lv' := [(5, .int (-8)), (4, .int 0), (3, .int 0), (2, .int 0), (0, .ref a), (1, .int v1)]) hx hb dX6_mostLeft_9 hl (by decide) rfl (fun ls hl => ?_)
  have L11 : ∀ (kx : Int32 → Int32 → Int32 → Int32 → Option (Int32)), (∀ (v2_11 : Int32) (v3_11 : Int32) (v4_11 : Int32) (v5_11 : Int32) (H : Heap) (locs : List Loc) (ls : Array Slot), va_P D vwCl [(a, .inr (6, [.ref a_leads, .ref a_answers, .ref a_slatesByGap, .int si.2.2.2])), cm_kI cI a_leads 8 si.1, cm_kI cI a_answers 8 si.2.1, cm_kI cI a_slatesByGap 17 si.2.2.1] H → va_D A [(a, .inr (6, [.ref a_leads, .ref a_answers, .ref a_slatesByGap, .int si.2.2.2])), cm_kI cI a_leads 8 si.1, cm_kI cI a_answers 8 si.2.1, cm_kI cI a_slatesByGap 17 si.2.2.1] → va_S A s.heap H locs → lv_has ls 7 [(4, .int v4_11), (3, .int v3_11), (2, .int v2_11)] → kx v2_11 v3_11 v4_11 v5_11 = some res → W p l e rmX6_mostLeft s m args below meth c H locs 0 0 Q (F0 m 93 ls [])) → ∀ (n : Nat) (v2_11 : Int32) (v3_11 : Int32) (v4_11 : Int32) (v5_11 : Int32) (H : Heap) (locs : List Loc) (ls : Array Slot), va_P D vwCl [(a, .inr (6, [.ref a_leads, .ref a_answers, .ref a_slatesByGap, .int si.2.2.2])), cm_kI cI a_leads 8 si.1, cm_kI cI a_answers 8 si.2.1, cm_kI cI a_slatesByGap 17 si.2.2.1] H → va_D A [(a, .inr (6, [.ref a_leads, .ref a_answers, .ref a_slatesByGap, .int si.2.2.2])), cm_kI cI a_leads 8 si.1, cm_kI cI a_answers 8 si.2.1, cm_kI cI a_slatesByGap 17 si.2.2.1] → va_S A s.heap H locs → lv_has ls 7 [(5, .int v5_11), (4, .int v4_11), (3, .int v3_11), (2, .int v2_11), (0, .ref a), (1, .int v1)] → fX6_mostLeft_L11 v1 si kx n v2_11 v3_11 v4_11 v5_11 = some res → W p l e rmX6_mostLeft s m args below meth c H locs 0 0 Q (F0 m 11 ls []) := by
    intro kx hkx n
    induction n with
    | zero => intro v2_11 v3_11 v4_11 v5_11 H locs ls hP hD hS hl hf; cases hf
    | succ n ih =>
      intro v2_11 v3_11 v4_11 v5_11 H locs ls hP hD hS hl hf
      rw [fX6_mostLeft_L11] at hf
      refine lv_iload (pc := 11) hx hb dX6_mostLeft_11 (lv_at hl 0 rfl) ?_
      refine lv_bipush (pc := 13) (v := 8) hx hb dX6_mostLeft_13 (by decide) ?_
      refine lv_icmp_gt (pc := 15) (tgt := 93) hx hb dX6_mostLeft_15 (by decide) (fun c_15 => ?_) (fun c_15 => ?_)
      · have hf := cm_ip c_15 hf
        exact hkx v2_11 v3_11 v4_11 v5_11 _ _ _ hP hD hS (lv_sub hl [1, 2, 3] rfl) hf
      · have hf := cm_in c_15 hf
        refine lv_aload_n (pc := 18) hx hb dX6_mostLeft_18 rfl (lv_at hl 4 rfl) ?_
        refine va_get (pc := 19) (D := D) (ci := 6) (v := .ref a_slatesByGap) (C := RX6) (T := TX6) (N := 4) hx hb hts in_X6 hown hKa hP 0 rfl rfl 2 (by decide) (hts _ tw_188) (fun _ h9 => h9) rfl dX6_mostLeft_19 ?_
        refine lv_iload (pc := 22) hx hb dX6_mostLeft_22 (lv_at hl 0 rfl) ?_
        refine lv_bipush (pc := 24) (v := 8) hx hb dX6_mostLeft_24 (by decide) ?_
        refine lv_iadd (pc := 26) hx hb dX6_mostLeft_26 ?_
        obtain ⟨b_27, hf⟩ := cm_ob hf
        refine va_iald (pc := 27) hx hb hKa hP 3 0 rfl rfl b_27 dX6_mostLeft_27 ?_
        refine lv_istore (pc := 28) (lv' := [(6, .int (si.2.2.1 (v5_11 + 8).toNatClampNeg)), (5, .int v5_11), (4, .int v4_11), (3, .int v3_11), (2, .int v2_11), (0, .ref a), (1, .int v1)]) hx hb dX6_mostLeft_28 hl (by decide) rfl (fun ls hl => ?_)
        refine lv_iload (pc := 30) hx hb dX6_mostLeft_30 (lv_at hl 1 rfl) ?_
        refine lv_iload_n (pc := 32) hx hb dX6_mostLeft_32 rfl (lv_at hl 6 rfl) ?_
        refine lv_iadd (pc := 33) hx hb dX6_mostLeft_33 ?_
        obtain ⟨u34, hu34, hf⟩ := cm_lt hf
        refine cm_callS (pc := 34) (As := [.int (v5_11 + v1)]) (rest := []) (wr := [(a, .inr (6, [.ref a_leads, .ref a_answers, .ref a_slatesByGap, .int si.2.2.2])), cm_kI cI a_leads 8 si.1, cm_kI cI a_answers 8 si.2.1, cm_kI cI a_slatesByGap 17 si.2.2.1]) (n := 1) hx hb hml hown hts hK hP hD hS hA (c_X6_answerFor l D cI cJ cZ (v5_11 + v1) u34 hu34) tw_589 tw_587 tw_588 tw_50 rfl rfl (by decide +kernel) rfl ⟨Nat.le_of_ble_eq_true rfl, Nat.le_of_ble_eq_true rfl⟩ [] [0, 1, 2, 3] rfl (by decide) rfl (by decide) (by decide) hl.1 rfl (Nat.le_of_ble_eq_true rfl) dX6_mostLeft_34 ⟨Nat.zero_le _, Nat.zero_le _⟩ (fun H locs hP hD hS => ?_)
        have hP : va_P D vwCl [(a, .inr (6, [.ref a_leads, .ref a_answers, .ref a_slatesByGap, .int si.2.2.2])), cm_kI cI a_leads 8 si.1, cm_kI cI a_answers 8 si.2.1, cm_kI cI a_slatesByGap 17 si.2.2.1] H := hP
        have hD : va_D A [(a, .inr (6, [.ref a_leads, .ref a_answers, .ref a_slatesByGap, .int si.2.2.2])), cm_kI cI a_leads 8 si.1, cm_kI cI a_answers 8 si.2.1, cm_kI cI a_slatesByGap 17 si.2.2.1] := hD
        refine W.eq (g2 := F0 m 37 ls [.int u34]) rfl ?_
        refine cm_em (u34 = 0) (fun c_37_0 => ?_) (fun c_37_0 => ?_)
        · have hf := cm_ip c_37_0 hf
          refine lv_lookup (pc := 37) (off := 27) (tgt := 64) hx hb dX6_mostLeft_37 (by decide) (by rw [c_37_0]; decide) (by decide) ?_
          refine lv_iload_n (pc := 64) hx hb dX6_mostLeft_64 rfl (lv_at hl 4 rfl) ?_
          refine lv_iload (pc := 65) hx hb dX6_mostLeft_65 (lv_at hl 0 rfl) ?_
          refine lv_iadd (pc := 67) hx hb dX6_mostLeft_67 ?_
          refine lv_istore_n (pc := 68) (lv' := [(2, .int (v2_11 + (si.2.2.1 (v5_11 + 8).toNatClampNeg))), (6, .int (si.2.2.1 (v5_11 + 8).toNatClampNeg)), (5, .int v5_11), (4, .int v4_11), (3, .int v3_11), (0, .ref a), (1, .int v1)]) hx hb dX6_mostLeft_68 rfl hl (by decide) rfl (fun ls hl => ?_)
          refine lv_goto (pc := 69) (tgt := 87) hx hb dX6_mostLeft_69 (by decide) ?_
          refine lv_iinc (pc := 87) (v := (v5_11 + 1)) (lv' := [(5, .int (v5_11 + 1)), (2, .int (v2_11 + (si.2.2.1 (v5_11 + 8).toNatClampNeg))), (6, .int (si.2.2.1 (v5_11 + 8).toNatClampNeg)), (4, .int v4_11), (3, .int v3_11), (0, .ref a), (1, .int v1)]) hx hb dX6_mostLeft_87 hl (k := 2) rfl rfl (by decide) rfl (fun ls hl => ?_)
          refine lv_goto (pc := 90) (tgt := 11) hx hb dX6_mostLeft_90 (by decide) ?_
          exact ih (v2_11 + (si.2.2.1 (v5_11 + 8).toNatClampNeg)) v3_11 v4_11 (v5_11 + 1) _ _ _ hP hD hS (lv_sub hl [0, 3, 4, 1, 5, 6] rfl) hf
        · have hf := cm_in c_37_0 hf
          refine cm_em (u34 = 1) (fun c_37_1 => ?_) (fun c_37_1 => ?_)
          · have hf := cm_ip c_37_1 hf
            refine lv_lookup (pc := 37) (off := 35) (tgt := 72) hx hb dX6_mostLeft_37 (by decide) (by rw [c_37_1]; decide) (by decide) ?_
            refine lv_iload_n (pc := 72) hx hb dX6_mostLeft_72 rfl (lv_at hl 3 rfl) ?_
            refine lv_iload (pc := 73) hx hb dX6_mostLeft_73 (lv_at hl 0 rfl) ?_
            refine lv_iadd (pc := 75) hx hb dX6_mostLeft_75 ?_
            refine lv_istore_n (pc := 76) (lv' := [(3, .int (v3_11 + (si.2.2.1 (v5_11 + 8).toNatClampNeg))), (6, .int (si.2.2.1 (v5_11 + 8).toNatClampNeg)), (5, .int v5_11), (4, .int v4_11), (2, .int v2_11), (0, .ref a), (1, .int v1)]) hx hb dX6_mostLeft_76 rfl hl (by decide) rfl (fun ls hl => ?_)
            refine lv_goto (pc := 77) (tgt := 87) hx hb dX6_mostLeft_77 (by decide) ?_
            refine lv_iinc (pc := 87) (v := (v5_11 + 1)) (lv' := [(5, .int (v5_11 + 1)), (3, .int (v3_11 + (si.2.2.1 (v5_11 + 8).toNatClampNeg))), (6, .int (si.2.2.1 (v5_11 + 8).toNatClampNeg)), (4, .int v4_11), (2, .int v2_11), (0, .ref a), (1, .int v1)]) hx hb dX6_mostLeft_87 hl (k := 2) rfl rfl (by decide) rfl (fun ls hl => ?_)
            refine lv_goto (pc := 90) (tgt := 11) hx hb dX6_mostLeft_90 (by decide) ?_
            exact ih v2_11 (v3_11 + (si.2.2.1 (v5_11 + 8).toNatClampNeg)) v4_11 (v5_11 + 1) _ _ _ hP hD hS (lv_sub hl [0, 3, 1, 4, 5, 6] rfl) hf
          · have hf := cm_in c_37_1 hf
            refine lv_lookup (pc := 37) (off := 43) (tgt := 80) hx hb dX6_mostLeft_37 (by decide) (by have h0 := cm_nt (z := 0) (by decide) c_37_0; have h1 := cm_nt (z := 1) (by decide) c_37_1; simp [Op.lookupswitch.offset, Ne.symm h0, Ne.symm h1]) (by decide) ?_
            refine lv_iload (pc := 80) hx hb dX6_mostLeft_80 (lv_at hl 2 rfl) ?_
            refine lv_iload (pc := 82) hx hb dX6_mostLeft_82 (lv_at hl 0 rfl) ?_
            refine lv_iadd (pc := 84) hx hb dX6_mostLeft_84 ?_
            refine lv_istore (pc := 85) (lv' := [(4, .int (v4_11 + (si.2.2.1 (v5_11 + 8).toNatClampNeg))), (6, .int (si.2.2.1 (v5_11 + 8).toNatClampNeg)), (5, .int v5_11), (3, .int v3_11), (2, .int v2_11), (0, .ref a), (1, .int v1)]) hx hb dX6_mostLeft_85 hl (by decide) rfl (fun ls hl => ?_)
            refine lv_iinc (pc := 87) (v := (v5_11 + 1)) (lv' := [(5, .int (v5_11 + 1)), (4, .int (v4_11 + (si.2.2.1 (v5_11 + 8).toNatClampNeg))), (6, .int (si.2.2.1 (v5_11 + 8).toNatClampNeg)), (3, .int v3_11), (2, .int v2_11), (0, .ref a), (1, .int v1)]) hx hb dX6_mostLeft_87 hl (k := 2) rfl rfl (by decide) rfl (fun ls hl => ?_)
            refine lv_goto (pc := 90) (tgt := 11) hx hb dX6_mostLeft_90 (by decide) ?_
            exact ih v2_11 v3_11 (v4_11 + (si.2.2.1 (v5_11 + 8).toNatClampNeg)) (v5_11 + 1) _ _ _ hP hD hS (lv_sub hl [0, 1, 3, 4, 5, 6] rfl) hf
  refine L11 _ (fun v2_11 v3_11 v4_11 v5_11 H locs ls hP hD hS hl hf => ?_) 5000 0 0 0 (-8) _ _ _ hP hD hS (lv_sub hl [0, 1, 2, 3, 4, 5] rfl) hf
  refine lv_iload_n (pc := 93) hx hb dX6_mostLeft_93 rfl (lv_at hl 2 rfl) ?_
  refine lv_iload_n (pc := 94) hx hb dX6_mostLeft_94 rfl (lv_at hl 1 rfl) ?_
  refine lv_iload (pc := 95) hx hb dX6_mostLeft_95 (lv_at hl 0 rfl) ?_
  refine va_mmax (pc := 97) hx hb (hml.trans hl.1.symm) hown (hts _ tw_613) (hts _ tw_417) (hts _ tw_57) (hts _ tw_418) (Nat.le_of_ble_eq_true rfl) (Nat.le_of_ble_eq_true rfl) (Nat.zero_le _) (Nat.zero_le _) dX6_mostLeft_97 ?_
  refine va_mmax (pc := 100) hx hb (hml.trans hl.1.symm) hown (hts _ tw_613) (hts _ tw_417) (hts _ tw_57) (hts _ tw_418) (Nat.le_of_ble_eq_true rfl) (Nat.le_of_ble_eq_true rfl) (Nat.zero_le _) (Nat.zero_le _) dX6_mostLeft_100 ?_
  obtain rfl := Option.some.inj hf
  exact cm_iret (pc := 103) hAe hQ hx hb hr hlocks hP hD hS [0, 1, 2, 3] (by decide) rfl dX6_mostLeft_103
def fX6_bestQuestion_L21 (si_21 : SSI) (kx : Int32 → Int32 → Int32 → Option (Int32 × SSI)) : Nat → Int32 → Int32 → Int32 → Option (Int32 × SSI)
  | 0, _, _, _ => none
  | n + 1, v2_21, v3_21, v4_21 => (if 9 < v4_21 then kx v2_21 v3_21 v4_21 else Option.bind (fX6_mostLeft (-v4_21) si_21) (fun u32 => (if v3_21 ≤ u32 then fX6_bestQuestion_L21 si_21 kx n v2_21 v3_21 (v4_21 + 1) else fX6_bestQuestion_L21 si_21 kx n v4_21 u32 (v4_21 + 1))))
def fX6_bestQuestion_L58 (si_58 : SSI) (kx : Int32 → Int32 → Int32 → Option (Int32 × SSI)) : Nat → Int32 → Int32 → Int32 → Option (Int32 × SSI)
  | 0, _, _, _ => none
  | n + 1, v2_58, v3_58, v4_58 => (if 9 < v4_58 then kx v2_58 v3_58 v4_58 else Option.bind (fX6_mostLeft v4_58 si_58) (fun u68 => (if v3_58 ≤ u68 then fX6_bestQuestion_L58 si_58 kx n v2_58 v3_58 (v4_58 + 1) else fX6_bestQuestion_L58 si_58 kx n (10 * v4_58) u68 (v4_58 + 1))))
def fX6_bestQuestion (v1 : Int32) (si : SSI) : Option (Int32 × SSI) := Option.bind (fX6_tallySlates si) (fun u1 => (if u1.1 = 0 then some ((-6), u1.2) else Option.bind (fX6_mostLeft 0 u1.2) (fun u14 => fX6_bestQuestion_L21 u1.2 (fun v2_21 v3_21 v4_21 => fX6_bestQuestion_L58 u1.2 (fun v2_58 v3_58 v4_58 => (if v1 = 0 then some (v2_58, u1.2) else some (v3_58, u1.2))) 5000 v2_21 v3_21 1) 5000 0 u14 1)))
def rmX6_bestQuestion : Room := { frames := 3, cells := 0, slots := 0, locals := 65 }
set_option maxRecDepth 100000 in
set_option maxHeartbeats 4000000 in
theorem c_X6_bestQuestion (l : Launch) (D : va_G) (cI cJ cZ : ClassId) (a a_leads a_answers a_slatesByGap : Nat) (si : SSI) (v1 : Int32) (res : Int32 × SSI) (hf : fX6_bestQuestion v1 si = some res) : Ct l yX6_bestQuestion (cm_ws yX6_bestQuestion cX6_bestQuestion 6 (some .int)) rmX6_bestQuestion D (cm_T cI cJ cZ) [.ref a, .int v1] [(a, .inr (6, [.ref a_leads, .ref a_answers, .ref a_slatesByGap, .int si.2.2.2])), cm_kI cI a_leads 8 si.1, cm_kI cI a_answers 8 si.2.1, cm_kI cI a_slatesByGap 17 si.2.2.1] (some (.int res.1)) [(a, .inr (6, [.ref a_leads, .ref a_answers, .ref a_slatesByGap, .int res.2.2.2.2])), cm_kI cI a_leads 8 res.2.1, cm_kI cI a_answers 8 res.2.2.1, cm_kI cI a_slatesByGap 17 res.2.2.2.1] := by
  refine Ct.of (cc := cX6_bestQuestion) (maxL := 6) (ret := (some .int)) (by decide) (Nat.le_of_ble_eq_true rfl) ?_
  intro p e s m below meth c ls args A Q hav hAe hQ hx hb hr hml hown hlocks hts hK hP hD hA hS hl
  have hKa := hK.1
  have hl : lv_has ls 6 [(0, .ref a), (1, .int v1)] := hl
  unfold fX6_bestQuestion at hf
  refine lv_aload_n (pc := 0) hx hb dX6_bestQuestion_0 rfl (lv_at hl 0 rfl) ?_
  obtain ⟨u1, hu1, hf⟩ := cm_bd hf
  refine cm_callV (pc := 1) (As := []) (rest := []) (wr := []) (ci := 6) (q0 := 0) (n := 0) hx hb hml hown hts hK hP hD hS hA (c_X6_tallySlates l D cI cJ cZ a a_leads a_answers a_slatesByGap si u1 hu1) tw_605 tw_602 tw_604 tw_20 tw_50 rfl rfl (by decide +kernel) rfl ⟨Nat.le_of_ble_eq_true rfl, Nat.le_of_ble_eq_true rfl⟩ [0, 1, 2, 3] [] rfl (by decide) rfl (by decide) (by decide) rfl rfl rfl hl.1 rfl (Nat.le_of_ble_eq_true rfl) dX6_bestQuestion_1 ⟨Nat.zero_le _, Nat.zero_le _⟩ (fun H locs hP hD hS => ?_)
  have hP : va_P D vwCl [(a, .inr (6, [.ref a_leads, .ref a_answers, .ref a_slatesByGap, .int u1.2.2.2.2])), cm_kI cI a_leads 8 u1.2.1, cm_kI cI a_answers 8 u1.2.2.1, cm_kI cI a_slatesByGap 17 u1.2.2.2.1] H := hP
  have hD : va_D A [(a, .inr (6, [.ref a_leads, .ref a_answers, .ref a_slatesByGap, .int u1.2.2.2.2])), cm_kI cI a_leads 8 u1.2.1, cm_kI cI a_answers 8 u1.2.2.1, cm_kI cI a_slatesByGap 17 u1.2.2.2.1] := hD
  refine W.eq (g2 := F0 m 4 ls [.int u1.1]) rfl ?_
  refine lv_if_ne (pc := 4) (tgt := 10) hx hb dX6_bestQuestion_4 (by decide) (fun c_4 => ?_) (fun c_4 => ?_)
  · have hf := cm_in c_4 hf
    refine lv_iconst (pc := 10) (v := 0) hx hb dX6_bestQuestion_10 (by decide) ?_
    refine lv_istore_n (pc := 11) (lv' := [(2, .int 0), (0, .ref a), (1, .int v1)]) hx hb dX6_bestQuestion_11 rfl hl (by decide) rfl (fun ls hl => ?_)
    refine lv_aload_n (pc := 12) hx hb dX6_bestQuestion_12 rfl (lv_at hl 1 rfl) ?_
    refine lv_iconst (pc := 13) (v := 0) hx hb dX6_bestQuestion_13 (by decide) ?_
    obtain ⟨u14, hu14, hf⟩ := cm_bd hf
    refine cm_callV (pc := 14) (As := [.int 0]) (rest := []) (wr := []) (ci := 6) (q0 := 0) (n := 1) hx hb hml hown hts hK hP hD hS hA (c_X6_mostLeft l D cI cJ cZ a a_leads a_answers a_slatesByGap u1.2 0 u14 hu14) tw_612 tw_609 tw_611 tw_21 tw_50 rfl rfl (by decide +kernel) rfl ⟨Nat.le_of_ble_eq_true rfl, Nat.le_of_ble_eq_true rfl⟩ [0, 1, 2, 3] [] rfl (by decide) rfl (by decide) (by decide) rfl rfl rfl hl.1 rfl (Nat.le_of_ble_eq_true rfl) dX6_bestQuestion_14 ⟨Nat.zero_le _, Nat.zero_le _⟩ (fun H locs hP hD hS => ?_)
    have hP : va_P D vwCl [(a, .inr (6, [.ref a_leads, .ref a_answers, .ref a_slatesByGap, .int u1.2.2.2.2])), cm_kI cI a_leads 8 u1.2.1, cm_kI cI a_answers 8 u1.2.2.1, cm_kI cI a_slatesByGap 17 u1.2.2.2.1] H := hP
    have hD : va_D A [(a, .inr (6, [.ref a_leads, .ref a_answers, .ref a_slatesByGap, .int u1.2.2.2.2])), cm_kI cI a_leads 8 u1.2.1, cm_kI cI a_answers 8 u1.2.2.1, cm_kI cI a_slatesByGap 17 u1.2.2.2.1] := hD
    refine W.eq (g2 := F0 m 17 ls [.int u14]) rfl ?_
    refine lv_istore_n (pc := 17) (lv' := [(3, .int u14), (2, .int 0), (0, .ref a), (1, .int v1)]) hx hb dX6_bestQuestion_17 rfl hl (by decide) rfl (fun ls hl => ?_)
    refine lv_iconst (pc := 18) (v := 1) hx hb dX6_bestQuestion_18 (by decide) ?_
    refine lv_istore (pc := 19) (lv' := [(4, .int 1), (3, .int u14), (2, .int 0), (0, .ref a), (1, .int v1)]) hx hb dX6_bestQuestion_19 hl (by decide) rfl (fun ls hl => ?_)
    have L21 : ∀ (si_21 : SSI) (kx : Int32 → Int32 → Int32 → Option (Int32 × SSI)), (∀ (v2_21 : Int32) (v3_21 : Int32) (v4_21 : Int32) (H : Heap) (locs : List Loc) (ls : Array Slot), va_P D vwCl [(a, .inr (6, [.ref a_leads, .ref a_answers, .ref a_slatesByGap, .int si_21.2.2.2])), cm_kI cI a_leads 8 si_21.1, cm_kI cI a_answers 8 si_21.2.1, cm_kI cI a_slatesByGap 17 si_21.2.2.1] H → va_D A [(a, .inr (6, [.ref a_leads, .ref a_answers, .ref a_slatesByGap, .int si_21.2.2.2])), cm_kI cI a_leads 8 si_21.1, cm_kI cI a_answers 8 si_21.2.1, cm_kI cI a_slatesByGap 17 si_21.2.2.1] → va_S A s.heap H locs → lv_has ls 6 [(3, .int v3_21), (2, .int v2_21), (0, .ref a), (1, .int v1)] → kx v2_21 v3_21 v4_21 = some res → W p l e rmX6_bestQuestion s m args below meth c H locs 0 0 Q (F0 m 55 ls [])) → ∀ (n : Nat) (v2_21 : Int32) (v3_21 : Int32) (v4_21 : Int32) (H : Heap) (locs : List Loc) (ls : Array Slot), va_P D vwCl [(a, .inr (6, [.ref a_leads, .ref a_answers, .ref a_slatesByGap, .int si_21.2.2.2])), cm_kI cI a_leads 8 si_21.1, cm_kI cI a_answers 8 si_21.2.1, cm_kI cI a_slatesByGap 17 si_21.2.2.1] H → va_D A [(a, .inr (6, [.ref a_leads, .ref a_answers, .ref a_slatesByGap, .int si_21.2.2.2])), cm_kI cI a_leads 8 si_21.1, cm_kI cI a_answers 8 si_21.2.1, cm_kI cI a_slatesByGap 17 si_21.2.2.1] → va_S A s.heap H locs → lv_has ls 6 [(4, .int v4_21), (3, .int v3_21), (2, .int v2_21), (0, .ref a), (1, .int v1)] → fX6_bestQuestion_L21 si_21 kx n v2_21 v3_21 v4_21 = some res → W p l e rmX6_bestQuestion s m args below meth c H locs 0 0 Q (F0 m 21 ls []) := by
      intro si_21 kx hkx n
      induction n with
      | zero => intro v2_21 v3_21 v4_21 H locs ls hP hD hS hl hf; cases hf
      | succ n ih =>
        intro v2_21 v3_21 v4_21 H locs ls hP hD hS hl hf
        rw [fX6_bestQuestion_L21] at hf
        refine lv_iload (pc := 21) hx hb dX6_bestQuestion_21 (lv_at hl 0 rfl) ?_
        refine lv_bipush (pc := 23) (v := 9) hx hb dX6_bestQuestion_23 (by decide) ?_
        refine lv_icmp_gt (pc := 25) (tgt := 55) hx hb dX6_bestQuestion_25 (by decide) (fun c_25 => ?_) (fun c_25 => ?_)
        · have hf := cm_ip c_25 hf
          exact hkx v2_21 v3_21 v4_21 _ _ _ hP hD hS (lv_sub hl [1, 2, 3, 4] rfl) hf
        · have hf := cm_in c_25 hf
          refine lv_aload_n (pc := 28) hx hb dX6_bestQuestion_28 rfl (lv_at hl 3 rfl) ?_
          refine lv_iload (pc := 29) hx hb dX6_bestQuestion_29 (lv_at hl 0 rfl) ?_
          refine lv_ineg (pc := 31) hx hb dX6_bestQuestion_31 ?_
          obtain ⟨u32, hu32, hf⟩ := cm_bd hf
          refine cm_callV (pc := 32) (As := [.int (-v4_21)]) (rest := []) (wr := []) (ci := 6) (q0 := 0) (n := 1) hx hb hml hown hts hK hP hD hS hA (c_X6_mostLeft l D cI cJ cZ a a_leads a_answers a_slatesByGap si_21 (-v4_21) u32 hu32) tw_612 tw_609 tw_611 tw_21 tw_50 rfl rfl (by decide +kernel) rfl ⟨Nat.le_of_ble_eq_true rfl, Nat.le_of_ble_eq_true rfl⟩ [0, 1, 2, 3] [] rfl (by decide) rfl (by decide) (by decide) rfl rfl rfl hl.1 rfl (Nat.le_of_ble_eq_true rfl) dX6_bestQuestion_32 ⟨Nat.zero_le _, Nat.zero_le _⟩ (fun H locs hP hD hS => ?_)
          have hP : va_P D vwCl [(a, .inr (6, [.ref a_leads, .ref a_answers, .ref a_slatesByGap, .int si_21.2.2.2])), cm_kI cI a_leads 8 si_21.1, cm_kI cI a_answers 8 si_21.2.1, cm_kI cI a_slatesByGap 17 si_21.2.2.1] H := hP
          have hD : va_D A [(a, .inr (6, [.ref a_leads, .ref a_answers, .ref a_slatesByGap, .int si_21.2.2.2])), cm_kI cI a_leads 8 si_21.1, cm_kI cI a_answers 8 si_21.2.1, cm_kI cI a_slatesByGap 17 si_21.2.2.1] := hD
          refine W.eq (g2 := F0 m 35 ls [.int u32]) rfl ?_
          refine lv_istore (pc := 35) (lv' := [(5, .int u32), (4, .int v4_21), (3, .int v3_21), (2, .int v2_21), (0, .ref a), (1, .int v1)]) hx hb dX6_bestQuestion_35 hl (by decide) rfl (fun ls hl => ?_)
          refine lv_iload (pc := 37) hx hb dX6_bestQuestion_37 (lv_at hl 0 rfl) ?_
          refine lv_iload_n (pc := 39) hx hb dX6_bestQuestion_39 rfl (lv_at hl 2 rfl) ?_
          refine lv_icmp_ge (pc := 40) (tgt := 49) hx hb dX6_bestQuestion_40 (by decide) (fun c_40 => ?_) (fun c_40 => ?_)
          · have hf := cm_ip c_40 hf
            refine lv_iinc (pc := 49) (v := (v4_21 + 1)) (lv' := [(4, .int (v4_21 + 1)), (5, .int u32), (3, .int v3_21), (2, .int v2_21), (0, .ref a), (1, .int v1)]) hx hb dX6_bestQuestion_49 hl (k := 1) rfl rfl (by decide) rfl (fun ls hl => ?_)
            refine lv_goto (pc := 52) (tgt := 21) hx hb dX6_bestQuestion_52 (by decide) ?_
            exact ih v2_21 v3_21 (v4_21 + 1) _ _ _ hP hD hS (lv_sub hl [0, 2, 3, 4, 5] rfl) hf
          · have hf := cm_in c_40 hf
            refine lv_iload (pc := 43) hx hb dX6_bestQuestion_43 (lv_at hl 0 rfl) ?_
            refine lv_istore_n (pc := 45) (lv' := [(3, .int u32), (5, .int u32), (4, .int v4_21), (2, .int v2_21), (0, .ref a), (1, .int v1)]) hx hb dX6_bestQuestion_45 rfl hl (by decide) rfl (fun ls hl => ?_)
            refine lv_iload (pc := 46) hx hb dX6_bestQuestion_46 (lv_at hl 2 rfl) ?_
            refine lv_istore_n (pc := 48) (lv' := [(2, .int v4_21), (3, .int u32), (5, .int u32), (4, .int v4_21), (0, .ref a), (1, .int v1)]) hx hb dX6_bestQuestion_48 rfl hl (by decide) rfl (fun ls hl => ?_)
            refine lv_iinc (pc := 49) (v := (v4_21 + 1)) (lv' := [(4, .int (v4_21 + 1)), (2, .int v4_21), (3, .int u32), (5, .int u32), (0, .ref a), (1, .int v1)]) hx hb dX6_bestQuestion_49 hl (k := 3) rfl rfl (by decide) rfl (fun ls hl => ?_)
            refine lv_goto (pc := 52) (tgt := 21) hx hb dX6_bestQuestion_52 (by decide) ?_
            exact ih v4_21 u32 (v4_21 + 1) _ _ _ hP hD hS (lv_sub hl [0, 2, 1, 4, 5] rfl) hf
    refine L21 u1.2 _ (fun v2_21 v3_21 v4_21 H locs ls hP hD hS hl hf => ?_) 5000 0 u14 1 _ _ _ hP hD hS (lv_sub hl [0, 1, 2, 3, 4] rfl) hf
    refine lv_iconst (pc := 55) (v := 1) hx hb dX6_bestQuestion_55 (by decide) ?_
    refine lv_istore (pc := 56) (lv' := [(4, .int 1), (3, .int v3_21), (2, .int v2_21), (0, .ref a), (1, .int v1)]) hx hb dX6_bestQuestion_56 hl (by decide) rfl (fun ls hl => ?_)
    have L58 : ∀ (si_58 : SSI) (kx : Int32 → Int32 → Int32 → Option (Int32 × SSI)), (∀ (v2_58 : Int32) (v3_58 : Int32) (v4_58 : Int32) (H : Heap) (locs : List Loc) (ls : Array Slot), va_P D vwCl [(a, .inr (6, [.ref a_leads, .ref a_answers, .ref a_slatesByGap, .int si_58.2.2.2])), cm_kI cI a_leads 8 si_58.1, cm_kI cI a_answers 8 si_58.2.1, cm_kI cI a_slatesByGap 17 si_58.2.2.1] H → va_D A [(a, .inr (6, [.ref a_leads, .ref a_answers, .ref a_slatesByGap, .int si_58.2.2.2])), cm_kI cI a_leads 8 si_58.1, cm_kI cI a_answers 8 si_58.2.1, cm_kI cI a_slatesByGap 17 si_58.2.2.1] → va_S A s.heap H locs → lv_has ls 6 [(3, .int v3_58), (2, .int v2_58), (1, .int v1)] → kx v2_58 v3_58 v4_58 = some res → W p l e rmX6_bestQuestion s m args below meth c H locs 0 0 Q (F0 m 94 ls [])) → ∀ (n : Nat) (v2_58 : Int32) (v3_58 : Int32) (v4_58 : Int32) (H : Heap) (locs : List Loc) (ls : Array Slot), va_P D vwCl [(a, .inr (6, [.ref a_leads, .ref a_answers, .ref a_slatesByGap, .int si_58.2.2.2])), cm_kI cI a_leads 8 si_58.1, cm_kI cI a_answers 8 si_58.2.1, cm_kI cI a_slatesByGap 17 si_58.2.2.1] H → va_D A [(a, .inr (6, [.ref a_leads, .ref a_answers, .ref a_slatesByGap, .int si_58.2.2.2])), cm_kI cI a_leads 8 si_58.1, cm_kI cI a_answers 8 si_58.2.1, cm_kI cI a_slatesByGap 17 si_58.2.2.1] → va_S A s.heap H locs → lv_has ls 6 [(4, .int v4_58), (3, .int v3_58), (2, .int v2_58), (0, .ref a), (1, .int v1)] → fX6_bestQuestion_L58 si_58 kx n v2_58 v3_58 v4_58 = some res → W p l e rmX6_bestQuestion s m args below meth c H locs 0 0 Q (F0 m 58 ls []) := by
      intro si_58 kx hkx n
      induction n with
      | zero => intro v2_58 v3_58 v4_58 H locs ls hP hD hS hl hf; cases hf
      | succ n ih =>
        intro v2_58 v3_58 v4_58 H locs ls hP hD hS hl hf
        rw [fX6_bestQuestion_L58] at hf
        refine lv_iload (pc := 58) hx hb dX6_bestQuestion_58 (lv_at hl 0 rfl) ?_
        refine lv_bipush (pc := 60) (v := 9) hx hb dX6_bestQuestion_60 (by decide) ?_
        refine lv_icmp_gt (pc := 62) (tgt := 94) hx hb dX6_bestQuestion_62 (by decide) (fun c_62 => ?_) (fun c_62 => ?_)
        · have hf := cm_ip c_62 hf
          exact hkx v2_58 v3_58 v4_58 _ _ _ hP hD hS (lv_sub hl [1, 2, 4] rfl) hf
        · have hf := cm_in c_62 hf
          refine lv_aload_n (pc := 65) hx hb dX6_bestQuestion_65 rfl (lv_at hl 3 rfl) ?_
          refine lv_iload (pc := 66) hx hb dX6_bestQuestion_66 (lv_at hl 0 rfl) ?_
          obtain ⟨u68, hu68, hf⟩ := cm_bd hf
          refine cm_callV (pc := 68) (As := [.int v4_58]) (rest := []) (wr := []) (ci := 6) (q0 := 0) (n := 1) hx hb hml hown hts hK hP hD hS hA (c_X6_mostLeft l D cI cJ cZ a a_leads a_answers a_slatesByGap si_58 v4_58 u68 hu68) tw_612 tw_609 tw_611 tw_21 tw_50 rfl rfl (by decide +kernel) rfl ⟨Nat.le_of_ble_eq_true rfl, Nat.le_of_ble_eq_true rfl⟩ [0, 1, 2, 3] [] rfl (by decide) rfl (by decide) (by decide) rfl rfl rfl hl.1 rfl (Nat.le_of_ble_eq_true rfl) dX6_bestQuestion_68 ⟨Nat.zero_le _, Nat.zero_le _⟩ (fun H locs hP hD hS => ?_)
          have hP : va_P D vwCl [(a, .inr (6, [.ref a_leads, .ref a_answers, .ref a_slatesByGap, .int si_58.2.2.2])), cm_kI cI a_leads 8 si_58.1, cm_kI cI a_answers 8 si_58.2.1, cm_kI cI a_slatesByGap 17 si_58.2.2.1] H := hP
          have hD : va_D A [(a, .inr (6, [.ref a_leads, .ref a_answers, .ref a_slatesByGap, .int si_58.2.2.2])), cm_kI cI a_leads 8 si_58.1, cm_kI cI a_answers 8 si_58.2.1, cm_kI cI a_slatesByGap 17 si_58.2.2.1] := hD
          refine W.eq (g2 := F0 m 71 ls [.int u68]) rfl ?_
          refine lv_istore (pc := 71) (lv' := [(5, .int u68), (4, .int v4_58), (3, .int v3_58), (2, .int v2_58), (0, .ref a), (1, .int v1)]) hx hb dX6_bestQuestion_71 hl (by decide) rfl (fun ls hl => ?_)
          refine lv_iload (pc := 73) hx hb dX6_bestQuestion_73 (lv_at hl 0 rfl) ?_
          refine lv_iload_n (pc := 75) hx hb dX6_bestQuestion_75 rfl (lv_at hl 2 rfl) ?_
          refine lv_icmp_ge (pc := 76) (tgt := 88) hx hb dX6_bestQuestion_76 (by decide) (fun c_76 => ?_) (fun c_76 => ?_)
          · have hf := cm_ip c_76 hf
            refine lv_iinc (pc := 88) (v := (v4_58 + 1)) (lv' := [(4, .int (v4_58 + 1)), (5, .int u68), (3, .int v3_58), (2, .int v2_58), (0, .ref a), (1, .int v1)]) hx hb dX6_bestQuestion_88 hl (k := 1) rfl rfl (by decide) rfl (fun ls hl => ?_)
            refine lv_goto (pc := 91) (tgt := 58) hx hb dX6_bestQuestion_91 (by decide) ?_
            exact ih v2_58 v3_58 (v4_58 + 1) _ _ _ hP hD hS (lv_sub hl [0, 2, 3, 4, 5] rfl) hf
          · have hf := cm_in c_76 hf
            refine lv_iload (pc := 79) hx hb dX6_bestQuestion_79 (lv_at hl 0 rfl) ?_
            refine lv_istore_n (pc := 81) (lv' := [(3, .int u68), (5, .int u68), (4, .int v4_58), (2, .int v2_58), (0, .ref a), (1, .int v1)]) hx hb dX6_bestQuestion_81 rfl hl (by decide) rfl (fun ls hl => ?_)
            refine lv_bipush (pc := 82) (v := 10) hx hb dX6_bestQuestion_82 (by decide) ?_
            refine lv_iload (pc := 84) hx hb dX6_bestQuestion_84 (lv_at hl 2 rfl) ?_
            refine lv_imul (pc := 86) hx hb dX6_bestQuestion_86 ?_
            refine lv_istore_n (pc := 87) (lv' := [(2, .int (10 * v4_58)), (3, .int u68), (5, .int u68), (4, .int v4_58), (0, .ref a), (1, .int v1)]) hx hb dX6_bestQuestion_87 rfl hl (by decide) rfl (fun ls hl => ?_)
            refine lv_iinc (pc := 88) (v := (v4_58 + 1)) (lv' := [(4, .int (v4_58 + 1)), (2, .int (10 * v4_58)), (3, .int u68), (5, .int u68), (0, .ref a), (1, .int v1)]) hx hb dX6_bestQuestion_88 hl (k := 3) rfl rfl (by decide) rfl (fun ls hl => ?_)
            refine lv_goto (pc := 91) (tgt := 58) hx hb dX6_bestQuestion_91 (by decide) ?_
            exact ih (10 * v4_58) u68 (v4_58 + 1) _ _ _ hP hD hS (lv_sub hl [0, 2, 1, 4, 5] rfl) hf
    refine L58 u1.2 _ (fun v2_58 v3_58 v4_58 H locs ls hP hD hS hl hf => ?_) 5000 v2_21 v3_21 1 _ _ _ hP hD hS (lv_sub hl [0, 1, 2, 3, 4] rfl) hf
    refine lv_iload_n (pc := 94) hx hb dX6_bestQuestion_94 rfl (lv_at hl 2 rfl) ?_
    refine lv_if_eq (pc := 95) (tgt := 102) hx hb dX6_bestQuestion_95 (by decide) (fun c_95 => ?_) (fun c_95 => ?_)
    · have hf := cm_ip c_95 hf
      refine lv_iload_n (pc := 102) hx hb dX6_bestQuestion_102 rfl (lv_at hl 1 rfl) ?_
      obtain rfl := Option.some.inj hf
      exact cm_iret (pc := 103) hAe hQ hx hb hr hlocks hP hD hS [0, 1, 2, 3] (by decide) rfl dX6_bestQuestion_103
    · have hf := cm_in c_95 hf
      refine lv_iload_n (pc := 98) hx hb dX6_bestQuestion_98 rfl (lv_at hl 0 rfl) ?_
      refine lv_goto (pc := 99) (tgt := 103) hx hb dX6_bestQuestion_99 (by decide) ?_
      obtain rfl := Option.some.inj hf
      exact cm_iret (pc := 103) hAe hQ hx hb hr hlocks hP hD hS [0, 1, 2, 3] (by decide) rfl dX6_bestQuestion_103
  · have hf := cm_ip c_4 hf
    refine lv_bipush (pc := 7) (v := (-6)) hx hb dX6_bestQuestion_7 (by decide) ?_
    obtain rfl := Option.some.inj hf
    exact cm_iret (pc := 9) hAe hQ hx hb hr hlocks hP hD hS [0, 1, 2, 3] (by decide) rfl dX6_bestQuestion_9
def fX10_ask (v1 : Int32) (sights_si : SSI) : Option (Int32 × SSI) := cm_let (fX10_isWithin v1 0 1) (fun u3 => (if u3 = 0 then some ((-2), sights_si) else (if v1 = 1 then Option.bind (fX6_bestQuestion 1 sights_si) (fun u26 => some (u26.1, u26.2)) else Option.bind (fX6_bestQuestion 0 sights_si) (fun u26 => some (u26.1, u26.2)))))
def rmX10_ask : Room := { frames := 4, cells := 0, slots := 0, locals := 90 }
set_option maxRecDepth 100000 in
set_option maxHeartbeats 4000000 in
theorem c_X10_ask (l : Launch) (D : va_G) (cI cJ cZ : ClassId) (a a_now a_pad a_trial a_sights a_im0 a_im1 a_digits a_voters a_trades a_bells a_sights_leads a_sights_answers a_sights_slatesByGap : Nat) (sights_si : SSI) (v1 : Int32) (res : Int32 × SSI) (hf : fX10_ask v1 sights_si = some res) : Ct l yX10_ask (cm_ws yX10_ask cX10_ask 2 (some .int)) rmX10_ask D (cm_T cI cJ cZ) [.ref a, .int v1] [(a, .inr (10, [.ref a_now, .ref a_pad, .ref a_trial, .ref a_sights, .ref a_im0, .ref a_im1, .ref a_digits, .ref a_voters, .ref a_trades, .ref a_bells])), (a_sights, .inr (6, [.ref a_sights_leads, .ref a_sights_answers, .ref a_sights_slatesByGap, .int sights_si.2.2.2])), cm_kI cI a_sights_leads 8 sights_si.1, cm_kI cI a_sights_answers 8 sights_si.2.1, cm_kI cI a_sights_slatesByGap 17 sights_si.2.2.1] (some (.int res.1)) [(a, .inr (10, [.ref a_now, .ref a_pad, .ref a_trial, .ref a_sights, .ref a_im0, .ref a_im1, .ref a_digits, .ref a_voters, .ref a_trades, .ref a_bells])), (a_sights, .inr (6, [.ref a_sights_leads, .ref a_sights_answers, .ref a_sights_slatesByGap, .int res.2.2.2.2])), cm_kI cI a_sights_leads 8 res.2.1, cm_kI cI a_sights_answers 8 res.2.2.1, cm_kI cI a_sights_slatesByGap 17 res.2.2.2.1] := by
  refine Ct.of (cc := cX10_ask) (maxL := 2) (ret := (some .int)) (by decide) (Nat.le_of_ble_eq_true rfl) ?_
  intro p e s m below meth c ls args A Q hav hAe hQ hx hb hr hml hown hlocks hts hK hP hD hA hS hl
  have hKa := hK.1
  have hl : lv_has ls 2 [(0, .ref a), (1, .int v1)] := hl
  unfold fX10_ask at hf
  refine lv_iload_n (pc := 0) hx hb dX10_ask_0 rfl (lv_at hl 1 rfl) ?_
  refine lv_iconst (pc := 1) (v := 0) hx hb dX10_ask_1 (by decide) ?_
  refine lv_iconst (pc := 2) (v := 1) hx hb dX10_ask_2 (by decide) ?_
  obtain ⟨u3, hu3, hf⟩ := cm_lt hf
  refine cm_callS (pc := 3) (As := [.int v1, .int 0, .int 1]) (rest := []) (wr := [(a, .inr (10, [.ref a_now, .ref a_pad, .ref a_trial, .ref a_sights, .ref a_im0, .ref a_im1, .ref a_digits, .ref a_voters, .ref a_trades, .ref a_bells])), (a_sights, .inr (6, [.ref a_sights_leads, .ref a_sights_answers, .ref a_sights_slatesByGap, .int sights_si.2.2.2])), cm_kI cI a_sights_leads 8 sights_si.1, cm_kI cI a_sights_answers 8 sights_si.2.1, cm_kI cI a_sights_slatesByGap 17 sights_si.2.2.1]) (n := 3) hx hb hml hown hts hK hP hD hS hA (c_X10_isWithin l D cI cJ cZ v1 0 1 u3 hu3) tw_312 tw_310 tw_311 tw_45 rfl rfl (by decide +kernel) rfl ⟨Nat.le_of_ble_eq_true rfl, Nat.le_of_ble_eq_true rfl⟩ [] [0, 1, 2, 3, 4] rfl (by decide) rfl (by decide) (by decide) hl.1 rfl (Nat.le_of_ble_eq_true rfl) dX10_ask_3 ⟨Nat.zero_le _, Nat.zero_le _⟩ (fun H locs hP hD hS => ?_)
  have hP : va_P D vwCl [(a, .inr (10, [.ref a_now, .ref a_pad, .ref a_trial, .ref a_sights, .ref a_im0, .ref a_im1, .ref a_digits, .ref a_voters, .ref a_trades, .ref a_bells])), (a_sights, .inr (6, [.ref a_sights_leads, .ref a_sights_answers, .ref a_sights_slatesByGap, .int sights_si.2.2.2])), cm_kI cI a_sights_leads 8 sights_si.1, cm_kI cI a_sights_answers 8 sights_si.2.1, cm_kI cI a_sights_slatesByGap 17 sights_si.2.2.1] H := hP
  have hD : va_D A [(a, .inr (10, [.ref a_now, .ref a_pad, .ref a_trial, .ref a_sights, .ref a_im0, .ref a_im1, .ref a_digits, .ref a_voters, .ref a_trades, .ref a_bells])), (a_sights, .inr (6, [.ref a_sights_leads, .ref a_sights_answers, .ref a_sights_slatesByGap, .int sights_si.2.2.2])), cm_kI cI a_sights_leads 8 sights_si.1, cm_kI cI a_sights_answers 8 sights_si.2.1, cm_kI cI a_sights_slatesByGap 17 sights_si.2.2.1] := hD
  refine W.eq (g2 := F0 m 6 ls [.int u3]) rfl ?_
  refine lv_if_ne (pc := 6) (tgt := 12) hx hb dX10_ask_6 (by decide) (fun c_6 => ?_) (fun c_6 => ?_)
  · have hf := cm_in c_6 hf
    refine lv_aload_n (pc := 12) hx hb dX10_ask_12 rfl (lv_at hl 0 rfl) ?_
    refine va_get (pc := 13) (D := D) (ci := 10) (v := .ref a_sights) (C := RX10) (T := TX10) (N := 10) hx hb hts in_X10 hown hKa hP 0 rfl rfl 3 (by decide) (hts _ tw_272) (fun _ h9 => h9) rfl dX10_ask_13 ?_
    refine lv_iload_n (pc := 16) hx hb dX10_ask_16 rfl (lv_at hl 1 rfl) ?_
    refine lv_iconst (pc := 17) (v := 1) hx hb dX10_ask_17 (by decide) ?_
    refine lv_icmp_ne (pc := 18) (tgt := 25) hx hb dX10_ask_18 (by decide) (fun c_18 => ?_) (fun c_18 => ?_)
    · have hf := cm_in c_18 hf
      refine lv_iconst (pc := 25) (v := 0) hx hb dX10_ask_25 (by decide) ?_
      obtain ⟨u26, hu26, hf⟩ := cm_bd hf
      refine cm_callV (pc := 26) (As := [.int 0]) (rest := []) (wr := [(a, .inr (10, [.ref a_now, .ref a_pad, .ref a_trial, .ref a_sights, .ref a_im0, .ref a_im1, .ref a_digits, .ref a_voters, .ref a_trades, .ref a_bells]))]) (ci := 6) (q0 := 1) (n := 1) hx hb hml hown hts hK hP hD hS hA (c_X6_bestQuestion l D cI cJ cZ a_sights a_sights_leads a_sights_answers a_sights_slatesByGap sights_si 0 u26 hu26) tw_601 tw_598 tw_599 tw_600 tw_50 rfl rfl (by decide +kernel) rfl ⟨Nat.le_of_ble_eq_true rfl, Nat.le_of_ble_eq_true rfl⟩ [1, 2, 3, 4] [0] rfl (by decide) rfl (by decide) (by decide) rfl rfl rfl hl.1 rfl (Nat.le_of_ble_eq_true rfl) dX10_ask_26 ⟨Nat.zero_le _, Nat.zero_le _⟩ (fun H locs hP hD hS => ?_)
      have hP : va_P D vwCl [(a, .inr (10, [.ref a_now, .ref a_pad, .ref a_trial, .ref a_sights, .ref a_im0, .ref a_im1, .ref a_digits, .ref a_voters, .ref a_trades, .ref a_bells])), (a_sights, .inr (6, [.ref a_sights_leads, .ref a_sights_answers, .ref a_sights_slatesByGap, .int u26.2.2.2.2])), cm_kI cI a_sights_leads 8 u26.2.1, cm_kI cI a_sights_answers 8 u26.2.2.1, cm_kI cI a_sights_slatesByGap 17 u26.2.2.2.1] H := hP
      have hD : va_D A [(a, .inr (10, [.ref a_now, .ref a_pad, .ref a_trial, .ref a_sights, .ref a_im0, .ref a_im1, .ref a_digits, .ref a_voters, .ref a_trades, .ref a_bells])), (a_sights, .inr (6, [.ref a_sights_leads, .ref a_sights_answers, .ref a_sights_slatesByGap, .int u26.2.2.2.2])), cm_kI cI a_sights_leads 8 u26.2.1, cm_kI cI a_sights_answers 8 u26.2.2.1, cm_kI cI a_sights_slatesByGap 17 u26.2.2.2.1] := hD
      refine W.eq (g2 := F0 m 29 ls [.int u26.1]) rfl ?_
      obtain rfl := Option.some.inj hf
      exact cm_iret (pc := 29) hAe hQ hx hb hr hlocks hP hD hS [0, 1, 2, 3, 4] (by decide) rfl dX10_ask_29
    · have hf := cm_ip c_18 hf
      refine lv_iconst (pc := 21) (v := 1) hx hb dX10_ask_21 (by decide) ?_
      refine lv_goto (pc := 22) (tgt := 26) hx hb dX10_ask_22 (by decide) ?_
      obtain ⟨u26, hu26, hf⟩ := cm_bd hf
      refine cm_callV (pc := 26) (As := [.int 1]) (rest := []) (wr := [(a, .inr (10, [.ref a_now, .ref a_pad, .ref a_trial, .ref a_sights, .ref a_im0, .ref a_im1, .ref a_digits, .ref a_voters, .ref a_trades, .ref a_bells]))]) (ci := 6) (q0 := 1) (n := 1) hx hb hml hown hts hK hP hD hS hA (c_X6_bestQuestion l D cI cJ cZ a_sights a_sights_leads a_sights_answers a_sights_slatesByGap sights_si 1 u26 hu26) tw_601 tw_598 tw_599 tw_600 tw_50 rfl rfl (by decide +kernel) rfl ⟨Nat.le_of_ble_eq_true rfl, Nat.le_of_ble_eq_true rfl⟩ [1, 2, 3, 4] [0] rfl (by decide) rfl (by decide) (by decide) rfl rfl rfl hl.1 rfl (Nat.le_of_ble_eq_true rfl) dX10_ask_26 ⟨Nat.zero_le _, Nat.zero_le _⟩ (fun H locs hP hD hS => ?_)
      have hP : va_P D vwCl [(a, .inr (10, [.ref a_now, .ref a_pad, .ref a_trial, .ref a_sights, .ref a_im0, .ref a_im1, .ref a_digits, .ref a_voters, .ref a_trades, .ref a_bells])), (a_sights, .inr (6, [.ref a_sights_leads, .ref a_sights_answers, .ref a_sights_slatesByGap, .int u26.2.2.2.2])), cm_kI cI a_sights_leads 8 u26.2.1, cm_kI cI a_sights_answers 8 u26.2.2.1, cm_kI cI a_sights_slatesByGap 17 u26.2.2.2.1] H := hP
      have hD : va_D A [(a, .inr (10, [.ref a_now, .ref a_pad, .ref a_trial, .ref a_sights, .ref a_im0, .ref a_im1, .ref a_digits, .ref a_voters, .ref a_trades, .ref a_bells])), (a_sights, .inr (6, [.ref a_sights_leads, .ref a_sights_answers, .ref a_sights_slatesByGap, .int u26.2.2.2.2])), cm_kI cI a_sights_leads 8 u26.2.1, cm_kI cI a_sights_answers 8 u26.2.2.1, cm_kI cI a_sights_slatesByGap 17 u26.2.2.2.1] := hD
      refine W.eq (g2 := F0 m 29 ls [.int u26.1]) rfl ?_
      obtain rfl := Option.some.inj hf
      exact cm_iret (pc := 29) hAe hQ hx hb hr hlocks hP hD hS [0, 1, 2, 3, 4] (by decide) rfl dX10_ask_29
  · have hf := cm_ip c_6 hf
    refine lv_bipush (pc := 9) (v := (-2)) hx hb dX10_ask_9 (by decide) ?_
    obtain rfl := Option.some.inj hf
    exact cm_iret (pc := 11) hAe hQ hx hb hr hlocks hP hD hS [0, 1, 2, 3, 4] (by decide) rfl dX10_ask_11
def fX10_leastWinningTake_L11 (kx : Int32 → Int32 → Int32 → Option (Int32)) : Nat → Int32 → Int32 → Int32 → Option (Int32)
  | 0, _, _, _ => none
  | n + 1, v1_11, v2_11, v3_11 => (if v3_11 < 0 then kx v1_11 v2_11 v3_11 else if v3_11 < 0 ∨ 10 ≤ v3_11.toNatClampNeg then none else (if v1_11 < (cm_fibN v3_11.toNatClampNeg) then fX10_leastWinningTake_L11 kx n v1_11 v2_11 (v3_11 + (-1)) else if v3_11 < 0 ∨ 10 ≤ v3_11.toNatClampNeg then none else fX10_leastWinningTake_L11 kx n (v1_11 - (cm_fibN v3_11.toNatClampNeg)) (cm_fibN v3_11.toNatClampNeg) (v3_11 + (-1))))
def fX10_leastWinningTake (v0 : Int32) : Option (Int32) := fX10_leastWinningTake_L11 (fun v1_11 v2_11 v3_11 => some v2_11) 5000 v0 0 ((10 : Int32) - 1)
def rmX10_leastWinningTake : Room := { frames := 0, cells := 0, slots := 0, locals := 0 }
set_option maxRecDepth 100000 in
set_option maxHeartbeats 4000000 in
theorem c_X10_leastWinningTake (l : Launch) (D : va_G) (cI cJ cZ : ClassId) (fb : Nat) (v0 : Int32) (res : Int32) (hf : fX10_leastWinningTake v0 = some res) : CtF l yX10_leastWinningTake (cm_ws yX10_leastWinningTake cX10_leastWinningTake 4 (some .int)) rmX10_leastWinningTake D (cm_T cI cJ cZ) fb [.int v0] (some (.int res)) := by
  refine CtF.of (cc := cX10_leastWinningTake) (maxL := 4) (ret := (some .int)) (by decide) (Nat.le_of_ble_eq_true rfl) ?_
  intro p e s m below meth c ls args A Q hav hAe hQ hx hb hr hml hown hlocks hts hK hP hD hA hS hl hF hAs
  have hKa := hK.1
  have hl : lv_has ls 4 [(0, .int v0)] := hl
  unfold fX10_leastWinningTake at hf
  refine lv_iload_n (pc := 0) hx hb dX10_leastWinningTake_0 rfl (lv_at hl 0 rfl) ?_
  refine lv_istore_n (pc := 1) (lv' := [(1, .int v0), (0, .int v0)]) hx hb dX10_leastWinningTake_1 rfl hl (by decide) rfl (fun ls hl => ?_)
  refine lv_iconst (pc := 2) (v := 0) hx hb dX10_leastWinningTake_2 (by decide) ?_
  refine lv_istore_n (pc := 3) (lv' := [(2, .int 0), (1, .int v0), (0, .int v0)]) hx hb dX10_leastWinningTake_3 rfl hl (by decide) rfl (fun ls hl => ?_)
  refine cm_fget (pc := 4) hx hb hF hAs hS hown (hts _ tw_621) dX10_leastWinningTake_4 ?_
  refine cm_flen (pc := 7) hx hb hF hAs hS dX10_leastWinningTake_7 ?_
  refine lv_iconst (pc := 8) (v := 1) hx hb dX10_leastWinningTake_8 (by decide) ?_
  refine lv_isub (pc := 9) hx hb dX10_leastWinningTake_9 ?_
  refine lv_istore_n (pc := 10) (lv' := [(3, .int ((10 : Int32) - 1)), (2, .int 0), (1, .int v0), (0, .int v0)]) hx hb dX10_leastWinningTake_10 rfl hl (by decide) rfl (fun ls hl => ?_)
  have L11 : ∀ (kx : Int32 → Int32 → Int32 → Option (Int32)), (∀ (v1_11 : Int32) (v2_11 : Int32) (v3_11 : Int32) (H : Heap) (locs : List Loc) (ls : Array Slot), va_P D vwCl [] H → va_D A [] → va_S A s.heap H locs → lv_has ls 4 [(2, .int v2_11)] → kx v1_11 v2_11 v3_11 = some res → W p l e rmX10_leastWinningTake s m args below meth c H locs 0 0 Q (F0 m 40 ls [])) → ∀ (n : Nat) (v1_11 : Int32) (v2_11 : Int32) (v3_11 : Int32) (H : Heap) (locs : List Loc) (ls : Array Slot), va_P D vwCl [] H → va_D A [] → va_S A s.heap H locs → lv_has ls 4 [(3, .int v3_11), (2, .int v2_11), (1, .int v1_11)] → fX10_leastWinningTake_L11 kx n v1_11 v2_11 v3_11 = some res → W p l e rmX10_leastWinningTake s m args below meth c H locs 0 0 Q (F0 m 11 ls []) := by
    intro kx hkx n
    induction n with
    | zero => intro v1_11 v2_11 v3_11 H locs ls hP hD hS hl hf; cases hf
    | succ n ih =>
      intro v1_11 v2_11 v3_11 H locs ls hP hD hS hl hf
      rw [fX10_leastWinningTake_L11] at hf
      refine lv_iload_n (pc := 11) hx hb dX10_leastWinningTake_11 rfl (lv_at hl 0 rfl) ?_
      refine lv_if_lt (pc := 12) (tgt := 40) hx hb dX10_leastWinningTake_12 (by decide) (fun c_12 => ?_) (fun c_12 => ?_)
      · have hf := cm_ip c_12 hf
        exact hkx v1_11 v2_11 v3_11 _ _ _ hP hD hS (lv_sub hl [1] rfl) hf
      · have hf := cm_in c_12 hf
        refine cm_fget (pc := 15) hx hb hF hAs hS hown (hts _ tw_621) dX10_leastWinningTake_15 ?_
        refine lv_iload_n (pc := 18) hx hb dX10_leastWinningTake_18 rfl (lv_at hl 0 rfl) ?_
        obtain ⟨b_19, hf⟩ := cm_ob hf
        refine cm_fald (pc := 19) hx hb hF hAs hS b_19 dX10_leastWinningTake_19 ?_
        refine lv_iload_n (pc := 20) hx hb dX10_leastWinningTake_20 rfl (lv_at hl 2 rfl) ?_
        refine lv_icmp_gt (pc := 21) (tgt := 34) hx hb dX10_leastWinningTake_21 (by decide) (fun c_21 => ?_) (fun c_21 => ?_)
        · have hf := cm_ip c_21 hf
          refine lv_iinc (pc := 34) (v := (v3_11 + (-1))) (lv' := [(3, .int (v3_11 + (-1))), (2, .int v2_11), (1, .int v1_11)]) hx hb dX10_leastWinningTake_34 hl (k := 0) rfl rfl (by decide) rfl (fun ls hl => ?_)
          refine lv_goto (pc := 37) (tgt := 11) hx hb dX10_leastWinningTake_37 (by decide) ?_
          exact ih v1_11 v2_11 (v3_11 + (-1)) _ _ _ hP hD hS (lv_sub hl [0, 1, 2] rfl) hf
        · have hf := cm_in c_21 hf
          refine cm_fget (pc := 24) hx hb hF hAs hS hown (hts _ tw_621) dX10_leastWinningTake_24 ?_
          refine lv_iload_n (pc := 27) hx hb dX10_leastWinningTake_27 rfl (lv_at hl 0 rfl) ?_
          obtain ⟨b_28, hf⟩ := cm_ob hf
          refine cm_fald (pc := 28) hx hb hF hAs hS b_28 dX10_leastWinningTake_28 ?_
          refine lv_istore_n (pc := 29) (lv' := [(2, .int (cm_fibN v3_11.toNatClampNeg)), (3, .int v3_11), (1, .int v1_11)]) hx hb dX10_leastWinningTake_29 rfl hl (by decide) rfl (fun ls hl => ?_)
          refine lv_iload_n (pc := 30) hx hb dX10_leastWinningTake_30 rfl (lv_at hl 2 rfl) ?_
          refine lv_iload_n (pc := 31) hx hb dX10_leastWinningTake_31 rfl (lv_at hl 0 rfl) ?_
          refine lv_isub (pc := 32) hx hb dX10_leastWinningTake_32 ?_
          refine lv_istore_n (pc := 33) (lv' := [(1, .int (v1_11 - (cm_fibN v3_11.toNatClampNeg))), (2, .int (cm_fibN v3_11.toNatClampNeg)), (3, .int v3_11)]) hx hb dX10_leastWinningTake_33 rfl hl (by decide) rfl (fun ls hl => ?_)
          refine lv_iinc (pc := 34) (v := (v3_11 + (-1))) (lv' := [(3, .int (v3_11 + (-1))), (1, .int (v1_11 - (cm_fibN v3_11.toNatClampNeg))), (2, .int (cm_fibN v3_11.toNatClampNeg))]) hx hb dX10_leastWinningTake_34 hl (k := 2) rfl rfl (by decide) rfl (fun ls hl => ?_)
          refine lv_goto (pc := 37) (tgt := 11) hx hb dX10_leastWinningTake_37 (by decide) ?_
          exact ih (v1_11 - (cm_fibN v3_11.toNatClampNeg)) (cm_fibN v3_11.toNatClampNeg) (v3_11 + (-1)) _ _ _ hP hD hS (lv_sub hl [0, 2, 1] rfl) hf
  refine L11 _ (fun v1_11 v2_11 v3_11 H locs ls hP hD hS hl hf => ?_) 5000 v0 0 ((10 : Int32) - 1) _ _ _ hP hD hS (lv_sub hl [0, 1, 2] rfl) hf
  refine lv_iload_n (pc := 40) hx hb dX10_leastWinningTake_40 rfl (lv_at hl 0 rfl) ?_
  obtain rfl := Option.some.inj hf
  exact cm_iret (pc := 41) hAe hQ hx hb hr hlocks hP hD hS [] (by decide) rfl dX10_leastWinningTake_41
def fX10_cakes (v1 : Int32) (v2 : Int32) (v3 : Int32) : Option (Int32) := cm_let (fX10_isWithin v1 0 99) (fun u4 => (if u4 = 0 then some (-2) else cm_let (fX10_isWithin v2 0 99) (fun u14 => (if u14 = 0 then some (-2) else cm_let (fX10_isWithin v3 0 1) (fun u23 => (if u23 = 0 then some (-2) else Option.bind (fX10_leastWinningTake v1) (fun u33 => cm_let ((if v1 ≤ 0 then 0 else (if v2 < u33 then 0 else 1)) : Int32) (fun j39 => (if v3 = 0 then (if j39 = 0 then some 0 else some 1) else (if j39 = 0 then some (-6) else some u33))))))))))
def rmX10_cakes : Room := { frames := 1, cells := 0, slots := 0, locals := 23 }
set_option maxRecDepth 100000 in
set_option maxHeartbeats 4000000 in
theorem c_X10_cakes (l : Launch) (D : va_G) (cI cJ cZ : ClassId) (fb a : Nat) (v1 : Int32) (v2 : Int32) (v3 : Int32) (res : Int32) (hf : fX10_cakes v1 v2 v3 = some res) : CtF l yX10_cakes (cm_ws yX10_cakes cX10_cakes 6 (some .int)) rmX10_cakes D (cm_T cI cJ cZ) fb [.ref a, .int v1, .int v2, .int v3] (some (.int res)) := by
  refine CtF.of (cc := cX10_cakes) (maxL := 6) (ret := (some .int)) (by decide) (Nat.le_of_ble_eq_true rfl) ?_
  intro p e s m below meth c ls args A Q hav hAe hQ hx hb hr hml hown hlocks hts hK hP hD hA hS hl hF hAs
  have hKa := hK.1
  have hl : lv_has ls 6 [(0, .ref a), (1, .int v1), (2, .int v2), (3, .int v3)] := hl
  unfold fX10_cakes at hf
  refine lv_iload_n (pc := 0) hx hb dX10_cakes_0 rfl (lv_at hl 1 rfl) ?_
  refine lv_iconst (pc := 1) (v := 0) hx hb dX10_cakes_1 (by decide) ?_
  refine lv_bipush (pc := 2) (v := 99) hx hb dX10_cakes_2 (by decide) ?_
  obtain ⟨u4, hu4, hf⟩ := cm_lt hf
  refine cm_callS (pc := 4) (As := [.int v1, .int 0, .int 99]) (rest := []) (wr := []) (n := 3) hx hb hml hown hts hK hP hD hS hA (c_X10_isWithin l D cI cJ cZ v1 0 99 u4 hu4) tw_312 tw_310 tw_311 tw_45 rfl rfl (by decide +kernel) rfl ⟨Nat.le_of_ble_eq_true rfl, Nat.le_of_ble_eq_true rfl⟩ [] [] rfl (by decide) rfl (by decide) (by decide) hl.1 rfl (Nat.le_of_ble_eq_true rfl) dX10_cakes_4 ⟨Nat.zero_le _, Nat.zero_le _⟩ (fun H locs hP hD hS => ?_)
  have hP : va_P D vwCl [] H := hP
  have hD : va_D A [] := hD
  refine W.eq (g2 := F0 m 7 ls [.int u4]) rfl ?_
  refine lv_if_eq (pc := 7) (tgt := 29) hx hb dX10_cakes_7 (by decide) (fun c_7 => ?_) (fun c_7 => ?_)
  · have hf := cm_ip c_7 hf
    refine lv_bipush (pc := 29) (v := (-2)) hx hb dX10_cakes_29 (by decide) ?_
    obtain rfl := Option.some.inj hf
    exact cm_iret (pc := 31) hAe hQ hx hb hr hlocks hP hD hS [] (by decide) rfl dX10_cakes_31
  · have hf := cm_in c_7 hf
    refine lv_iload_n (pc := 10) hx hb dX10_cakes_10 rfl (lv_at hl 2 rfl) ?_
    refine lv_iconst (pc := 11) (v := 0) hx hb dX10_cakes_11 (by decide) ?_
    refine lv_bipush (pc := 12) (v := 99) hx hb dX10_cakes_12 (by decide) ?_
    obtain ⟨u14, hu14, hf⟩ := cm_lt hf
    refine cm_callS (pc := 14) (As := [.int v2, .int 0, .int 99]) (rest := []) (wr := []) (n := 3) hx hb hml hown hts hK hP hD hS hA (c_X10_isWithin l D cI cJ cZ v2 0 99 u14 hu14) tw_312 tw_310 tw_311 tw_45 rfl rfl (by decide +kernel) rfl ⟨Nat.le_of_ble_eq_true rfl, Nat.le_of_ble_eq_true rfl⟩ [] [] rfl (by decide) rfl (by decide) (by decide) hl.1 rfl (Nat.le_of_ble_eq_true rfl) dX10_cakes_14 ⟨Nat.zero_le _, Nat.zero_le _⟩ (fun H locs hP hD hS => ?_)
    have hP : va_P D vwCl [] H := hP
    have hD : va_D A [] := hD
    refine W.eq (g2 := F0 m 17 ls [.int u14]) rfl ?_
    refine lv_if_eq (pc := 17) (tgt := 29) hx hb dX10_cakes_17 (by decide) (fun c_17 => ?_) (fun c_17 => ?_)
    · have hf := cm_ip c_17 hf
      refine lv_bipush (pc := 29) (v := (-2)) hx hb dX10_cakes_29 (by decide) ?_
      obtain rfl := Option.some.inj hf
      exact cm_iret (pc := 31) hAe hQ hx hb hr hlocks hP hD hS [] (by decide) rfl dX10_cakes_31
    · have hf := cm_in c_17 hf
      refine lv_iload_n (pc := 20) hx hb dX10_cakes_20 rfl (lv_at hl 3 rfl) ?_
      refine lv_iconst (pc := 21) (v := 0) hx hb dX10_cakes_21 (by decide) ?_
      refine lv_iconst (pc := 22) (v := 1) hx hb dX10_cakes_22 (by decide) ?_
      obtain ⟨u23, hu23, hf⟩ := cm_lt hf
      refine cm_callS (pc := 23) (As := [.int v3, .int 0, .int 1]) (rest := []) (wr := []) (n := 3) hx hb hml hown hts hK hP hD hS hA (c_X10_isWithin l D cI cJ cZ v3 0 1 u23 hu23) tw_312 tw_310 tw_311 tw_45 rfl rfl (by decide +kernel) rfl ⟨Nat.le_of_ble_eq_true rfl, Nat.le_of_ble_eq_true rfl⟩ [] [] rfl (by decide) rfl (by decide) (by decide) hl.1 rfl (Nat.le_of_ble_eq_true rfl) dX10_cakes_23 ⟨Nat.zero_le _, Nat.zero_le _⟩ (fun H locs hP hD hS => ?_)
      have hP : va_P D vwCl [] H := hP
      have hD : va_D A [] := hD
      refine W.eq (g2 := F0 m 26 ls [.int u23]) rfl ?_
      refine lv_if_ne (pc := 26) (tgt := 32) hx hb dX10_cakes_26 (by decide) (fun c_26 => ?_) (fun c_26 => ?_)
      · have hf := cm_in c_26 hf
        refine lv_iload_n (pc := 32) hx hb dX10_cakes_32 rfl (lv_at hl 1 rfl) ?_
        obtain ⟨u33, hu33, hf⟩ := cm_bd hf
        refine cm_callSF (pc := 33) (As := [.int v1]) (rest := []) (wr := []) (n := 1) hx hb hml hown hts hK hP hD hS hA hF hAs (c_X10_leastWinningTake l D cI cJ cZ fb v1 u33 hu33) tw_620 tw_618 tw_619 tw_45 rfl rfl (by decide +kernel) rfl ⟨Nat.le_of_ble_eq_true rfl, Nat.le_of_ble_eq_true rfl⟩ [] rfl (by decide) hl.1 rfl (Nat.le_of_ble_eq_true rfl) dX10_cakes_33 ⟨Nat.zero_le _, Nat.zero_le _⟩ (fun H locs hP hD hS => ?_)
        have hP : va_P D vwCl [] H := hP
        have hD : va_D A [] := hD
        refine W.eq (g2 := F0 m 36 ls [.int u33]) rfl ?_
        refine lv_istore (pc := 36) (lv' := [(4, .int u33), (0, .ref a), (1, .int v1), (2, .int v2), (3, .int v3)]) hx hb dX10_cakes_36 hl (by decide) rfl (fun ls hl => ?_)
        refine lv_iload_n (pc := 38) hx hb dX10_cakes_38 rfl (lv_at hl 2 rfl) ?_
        obtain ⟨j39, hj39, hf⟩ := cm_lt hf
        have J39 : ∀ (H : Heap) (locs : List Loc) (ls : Array Slot), va_P D vwCl [] H → va_D A [] → va_S A s.heap H locs → lv_has ls 6 [(4, .int u33), (3, .int v3)] → W p l e rmX10_cakes s m args below meth c H locs 0 0 Q (F0 m 53 ls [.int j39]) := by
          intro H locs ls hP hD hS hl
          refine lv_istore (pc := 53) (lv' := [(5, .int j39), (4, .int u33), (3, .int v3)]) hx hb dX10_cakes_53 hl (by decide) rfl (fun ls hl => ?_)
          refine lv_iload_n (pc := 55) hx hb dX10_cakes_55 rfl (lv_at hl 2 rfl) ?_
          refine lv_if_ne (pc := 56) (tgt := 70) hx hb dX10_cakes_56 (by decide) (fun c_56 => ?_) (fun c_56 => ?_)
          · have hf := cm_in c_56 hf
            refine lv_iload (pc := 70) hx hb dX10_cakes_70 (lv_at hl 0 rfl) ?_
            refine lv_if_eq (pc := 72) (tgt := 80) hx hb dX10_cakes_72 (by decide) (fun c_72 => ?_) (fun c_72 => ?_)
            · have hf := cm_ip c_72 hf
              refine lv_bipush (pc := 80) (v := (-6)) hx hb dX10_cakes_80 (by decide) ?_
              obtain rfl := Option.some.inj hf
              exact cm_iret (pc := 82) hAe hQ hx hb hr hlocks hP hD hS [] (by decide) rfl dX10_cakes_82
            · have hf := cm_in c_72 hf
              refine lv_iload (pc := 75) hx hb dX10_cakes_75 (lv_at hl 1 rfl) ?_
              refine lv_goto (pc := 77) (tgt := 82) hx hb dX10_cakes_77 (by decide) ?_
              obtain rfl := Option.some.inj hf
              exact cm_iret (pc := 82) hAe hQ hx hb hr hlocks hP hD hS [] (by decide) rfl dX10_cakes_82
          · have hf := cm_ip c_56 hf
            refine lv_iload (pc := 59) hx hb dX10_cakes_59 (lv_at hl 0 rfl) ?_
            refine lv_if_eq (pc := 61) (tgt := 68) hx hb dX10_cakes_61 (by decide) (fun c_61 => ?_) (fun c_61 => ?_)
            · have hf := cm_ip c_61 hf
              refine lv_iconst (pc := 68) (v := 0) hx hb dX10_cakes_68 (by decide) ?_
              obtain rfl := Option.some.inj hf
              exact cm_iret (pc := 69) hAe hQ hx hb hr hlocks hP hD hS [] (by decide) rfl dX10_cakes_69
            · have hf := cm_in c_61 hf
              refine lv_iconst (pc := 64) (v := 1) hx hb dX10_cakes_64 (by decide) ?_
              refine lv_goto (pc := 65) (tgt := 69) hx hb dX10_cakes_65 (by decide) ?_
              obtain rfl := Option.some.inj hf
              exact cm_iret (pc := 69) hAe hQ hx hb hr hlocks hP hD hS [] (by decide) rfl dX10_cakes_69
        clear hf
        have hf := hj39
        refine lv_if_le (pc := 39) (tgt := 52) hx hb dX10_cakes_39 (by decide) (fun c_39 => ?_) (fun c_39 => ?_)
        · have hf := cm_ip c_39 hf
          refine lv_iconst (pc := 52) (v := 0) hx hb dX10_cakes_52 (by decide) ?_
          obtain rfl := hf
          exact J39 _ _ _ hP hD hS (lv_sub hl [0, 4] rfl)
        · have hf := cm_in c_39 hf
          refine lv_iload (pc := 42) hx hb dX10_cakes_42 (lv_at hl 0 rfl) ?_
          refine lv_iload_n (pc := 44) hx hb dX10_cakes_44 rfl (lv_at hl 3 rfl) ?_
          refine lv_icmp_gt (pc := 45) (tgt := 52) hx hb dX10_cakes_45 (by decide) (fun c_45 => ?_) (fun c_45 => ?_)
          · have hf := cm_ip c_45 hf
            refine lv_iconst (pc := 52) (v := 0) hx hb dX10_cakes_52 (by decide) ?_
            obtain rfl := hf
            exact J39 _ _ _ hP hD hS (lv_sub hl [0, 4] rfl)
          · have hf := cm_in c_45 hf
            refine lv_iconst (pc := 48) (v := 1) hx hb dX10_cakes_48 (by decide) ?_
            refine lv_goto (pc := 49) (tgt := 53) hx hb dX10_cakes_49 (by decide) ?_
            obtain rfl := hf
            exact J39 _ _ _ hP hD hS (lv_sub hl [0, 4] rfl)
      · have hf := cm_ip c_26 hf
        refine lv_bipush (pc := 29) (v := (-2)) hx hb dX10_cakes_29 (by decide) ?_
        obtain rfl := Option.some.inj hf
        exact cm_iret (pc := 31) hAe hQ hx hb hr hlocks hP hD hS [] (by decide) rfl dX10_cakes_31
def fX0_begin_L9 (kx : Int32 → (Nat → Int64) → Option ((Nat → Int64))) : Nat → Int32 → (Nat → Int64) → Option ((Nat → Int64))
  | 0, _, _ => none
  | n + 1, v1_9, be_9 => (if 12 < v1_9 then kx v1_9 be_9 else if v1_9 < 0 ∨ 13 ≤ v1_9.toNatClampNeg then none else fX0_begin_L9 kx n (v1_9 + 1) (vp_updL be_9 v1_9.toNatClampNeg 0))
def fX0_begin (be : (Nat → Int64)) : Option ((Nat → Int64)) := fX0_begin_L9 (fun v1_9 be_9 => some be_9) 5000 1 (vp_updL be 0 1)
def rmX0_begin : Room := { frames := 0, cells := 0, slots := 0, locals := 0 }
set_option maxRecDepth 100000 in
set_option maxHeartbeats 4000000 in
theorem c_X0_begin (l : Launch) (D : va_G) (cI cJ cZ : ClassId) (a a_ways : Nat) (be : (Nat → Int64)) (res : (Nat → Int64)) (hf : fX0_begin be = some res) : Ct l yX0_begin (cm_ws yX0_begin cX0_begin 2 none) rmX0_begin D (cm_T cI cJ cZ) [.ref a] [(a, .inr (0, [.ref a_ways])), cm_kJ cJ a_ways 13 be] none [(a, .inr (0, [.ref a_ways])), cm_kJ cJ a_ways 13 res] := by
  refine Ct.of (cc := cX0_begin) (maxL := 2) (ret := none) (by decide) (Nat.le_of_ble_eq_true rfl) ?_
  intro p e s m below meth c ls args A Q hav hAe hQ hx hb hr hml hown hlocks hts hK hP hD hA hS hl
  have hKa := hK.1
  have hl : lv_has ls 2 [(0, .ref a)] := hl
  unfold fX0_begin at hf
  refine lv_aload_n (pc := 0) hx hb dX0_begin_0 rfl (lv_at hl 0 rfl) ?_
  refine va_get (pc := 1) (D := D) (ci := 0) (v := .ref a_ways) (C := RX0) (T := TX0) (N := 1) hx hb hts in_X0 hown hKa hP 0 rfl rfl 0 (by decide) (hts _ tw_264) (fun _ h9 => h9) rfl dX0_begin_1 ?_
  refine lv_iconst (pc := 4) (v := 0) hx hb dX0_begin_4 (by decide) ?_
  refine lv_lconst (pc := 5) (v := 1) hx hb dX0_begin_5 (by decide) ?_
  refine cm_lst (pc := 6) hx hb hKa hP hD hS 1 1 rfl rfl 0 rfl (by decide) dX0_begin_6 (fun H locs hP hD hS => ?_)
  have hP : va_P D vwCl [(a, .inr (0, [.ref a_ways])), cm_kJ cJ a_ways 13 (vp_updL be 0 1)] H := hP
  have hD : va_D A [(a, .inr (0, [.ref a_ways])), cm_kJ cJ a_ways 13 (vp_updL be 0 1)] := hD
  refine lv_iconst (pc := 7) (v := 1) hx hb dX0_begin_7 (by decide) ?_
  refine lv_istore_n (pc := 8) (lv' := [(1, .int 1), (0, .ref a)]) hx hb dX0_begin_8 rfl hl (by decide) rfl (fun ls hl => ?_)
  have L9 : ∀ (kx : Int32 → (Nat → Int64) → Option ((Nat → Int64))), (∀ (v1_9 : Int32) (be_9 : (Nat → Int64)) (H : Heap) (locs : List Loc) (ls : Array Slot), va_P D vwCl [(a, .inr (0, [.ref a_ways])), cm_kJ cJ a_ways 13 be_9] H → va_D A [(a, .inr (0, [.ref a_ways])), cm_kJ cJ a_ways 13 be_9] → va_S A s.heap H locs → lv_has ls 2 [] → kx v1_9 be_9 = some res → W p l e rmX0_begin s m args below meth c H locs 0 0 Q (F0 m 28 ls [])) → ∀ (n : Nat) (v1_9 : Int32) (be_9 : (Nat → Int64)) (H : Heap) (locs : List Loc) (ls : Array Slot), va_P D vwCl [(a, .inr (0, [.ref a_ways])), cm_kJ cJ a_ways 13 be_9] H → va_D A [(a, .inr (0, [.ref a_ways])), cm_kJ cJ a_ways 13 be_9] → va_S A s.heap H locs → lv_has ls 2 [(1, .int v1_9), (0, .ref a)] → fX0_begin_L9 kx n v1_9 be_9 = some res → W p l e rmX0_begin s m args below meth c H locs 0 0 Q (F0 m 9 ls []) := by
    intro kx hkx n
    induction n with
    | zero => intro v1_9 be_9 H locs ls hP hD hS hl hf; cases hf
    | succ n ih =>
      intro v1_9 be_9 H locs ls hP hD hS hl hf
      rw [fX0_begin_L9] at hf
      refine lv_iload_n (pc := 9) hx hb dX0_begin_9 rfl (lv_at hl 0 rfl) ?_
      refine lv_bipush (pc := 10) (v := 12) hx hb dX0_begin_10 (by decide) ?_
      refine lv_icmp_gt (pc := 12) (tgt := 28) hx hb dX0_begin_12 (by decide) (fun c_12 => ?_) (fun c_12 => ?_)
      · have hf := cm_ip c_12 hf
        exact hkx v1_9 be_9 _ _ _ hP hD hS (lv_sub hl [] rfl) hf
      · have hf := cm_in c_12 hf
        refine lv_aload_n (pc := 15) hx hb dX0_begin_15 rfl (lv_at hl 1 rfl) ?_
        refine va_get (pc := 16) (D := D) (ci := 0) (v := .ref a_ways) (C := RX0) (T := TX0) (N := 1) hx hb hts in_X0 hown hKa hP 0 rfl rfl 0 (by decide) (hts _ tw_264) (fun _ h9 => h9) rfl dX0_begin_16 ?_
        refine lv_iload_n (pc := 19) hx hb dX0_begin_19 rfl (lv_at hl 0 rfl) ?_
        refine lv_lconst (pc := 20) (v := 0) hx hb dX0_begin_20 (by decide) ?_
        obtain ⟨b_21, hf⟩ := cm_ob hf
        refine va_last (pc := 21) hx hb hKa hP hD hS 1 1 rfl rfl b_21 dX0_begin_21 (fun H locs hP hD hS => ?_)
        have hP : va_P D vwCl [(a, .inr (0, [.ref a_ways])), cm_kJ cJ a_ways 13 (vp_updL be_9 v1_9.toNatClampNeg 0)] H := hP
        have hD : va_D A [(a, .inr (0, [.ref a_ways])), cm_kJ cJ a_ways 13 (vp_updL be_9 v1_9.toNatClampNeg 0)] := hD
        refine lv_iinc (pc := 22) (v := (v1_9 + 1)) (lv' := [(1, .int (v1_9 + 1)), (0, .ref a)]) hx hb dX0_begin_22 hl (k := 0) rfl rfl (by decide) rfl (fun ls hl => ?_)
        refine lv_goto (pc := 25) (tgt := 9) hx hb dX0_begin_25 (by decide) ?_
        exact ih (v1_9 + 1) (vp_updL be_9 v1_9.toNatClampNeg 0) _ _ _ hP hD hS (lv_sub hl [0, 1] rfl) hf
  refine L9 _ (fun v1_9 be_9 H locs ls hP hD hS hl hf => ?_) 5000 1 (vp_updL be 0 1) _ _ _ hP hD hS (lv_sub hl [0, 1] rfl) hf
  obtain rfl := Option.some.inj hf
  exact cm_vret (pc := 28) hAe hQ hx hb hr hlocks hP hD hS [0, 1] (by decide) rfl dX0_begin_28
def fX0_addDay_L20 (v2 : Int32) (v3_7 : Int32) (be_7 : (Nat → Int64)) (kx : Int64 → Int64 → Int32 → Option ((Nat → Int64))) : Nat → Int64 → Int64 → Int32 → Option ((Nat → Int64))
  | 0, _, _, _ => none
  | n + 1, v4_20, v6_20, v8_20 => (if v3_7 < v8_20 then kx v4_20 v6_20 v8_20 else Option.bind ((if v8_20 < v2 then some v4_20 else if (v3_7 - v8_20) < 0 ∨ 13 ≤ (v3_7 - v8_20).toNatClampNeg then none else some (v4_20 + (v6_20 * (be_7 (v3_7 - v8_20).toNatClampNeg)))) : Option (Int64)) (fun j29 => if (((v8_20 + 1)).toInt64) = 0 then none else fX0_addDay_L20 v2 v3_7 be_7 kx n j29 ((v6_20 * (((v3_7 - v8_20)).toInt64)) / (((v8_20 + 1)).toInt64)) (v8_20 + 1)))
def fX0_addDay_L7 (v2 : Int32) (kx : Int32 → (Nat → Int64) → Option ((Nat → Int64))) : Nat → Int32 → (Nat → Int64) → Option ((Nat → Int64))
  | 0, _, _ => none
  | n + 1, v3_7, be_7 => (if v3_7 < 0 then kx v3_7 be_7 else fX0_addDay_L20 v2 v3_7 be_7 (fun v4_20 v6_20 v8_20 => if v3_7 < 0 ∨ 13 ≤ v3_7.toNatClampNeg then none else fX0_addDay_L7 v2 kx n (v3_7 + (-1)) (vp_updL be_7 v3_7.toNatClampNeg v4_20)) 5000 0 1 0)
def fX0_addDay (v1 : Int32) (v2 : Int32) (be : (Nat → Int64)) : Option ((Nat → Int64)) := fX0_addDay_L7 v2 (fun v3_7 be_7 => some be_7) 5000 (if 12 < v1 then 12 else v1) be
def rmX0_addDay : Room := { frames := 1, cells := 0, slots := 0, locals := 21 }
set_option maxRecDepth 100000 in
set_option maxHeartbeats 4000000 in
theorem c_X0_addDay (l : Launch) (D : va_G) (cI cJ cZ : ClassId) (a a_ways : Nat) (be : (Nat → Int64)) (v1 : Int32) (v2 : Int32) (res : (Nat → Int64)) (hf : fX0_addDay v1 v2 be = some res) : Ct l yX0_addDay (cm_ws yX0_addDay cX0_addDay 9 none) rmX0_addDay D (cm_T cI cJ cZ) [.ref a, .int v1, .int v2] [(a, .inr (0, [.ref a_ways])), cm_kJ cJ a_ways 13 be] none [(a, .inr (0, [.ref a_ways])), cm_kJ cJ a_ways 13 res] := by
  refine Ct.of (cc := cX0_addDay) (maxL := 9) (ret := none) (by decide) (Nat.le_of_ble_eq_true rfl) ?_
  intro p e s m below meth c ls args A Q hav hAe hQ hx hb hr hml hown hlocks hts hK hP hD hA hS hl
  have hKa := hK.1
  have hl : lv_has ls 9 [(0, .ref a), (1, .int v1), (2, .int v2)] := hl
  unfold fX0_addDay at hf
  refine lv_iload_n (pc := 0) hx hb dX0_addDay_0 rfl (lv_at hl 1 rfl) ?_
  refine lv_bipush (pc := 1) (v := 12) hx hb dX0_addDay_1 (by decide) ?_
  refine va_mmin (pc := 3) hx hb (hml.trans hl.1.symm) hown (hts _ tw_641) (hts _ tw_445) (hts _ tw_57) (hts _ tw_446) (Nat.le_of_ble_eq_true rfl) (Nat.le_of_ble_eq_true rfl) (Nat.zero_le _) (Nat.zero_le _) dX0_addDay_3 ?_
  refine lv_istore_n (pc := 6) (lv' := [(3, .int (if 12 < v1 then 12 else v1)), (0, .ref a), (1, .int v1), (2, .int v2)]) hx hb dX0_addDay_6 rfl hl (by decide) rfl (fun ls hl => ?_)
  have L7 : ∀ (kx : Int32 → (Nat → Int64) → Option ((Nat → Int64))), (∀ (v3_7 : Int32) (be_7 : (Nat → Int64)) (H : Heap) (locs : List Loc) (ls : Array Slot), va_P D vwCl [(a, .inr (0, [.ref a_ways])), cm_kJ cJ a_ways 13 be_7] H → va_D A [(a, .inr (0, [.ref a_ways])), cm_kJ cJ a_ways 13 be_7] → va_S A s.heap H locs → lv_has ls 9 [] → kx v3_7 be_7 = some res → W p l e rmX0_addDay s m args below meth c H locs 0 0 Q (F0 m 85 ls [])) → ∀ (n : Nat) (v3_7 : Int32) (be_7 : (Nat → Int64)) (H : Heap) (locs : List Loc) (ls : Array Slot), va_P D vwCl [(a, .inr (0, [.ref a_ways])), cm_kJ cJ a_ways 13 be_7] H → va_D A [(a, .inr (0, [.ref a_ways])), cm_kJ cJ a_ways 13 be_7] → va_S A s.heap H locs → lv_has ls 9 [(3, .int v3_7), (0, .ref a), (2, .int v2)] → fX0_addDay_L7 v2 kx n v3_7 be_7 = some res → W p l e rmX0_addDay s m args below meth c H locs 0 0 Q (F0 m 7 ls []) := by
    intro kx hkx n
    induction n with
    | zero => intro v3_7 be_7 H locs ls hP hD hS hl hf; cases hf
    | succ n ih =>
      intro v3_7 be_7 H locs ls hP hD hS hl hf
      rw [fX0_addDay_L7] at hf
      refine lv_iload_n (pc := 7) hx hb dX0_addDay_7 rfl (lv_at hl 0 rfl) ?_
      refine lv_if_lt (pc := 8) (tgt := 85) hx hb dX0_addDay_8 (by decide) (fun c_8 => ?_) (fun c_8 => ?_)
      · have hf := cm_ip c_8 hf
        exact hkx v3_7 be_7 _ _ _ hP hD hS (lv_sub hl [] rfl) hf
      · have hf := cm_in c_8 hf
        refine lv_lconst (pc := 11) (v := 0) hx hb dX0_addDay_11 (by decide) ?_
        refine lv_lstore (pc := 12) (lv' := [(4, .long 0), (3, .int v3_7), (0, .ref a), (2, .int v2)]) hx hb dX0_addDay_12 hl (by decide) rfl (fun ls hl => ?_)
        refine lv_lconst (pc := 14) (v := 1) hx hb dX0_addDay_14 (by decide) ?_
        refine lv_lstore (pc := 15) (lv' := [(6, .long 1), (4, .long 0), (3, .int v3_7), (0, .ref a), (2, .int v2)]) hx hb dX0_addDay_15 hl (by decide) rfl (fun ls hl => ?_)
        refine lv_iconst (pc := 17) (v := 0) hx hb dX0_addDay_17 (by decide) ?_
        refine lv_istore (pc := 18) (lv' := [(8, .int 0), (6, .long 1), (4, .long 0), (3, .int v3_7), (0, .ref a), (2, .int v2)]) hx hb dX0_addDay_18 hl (by decide) rfl (fun ls hl => ?_)
        have L20 : ∀ (kx : Int64 → Int64 → Int32 → Option ((Nat → Int64))), (∀ (v4_20 : Int64) (v6_20 : Int64) (v8_20 : Int32) (H : Heap) (locs : List Loc) (ls : Array Slot), va_P D vwCl [(a, .inr (0, [.ref a_ways])), cm_kJ cJ a_ways 13 be_7] H → va_D A [(a, .inr (0, [.ref a_ways])), cm_kJ cJ a_ways 13 be_7] → va_S A s.heap H locs → lv_has ls 9 [(4, .long v4_20), (3, .int v3_7), (0, .ref a), (2, .int v2)] → kx v4_20 v6_20 v8_20 = some res → W p l e rmX0_addDay s m args below meth c H locs 0 0 Q (F0 m 71 ls [])) → ∀ (n : Nat) (v4_20 : Int64) (v6_20 : Int64) (v8_20 : Int32) (H : Heap) (locs : List Loc) (ls : Array Slot), va_P D vwCl [(a, .inr (0, [.ref a_ways])), cm_kJ cJ a_ways 13 be_7] H → va_D A [(a, .inr (0, [.ref a_ways])), cm_kJ cJ a_ways 13 be_7] → va_S A s.heap H locs → lv_has ls 9 [(8, .int v8_20), (6, .long v6_20), (4, .long v4_20), (3, .int v3_7), (0, .ref a), (2, .int v2)] → fX0_addDay_L20 v2 v3_7 be_7 kx n v4_20 v6_20 v8_20 = some res → W p l e rmX0_addDay s m args below meth c H locs 0 0 Q (F0 m 20 ls []) := by
          intro kx hkx n
          induction n with
          | zero => intro v4_20 v6_20 v8_20 H locs ls hP hD hS hl hf; cases hf
          | succ n ih =>
            intro v4_20 v6_20 v8_20 H locs ls hP hD hS hl hf
            rw [fX0_addDay_L20] at hf
            refine lv_iload (pc := 20) hx hb dX0_addDay_20 (lv_at hl 0 rfl) ?_
            refine lv_iload_n (pc := 22) hx hb dX0_addDay_22 rfl (lv_at hl 3 rfl) ?_
            refine lv_icmp_gt (pc := 23) (tgt := 71) hx hb dX0_addDay_23 (by decide) (fun c_23 => ?_) (fun c_23 => ?_)
            · have hf := cm_ip c_23 hf
              exact hkx v4_20 v6_20 v8_20 _ _ _ hP hD hS (lv_sub hl [2, 3, 4, 5] rfl) hf
            · have hf := cm_in c_23 hf
              refine lv_iload (pc := 26) hx hb dX0_addDay_26 (lv_at hl 0 rfl) ?_
              refine lv_iload_n (pc := 28) hx hb dX0_addDay_28 rfl (lv_at hl 5 rfl) ?_
              obtain ⟨j29, hj29, hf⟩ := cm_bd hf
              have J29 : ∀ (H : Heap) (locs : List Loc) (ls : Array Slot), va_P D vwCl [(a, .inr (0, [.ref a_ways])), cm_kJ cJ a_ways 13 be_7] H → va_D A [(a, .inr (0, [.ref a_ways])), cm_kJ cJ a_ways 13 be_7] → va_S A s.heap H locs → lv_has ls 9 [(8, .int v8_20), (6, .long v6_20), (3, .int v3_7), (0, .ref a), (2, .int v2), (4, .long j29)] → W p l e rmX0_addDay s m args below meth c H locs 0 0 Q (F0 m 49 ls []) := by
                intro H locs ls hP hD hS hl
                refine lv_lload (pc := 49) hx hb dX0_addDay_49 (lv_at hl 1 rfl) ?_
                refine lv_iload_n (pc := 51) hx hb dX0_addDay_51 rfl (lv_at hl 2 rfl) ?_
                refine lv_iload (pc := 52) hx hb dX0_addDay_52 (lv_at hl 0 rfl) ?_
                refine lv_isub (pc := 54) hx hb dX0_addDay_54 ?_
                refine lv_i2l (pc := 55) (v := ((v3_7 - v8_20)).toInt64) hx hb dX0_addDay_55 rfl ?_
                refine lv_lmul (pc := 56) hx hb dX0_addDay_56 ?_
                refine lv_iload (pc := 57) hx hb dX0_addDay_57 (lv_at hl 0 rfl) ?_
                refine lv_iconst (pc := 59) (v := 1) hx hb dX0_addDay_59 (by decide) ?_
                refine lv_iadd (pc := 60) hx hb dX0_addDay_60 ?_
                refine lv_i2l (pc := 61) (v := ((v8_20 + 1)).toInt64) hx hb dX0_addDay_61 rfl ?_
                obtain ⟨z_62, hf⟩ := cm_ob hf
                refine lv_ldiv (pc := 62) hx hb dX0_addDay_62 z_62 ?_
                refine lv_lstore (pc := 63) (lv' := [(6, .long ((v6_20 * (((v3_7 - v8_20)).toInt64)) / (((v8_20 + 1)).toInt64))), (8, .int v8_20), (3, .int v3_7), (0, .ref a), (2, .int v2), (4, .long j29)]) hx hb dX0_addDay_63 hl (by decide) rfl (fun ls hl => ?_)
                refine lv_iinc (pc := 65) (v := (v8_20 + 1)) (lv' := [(8, .int (v8_20 + 1)), (6, .long ((v6_20 * (((v3_7 - v8_20)).toInt64)) / (((v8_20 + 1)).toInt64))), (3, .int v3_7), (0, .ref a), (2, .int v2), (4, .long j29)]) hx hb dX0_addDay_65 hl (k := 1) rfl rfl (by decide) rfl (fun ls hl => ?_)
                refine lv_goto (pc := 68) (tgt := 20) hx hb dX0_addDay_68 (by decide) ?_
                exact ih j29 ((v6_20 * (((v3_7 - v8_20)).toInt64)) / (((v8_20 + 1)).toInt64)) (v8_20 + 1) _ _ _ hP hD hS (lv_sub hl [0, 1, 5, 2, 3, 4] rfl) hf
              clear hf
              have hf := hj29
              refine lv_icmp_lt (pc := 29) (tgt := 49) hx hb dX0_addDay_29 (by decide) (fun c_29 => ?_) (fun c_29 => ?_)
              · have hf := cm_ip c_29 hf
                obtain rfl := Option.some.inj hf
                exact J29 _ _ _ hP hD hS (lv_sub hl [0, 1, 3, 4, 5, 2] rfl)
              · have hf := cm_in c_29 hf
                refine lv_lload (pc := 32) hx hb dX0_addDay_32 (lv_at hl 2 rfl) ?_
                refine lv_lload (pc := 34) hx hb dX0_addDay_34 (lv_at hl 1 rfl) ?_
                refine lv_aload_n (pc := 36) hx hb dX0_addDay_36 rfl (lv_at hl 4 rfl) ?_
                refine va_get (pc := 37) (D := D) (ci := 0) (v := .ref a_ways) (C := RX0) (T := TX0) (N := 1) hx hb hts in_X0 hown hKa hP 0 rfl rfl 0 (by decide) (hts _ tw_264) (fun _ h9 => h9) rfl dX0_addDay_37 ?_
                refine lv_iload_n (pc := 40) hx hb dX0_addDay_40 rfl (lv_at hl 3 rfl) ?_
                refine lv_iload (pc := 41) hx hb dX0_addDay_41 (lv_at hl 0 rfl) ?_
                refine lv_isub (pc := 43) hx hb dX0_addDay_43 ?_
                obtain ⟨b_44, hf⟩ := cm_ob hf
                refine va_lald (pc := 44) hx hb hKa hP 1 1 rfl rfl b_44 dX0_addDay_44 ?_
                refine lv_lmul (pc := 45) hx hb dX0_addDay_45 ?_
                refine lv_ladd (pc := 46) hx hb dX0_addDay_46 ?_
                refine lv_lstore (pc := 47) (lv' := [(4, .long (v4_20 + (v6_20 * (be_7 (v3_7 - v8_20).toNatClampNeg)))), (8, .int v8_20), (6, .long v6_20), (3, .int v3_7), (0, .ref a), (2, .int v2)]) hx hb dX0_addDay_47 hl (by decide) rfl (fun ls hl => ?_)
                obtain rfl := Option.some.inj hf
                exact J29 _ _ _ hP hD hS (lv_sub hl [1, 2, 3, 4, 5, 0] rfl)
        refine L20 _ (fun v4_20 v6_20 v8_20 H locs ls hP hD hS hl hf => ?_) 5000 0 1 0 _ _ _ hP hD hS (lv_sub hl [0, 1, 2, 3, 4, 5] rfl) hf
        refine lv_aload_n (pc := 71) hx hb dX0_addDay_71 rfl (lv_at hl 2 rfl) ?_
        refine va_get (pc := 72) (D := D) (ci := 0) (v := .ref a_ways) (C := RX0) (T := TX0) (N := 1) hx hb hts in_X0 hown hKa hP 0 rfl rfl 0 (by decide) (hts _ tw_264) (fun _ h9 => h9) rfl dX0_addDay_72 ?_
        refine lv_iload_n (pc := 75) hx hb dX0_addDay_75 rfl (lv_at hl 1 rfl) ?_
        refine lv_lload (pc := 76) hx hb dX0_addDay_76 (lv_at hl 0 rfl) ?_
        obtain ⟨b_78, hf⟩ := cm_ob hf
        refine va_last (pc := 78) hx hb hKa hP hD hS 1 1 rfl rfl b_78 dX0_addDay_78 (fun H locs hP hD hS => ?_)
        have hP : va_P D vwCl [(a, .inr (0, [.ref a_ways])), cm_kJ cJ a_ways 13 (vp_updL be_7 v3_7.toNatClampNeg v4_20)] H := hP
        have hD : va_D A [(a, .inr (0, [.ref a_ways])), cm_kJ cJ a_ways 13 (vp_updL be_7 v3_7.toNatClampNeg v4_20)] := hD
        refine lv_iinc (pc := 79) (v := (v3_7 + (-1))) (lv' := [(3, .int (v3_7 + (-1))), (4, .long v4_20), (0, .ref a), (2, .int v2)]) hx hb dX0_addDay_79 hl (k := 1) rfl rfl (by decide) rfl (fun ls hl => ?_)
        refine lv_goto (pc := 82) (tgt := 7) hx hb dX0_addDay_82 (by decide) ?_
        exact ih (v3_7 + (-1)) (vp_updL be_7 v3_7.toNatClampNeg v4_20) _ _ _ hP hD hS (lv_sub hl [0, 2, 3] rfl) hf
  refine L7 _ (fun v3_7 be_7 H locs ls hP hD hS hl hf => ?_) 5000 (if 12 < v1 then 12 else v1) be _ _ _ hP hD hS (lv_sub hl [0, 1, 3] rfl) hf
  obtain rfl := Option.some.inj hf
  exact cm_vret (pc := 85) hAe hQ hx hb hr hlocks hP hD hS [0, 1] (by decide) rfl dX0_addDay_85
def fX0_choices_L5 (v0 : Int32) (v1 : Int32) (kx : Int64 → Int32 → Option (Int64)) : Nat → Int64 → Int32 → Option (Int64)
  | 0, _, _ => none
  | n + 1, v2_5, v4_5 => (if v1 ≤ v4_5 then kx v2_5 v4_5 else if (((v4_5 + 1)).toInt64) = 0 then none else fX0_choices_L5 v0 v1 kx n ((v2_5 * (((v0 - v4_5)).toInt64)) / (((v4_5 + 1)).toInt64)) (v4_5 + 1))
def fX0_choices (v0 : Int32) (v1 : Int32) : Option (Int64) := fX0_choices_L5 v0 v1 (fun v2_5 v4_5 => some v2_5) 5000 1 0
def rmX0_choices : Room := { frames := 0, cells := 0, slots := 0, locals := 0 }
set_option maxRecDepth 100000 in
set_option maxHeartbeats 4000000 in
theorem c_X0_choices (l : Launch) (D : va_G) (cI cJ cZ : ClassId) (v0 : Int32) (v1 : Int32) (res : Int64) (hf : fX0_choices v0 v1 = some res) : Ct l yX0_choices (cm_ws yX0_choices cX0_choices 5 (some .long)) rmX0_choices D (cm_T cI cJ cZ) [.int v0, .int v1] [] (some (.long res)) [] := by
  refine Ct.of (cc := cX0_choices) (maxL := 5) (ret := (some .long)) (by decide) (Nat.le_of_ble_eq_true rfl) ?_
  intro p e s m below meth c ls args A Q hav hAe hQ hx hb hr hml hown hlocks hts hK hP hD hA hS hl
  have hKa := hK.1
  have hl : lv_has ls 5 [(0, .int v0), (1, .int v1)] := hl
  unfold fX0_choices at hf
  refine lv_lconst (pc := 0) (v := 1) hx hb dX0_choices_0 (by decide) ?_
  refine lv_lstore_n (pc := 1) (lv' := [(2, .long 1), (0, .int v0), (1, .int v1)]) hx hb dX0_choices_1 rfl hl (by decide) rfl (fun ls hl => ?_)
  refine lv_iconst (pc := 2) (v := 0) hx hb dX0_choices_2 (by decide) ?_
  refine lv_istore (pc := 3) (lv' := [(4, .int 0), (2, .long 1), (0, .int v0), (1, .int v1)]) hx hb dX0_choices_3 hl (by decide) rfl (fun ls hl => ?_)
  have L5 : ∀ (kx : Int64 → Int32 → Option (Int64)), (∀ (v2_5 : Int64) (v4_5 : Int32) (H : Heap) (locs : List Loc) (ls : Array Slot), va_P D vwCl [] H → va_D A [] → va_S A s.heap H locs → lv_has ls 5 [(2, .long v2_5)] → kx v2_5 v4_5 = some res → W p l e rmX0_choices s m args below meth c H locs 0 0 Q (F0 m 31 ls [])) → ∀ (n : Nat) (v2_5 : Int64) (v4_5 : Int32) (H : Heap) (locs : List Loc) (ls : Array Slot), va_P D vwCl [] H → va_D A [] → va_S A s.heap H locs → lv_has ls 5 [(4, .int v4_5), (2, .long v2_5), (0, .int v0), (1, .int v1)] → fX0_choices_L5 v0 v1 kx n v2_5 v4_5 = some res → W p l e rmX0_choices s m args below meth c H locs 0 0 Q (F0 m 5 ls []) := by
    intro kx hkx n
    induction n with
    | zero => intro v2_5 v4_5 H locs ls hP hD hS hl hf; cases hf
    | succ n ih =>
      intro v2_5 v4_5 H locs ls hP hD hS hl hf
      rw [fX0_choices_L5] at hf
      refine lv_iload (pc := 5) hx hb dX0_choices_5 (lv_at hl 0 rfl) ?_
      refine lv_iload_n (pc := 7) hx hb dX0_choices_7 rfl (lv_at hl 3 rfl) ?_
      refine lv_icmp_ge (pc := 8) (tgt := 31) hx hb dX0_choices_8 (by decide) (fun c_8 => ?_) (fun c_8 => ?_)
      · have hf := cm_ip c_8 hf
        exact hkx v2_5 v4_5 _ _ _ hP hD hS (lv_sub hl [1] rfl) hf
      · have hf := cm_in c_8 hf
        refine lv_lload_n (pc := 11) hx hb dX0_choices_11 rfl (lv_at hl 1 rfl) ?_
        refine lv_iload_n (pc := 12) hx hb dX0_choices_12 rfl (lv_at hl 2 rfl) ?_
        refine lv_iload (pc := 13) hx hb dX0_choices_13 (lv_at hl 0 rfl) ?_
        refine lv_isub (pc := 15) hx hb dX0_choices_15 ?_
        refine lv_i2l (pc := 16) (v := ((v0 - v4_5)).toInt64) hx hb dX0_choices_16 rfl ?_
        refine lv_lmul (pc := 17) hx hb dX0_choices_17 ?_
        refine lv_iload (pc := 18) hx hb dX0_choices_18 (lv_at hl 0 rfl) ?_
        refine lv_iconst (pc := 20) (v := 1) hx hb dX0_choices_20 (by decide) ?_
        refine lv_iadd (pc := 21) hx hb dX0_choices_21 ?_
        refine lv_i2l (pc := 22) (v := ((v4_5 + 1)).toInt64) hx hb dX0_choices_22 rfl ?_
        obtain ⟨z_23, hf⟩ := cm_ob hf
        refine lv_ldiv (pc := 23) hx hb dX0_choices_23 z_23 ?_
        refine lv_lstore_n (pc := 24) (lv' := [(2, .long ((v2_5 * (((v0 - v4_5)).toInt64)) / (((v4_5 + 1)).toInt64))), (4, .int v4_5), (0, .int v0), (1, .int v1)]) hx hb dX0_choices_24 rfl hl (by decide) rfl (fun ls hl => ?_)
        refine lv_iinc (pc := 25) (v := (v4_5 + 1)) (lv' := [(4, .int (v4_5 + 1)), (2, .long ((v2_5 * (((v0 - v4_5)).toInt64)) / (((v4_5 + 1)).toInt64))), (0, .int v0), (1, .int v1)]) hx hb dX0_choices_25 hl (k := 1) rfl rfl (by decide) rfl (fun ls hl => ?_)
        refine lv_goto (pc := 28) (tgt := 5) hx hb dX0_choices_28 (by decide) ?_
        exact ih ((v2_5 * (((v0 - v4_5)).toInt64)) / (((v4_5 + 1)).toInt64)) (v4_5 + 1) _ _ _ hP hD hS (lv_sub hl [0, 1, 2, 3] rfl) hf
  refine L5 _ (fun v2_5 v4_5 H locs ls hP hD hS hl hf => ?_) 5000 1 0 _ _ _ hP hD hS (lv_sub hl [0, 1, 2, 3] rfl) hf
  refine lv_lload_n (pc := 31) hx hb dX0_choices_31 rfl (lv_at hl 0 rfl) ?_
  obtain rfl := Option.some.inj hf
  exact cm_lret (pc := 32) hAe hQ hx hb hr hlocks hP hD hS [] (by decide) rfl dX0_choices_32
def fX0_waysOf (v1 : Int32) (be : (Nat → Int64)) : Option (Int64) := cm_let (fX10_isWithin v1 0 12) (fun u4 => (if u4 = 0 then some 0 else if v1 < 0 ∨ 13 ≤ v1.toNatClampNeg then none else some (be v1.toNatClampNeg)))
def rmX0_waysOf : Room := { frames := 1, cells := 0, slots := 0, locals := 22 }
set_option maxRecDepth 100000 in
set_option maxHeartbeats 4000000 in
theorem c_X0_waysOf (l : Launch) (D : va_G) (cI cJ cZ : ClassId) (a a_ways : Nat) (be : (Nat → Int64)) (v1 : Int32) (res : Int64) (hf : fX0_waysOf v1 be = some res) : Ct l yX0_waysOf (cm_ws yX0_waysOf cX0_waysOf 2 (some .long)) rmX0_waysOf D (cm_T cI cJ cZ) [.ref a, .int v1] [(a, .inr (0, [.ref a_ways])), cm_kJ cJ a_ways 13 be] (some (.long res)) [(a, .inr (0, [.ref a_ways])), cm_kJ cJ a_ways 13 be] := by
  refine Ct.of (cc := cX0_waysOf) (maxL := 2) (ret := (some .long)) (by decide) (Nat.le_of_ble_eq_true rfl) ?_
  intro p e s m below meth c ls args A Q hav hAe hQ hx hb hr hml hown hlocks hts hK hP hD hA hS hl
  have hKa := hK.1
  have hl : lv_has ls 2 [(0, .ref a), (1, .int v1)] := hl
  unfold fX0_waysOf at hf
  refine lv_iload_n (pc := 0) hx hb dX0_waysOf_0 rfl (lv_at hl 1 rfl) ?_
  refine lv_iconst (pc := 1) (v := 0) hx hb dX0_waysOf_1 (by decide) ?_
  refine lv_bipush (pc := 2) (v := 12) hx hb dX0_waysOf_2 (by decide) ?_
  obtain ⟨u4, hu4, hf⟩ := cm_lt hf
  refine cm_callN (pc := 4) (As := [.int v1, .int 0, .int 12]) (rest := []) (wr := [(a, .inr (0, [.ref a_ways])), cm_kJ cJ a_ways 13 be]) (host := RX10) (n := 3) hx hb hml hown hts hK hP hD hS hA (c_X10_isWithin l D cI cJ cZ v1 0 12 u4 hu4) tw_312 (hK.2 (RX0, 40, yX10_isWithin, RX10) (List.mem_of_getElem? (i := 9) rfl)) tw_311 tw_45 rfl rfl (by decide +kernel) rfl ⟨Nat.le_of_ble_eq_true rfl, Nat.le_of_ble_eq_true rfl⟩ [] [0, 1] rfl (by decide) rfl (by decide) (by decide) hl.1 rfl (Nat.le_of_ble_eq_true rfl) dX0_waysOf_4 ⟨Nat.zero_le _, Nat.zero_le _⟩ (fun H locs hP hD hS => ?_)
  have hP : va_P D vwCl [(a, .inr (0, [.ref a_ways])), cm_kJ cJ a_ways 13 be] H := hP
  have hD : va_D A [(a, .inr (0, [.ref a_ways])), cm_kJ cJ a_ways 13 be] := hD
  refine W.eq (g2 := F0 m 7 ls [.int u4]) rfl ?_
  refine lv_if_eq (pc := 7) (tgt := 19) hx hb dX0_waysOf_7 (by decide) (fun c_7 => ?_) (fun c_7 => ?_)
  · have hf := cm_ip c_7 hf
    refine lv_lconst (pc := 19) (v := 0) hx hb dX0_waysOf_19 (by decide) ?_
    obtain rfl := Option.some.inj hf
    exact cm_lret (pc := 20) hAe hQ hx hb hr hlocks hP hD hS [0, 1] (by decide) rfl dX0_waysOf_20
  · have hf := cm_in c_7 hf
    refine lv_aload_n (pc := 10) hx hb dX0_waysOf_10 rfl (lv_at hl 0 rfl) ?_
    refine va_get (pc := 11) (D := D) (ci := 0) (v := .ref a_ways) (C := RX0) (T := TX0) (N := 1) hx hb hts in_X0 hown hKa hP 0 rfl rfl 0 (by decide) (hts _ tw_264) (fun _ h9 => h9) rfl dX0_waysOf_11 ?_
    refine lv_iload_n (pc := 14) hx hb dX0_waysOf_14 rfl (lv_at hl 1 rfl) ?_
    obtain ⟨b_15, hf⟩ := cm_ob hf
    refine va_lald (pc := 15) hx hb hKa hP 1 1 rfl rfl b_15 dX0_waysOf_15 ?_
    refine lv_goto (pc := 16) (tgt := 20) hx hb dX0_waysOf_16 (by decide) ?_
    obtain rfl := Option.some.inj hf
    exact cm_lret (pc := 20) hAe hQ hx hb hr hlocks hP hD hS [0, 1] (by decide) rfl dX0_waysOf_20
