def fX10_told (v1 : Int32) (now_bo : SBO) (pad_pa : SPA) (sights_si : SSI) : Option (Int32 × SBO) := (if v1 = 0 then some (pad_pa.2, now_bo) else (if v1 = 1 then some (now_bo.2.2.2.2.2.1, now_bo) else (if v1 = 2 then Option.bind (fX1_leastDay now_bo) (fun u60 => some (u60.1, u60.2)) else (if v1 = 3 then some (now_bo.2.2.2.2.2.2.2.1, now_bo) else (if v1 = 4 then some (now_bo.2.2.2.2.2.2.1, now_bo) else (if v1 = 5 then some (sights_si.2.2.2, now_bo) else Option.bind (fX10_toldOfSome v1 now_bo) (fun u90 => some (u90, now_bo))))))))
def rmX10_told : Room := { frames := 2, cells := 0, slots := 0, locals := 44 }
set_option maxRecDepth 100000 in
set_option maxHeartbeats 4000000 in
theorem c_X10_told (l : Launch) (D : va_G) (cI cJ cZ : ClassId) (a a_now a_pad a_trial a_sights a_im0 a_im1 a_digits a_voters a_trades a_bells a_now_thinks a_now_sure a_now_coin a_now_far a_now_chalk a_pad_signs a_pad_reader a_sights_leads a_sights_answers a_sights_slatesByGap : Nat) (now_bo : SBO) (pad_pa : SPA) (sights_si : SSI) (v1 : Int32) (res : Int32 × SBO) (hf : fX10_told v1 now_bo pad_pa sights_si = some res) : Ct l yX10_told (cm_ws yX10_told cX10_told 2 (some .int)) rmX10_told D (cm_T cI cJ cZ) [.ref a, .int v1] [(a, .inr (10, [.ref a_now, .ref a_pad, .ref a_trial, .ref a_sights, .ref a_im0, .ref a_im1, .ref a_digits, .ref a_voters, .ref a_trades, .ref a_bells])), (a_now, .inr (1, [.ref a_now_thinks, .ref a_now_sure, .ref a_now_coin, .ref a_now_far, .ref a_now_chalk, .int now_bo.2.2.2.2.2.1, .int now_bo.2.2.2.2.2.2.1, .int now_bo.2.2.2.2.2.2.2.1, .int now_bo.2.2.2.2.2.2.2.2])), cm_kI cI a_now_thinks 8 now_bo.1, cm_kI cI a_now_sure 8 now_bo.2.1, cm_kI cI a_now_coin 8 now_bo.2.2.1, cm_kI cI a_now_far 4 now_bo.2.2.2.1, cm_kI cI a_now_chalk 7 now_bo.2.2.2.2.1, (a_pad, .inr (3, [.ref a_pad_signs, .ref a_pad_reader, .int pad_pa.2])), cm_kI cI a_pad_signs 60 pad_pa.1, (a_sights, .inr (6, [.ref a_sights_leads, .ref a_sights_answers, .ref a_sights_slatesByGap, .int sights_si.2.2.2])), cm_kI cI a_sights_leads 8 sights_si.1, cm_kI cI a_sights_answers 8 sights_si.2.1, cm_kI cI a_sights_slatesByGap 17 sights_si.2.2.1] (some (.int res.1)) [(a, .inr (10, [.ref a_now, .ref a_pad, .ref a_trial, .ref a_sights, .ref a_im0, .ref a_im1, .ref a_digits, .ref a_voters, .ref a_trades, .ref a_bells])), (a_now, .inr (1, [.ref a_now_thinks, .ref a_now_sure, .ref a_now_coin, .ref a_now_far, .ref a_now_chalk, .int res.2.2.2.2.2.2.1, .int res.2.2.2.2.2.2.2.1, .int res.2.2.2.2.2.2.2.2.1, .int res.2.2.2.2.2.2.2.2.2])), cm_kI cI a_now_thinks 8 res.2.1, cm_kI cI a_now_sure 8 res.2.2.1, cm_kI cI a_now_coin 8 res.2.2.2.1, cm_kI cI a_now_far 4 res.2.2.2.2.1, cm_kI cI a_now_chalk 7 res.2.2.2.2.2.1, (a_pad, .inr (3, [.ref a_pad_signs, .ref a_pad_reader, .int pad_pa.2])), cm_kI cI a_pad_signs 60 pad_pa.1, (a_sights, .inr (6, [.ref a_sights_leads, .ref a_sights_answers, .ref a_sights_slatesByGap, .int sights_si.2.2.2])), cm_kI cI a_sights_leads 8 sights_si.1, cm_kI cI a_sights_answers 8 sights_si.2.1, cm_kI cI a_sights_slatesByGap 17 sights_si.2.2.1] := by
  refine Ct.of (cc := cX10_told) (maxL := 2) (ret := (some .int)) (by decide) (Nat.le_of_ble_eq_true rfl) ?_
  intro p e s m below meth c ls args A Q hav hAe hQ hx hb hr hml hown hlocks hts hK hP hD hA hS hl
  have hKa := hK.1
  have hl : lv_has ls 2 [(0, .ref a), (1, .int v1)] := hl
  unfold fX10_told at hf
  refine lv_iload_n (pc := 0) hx hb dX10_told_0 rfl (lv_at hl 1 rfl) ?_
  refine cm_em (v1 = 0) (fun c_1_0 => ?_) (fun c_1_0 => ?_)
  · have hf := cm_ip c_1_0 hf
    refine lv_tableIn (pc := 1) (off := 39) (tgt := 40) hx hb dX10_told_1 (by rw [c_1_0]; decide) (by rw [c_1_0]; decide) (by rw [c_1_0]; rfl) (by decide) ?_
    refine lv_aload_n (pc := 40) hx hb dX10_told_40 rfl (lv_at hl 0 rfl) ?_
    refine va_get (pc := 41) (D := D) (ci := 10) (v := .ref a_pad) (C := RX10) (T := TX10) (N := 10) hx hb hts in_X10 hown hKa hP 0 rfl rfl 1 (by decide) (hts _ tw_270) (fun _ h9 => h9) rfl dX10_told_41 ?_
    refine va_get (pc := 44) (D := D) (ci := 3) (v := .int pad_pa.2) (C := RX3) (T := TX3) (N := 3) hx hb hts in_X3 hown hKa hP 7 rfl rfl 2 (by decide) (hts _ tw_142) (fun _ h9 => h9) rfl dX10_told_44 ?_
    obtain rfl := Option.some.inj hf
    exact cm_iret (pc := 47) hAe hQ hx hb hr hlocks hP hD hS [0, 1, 2, 3, 4, 5, 6, 7, 8, 9, 10, 11, 12] (by decide) rfl dX10_told_47
  · have hf := cm_in c_1_0 hf
    refine cm_em (v1 = 1) (fun c_1_1 => ?_) (fun c_1_1 => ?_)
    · have hf := cm_ip c_1_1 hf
      refine lv_tableIn (pc := 1) (off := 47) (tgt := 48) hx hb dX10_told_1 (by rw [c_1_1]; decide) (by rw [c_1_1]; decide) (by rw [c_1_1]; rfl) (by decide) ?_
      refine lv_aload_n (pc := 48) hx hb dX10_told_48 rfl (lv_at hl 0 rfl) ?_
      refine va_get (pc := 49) (D := D) (ci := 10) (v := .ref a_now) (C := RX10) (T := TX10) (N := 10) hx hb hts in_X10 hown hKa hP 0 rfl rfl 0 (by decide) (hts _ tw_269) (fun _ h9 => h9) rfl dX10_told_49 ?_
      refine va_get (pc := 52) (D := D) (ci := 1) (v := .int now_bo.2.2.2.2.2.1) (C := RX1) (T := TX1) (N := 9) hx hb hts in_X1 hown hKa hP 1 rfl rfl 5 (by decide) (hts _ tw_82) (fun _ h9 => h9) rfl dX10_told_52 ?_
      obtain rfl := Option.some.inj hf
      exact cm_iret (pc := 55) hAe hQ hx hb hr hlocks hP hD hS [0, 1, 2, 3, 4, 5, 6, 7, 8, 9, 10, 11, 12] (by decide) rfl dX10_told_55
    · have hf := cm_in c_1_1 hf
      refine cm_em (v1 = 2) (fun c_1_2 => ?_) (fun c_1_2 => ?_)
      · have hf := cm_ip c_1_2 hf
        refine lv_tableIn (pc := 1) (off := 55) (tgt := 56) hx hb dX10_told_1 (by rw [c_1_2]; decide) (by rw [c_1_2]; decide) (by rw [c_1_2]; rfl) (by decide) ?_
        refine lv_aload_n (pc := 56) hx hb dX10_told_56 rfl (lv_at hl 0 rfl) ?_
        refine va_get (pc := 57) (D := D) (ci := 10) (v := .ref a_now) (C := RX10) (T := TX10) (N := 10) hx hb hts in_X10 hown hKa hP 0 rfl rfl 0 (by decide) (hts _ tw_269) (fun _ h9 => h9) rfl dX10_told_57 ?_
        obtain ⟨u60, hu60, hf⟩ := cm_bd hf
        refine cm_callV (pc := 60) (As := []) (rest := []) (wr := [(a, .inr (10, [.ref a_now, .ref a_pad, .ref a_trial, .ref a_sights, .ref a_im0, .ref a_im1, .ref a_digits, .ref a_voters, .ref a_trades, .ref a_bells])), (a_pad, .inr (3, [.ref a_pad_signs, .ref a_pad_reader, .int pad_pa.2])), cm_kI cI a_pad_signs 60 pad_pa.1, (a_sights, .inr (6, [.ref a_sights_leads, .ref a_sights_answers, .ref a_sights_slatesByGap, .int sights_si.2.2.2])), cm_kI cI a_sights_leads 8 sights_si.1, cm_kI cI a_sights_answers 8 sights_si.2.1, cm_kI cI a_sights_slatesByGap 17 sights_si.2.2.1]) (ci := 1) (q0 := 1) (n := 0) hx hb hml hown hts hK hP hD hS hA (c_X1_leastDay l D cI cJ cZ a_now a_now_thinks a_now_sure a_now_coin a_now_far a_now_chalk now_bo u60 hu60) tw_435 tw_475 tw_433 tw_434 tw_46 rfl rfl (by decide +kernel) rfl ⟨Nat.le_of_ble_eq_true rfl, Nat.le_of_ble_eq_true rfl⟩ [1, 2, 3, 4, 5, 6] [0, 7, 8, 9, 10, 11, 12] rfl (by decide) rfl (by decide) (by decide) rfl rfl rfl hl.1 rfl (Nat.le_of_ble_eq_true rfl) dX10_told_60 ⟨Nat.zero_le _, Nat.zero_le _⟩ (fun H locs hP hD hS => ?_)
        have hP : va_P D vwCl [(a, .inr (10, [.ref a_now, .ref a_pad, .ref a_trial, .ref a_sights, .ref a_im0, .ref a_im1, .ref a_digits, .ref a_voters, .ref a_trades, .ref a_bells])), (a_pad, .inr (3, [.ref a_pad_signs, .ref a_pad_reader, .int pad_pa.2])), cm_kI cI a_pad_signs 60 pad_pa.1, (a_sights, .inr (6, [.ref a_sights_leads, .ref a_sights_answers, .ref a_sights_slatesByGap, .int sights_si.2.2.2])), cm_kI cI a_sights_leads 8 sights_si.1, cm_kI cI a_sights_answers 8 sights_si.2.1, cm_kI cI a_sights_slatesByGap 17 sights_si.2.2.1, (a_now, .inr (1, [.ref a_now_thinks, .ref a_now_sure, .ref a_now_coin, .ref a_now_far, .ref a_now_chalk, .int u60.2.2.2.2.2.2.1, .int u60.2.2.2.2.2.2.2.1, .int u60.2.2.2.2.2.2.2.2.1, .int u60.2.2.2.2.2.2.2.2.2])), cm_kI cI a_now_thinks 8 u60.2.1, cm_kI cI a_now_sure 8 u60.2.2.1, cm_kI cI a_now_coin 8 u60.2.2.2.1, cm_kI cI a_now_far 4 u60.2.2.2.2.1, cm_kI cI a_now_chalk 7 u60.2.2.2.2.2.1] H := hP
        have hD : va_D A [(a, .inr (10, [.ref a_now, .ref a_pad, .ref a_trial, .ref a_sights, .ref a_im0, .ref a_im1, .ref a_digits, .ref a_voters, .ref a_trades, .ref a_bells])), (a_pad, .inr (3, [.ref a_pad_signs, .ref a_pad_reader, .int pad_pa.2])), cm_kI cI a_pad_signs 60 pad_pa.1, (a_sights, .inr (6, [.ref a_sights_leads, .ref a_sights_answers, .ref a_sights_slatesByGap, .int sights_si.2.2.2])), cm_kI cI a_sights_leads 8 sights_si.1, cm_kI cI a_sights_answers 8 sights_si.2.1, cm_kI cI a_sights_slatesByGap 17 sights_si.2.2.1, (a_now, .inr (1, [.ref a_now_thinks, .ref a_now_sure, .ref a_now_coin, .ref a_now_far, .ref a_now_chalk, .int u60.2.2.2.2.2.2.1, .int u60.2.2.2.2.2.2.2.1, .int u60.2.2.2.2.2.2.2.2.1, .int u60.2.2.2.2.2.2.2.2.2])), cm_kI cI a_now_thinks 8 u60.2.1, cm_kI cI a_now_sure 8 u60.2.2.1, cm_kI cI a_now_coin 8 u60.2.2.2.1, cm_kI cI a_now_far 4 u60.2.2.2.2.1, cm_kI cI a_now_chalk 7 u60.2.2.2.2.2.1] := hD
        refine W.eq (g2 := F0 m 63 ls [.int u60.1]) rfl ?_
        obtain rfl := Option.some.inj hf
        exact cm_iret (pc := 63) hAe hQ hx hb hr hlocks hP hD hS [0, 7, 8, 9, 10, 11, 12, 1, 2, 3, 4, 5, 6] (by decide) rfl dX10_told_63
      · have hf := cm_in c_1_2 hf
        refine cm_em (v1 = 3) (fun c_1_3 => ?_) (fun c_1_3 => ?_)
        · have hf := cm_ip c_1_3 hf
          refine lv_tableIn (pc := 1) (off := 63) (tgt := 64) hx hb dX10_told_1 (by rw [c_1_3]; decide) (by rw [c_1_3]; decide) (by rw [c_1_3]; rfl) (by decide) ?_
          refine lv_aload_n (pc := 64) hx hb dX10_told_64 rfl (lv_at hl 0 rfl) ?_
          refine va_get (pc := 65) (D := D) (ci := 10) (v := .ref a_now) (C := RX10) (T := TX10) (N := 10) hx hb hts in_X10 hown hKa hP 0 rfl rfl 0 (by decide) (hts _ tw_269) (fun _ h9 => h9) rfl dX10_told_65 ?_
          refine va_get (pc := 68) (D := D) (ci := 1) (v := .int now_bo.2.2.2.2.2.2.2.1) (C := RX1) (T := TX1) (N := 9) hx hb hts in_X1 hown hKa hP 1 rfl rfl 7 (by decide) (hts _ tw_86) (fun _ h9 => h9) rfl dX10_told_68 ?_
          obtain rfl := Option.some.inj hf
          exact cm_iret (pc := 71) hAe hQ hx hb hr hlocks hP hD hS [0, 1, 2, 3, 4, 5, 6, 7, 8, 9, 10, 11, 12] (by decide) rfl dX10_told_71
        · have hf := cm_in c_1_3 hf
          refine cm_em (v1 = 4) (fun c_1_4 => ?_) (fun c_1_4 => ?_)
          · have hf := cm_ip c_1_4 hf
            refine lv_tableIn (pc := 1) (off := 71) (tgt := 72) hx hb dX10_told_1 (by rw [c_1_4]; decide) (by rw [c_1_4]; decide) (by rw [c_1_4]; rfl) (by decide) ?_
            refine lv_aload_n (pc := 72) hx hb dX10_told_72 rfl (lv_at hl 0 rfl) ?_
            refine va_get (pc := 73) (D := D) (ci := 10) (v := .ref a_now) (C := RX10) (T := TX10) (N := 10) hx hb hts in_X10 hown hKa hP 0 rfl rfl 0 (by decide) (hts _ tw_269) (fun _ h9 => h9) rfl dX10_told_73 ?_
            refine va_get (pc := 76) (D := D) (ci := 1) (v := .int now_bo.2.2.2.2.2.2.1) (C := RX1) (T := TX1) (N := 9) hx hb hts in_X1 hown hKa hP 1 rfl rfl 6 (by decide) (hts _ tw_84) (fun _ h9 => h9) rfl dX10_told_76 ?_
            obtain rfl := Option.some.inj hf
            exact cm_iret (pc := 79) hAe hQ hx hb hr hlocks hP hD hS [0, 1, 2, 3, 4, 5, 6, 7, 8, 9, 10, 11, 12] (by decide) rfl dX10_told_79
          · have hf := cm_in c_1_4 hf
            refine cm_em (v1 = 5) (fun c_1_5 => ?_) (fun c_1_5 => ?_)
            · have hf := cm_ip c_1_5 hf
              refine lv_tableIn (pc := 1) (off := 79) (tgt := 80) hx hb dX10_told_1 (by rw [c_1_5]; decide) (by rw [c_1_5]; decide) (by rw [c_1_5]; rfl) (by decide) ?_
              refine lv_aload_n (pc := 80) hx hb dX10_told_80 rfl (lv_at hl 0 rfl) ?_
              refine va_get (pc := 81) (D := D) (ci := 10) (v := .ref a_sights) (C := RX10) (T := TX10) (N := 10) hx hb hts in_X10 hown hKa hP 0 rfl rfl 3 (by decide) (hts _ tw_272) (fun _ h9 => h9) rfl dX10_told_81 ?_
              refine va_get (pc := 84) (D := D) (ci := 6) (v := .int sights_si.2.2.2) (C := RX6) (T := TX6) (N := 4) hx hb hts in_X6 hown hKa hP 9 rfl rfl 3 (by decide) (hts _ tw_190) (fun _ h9 => h9) rfl dX10_told_84 ?_
              obtain rfl := Option.some.inj hf
              exact cm_iret (pc := 87) hAe hQ hx hb hr hlocks hP hD hS [0, 1, 2, 3, 4, 5, 6, 7, 8, 9, 10, 11, 12] (by decide) rfl dX10_told_87
            · have hf := cm_in c_1_5 hf
              refine lv_tableOut (pc := 1) (tgt := 88) hx hb dX10_told_1 (by have h0 := cm_nt (z := 0) (by decide) c_1_0; have h1 := cm_nt (z := 1) (by decide) c_1_1; have h2 := cm_nt (z := 2) (by decide) c_1_2; have h3 := cm_nt (z := 3) (by decide) c_1_3; have h4 := cm_nt (z := 4) (by decide) c_1_4; have h5 := cm_nt (z := 5) (by decide) c_1_5; omega) (by decide) ?_
              refine lv_aload_n (pc := 88) hx hb dX10_told_88 rfl (lv_at hl 0 rfl) ?_
              refine lv_iload_n (pc := 89) hx hb dX10_told_89 rfl (lv_at hl 1 rfl) ?_
              obtain ⟨u90, hu90, hf⟩ := cm_bd hf
              refine cm_callV (pc := 90) (As := [.int v1]) (rest := []) (wr := [(a_pad, .inr (3, [.ref a_pad_signs, .ref a_pad_reader, .int pad_pa.2])), cm_kI cI a_pad_signs 60 pad_pa.1, (a_sights, .inr (6, [.ref a_sights_leads, .ref a_sights_answers, .ref a_sights_slatesByGap, .int sights_si.2.2.2])), cm_kI cI a_sights_leads 8 sights_si.1, cm_kI cI a_sights_answers 8 sights_si.2.1, cm_kI cI a_sights_slatesByGap 17 sights_si.2.2.1]) (ci := 10) (q0 := 0) (n := 1) hx hb hml hown hts hK hP hD hS hA (c_X10_toldOfSome l D cI cJ cZ a a_now a_pad a_trial a_sights a_im0 a_im1 a_digits a_voters a_trades a_bells a_now_thinks a_now_sure a_now_coin a_now_far a_now_chalk now_bo v1 u90 hu90) tw_705 tw_702 tw_704 tw_27 tw_45 rfl rfl (by decide +kernel) rfl ⟨Nat.le_of_ble_eq_true rfl, Nat.le_of_ble_eq_true rfl⟩ [0, 1, 2, 3, 4, 5, 6] [7, 8, 9, 10, 11, 12] rfl (by decide) rfl (by decide) (by decide) rfl rfl rfl hl.1 rfl (Nat.le_of_ble_eq_true rfl) dX10_told_90 ⟨Nat.zero_le _, Nat.zero_le _⟩ (fun H locs hP hD hS => ?_)
              have hP : va_P D vwCl [(a_pad, .inr (3, [.ref a_pad_signs, .ref a_pad_reader, .int pad_pa.2])), cm_kI cI a_pad_signs 60 pad_pa.1, (a_sights, .inr (6, [.ref a_sights_leads, .ref a_sights_answers, .ref a_sights_slatesByGap, .int sights_si.2.2.2])), cm_kI cI a_sights_leads 8 sights_si.1, cm_kI cI a_sights_answers 8 sights_si.2.1, cm_kI cI a_sights_slatesByGap 17 sights_si.2.2.1, (a, .inr (10, [.ref a_now, .ref a_pad, .ref a_trial, .ref a_sights, .ref a_im0, .ref a_im1, .ref a_digits, .ref a_voters, .ref a_trades, .ref a_bells])), (a_now, .inr (1, [.ref a_now_thinks, .ref a_now_sure, .ref a_now_coin, .ref a_now_far, .ref a_now_chalk, .int now_bo.2.2.2.2.2.1, .int now_bo.2.2.2.2.2.2.1, .int now_bo.2.2.2.2.2.2.2.1, .int now_bo.2.2.2.2.2.2.2.2])), cm_kI cI a_now_thinks 8 now_bo.1, cm_kI cI a_now_sure 8 now_bo.2.1, cm_kI cI a_now_coin 8 now_bo.2.2.1, cm_kI cI a_now_far 4 now_bo.2.2.2.1, cm_kI cI a_now_chalk 7 now_bo.2.2.2.2.1] H := hP
              have hD : va_D A [(a_pad, .inr (3, [.ref a_pad_signs, .ref a_pad_reader, .int pad_pa.2])), cm_kI cI a_pad_signs 60 pad_pa.1, (a_sights, .inr (6, [.ref a_sights_leads, .ref a_sights_answers, .ref a_sights_slatesByGap, .int sights_si.2.2.2])), cm_kI cI a_sights_leads 8 sights_si.1, cm_kI cI a_sights_answers 8 sights_si.2.1, cm_kI cI a_sights_slatesByGap 17 sights_si.2.2.1, (a, .inr (10, [.ref a_now, .ref a_pad, .ref a_trial, .ref a_sights, .ref a_im0, .ref a_im1, .ref a_digits, .ref a_voters, .ref a_trades, .ref a_bells])), (a_now, .inr (1, [.ref a_now_thinks, .ref a_now_sure, .ref a_now_coin, .ref a_now_far, .ref a_now_chalk, .int now_bo.2.2.2.2.2.1, .int now_bo.2.2.2.2.2.2.1, .int now_bo.2.2.2.2.2.2.2.1, .int now_bo.2.2.2.2.2.2.2.2])), cm_kI cI a_now_thinks 8 now_bo.1, cm_kI cI a_now_sure 8 now_bo.2.1, cm_kI cI a_now_coin 8 now_bo.2.2.1, cm_kI cI a_now_far 4 now_bo.2.2.2.1, cm_kI cI a_now_chalk 7 now_bo.2.2.2.2.1] := hD
              refine W.eq (g2 := F0 m 93 ls [.int u90]) rfl ?_
              obtain rfl := Option.some.inj hf
              exact cm_iret (pc := 93) hAe hQ hx hb hr hlocks hP hD hS [6, 7, 8, 9, 10, 11, 12, 0, 1, 2, 3, 4, 5] (by decide) rfl dX10_told_93
def fX11_in (v0 : Int32) (v1 : Int32) (v2 : Int32) : Int32 := (if v0 < v1 then 0 else (if v2 < v0 then 0 else 1))
def rmX11_in : Room := { frames := 0, cells := 0, slots := 0, locals := 0 }
set_option maxRecDepth 100000 in
set_option maxHeartbeats 4000000 in
theorem c_X11_in (l : Launch) (D : va_G) (cI cJ cZ : ClassId) (v0 : Int32) (v1 : Int32) (v2 : Int32) (res : Int32) (hf : fX11_in v0 v1 v2 = res) : Ct l yX11_in (cm_ws yX11_in cX11_in 3 (some .boolean)) rmX11_in D (cm_T cI cJ cZ) [.int v0, .int v1, .int v2] [] (some (.int res)) [] := by
  refine Ct.of (cc := cX11_in) (maxL := 3) (ret := (some .boolean)) (by decide) (Nat.le_of_ble_eq_true rfl) ?_
  intro p e s m below meth c ls args A Q hav hAe hQ hx hb hr hml hown hlocks hts hK hP hD hA hS hl
  have hKa := hK.1
  have hl : lv_has ls 3 [(0, .int v0), (1, .int v1), (2, .int v2)] := hl
  unfold fX11_in at hf
  refine lv_iload_n (pc := 0) hx hb dX11_in_0 rfl (lv_at hl 0 rfl) ?_
  refine lv_iload_n (pc := 1) hx hb dX11_in_1 rfl (lv_at hl 1 rfl) ?_
  refine lv_icmp_lt (pc := 2) (tgt := 14) hx hb dX11_in_2 (by decide) (fun c_2 => ?_) (fun c_2 => ?_)
  · have hf := cm_ip c_2 hf
    refine lv_iconst (pc := 14) (v := 0) hx hb dX11_in_14 (by decide) ?_
    obtain rfl := hf
    exact cm_zret (Or.inl rfl) (pc := 15) hAe hQ hx hb hr hlocks hP hD hS [] (by decide) rfl dX11_in_15
  · have hf := cm_in c_2 hf
    refine lv_iload_n (pc := 5) hx hb dX11_in_5 rfl (lv_at hl 0 rfl) ?_
    refine lv_iload_n (pc := 6) hx hb dX11_in_6 rfl (lv_at hl 2 rfl) ?_
    refine lv_icmp_gt (pc := 7) (tgt := 14) hx hb dX11_in_7 (by decide) (fun c_7 => ?_) (fun c_7 => ?_)
    · have hf := cm_ip c_7 hf
      refine lv_iconst (pc := 14) (v := 0) hx hb dX11_in_14 (by decide) ?_
      obtain rfl := hf
      exact cm_zret (Or.inl rfl) (pc := 15) hAe hQ hx hb hr hlocks hP hD hS [] (by decide) rfl dX11_in_15
    · have hf := cm_in c_7 hf
      refine lv_iconst (pc := 10) (v := 1) hx hb dX11_in_10 (by decide) ?_
      refine lv_goto (pc := 11) (tgt := 15) hx hb dX11_in_11 (by decide) ?_
      obtain rfl := hf
      exact cm_zret (Or.inr rfl) (pc := 15) hAe hQ hx hb hr hlocks hP hD hS [] (by decide) rfl dX11_in_15
def fX11_has (v0 : Int32) (v1 : Int32) : Int32 := (if ((v0 >>> (v1 &&& 31)) &&& 1) = 1 then 1 else 0)
def rmX11_has : Room := { frames := 0, cells := 0, slots := 0, locals := 0 }
set_option maxRecDepth 100000 in
set_option maxHeartbeats 4000000 in
theorem c_X11_has (l : Launch) (D : va_G) (cI cJ cZ : ClassId) (v0 : Int32) (v1 : Int32) (res : Int32) (hf : fX11_has v0 v1 = res) : Ct l yX11_has (cm_ws yX11_has cX11_has 2 (some .boolean)) rmX11_has D (cm_T cI cJ cZ) [.int v0, .int v1] [] (some (.int res)) [] := by
  refine Ct.of (cc := cX11_has) (maxL := 2) (ret := (some .boolean)) (by decide) (Nat.le_of_ble_eq_true rfl) ?_
  intro p e s m below meth c ls args A Q hav hAe hQ hx hb hr hml hown hlocks hts hK hP hD hA hS hl
  have hKa := hK.1
  have hl : lv_has ls 2 [(0, .int v0), (1, .int v1)] := hl
  unfold fX11_has at hf
  refine lv_iload_n (pc := 0) hx hb dX11_has_0 rfl (lv_at hl 0 rfl) ?_
  refine lv_iload_n (pc := 1) hx hb dX11_has_1 rfl (lv_at hl 1 rfl) ?_
  refine lv_ishr (pc := 2) hx hb dX11_has_2 ?_
  refine lv_iconst (pc := 3) (v := 1) hx hb dX11_has_3 (by decide) ?_
  refine lv_iand (pc := 4) hx hb dX11_has_4 ?_
  refine lv_iconst (pc := 5) (v := 1) hx hb dX11_has_5 (by decide) ?_
  refine lv_icmp_ne (pc := 6) (tgt := 13) hx hb dX11_has_6 (by decide) (fun c_6 => ?_) (fun c_6 => ?_)
  · have hf := cm_in c_6 hf
    refine lv_iconst (pc := 13) (v := 0) hx hb dX11_has_13 (by decide) ?_
    obtain rfl := hf
    exact cm_zret (Or.inl rfl) (pc := 14) hAe hQ hx hb hr hlocks hP hD hS [] (by decide) rfl dX11_has_14
  · have hf := cm_ip c_6 hf
    refine lv_iconst (pc := 9) (v := 1) hx hb dX11_has_9 (by decide) ?_
    refine lv_goto (pc := 10) (tgt := 14) hx hb dX11_has_10 (by decide) ?_
    obtain rfl := hf
    exact cm_zret (Or.inr rfl) (pc := 14) hAe hQ hx hb hr hlocks hP hD hS [] (by decide) rfl dX11_has_14
def fX11_one (v1 : Int32) (v2 : Int32) (v3 : Int32) (v4 : Int32) (m_book : (Nat → Int32)) : Option (Int32 × (Nat → Int32)) := cm_let (fX11_in v1 0 7) (fun u4 => (if u4 = 0 then some ((-1), m_book) else cm_let (fX11_in v2 (-1) 6) (fun u16 => (if u16 = 0 then some ((-2), m_book) else cm_let (fX11_in v3 0 9) (fun u26 => (if u26 = 0 then some ((-2), m_book) else cm_let (fX11_in v4 0 99) (fun u37 => (if u37 = 0 then some ((-2), m_book) else if (8 + v1) < 0 ∨ 31 ≤ (8 + v1).toNatClampNeg then none else if (16 + v1) < 0 ∨ 31 ≤ (16 + v1).toNatClampNeg then none else cm_let ((if 0 ≤ v2 then v2 else (-6)) : Int32) (fun j76 => if v1 < 0 ∨ 31 ≤ v1.toNatClampNeg then none else if (8 + v1) < 0 ∨ 31 ≤ (8 + v1).toNatClampNeg then none else if (16 + v1) < 0 ∨ 31 ≤ (16 + v1).toNatClampNeg then none else some (((100 * (m_book (8 + v1).toNatClampNeg)) + (m_book (16 + v1).toNatClampNeg)), (upd (upd (upd m_book v1.toNatClampNeg j76) (8 + v1).toNatClampNeg v3) (16 + v1).toNatClampNeg v4)))))))))))
def rmX11_one : Room := { frames := 1, cells := 0, slots := 0, locals := 22 }
set_option maxRecDepth 100000 in
set_option maxHeartbeats 4000000 in
theorem c_X11_one (l : Launch) (D : va_G) (cI cJ cZ : ClassId) (a a_book a_now a_sight a_pad a_digits a_without a_with a_counts a_fewest a_ways a_more a_chooses a_image a_isKept : Nat) (m_sights : Int32) (m_signs : Int32) (m_sold : Int32) (m_markets : Int32) (m_marketAt : Int32) (m_reason : Int32) (m_acts : Int32) (m_book : (Nat → Int32)) (v1 : Int32) (v2 : Int32) (v3 : Int32) (v4 : Int32) (res : Int32 × (Nat → Int32)) (hf : fX11_one v1 v2 v3 v4 m_book = some res) : Ct l yX11_one (cm_ws yX11_one cX11_one 6 (some .int)) rmX11_one D (cm_T cI cJ cZ) [.ref a, .int v1, .int v2, .int v3, .int v4] [(a, .inr (11, [.ref a_book, .ref a_now, .int m_sights, .ref a_sight, .int m_signs, .ref a_pad, .int m_sold, .int m_markets, .int m_marketAt, .int m_reason, .int m_acts, .ref a_digits, .ref a_without, .ref a_with, .ref a_counts, .ref a_fewest, .ref a_ways, .ref a_more, .ref a_chooses, .ref a_image, .ref a_isKept])), cm_kI cI a_book 31 m_book] (some (.int res.1)) [(a, .inr (11, [.ref a_book, .ref a_now, .int m_sights, .ref a_sight, .int m_signs, .ref a_pad, .int m_sold, .int m_markets, .int m_marketAt, .int m_reason, .int m_acts, .ref a_digits, .ref a_without, .ref a_with, .ref a_counts, .ref a_fewest, .ref a_ways, .ref a_more, .ref a_chooses, .ref a_image, .ref a_isKept])), cm_kI cI a_book 31 res.2] := by
  refine Ct.of (cc := cX11_one) (maxL := 6) (ret := (some .int)) (by decide) (Nat.le_of_ble_eq_true rfl) ?_
  intro p e s m below meth c ls args A Q hav hAe hQ hx hb hr hml hown hlocks hts hK hP hD hA hS hl
  have hKa := hK.1
  have hl : lv_has ls 6 [(0, .ref a), (1, .int v1), (2, .int v2), (3, .int v3), (4, .int v4)] := hl
  unfold fX11_one at hf
  refine lv_iload_n (pc := 0) hx hb dX11_one_0 rfl (lv_at hl 1 rfl) ?_
  refine lv_iconst (pc := 1) (v := 0) hx hb dX11_one_1 (by decide) ?_
  refine lv_bipush (pc := 2) (v := 7) hx hb dX11_one_2 (by decide) ?_
  obtain ⟨u4, hu4, hf⟩ := cm_lt hf
  refine cm_callS (pc := 4) (As := [.int v1, .int 0, .int 7]) (rest := []) (wr := [(a, .inr (11, [.ref a_book, .ref a_now, .int m_sights, .ref a_sight, .int m_signs, .ref a_pad, .int m_sold, .int m_markets, .int m_marketAt, .int m_reason, .int m_acts, .ref a_digits, .ref a_without, .ref a_with, .ref a_counts, .ref a_fewest, .ref a_ways, .ref a_more, .ref a_chooses, .ref a_image, .ref a_isKept])), cm_kI cI a_book 31 m_book]) (n := 3) hx hb hml hown hts hK hP hD hS hA (c_X11_in l D cI cJ cZ v1 0 7 u4 hu4) tw_783 tw_781 tw_782 tw_56 rfl rfl (by decide +kernel) rfl ⟨Nat.le_of_ble_eq_true rfl, Nat.le_of_ble_eq_true rfl⟩ [] [0, 1] rfl (by decide) rfl (by decide) (by decide) hl.1 rfl (Nat.le_of_ble_eq_true rfl) dX11_one_4 ⟨Nat.zero_le _, Nat.zero_le _⟩ (fun H locs hP hD hS => ?_)
  have hP : va_P D vwCl [(a, .inr (11, [.ref a_book, .ref a_now, .int m_sights, .ref a_sight, .int m_signs, .ref a_pad, .int m_sold, .int m_markets, .int m_marketAt, .int m_reason, .int m_acts, .ref a_digits, .ref a_without, .ref a_with, .ref a_counts, .ref a_fewest, .ref a_ways, .ref a_more, .ref a_chooses, .ref a_image, .ref a_isKept])), cm_kI cI a_book 31 m_book] H := hP
  have hD : va_D A [(a, .inr (11, [.ref a_book, .ref a_now, .int m_sights, .ref a_sight, .int m_signs, .ref a_pad, .int m_sold, .int m_markets, .int m_marketAt, .int m_reason, .int m_acts, .ref a_digits, .ref a_without, .ref a_with, .ref a_counts, .ref a_fewest, .ref a_ways, .ref a_more, .ref a_chooses, .ref a_image, .ref a_isKept])), cm_kI cI a_book 31 m_book] := hD
  refine W.eq (g2 := F0 m 7 ls [.int u4]) rfl ?_
  refine lv_if_ne (pc := 7) (tgt := 12) hx hb dX11_one_7 (by decide) (fun c_7 => ?_) (fun c_7 => ?_)
  · have hf := cm_in c_7 hf
    refine lv_iload_n (pc := 12) hx hb dX11_one_12 rfl (lv_at hl 2 rfl) ?_
    refine lv_iconst (pc := 13) (v := (-1)) hx hb dX11_one_13 (by decide) ?_
    refine lv_bipush (pc := 14) (v := 6) hx hb dX11_one_14 (by decide) ?_
    obtain ⟨u16, hu16, hf⟩ := cm_lt hf
    refine cm_callS (pc := 16) (As := [.int v2, .int (-1), .int 6]) (rest := []) (wr := [(a, .inr (11, [.ref a_book, .ref a_now, .int m_sights, .ref a_sight, .int m_signs, .ref a_pad, .int m_sold, .int m_markets, .int m_marketAt, .int m_reason, .int m_acts, .ref a_digits, .ref a_without, .ref a_with, .ref a_counts, .ref a_fewest, .ref a_ways, .ref a_more, .ref a_chooses, .ref a_image, .ref a_isKept])), cm_kI cI a_book 31 m_book]) (n := 3) hx hb hml hown hts hK hP hD hS hA (c_X11_in l D cI cJ cZ v2 (-1) 6 u16 hu16) tw_783 tw_781 tw_782 tw_56 rfl rfl (by decide +kernel) rfl ⟨Nat.le_of_ble_eq_true rfl, Nat.le_of_ble_eq_true rfl⟩ [] [0, 1] rfl (by decide) rfl (by decide) (by decide) hl.1 rfl (Nat.le_of_ble_eq_true rfl) dX11_one_16 ⟨Nat.zero_le _, Nat.zero_le _⟩ (fun H locs hP hD hS => ?_)
    have hP : va_P D vwCl [(a, .inr (11, [.ref a_book, .ref a_now, .int m_sights, .ref a_sight, .int m_signs, .ref a_pad, .int m_sold, .int m_markets, .int m_marketAt, .int m_reason, .int m_acts, .ref a_digits, .ref a_without, .ref a_with, .ref a_counts, .ref a_fewest, .ref a_ways, .ref a_more, .ref a_chooses, .ref a_image, .ref a_isKept])), cm_kI cI a_book 31 m_book] H := hP
    have hD : va_D A [(a, .inr (11, [.ref a_book, .ref a_now, .int m_sights, .ref a_sight, .int m_signs, .ref a_pad, .int m_sold, .int m_markets, .int m_marketAt, .int m_reason, .int m_acts, .ref a_digits, .ref a_without, .ref a_with, .ref a_counts, .ref a_fewest, .ref a_ways, .ref a_more, .ref a_chooses, .ref a_image, .ref a_isKept])), cm_kI cI a_book 31 m_book] := hD
    refine W.eq (g2 := F0 m 19 ls [.int u16]) rfl ?_
    refine lv_if_eq (pc := 19) (tgt := 43) hx hb dX11_one_19 (by decide) (fun c_19 => ?_) (fun c_19 => ?_)
    · have hf := cm_ip c_19 hf
      refine lv_bipush (pc := 43) (v := (-2)) hx hb dX11_one_43 (by decide) ?_
      obtain rfl := Option.some.inj hf
      exact cm_iret (pc := 45) hAe hQ hx hb hr hlocks hP hD hS [0, 1] (by decide) rfl dX11_one_45
    · have hf := cm_in c_19 hf
      refine lv_iload_n (pc := 22) hx hb dX11_one_22 rfl (lv_at hl 3 rfl) ?_
      refine lv_iconst (pc := 23) (v := 0) hx hb dX11_one_23 (by decide) ?_
      refine lv_bipush (pc := 24) (v := 9) hx hb dX11_one_24 (by decide) ?_
      obtain ⟨u26, hu26, hf⟩ := cm_lt hf
      refine cm_callS (pc := 26) (As := [.int v3, .int 0, .int 9]) (rest := []) (wr := [(a, .inr (11, [.ref a_book, .ref a_now, .int m_sights, .ref a_sight, .int m_signs, .ref a_pad, .int m_sold, .int m_markets, .int m_marketAt, .int m_reason, .int m_acts, .ref a_digits, .ref a_without, .ref a_with, .ref a_counts, .ref a_fewest, .ref a_ways, .ref a_more, .ref a_chooses, .ref a_image, .ref a_isKept])), cm_kI cI a_book 31 m_book]) (n := 3) hx hb hml hown hts hK hP hD hS hA (c_X11_in l D cI cJ cZ v3 0 9 u26 hu26) tw_783 tw_781 tw_782 tw_56 rfl rfl (by decide +kernel) rfl ⟨Nat.le_of_ble_eq_true rfl, Nat.le_of_ble_eq_true rfl⟩ [] [0, 1] rfl (by decide) rfl (by decide) (by decide) hl.1 rfl (Nat.le_of_ble_eq_true rfl) dX11_one_26 ⟨Nat.zero_le _, Nat.zero_le _⟩ (fun H locs hP hD hS => ?_)
      have hP : va_P D vwCl [(a, .inr (11, [.ref a_book, .ref a_now, .int m_sights, .ref a_sight, .int m_signs, .ref a_pad, .int m_sold, .int m_markets, .int m_marketAt, .int m_reason, .int m_acts, .ref a_digits, .ref a_without, .ref a_with, .ref a_counts, .ref a_fewest, .ref a_ways, .ref a_more, .ref a_chooses, .ref a_image, .ref a_isKept])), cm_kI cI a_book 31 m_book] H := hP
      have hD : va_D A [(a, .inr (11, [.ref a_book, .ref a_now, .int m_sights, .ref a_sight, .int m_signs, .ref a_pad, .int m_sold, .int m_markets, .int m_marketAt, .int m_reason, .int m_acts, .ref a_digits, .ref a_without, .ref a_with, .ref a_counts, .ref a_fewest, .ref a_ways, .ref a_more, .ref a_chooses, .ref a_image, .ref a_isKept])), cm_kI cI a_book 31 m_book] := hD
      refine W.eq (g2 := F0 m 29 ls [.int u26]) rfl ?_
      refine lv_if_eq (pc := 29) (tgt := 43) hx hb dX11_one_29 (by decide) (fun c_29 => ?_) (fun c_29 => ?_)
      · have hf := cm_ip c_29 hf
        refine lv_bipush (pc := 43) (v := (-2)) hx hb dX11_one_43 (by decide) ?_
        obtain rfl := Option.some.inj hf
        exact cm_iret (pc := 45) hAe hQ hx hb hr hlocks hP hD hS [0, 1] (by decide) rfl dX11_one_45
      · have hf := cm_in c_29 hf
        refine lv_iload (pc := 32) hx hb dX11_one_32 (lv_at hl 4 rfl) ?_
        refine lv_iconst (pc := 34) (v := 0) hx hb dX11_one_34 (by decide) ?_
        refine lv_bipush (pc := 35) (v := 99) hx hb dX11_one_35 (by decide) ?_
        obtain ⟨u37, hu37, hf⟩ := cm_lt hf
        refine cm_callS (pc := 37) (As := [.int v4, .int 0, .int 99]) (rest := []) (wr := [(a, .inr (11, [.ref a_book, .ref a_now, .int m_sights, .ref a_sight, .int m_signs, .ref a_pad, .int m_sold, .int m_markets, .int m_marketAt, .int m_reason, .int m_acts, .ref a_digits, .ref a_without, .ref a_with, .ref a_counts, .ref a_fewest, .ref a_ways, .ref a_more, .ref a_chooses, .ref a_image, .ref a_isKept])), cm_kI cI a_book 31 m_book]) (n := 3) hx hb hml hown hts hK hP hD hS hA (c_X11_in l D cI cJ cZ v4 0 99 u37 hu37) tw_783 tw_781 tw_782 tw_56 rfl rfl (by decide +kernel) rfl ⟨Nat.le_of_ble_eq_true rfl, Nat.le_of_ble_eq_true rfl⟩ [] [0, 1] rfl (by decide) rfl (by decide) (by decide) hl.1 rfl (Nat.le_of_ble_eq_true rfl) dX11_one_37 ⟨Nat.zero_le _, Nat.zero_le _⟩ (fun H locs hP hD hS => ?_)
        have hP : va_P D vwCl [(a, .inr (11, [.ref a_book, .ref a_now, .int m_sights, .ref a_sight, .int m_signs, .ref a_pad, .int m_sold, .int m_markets, .int m_marketAt, .int m_reason, .int m_acts, .ref a_digits, .ref a_without, .ref a_with, .ref a_counts, .ref a_fewest, .ref a_ways, .ref a_more, .ref a_chooses, .ref a_image, .ref a_isKept])), cm_kI cI a_book 31 m_book] H := hP
        have hD : va_D A [(a, .inr (11, [.ref a_book, .ref a_now, .int m_sights, .ref a_sight, .int m_signs, .ref a_pad, .int m_sold, .int m_markets, .int m_marketAt, .int m_reason, .int m_acts, .ref a_digits, .ref a_without, .ref a_with, .ref a_counts, .ref a_fewest, .ref a_ways, .ref a_more, .ref a_chooses, .ref a_image, .ref a_isKept])), cm_kI cI a_book 31 m_book] := hD
        refine W.eq (g2 := F0 m 40 ls [.int u37]) rfl ?_
        refine lv_if_ne (pc := 40) (tgt := 46) hx hb dX11_one_40 (by decide) (fun c_40 => ?_) (fun c_40 => ?_)
        · have hf := cm_in c_40 hf
          refine lv_bipush (pc := 46) (v := 100) hx hb dX11_one_46 (by decide) ?_
          refine lv_aload_n (pc := 48) hx hb dX11_one_48 rfl (lv_at hl 0 rfl) ?_
          refine va_get (pc := 49) (D := D) (ci := 11) (v := .ref a_book) (C := RX11) (T := TX11) (N := 21) hx hb hts in_X11 hown hKa hP 0 rfl rfl 0 (by decide) (hts _ tw_712) (fun _ h9 => h9) rfl dX11_one_49 ?_
          refine lv_bipush (pc := 52) (v := 8) hx hb dX11_one_52 (by decide) ?_
          refine lv_iload_n (pc := 54) hx hb dX11_one_54 rfl (lv_at hl 1 rfl) ?_
          refine lv_iadd (pc := 55) hx hb dX11_one_55 ?_
          obtain ⟨b_56, hf⟩ := cm_ob hf
          refine va_iald (pc := 56) hx hb hKa hP 1 0 rfl rfl b_56 dX11_one_56 ?_
          refine lv_imul (pc := 57) hx hb dX11_one_57 ?_
          refine lv_aload_n (pc := 58) hx hb dX11_one_58 rfl (lv_at hl 0 rfl) ?_
          refine va_get (pc := 59) (D := D) (ci := 11) (v := .ref a_book) (C := RX11) (T := TX11) (N := 21) hx hb hts in_X11 hown hKa hP 0 rfl rfl 0 (by decide) (hts _ tw_712) (fun _ h9 => h9) rfl dX11_one_59 ?_
          refine lv_bipush (pc := 62) (v := 16) hx hb dX11_one_62 (by decide) ?_
          refine lv_iload_n (pc := 64) hx hb dX11_one_64 rfl (lv_at hl 1 rfl) ?_
          refine lv_iadd (pc := 65) hx hb dX11_one_65 ?_
          obtain ⟨b_66, hf⟩ := cm_ob hf
          refine va_iald (pc := 66) hx hb hKa hP 1 0 rfl rfl b_66 dX11_one_66 ?_
          refine lv_iadd (pc := 67) hx hb dX11_one_67 ?_
          refine lv_istore (pc := 68) (lv' := [(5, .int ((100 * (m_book (8 + v1).toNatClampNeg)) + (m_book (16 + v1).toNatClampNeg))), (0, .ref a), (1, .int v1), (2, .int v2), (3, .int v3), (4, .int v4)]) hx hb dX11_one_68 hl (by decide) rfl (fun ls hl => ?_)
          refine lv_aload_n (pc := 70) hx hb dX11_one_70 rfl (lv_at hl 1 rfl) ?_
          refine va_get (pc := 71) (D := D) (ci := 11) (v := .ref a_book) (C := RX11) (T := TX11) (N := 21) hx hb hts in_X11 hown hKa hP 0 rfl rfl 0 (by decide) (hts _ tw_712) (fun _ h9 => h9) rfl dX11_one_71 ?_
          refine lv_iload_n (pc := 74) hx hb dX11_one_74 rfl (lv_at hl 2 rfl) ?_
          refine lv_iload_n (pc := 75) hx hb dX11_one_75 rfl (lv_at hl 3 rfl) ?_
          obtain ⟨j76, hj76, hf⟩ := cm_lt hf
          have J76 : ∀ (H : Heap) (locs : List Loc) (ls : Array Slot), va_P D vwCl [(a, .inr (11, [.ref a_book, .ref a_now, .int m_sights, .ref a_sight, .int m_signs, .ref a_pad, .int m_sold, .int m_markets, .int m_marketAt, .int m_reason, .int m_acts, .ref a_digits, .ref a_without, .ref a_with, .ref a_counts, .ref a_fewest, .ref a_ways, .ref a_more, .ref a_chooses, .ref a_image, .ref a_isKept])), cm_kI cI a_book 31 m_book] H → va_D A [(a, .inr (11, [.ref a_book, .ref a_now, .int m_sights, .ref a_sight, .int m_signs, .ref a_pad, .int m_sold, .int m_markets, .int m_marketAt, .int m_reason, .int m_acts, .ref a_digits, .ref a_without, .ref a_with, .ref a_counts, .ref a_fewest, .ref a_ways, .ref a_more, .ref a_chooses, .ref a_image, .ref a_isKept])), cm_kI cI a_book 31 m_book] → va_S A s.heap H locs → lv_has ls 6 [(5, .int ((100 * (m_book (8 + v1).toNatClampNeg)) + (m_book (16 + v1).toNatClampNeg))), (0, .ref a), (1, .int v1), (3, .int v3), (4, .int v4)] → W p l e rmX11_one s m args below meth c H locs 0 0 Q (F0 m 85 ls [.int j76, .int v1, .ref a_book]) := by
            intro H locs ls hP hD hS hl
            obtain ⟨b_85, hf⟩ := cm_ob hf
            refine va_iast (pc := 85) hx hb hKa hP hD hS 1 0 rfl rfl b_85 dX11_one_85 (fun H locs hP hD hS => ?_)
            have hP : va_P D vwCl [(a, .inr (11, [.ref a_book, .ref a_now, .int m_sights, .ref a_sight, .int m_signs, .ref a_pad, .int m_sold, .int m_markets, .int m_marketAt, .int m_reason, .int m_acts, .ref a_digits, .ref a_without, .ref a_with, .ref a_counts, .ref a_fewest, .ref a_ways, .ref a_more, .ref a_chooses, .ref a_image, .ref a_isKept])), cm_kI cI a_book 31 (upd m_book v1.toNatClampNeg j76)] H := hP
            have hD : va_D A [(a, .inr (11, [.ref a_book, .ref a_now, .int m_sights, .ref a_sight, .int m_signs, .ref a_pad, .int m_sold, .int m_markets, .int m_marketAt, .int m_reason, .int m_acts, .ref a_digits, .ref a_without, .ref a_with, .ref a_counts, .ref a_fewest, .ref a_ways, .ref a_more, .ref a_chooses, .ref a_image, .ref a_isKept])), cm_kI cI a_book 31 (upd m_book v1.toNatClampNeg j76)] := hD
            refine lv_aload_n (pc := 86) hx hb dX11_one_86 rfl (lv_at hl 1 rfl) ?_
            refine va_get (pc := 87) (D := D) (ci := 11) (v := .ref a_book) (C := RX11) (T := TX11) (N := 21) hx hb hts in_X11 hown hKa hP 0 rfl rfl 0 (by decide) (hts _ tw_712) (fun _ h9 => h9) rfl dX11_one_87 ?_
            refine lv_bipush (pc := 90) (v := 8) hx hb dX11_one_90 (by decide) ?_
            refine lv_iload_n (pc := 92) hx hb dX11_one_92 rfl (lv_at hl 2 rfl) ?_
            refine lv_iadd (pc := 93) hx hb dX11_one_93 ?_
            refine lv_iload_n (pc := 94) hx hb dX11_one_94 rfl (lv_at hl 3 rfl) ?_
            obtain ⟨b_95, hf⟩ := cm_ob hf
            refine va_iast (pc := 95) hx hb hKa hP hD hS 1 0 rfl rfl b_95 dX11_one_95 (fun H locs hP hD hS => ?_)
            have hP : va_P D vwCl [(a, .inr (11, [.ref a_book, .ref a_now, .int m_sights, .ref a_sight, .int m_signs, .ref a_pad, .int m_sold, .int m_markets, .int m_marketAt, .int m_reason, .int m_acts, .ref a_digits, .ref a_without, .ref a_with, .ref a_counts, .ref a_fewest, .ref a_ways, .ref a_more, .ref a_chooses, .ref a_image, .ref a_isKept])), cm_kI cI a_book 31 (upd (upd m_book v1.toNatClampNeg j76) (8 + v1).toNatClampNeg v3)] H := hP
            have hD : va_D A [(a, .inr (11, [.ref a_book, .ref a_now, .int m_sights, .ref a_sight, .int m_signs, .ref a_pad, .int m_sold, .int m_markets, .int m_marketAt, .int m_reason, .int m_acts, .ref a_digits, .ref a_without, .ref a_with, .ref a_counts, .ref a_fewest, .ref a_ways, .ref a_more, .ref a_chooses, .ref a_image, .ref a_isKept])), cm_kI cI a_book 31 (upd (upd m_book v1.toNatClampNeg j76) (8 + v1).toNatClampNeg v3)] := hD
            refine lv_aload_n (pc := 96) hx hb dX11_one_96 rfl (lv_at hl 1 rfl) ?_
            refine va_get (pc := 97) (D := D) (ci := 11) (v := .ref a_book) (C := RX11) (T := TX11) (N := 21) hx hb hts in_X11 hown hKa hP 0 rfl rfl 0 (by decide) (hts _ tw_712) (fun _ h9 => h9) rfl dX11_one_97 ?_
            refine lv_bipush (pc := 100) (v := 16) hx hb dX11_one_100 (by decide) ?_
            refine lv_iload_n (pc := 102) hx hb dX11_one_102 rfl (lv_at hl 2 rfl) ?_
            refine lv_iadd (pc := 103) hx hb dX11_one_103 ?_
            refine lv_iload (pc := 104) hx hb dX11_one_104 (lv_at hl 4 rfl) ?_
            obtain ⟨b_106, hf⟩ := cm_ob hf
            refine va_iast (pc := 106) hx hb hKa hP hD hS 1 0 rfl rfl b_106 dX11_one_106 (fun H locs hP hD hS => ?_)
            have hP : va_P D vwCl [(a, .inr (11, [.ref a_book, .ref a_now, .int m_sights, .ref a_sight, .int m_signs, .ref a_pad, .int m_sold, .int m_markets, .int m_marketAt, .int m_reason, .int m_acts, .ref a_digits, .ref a_without, .ref a_with, .ref a_counts, .ref a_fewest, .ref a_ways, .ref a_more, .ref a_chooses, .ref a_image, .ref a_isKept])), cm_kI cI a_book 31 (upd (upd (upd m_book v1.toNatClampNeg j76) (8 + v1).toNatClampNeg v3) (16 + v1).toNatClampNeg v4)] H := hP
            have hD : va_D A [(a, .inr (11, [.ref a_book, .ref a_now, .int m_sights, .ref a_sight, .int m_signs, .ref a_pad, .int m_sold, .int m_markets, .int m_marketAt, .int m_reason, .int m_acts, .ref a_digits, .ref a_without, .ref a_with, .ref a_counts, .ref a_fewest, .ref a_ways, .ref a_more, .ref a_chooses, .ref a_image, .ref a_isKept])), cm_kI cI a_book 31 (upd (upd (upd m_book v1.toNatClampNeg j76) (8 + v1).toNatClampNeg v3) (16 + v1).toNatClampNeg v4)] := hD
            refine lv_iload (pc := 107) hx hb dX11_one_107 (lv_at hl 0 rfl) ?_
            obtain rfl := Option.some.inj hf
            exact cm_iret (pc := 109) hAe hQ hx hb hr hlocks hP hD hS [0, 1] (by decide) rfl dX11_one_109
          clear hf
          have hf := hj76
          refine lv_if_ge (pc := 76) (tgt := 84) hx hb dX11_one_76 (by decide) (fun c_76 => ?_) (fun c_76 => ?_)
          · have hf := cm_ip c_76 hf
            refine lv_iload_n (pc := 84) hx hb dX11_one_84 rfl (lv_at hl 3 rfl) ?_
            obtain rfl := hf
            exact J76 _ _ _ hP hD hS (lv_sub hl [0, 1, 2, 4, 5] rfl)
          · have hf := cm_in c_76 hf
            refine lv_bipush (pc := 79) (v := (-6)) hx hb dX11_one_79 (by decide) ?_
            refine lv_goto (pc := 81) (tgt := 85) hx hb dX11_one_81 (by decide) ?_
            obtain rfl := hf
            exact J76 _ _ _ hP hD hS (lv_sub hl [0, 1, 2, 4, 5] rfl)
        · have hf := cm_ip c_40 hf
          refine lv_bipush (pc := 43) (v := (-2)) hx hb dX11_one_43 (by decide) ?_
          obtain rfl := Option.some.inj hf
          exact cm_iret (pc := 45) hAe hQ hx hb hr hlocks hP hD hS [0, 1] (by decide) rfl dX11_one_45
  · have hf := cm_ip c_7 hf
    refine lv_iconst (pc := 10) (v := (-1)) hx hb dX11_one_10 (by decide) ?_
    obtain rfl := Option.some.inj hf
    exact cm_iret (pc := 11) hAe hQ hx hb hr hlocks hP hD hS [0, 1] (by decide) rfl dX11_one_11
def fX11_cart (v1 : Int32) (v2 : Int32) (m_book : (Nat → Int32)) : Option (Int32 × (Nat → Int32)) := cm_let (fX11_in v1 0 3) (fun u3 => (if u3 = 0 then some ((-1), m_book) else cm_let (fX11_in v2 0 9) (fun u15 => (if u15 = 0 then some ((-2), m_book) else if (24 + v1) < 0 ∨ 31 ≤ (24 + v1).toNatClampNeg then none else if (24 + v1) < 0 ∨ 31 ≤ (24 + v1).toNatClampNeg then none else some ((m_book (24 + v1).toNatClampNeg), (upd m_book (24 + v1).toNatClampNeg v2))))))
def rmX11_cart : Room := { frames := 1, cells := 0, slots := 0, locals := 22 }
set_option maxRecDepth 100000 in
set_option maxHeartbeats 4000000 in
theorem c_X11_cart (l : Launch) (D : va_G) (cI cJ cZ : ClassId) (a a_book a_now a_sight a_pad a_digits a_without a_with a_counts a_fewest a_ways a_more a_chooses a_image a_isKept : Nat) (m_sights : Int32) (m_signs : Int32) (m_sold : Int32) (m_markets : Int32) (m_marketAt : Int32) (m_reason : Int32) (m_acts : Int32) (m_book : (Nat → Int32)) (v1 : Int32) (v2 : Int32) (res : Int32 × (Nat → Int32)) (hf : fX11_cart v1 v2 m_book = some res) : Ct l yX11_cart (cm_ws yX11_cart cX11_cart 4 (some .int)) rmX11_cart D (cm_T cI cJ cZ) [.ref a, .int v1, .int v2] [(a, .inr (11, [.ref a_book, .ref a_now, .int m_sights, .ref a_sight, .int m_signs, .ref a_pad, .int m_sold, .int m_markets, .int m_marketAt, .int m_reason, .int m_acts, .ref a_digits, .ref a_without, .ref a_with, .ref a_counts, .ref a_fewest, .ref a_ways, .ref a_more, .ref a_chooses, .ref a_image, .ref a_isKept])), cm_kI cI a_book 31 m_book] (some (.int res.1)) [(a, .inr (11, [.ref a_book, .ref a_now, .int m_sights, .ref a_sight, .int m_signs, .ref a_pad, .int m_sold, .int m_markets, .int m_marketAt, .int m_reason, .int m_acts, .ref a_digits, .ref a_without, .ref a_with, .ref a_counts, .ref a_fewest, .ref a_ways, .ref a_more, .ref a_chooses, .ref a_image, .ref a_isKept])), cm_kI cI a_book 31 res.2] := by
  refine Ct.of (cc := cX11_cart) (maxL := 4) (ret := (some .int)) (by decide) (Nat.le_of_ble_eq_true rfl) ?_
  intro p e s m below meth c ls args A Q hav hAe hQ hx hb hr hml hown hlocks hts hK hP hD hA hS hl
  have hKa := hK.1
  have hl : lv_has ls 4 [(0, .ref a), (1, .int v1), (2, .int v2)] := hl
  unfold fX11_cart at hf
  refine lv_iload_n (pc := 0) hx hb dX11_cart_0 rfl (lv_at hl 1 rfl) ?_
  refine lv_iconst (pc := 1) (v := 0) hx hb dX11_cart_1 (by decide) ?_
  refine lv_iconst (pc := 2) (v := 3) hx hb dX11_cart_2 (by decide) ?_
  obtain ⟨u3, hu3, hf⟩ := cm_lt hf
  refine cm_callS (pc := 3) (As := [.int v1, .int 0, .int 3]) (rest := []) (wr := [(a, .inr (11, [.ref a_book, .ref a_now, .int m_sights, .ref a_sight, .int m_signs, .ref a_pad, .int m_sold, .int m_markets, .int m_marketAt, .int m_reason, .int m_acts, .ref a_digits, .ref a_without, .ref a_with, .ref a_counts, .ref a_fewest, .ref a_ways, .ref a_more, .ref a_chooses, .ref a_image, .ref a_isKept])), cm_kI cI a_book 31 m_book]) (n := 3) hx hb hml hown hts hK hP hD hS hA (c_X11_in l D cI cJ cZ v1 0 3 u3 hu3) tw_783 tw_781 tw_782 tw_56 rfl rfl (by decide +kernel) rfl ⟨Nat.le_of_ble_eq_true rfl, Nat.le_of_ble_eq_true rfl⟩ [] [0, 1] rfl (by decide) rfl (by decide) (by decide) hl.1 rfl (Nat.le_of_ble_eq_true rfl) dX11_cart_3 ⟨Nat.zero_le _, Nat.zero_le _⟩ (fun H locs hP hD hS => ?_)
  have hP : va_P D vwCl [(a, .inr (11, [.ref a_book, .ref a_now, .int m_sights, .ref a_sight, .int m_signs, .ref a_pad, .int m_sold, .int m_markets, .int m_marketAt, .int m_reason, .int m_acts, .ref a_digits, .ref a_without, .ref a_with, .ref a_counts, .ref a_fewest, .ref a_ways, .ref a_more, .ref a_chooses, .ref a_image, .ref a_isKept])), cm_kI cI a_book 31 m_book] H := hP
  have hD : va_D A [(a, .inr (11, [.ref a_book, .ref a_now, .int m_sights, .ref a_sight, .int m_signs, .ref a_pad, .int m_sold, .int m_markets, .int m_marketAt, .int m_reason, .int m_acts, .ref a_digits, .ref a_without, .ref a_with, .ref a_counts, .ref a_fewest, .ref a_ways, .ref a_more, .ref a_chooses, .ref a_image, .ref a_isKept])), cm_kI cI a_book 31 m_book] := hD
  refine W.eq (g2 := F0 m 6 ls [.int u3]) rfl ?_
  refine lv_if_ne (pc := 6) (tgt := 11) hx hb dX11_cart_6 (by decide) (fun c_6 => ?_) (fun c_6 => ?_)
  · have hf := cm_in c_6 hf
    refine lv_iload_n (pc := 11) hx hb dX11_cart_11 rfl (lv_at hl 2 rfl) ?_
    refine lv_iconst (pc := 12) (v := 0) hx hb dX11_cart_12 (by decide) ?_
    refine lv_bipush (pc := 13) (v := 9) hx hb dX11_cart_13 (by decide) ?_
    obtain ⟨u15, hu15, hf⟩ := cm_lt hf
    refine cm_callS (pc := 15) (As := [.int v2, .int 0, .int 9]) (rest := []) (wr := [(a, .inr (11, [.ref a_book, .ref a_now, .int m_sights, .ref a_sight, .int m_signs, .ref a_pad, .int m_sold, .int m_markets, .int m_marketAt, .int m_reason, .int m_acts, .ref a_digits, .ref a_without, .ref a_with, .ref a_counts, .ref a_fewest, .ref a_ways, .ref a_more, .ref a_chooses, .ref a_image, .ref a_isKept])), cm_kI cI a_book 31 m_book]) (n := 3) hx hb hml hown hts hK hP hD hS hA (c_X11_in l D cI cJ cZ v2 0 9 u15 hu15) tw_783 tw_781 tw_782 tw_56 rfl rfl (by decide +kernel) rfl ⟨Nat.le_of_ble_eq_true rfl, Nat.le_of_ble_eq_true rfl⟩ [] [0, 1] rfl (by decide) rfl (by decide) (by decide) hl.1 rfl (Nat.le_of_ble_eq_true rfl) dX11_cart_15 ⟨Nat.zero_le _, Nat.zero_le _⟩ (fun H locs hP hD hS => ?_)
    have hP : va_P D vwCl [(a, .inr (11, [.ref a_book, .ref a_now, .int m_sights, .ref a_sight, .int m_signs, .ref a_pad, .int m_sold, .int m_markets, .int m_marketAt, .int m_reason, .int m_acts, .ref a_digits, .ref a_without, .ref a_with, .ref a_counts, .ref a_fewest, .ref a_ways, .ref a_more, .ref a_chooses, .ref a_image, .ref a_isKept])), cm_kI cI a_book 31 m_book] H := hP
    have hD : va_D A [(a, .inr (11, [.ref a_book, .ref a_now, .int m_sights, .ref a_sight, .int m_signs, .ref a_pad, .int m_sold, .int m_markets, .int m_marketAt, .int m_reason, .int m_acts, .ref a_digits, .ref a_without, .ref a_with, .ref a_counts, .ref a_fewest, .ref a_ways, .ref a_more, .ref a_chooses, .ref a_image, .ref a_isKept])), cm_kI cI a_book 31 m_book] := hD
    refine W.eq (g2 := F0 m 18 ls [.int u15]) rfl ?_
    refine lv_if_ne (pc := 18) (tgt := 24) hx hb dX11_cart_18 (by decide) (fun c_18 => ?_) (fun c_18 => ?_)
    · have hf := cm_in c_18 hf
      refine lv_aload_n (pc := 24) hx hb dX11_cart_24 rfl (lv_at hl 0 rfl) ?_
      refine va_get (pc := 25) (D := D) (ci := 11) (v := .ref a_book) (C := RX11) (T := TX11) (N := 21) hx hb hts in_X11 hown hKa hP 0 rfl rfl 0 (by decide) (hts _ tw_712) (fun _ h9 => h9) rfl dX11_cart_25 ?_
      refine lv_bipush (pc := 28) (v := 24) hx hb dX11_cart_28 (by decide) ?_
      refine lv_iload_n (pc := 30) hx hb dX11_cart_30 rfl (lv_at hl 1 rfl) ?_
      refine lv_iadd (pc := 31) hx hb dX11_cart_31 ?_
      obtain ⟨b_32, hf⟩ := cm_ob hf
      refine va_iald (pc := 32) hx hb hKa hP 1 0 rfl rfl b_32 dX11_cart_32 ?_
      refine lv_istore_n (pc := 33) (lv' := [(3, .int (m_book (24 + v1).toNatClampNeg)), (0, .ref a), (1, .int v1), (2, .int v2)]) hx hb dX11_cart_33 rfl hl (by decide) rfl (fun ls hl => ?_)
      refine lv_aload_n (pc := 34) hx hb dX11_cart_34 rfl (lv_at hl 1 rfl) ?_
      refine va_get (pc := 35) (D := D) (ci := 11) (v := .ref a_book) (C := RX11) (T := TX11) (N := 21) hx hb hts in_X11 hown hKa hP 0 rfl rfl 0 (by decide) (hts _ tw_712) (fun _ h9 => h9) rfl dX11_cart_35 ?_
      refine lv_bipush (pc := 38) (v := 24) hx hb dX11_cart_38 (by decide) ?_
      refine lv_iload_n (pc := 40) hx hb dX11_cart_40 rfl (lv_at hl 2 rfl) ?_
      refine lv_iadd (pc := 41) hx hb dX11_cart_41 ?_
      refine lv_iload_n (pc := 42) hx hb dX11_cart_42 rfl (lv_at hl 3 rfl) ?_
      obtain ⟨b_43, hf⟩ := cm_ob hf
      refine va_iast (pc := 43) hx hb hKa hP hD hS 1 0 rfl rfl b_43 dX11_cart_43 (fun H locs hP hD hS => ?_)
      have hP : va_P D vwCl [(a, .inr (11, [.ref a_book, .ref a_now, .int m_sights, .ref a_sight, .int m_signs, .ref a_pad, .int m_sold, .int m_markets, .int m_marketAt, .int m_reason, .int m_acts, .ref a_digits, .ref a_without, .ref a_with, .ref a_counts, .ref a_fewest, .ref a_ways, .ref a_more, .ref a_chooses, .ref a_image, .ref a_isKept])), cm_kI cI a_book 31 (upd m_book (24 + v1).toNatClampNeg v2)] H := hP
      have hD : va_D A [(a, .inr (11, [.ref a_book, .ref a_now, .int m_sights, .ref a_sight, .int m_signs, .ref a_pad, .int m_sold, .int m_markets, .int m_marketAt, .int m_reason, .int m_acts, .ref a_digits, .ref a_without, .ref a_with, .ref a_counts, .ref a_fewest, .ref a_ways, .ref a_more, .ref a_chooses, .ref a_image, .ref a_isKept])), cm_kI cI a_book 31 (upd m_book (24 + v1).toNatClampNeg v2)] := hD
      refine lv_iload_n (pc := 44) hx hb dX11_cart_44 rfl (lv_at hl 0 rfl) ?_
      obtain rfl := Option.some.inj hf
      exact cm_iret (pc := 45) hAe hQ hx hb hr hlocks hP hD hS [0, 1] (by decide) rfl dX11_cart_45
    · have hf := cm_ip c_18 hf
      refine lv_bipush (pc := 21) (v := (-2)) hx hb dX11_cart_21 (by decide) ?_
      obtain rfl := Option.some.inj hf
      exact cm_iret (pc := 23) hAe hQ hx hb hr hlocks hP hD hS [0, 1] (by decide) rfl dX11_cart_23
  · have hf := cm_ip c_6 hf
    refine lv_iconst (pc := 9) (v := (-1)) hx hb dX11_cart_9 (by decide) ?_
    obtain rfl := Option.some.inj hf
    exact cm_iret (pc := 10) hAe hQ hx hb hr hlocks hP hD hS [0, 1] (by decide) rfl dX11_cart_10
def fX11_day (v1 : Int32) (m_book : (Nat → Int32)) : Option (Int32 × (Nat → Int32)) := cm_let (fX11_in v1 0 6) (fun u4 => (if u4 = 0 then some ((-2), m_book) else some ((m_book 28), (upd m_book 28 v1))))
def rmX11_day : Room := { frames := 1, cells := 0, slots := 0, locals := 22 }
set_option maxRecDepth 100000 in
set_option maxHeartbeats 4000000 in
theorem c_X11_day (l : Launch) (D : va_G) (cI cJ cZ : ClassId) (a a_book a_now a_sight a_pad a_digits a_without a_with a_counts a_fewest a_ways a_more a_chooses a_image a_isKept : Nat) (m_sights : Int32) (m_signs : Int32) (m_sold : Int32) (m_markets : Int32) (m_marketAt : Int32) (m_reason : Int32) (m_acts : Int32) (m_book : (Nat → Int32)) (v1 : Int32) (res : Int32 × (Nat → Int32)) (hf : fX11_day v1 m_book = some res) : Ct l yX11_day (cm_ws yX11_day cX11_day 3 (some .int)) rmX11_day D (cm_T cI cJ cZ) [.ref a, .int v1] [(a, .inr (11, [.ref a_book, .ref a_now, .int m_sights, .ref a_sight, .int m_signs, .ref a_pad, .int m_sold, .int m_markets, .int m_marketAt, .int m_reason, .int m_acts, .ref a_digits, .ref a_without, .ref a_with, .ref a_counts, .ref a_fewest, .ref a_ways, .ref a_more, .ref a_chooses, .ref a_image, .ref a_isKept])), cm_kI cI a_book 31 m_book] (some (.int res.1)) [(a, .inr (11, [.ref a_book, .ref a_now, .int m_sights, .ref a_sight, .int m_signs, .ref a_pad, .int m_sold, .int m_markets, .int m_marketAt, .int m_reason, .int m_acts, .ref a_digits, .ref a_without, .ref a_with, .ref a_counts, .ref a_fewest, .ref a_ways, .ref a_more, .ref a_chooses, .ref a_image, .ref a_isKept])), cm_kI cI a_book 31 res.2] := by
  refine Ct.of (cc := cX11_day) (maxL := 3) (ret := (some .int)) (by decide) (Nat.le_of_ble_eq_true rfl) ?_
  intro p e s m below meth c ls args A Q hav hAe hQ hx hb hr hml hown hlocks hts hK hP hD hA hS hl
  have hKa := hK.1
  have hl : lv_has ls 3 [(0, .ref a), (1, .int v1)] := hl
  unfold fX11_day at hf
  refine lv_iload_n (pc := 0) hx hb dX11_day_0 rfl (lv_at hl 1 rfl) ?_
  refine lv_iconst (pc := 1) (v := 0) hx hb dX11_day_1 (by decide) ?_
  refine lv_bipush (pc := 2) (v := 6) hx hb dX11_day_2 (by decide) ?_
  obtain ⟨u4, hu4, hf⟩ := cm_lt hf
  refine cm_callS (pc := 4) (As := [.int v1, .int 0, .int 6]) (rest := []) (wr := [(a, .inr (11, [.ref a_book, .ref a_now, .int m_sights, .ref a_sight, .int m_signs, .ref a_pad, .int m_sold, .int m_markets, .int m_marketAt, .int m_reason, .int m_acts, .ref a_digits, .ref a_without, .ref a_with, .ref a_counts, .ref a_fewest, .ref a_ways, .ref a_more, .ref a_chooses, .ref a_image, .ref a_isKept])), cm_kI cI a_book 31 m_book]) (n := 3) hx hb hml hown hts hK hP hD hS hA (c_X11_in l D cI cJ cZ v1 0 6 u4 hu4) tw_783 tw_781 tw_782 tw_56 rfl rfl (by decide +kernel) rfl ⟨Nat.le_of_ble_eq_true rfl, Nat.le_of_ble_eq_true rfl⟩ [] [0, 1] rfl (by decide) rfl (by decide) (by decide) hl.1 rfl (Nat.le_of_ble_eq_true rfl) dX11_day_4 ⟨Nat.zero_le _, Nat.zero_le _⟩ (fun H locs hP hD hS => ?_)
  have hP : va_P D vwCl [(a, .inr (11, [.ref a_book, .ref a_now, .int m_sights, .ref a_sight, .int m_signs, .ref a_pad, .int m_sold, .int m_markets, .int m_marketAt, .int m_reason, .int m_acts, .ref a_digits, .ref a_without, .ref a_with, .ref a_counts, .ref a_fewest, .ref a_ways, .ref a_more, .ref a_chooses, .ref a_image, .ref a_isKept])), cm_kI cI a_book 31 m_book] H := hP
  have hD : va_D A [(a, .inr (11, [.ref a_book, .ref a_now, .int m_sights, .ref a_sight, .int m_signs, .ref a_pad, .int m_sold, .int m_markets, .int m_marketAt, .int m_reason, .int m_acts, .ref a_digits, .ref a_without, .ref a_with, .ref a_counts, .ref a_fewest, .ref a_ways, .ref a_more, .ref a_chooses, .ref a_image, .ref a_isKept])), cm_kI cI a_book 31 m_book] := hD
  refine W.eq (g2 := F0 m 7 ls [.int u4]) rfl ?_
  refine lv_if_ne (pc := 7) (tgt := 13) hx hb dX11_day_7 (by decide) (fun c_7 => ?_) (fun c_7 => ?_)
  · have hf := cm_in c_7 hf
    refine lv_aload_n (pc := 13) hx hb dX11_day_13 rfl (lv_at hl 0 rfl) ?_
    refine va_get (pc := 14) (D := D) (ci := 11) (v := .ref a_book) (C := RX11) (T := TX11) (N := 21) hx hb hts in_X11 hown hKa hP 0 rfl rfl 0 (by decide) (hts _ tw_712) (fun _ h9 => h9) rfl dX11_day_14 ?_
    refine lv_bipush (pc := 17) (v := 28) hx hb dX11_day_17 (by decide) ?_
    refine cm_iald (pc := 19) hx hb hKa hP 1 0 rfl rfl 28 rfl (by decide) dX11_day_19 ?_
    refine lv_istore_n (pc := 20) (lv' := [(2, .int (m_book 28)), (0, .ref a), (1, .int v1)]) hx hb dX11_day_20 rfl hl (by decide) rfl (fun ls hl => ?_)
    refine lv_aload_n (pc := 21) hx hb dX11_day_21 rfl (lv_at hl 1 rfl) ?_
    refine va_get (pc := 22) (D := D) (ci := 11) (v := .ref a_book) (C := RX11) (T := TX11) (N := 21) hx hb hts in_X11 hown hKa hP 0 rfl rfl 0 (by decide) (hts _ tw_712) (fun _ h9 => h9) rfl dX11_day_22 ?_
    refine lv_bipush (pc := 25) (v := 28) hx hb dX11_day_25 (by decide) ?_
    refine lv_iload_n (pc := 27) hx hb dX11_day_27 rfl (lv_at hl 2 rfl) ?_
    refine cm_iast (pc := 28) hx hb hKa hP hD hS 1 0 rfl rfl 28 rfl (by decide) dX11_day_28 (fun H locs hP hD hS => ?_)
    have hP : va_P D vwCl [(a, .inr (11, [.ref a_book, .ref a_now, .int m_sights, .ref a_sight, .int m_signs, .ref a_pad, .int m_sold, .int m_markets, .int m_marketAt, .int m_reason, .int m_acts, .ref a_digits, .ref a_without, .ref a_with, .ref a_counts, .ref a_fewest, .ref a_ways, .ref a_more, .ref a_chooses, .ref a_image, .ref a_isKept])), cm_kI cI a_book 31 (upd m_book 28 v1)] H := hP
    have hD : va_D A [(a, .inr (11, [.ref a_book, .ref a_now, .int m_sights, .ref a_sight, .int m_signs, .ref a_pad, .int m_sold, .int m_markets, .int m_marketAt, .int m_reason, .int m_acts, .ref a_digits, .ref a_without, .ref a_with, .ref a_counts, .ref a_fewest, .ref a_ways, .ref a_more, .ref a_chooses, .ref a_image, .ref a_isKept])), cm_kI cI a_book 31 (upd m_book 28 v1)] := hD
    refine lv_iload_n (pc := 29) hx hb dX11_day_29 rfl (lv_at hl 0 rfl) ?_
    obtain rfl := Option.some.inj hf
    exact cm_iret (pc := 30) hAe hQ hx hb hr hlocks hP hD hS [0, 1] (by decide) rfl dX11_day_30
  · have hf := cm_ip c_7 hf
    refine lv_bipush (pc := 10) (v := (-2)) hx hb dX11_day_10 (by decide) ?_
    obtain rfl := Option.some.inj hf
    exact cm_iret (pc := 12) hAe hQ hx hb hr hlocks hP hD hS [0, 1] (by decide) rfl dX11_day_12
def fX11_say (v1 : Int32) (m_signs : Int32) (m_pad : (Nat → Int32)) : Option (Int32 × Int32 × (Nat → Int32)) := cm_let (fX11_in v1 33 126) (fun u5 => (if u5 = 0 then some ((-2), m_signs, m_pad) else (if m_signs = 60 then some ((-4), m_signs, m_pad) else if m_signs < 0 ∨ 60 ≤ m_signs.toNatClampNeg then none else some ((m_signs + 1), (m_signs + 1), (upd m_pad m_signs.toNatClampNeg v1)))))
def rmX11_say : Room := { frames := 1, cells := 0, slots := 0, locals := 22 }
set_option maxRecDepth 100000 in
set_option maxHeartbeats 4000000 in
theorem c_X11_say (l : Launch) (D : va_G) (cI cJ cZ : ClassId) (a a_book a_now a_sight a_pad a_digits a_without a_with a_counts a_fewest a_ways a_more a_chooses a_image a_isKept : Nat) (m_sights : Int32) (m_signs : Int32) (m_sold : Int32) (m_markets : Int32) (m_marketAt : Int32) (m_reason : Int32) (m_acts : Int32) (m_pad : (Nat → Int32)) (v1 : Int32) (res : Int32 × Int32 × (Nat → Int32)) (hf : fX11_say v1 m_signs m_pad = some res) : Ct l yX11_say (cm_ws yX11_say cX11_say 2 (some .int)) rmX11_say D (cm_T cI cJ cZ) [.ref a, .int v1] [(a, .inr (11, [.ref a_book, .ref a_now, .int m_sights, .ref a_sight, .int m_signs, .ref a_pad, .int m_sold, .int m_markets, .int m_marketAt, .int m_reason, .int m_acts, .ref a_digits, .ref a_without, .ref a_with, .ref a_counts, .ref a_fewest, .ref a_ways, .ref a_more, .ref a_chooses, .ref a_image, .ref a_isKept])), cm_kI cI a_pad 60 m_pad] (some (.int res.1)) [(a, .inr (11, [.ref a_book, .ref a_now, .int m_sights, .ref a_sight, .int res.2.1, .ref a_pad, .int m_sold, .int m_markets, .int m_marketAt, .int m_reason, .int m_acts, .ref a_digits, .ref a_without, .ref a_with, .ref a_counts, .ref a_fewest, .ref a_ways, .ref a_more, .ref a_chooses, .ref a_image, .ref a_isKept])), cm_kI cI a_pad 60 res.2.2] := by
  refine Ct.of (cc := cX11_say) (maxL := 2) (ret := (some .int)) (by decide) (Nat.le_of_ble_eq_true rfl) ?_
  intro p e s m below meth c ls args A Q hav hAe hQ hx hb hr hml hown hlocks hts hK hP hD hA hS hl
  have hKa := hK.1
  have hl : lv_has ls 2 [(0, .ref a), (1, .int v1)] := hl
  unfold fX11_say at hf
  refine lv_iload_n (pc := 0) hx hb dX11_say_0 rfl (lv_at hl 1 rfl) ?_
  refine lv_bipush (pc := 1) (v := 33) hx hb dX11_say_1 (by decide) ?_
  refine lv_bipush (pc := 3) (v := 126) hx hb dX11_say_3 (by decide) ?_
  obtain ⟨u5, hu5, hf⟩ := cm_lt hf
  refine cm_callS (pc := 5) (As := [.int v1, .int 33, .int 126]) (rest := []) (wr := [(a, .inr (11, [.ref a_book, .ref a_now, .int m_sights, .ref a_sight, .int m_signs, .ref a_pad, .int m_sold, .int m_markets, .int m_marketAt, .int m_reason, .int m_acts, .ref a_digits, .ref a_without, .ref a_with, .ref a_counts, .ref a_fewest, .ref a_ways, .ref a_more, .ref a_chooses, .ref a_image, .ref a_isKept])), cm_kI cI a_pad 60 m_pad]) (n := 3) hx hb hml hown hts hK hP hD hS hA (c_X11_in l D cI cJ cZ v1 33 126 u5 hu5) tw_783 tw_781 tw_782 tw_56 rfl rfl (by decide +kernel) rfl ⟨Nat.le_of_ble_eq_true rfl, Nat.le_of_ble_eq_true rfl⟩ [] [0, 1] rfl (by decide) rfl (by decide) (by decide) hl.1 rfl (Nat.le_of_ble_eq_true rfl) dX11_say_5 ⟨Nat.zero_le _, Nat.zero_le _⟩ (fun H locs hP hD hS => ?_)
  have hP : va_P D vwCl [(a, .inr (11, [.ref a_book, .ref a_now, .int m_sights, .ref a_sight, .int m_signs, .ref a_pad, .int m_sold, .int m_markets, .int m_marketAt, .int m_reason, .int m_acts, .ref a_digits, .ref a_without, .ref a_with, .ref a_counts, .ref a_fewest, .ref a_ways, .ref a_more, .ref a_chooses, .ref a_image, .ref a_isKept])), cm_kI cI a_pad 60 m_pad] H := hP
  have hD : va_D A [(a, .inr (11, [.ref a_book, .ref a_now, .int m_sights, .ref a_sight, .int m_signs, .ref a_pad, .int m_sold, .int m_markets, .int m_marketAt, .int m_reason, .int m_acts, .ref a_digits, .ref a_without, .ref a_with, .ref a_counts, .ref a_fewest, .ref a_ways, .ref a_more, .ref a_chooses, .ref a_image, .ref a_isKept])), cm_kI cI a_pad 60 m_pad] := hD
  refine W.eq (g2 := F0 m 8 ls [.int u5]) rfl ?_
  refine lv_if_ne (pc := 8) (tgt := 14) hx hb dX11_say_8 (by decide) (fun c_8 => ?_) (fun c_8 => ?_)
  · have hf := cm_in c_8 hf
    refine lv_aload_n (pc := 14) hx hb dX11_say_14 rfl (lv_at hl 0 rfl) ?_
    refine va_get (pc := 15) (D := D) (ci := 11) (v := .int m_signs) (C := RX11) (T := TX11) (N := 21) hx hb hts in_X11 hown hKa hP 0 rfl rfl 4 (by decide) (hts _ tw_716) (fun _ h9 => h9) rfl dX11_say_15 ?_
    refine lv_bipush (pc := 18) (v := 60) hx hb dX11_say_18 (by decide) ?_
    refine lv_icmp_ne (pc := 20) (tgt := 26) hx hb dX11_say_20 (by decide) (fun c_20 => ?_) (fun c_20 => ?_)
    · have hf := cm_in c_20 hf
      refine lv_aload_n (pc := 26) hx hb dX11_say_26 rfl (lv_at hl 0 rfl) ?_
      refine va_get (pc := 27) (D := D) (ci := 11) (v := .ref a_pad) (C := RX11) (T := TX11) (N := 21) hx hb hts in_X11 hown hKa hP 0 rfl rfl 5 (by decide) (hts _ tw_717) (fun _ h9 => h9) rfl dX11_say_27 ?_
      refine lv_aload_n (pc := 30) hx hb dX11_say_30 rfl (lv_at hl 0 rfl) ?_
      refine va_get (pc := 31) (D := D) (ci := 11) (v := .int m_signs) (C := RX11) (T := TX11) (N := 21) hx hb hts in_X11 hown hKa hP 0 rfl rfl 4 (by decide) (hts _ tw_716) (fun _ h9 => h9) rfl dX11_say_31 ?_
      refine lv_iload_n (pc := 34) hx hb dX11_say_34 rfl (lv_at hl 1 rfl) ?_
      obtain ⟨b_35, hf⟩ := cm_ob hf
      refine va_iast (pc := 35) hx hb hKa hP hD hS 1 0 rfl rfl b_35 dX11_say_35 (fun H locs hP hD hS => ?_)
      have hP : va_P D vwCl [(a, .inr (11, [.ref a_book, .ref a_now, .int m_sights, .ref a_sight, .int m_signs, .ref a_pad, .int m_sold, .int m_markets, .int m_marketAt, .int m_reason, .int m_acts, .ref a_digits, .ref a_without, .ref a_with, .ref a_counts, .ref a_fewest, .ref a_ways, .ref a_more, .ref a_chooses, .ref a_image, .ref a_isKept])), cm_kI cI a_pad 60 (upd m_pad m_signs.toNatClampNeg v1)] H := hP
      have hD : va_D A [(a, .inr (11, [.ref a_book, .ref a_now, .int m_sights, .ref a_sight, .int m_signs, .ref a_pad, .int m_sold, .int m_markets, .int m_marketAt, .int m_reason, .int m_acts, .ref a_digits, .ref a_without, .ref a_with, .ref a_counts, .ref a_fewest, .ref a_ways, .ref a_more, .ref a_chooses, .ref a_image, .ref a_isKept])), cm_kI cI a_pad 60 (upd m_pad m_signs.toNatClampNeg v1)] := hD
      refine lv_aload_n (pc := 36) hx hb dX11_say_36 rfl (lv_at hl 0 rfl) ?_
      refine lv_dup (pc := 37) hx hb dX11_say_37 rfl ?_
      refine va_get (pc := 38) (D := D) (ci := 11) (v := .int m_signs) (C := RX11) (T := TX11) (N := 21) hx hb hts in_X11 hown hKa hP 0 rfl rfl 4 (by decide) (hts _ tw_716) (fun _ h9 => h9) rfl dX11_say_38 ?_
      refine lv_iconst (pc := 41) (v := 1) hx hb dX11_say_41 (by decide) ?_
      refine lv_iadd (pc := 42) hx hb dX11_say_42 ?_
      refine va_put (pc := 43) (D := D) (ci := 11) (v := .int (m_signs + 1)) (ty := .int) (C := RX11) (T := TX11) (N := 21) hx hb hts in_X11 tyX11 tyX11_ok nmX11 hown hKa hP hD hS 0 rfl rfl 4 (by decide) (hts _ tw_716) (fun _ h9 => h9) rfl (by decide +kernel) rfl rfl (Nat.le_of_ble_eq_true rfl) dX11_say_43 (fun H locs hP hD hS => ?_)
      have hP : va_P D vwCl [(a, .inr (11, [.ref a_book, .ref a_now, .int m_sights, .ref a_sight, .int (m_signs + 1), .ref a_pad, .int m_sold, .int m_markets, .int m_marketAt, .int m_reason, .int m_acts, .ref a_digits, .ref a_without, .ref a_with, .ref a_counts, .ref a_fewest, .ref a_ways, .ref a_more, .ref a_chooses, .ref a_image, .ref a_isKept])), cm_kI cI a_pad 60 (upd m_pad m_signs.toNatClampNeg v1)] H := hP
      have hD : va_D A [(a, .inr (11, [.ref a_book, .ref a_now, .int m_sights, .ref a_sight, .int (m_signs + 1), .ref a_pad, .int m_sold, .int m_markets, .int m_marketAt, .int m_reason, .int m_acts, .ref a_digits, .ref a_without, .ref a_with, .ref a_counts, .ref a_fewest, .ref a_ways, .ref a_more, .ref a_chooses, .ref a_image, .ref a_isKept])), cm_kI cI a_pad 60 (upd m_pad m_signs.toNatClampNeg v1)] := hD
      refine lv_aload_n (pc := 46) hx hb dX11_say_46 rfl (lv_at hl 0 rfl) ?_
      refine va_get (pc := 47) (D := D) (ci := 11) (v := .int (m_signs + 1)) (C := RX11) (T := TX11) (N := 21) hx hb hts in_X11 hown hKa hP 0 rfl rfl 4 (by decide) (hts _ tw_716) (fun _ h9 => h9) rfl dX11_say_47 ?_
      obtain rfl := Option.some.inj hf
      exact cm_iret (pc := 50) hAe hQ hx hb hr hlocks hP hD hS [0, 1] (by decide) rfl dX11_say_50
    · have hf := cm_ip c_20 hf
      refine lv_bipush (pc := 23) (v := (-4)) hx hb dX11_say_23 (by decide) ?_
      obtain rfl := Option.some.inj hf
      exact cm_iret (pc := 25) hAe hQ hx hb hr hlocks hP hD hS [0, 1] (by decide) rfl dX11_say_25
  · have hf := cm_ip c_8 hf
    refine lv_bipush (pc := 11) (v := (-2)) hx hb dX11_say_11 (by decide) ?_
    obtain rfl := Option.some.inj hf
    exact cm_iret (pc := 13) hAe hQ hx hb hr hlocks hP hD hS [0, 1] (by decide) rfl dX11_say_13
def fX11_wipe (m_signs : Int32) : Int32 × Int32 := (m_signs, 0)
def rmX11_wipe : Room := { frames := 0, cells := 0, slots := 0, locals := 0 }
set_option maxRecDepth 100000 in
set_option maxHeartbeats 4000000 in
theorem c_X11_wipe (l : Launch) (D : va_G) (cI cJ cZ : ClassId) (a a_book a_now a_sight a_pad a_digits a_without a_with a_counts a_fewest a_ways a_more a_chooses a_image a_isKept : Nat) (m_sights : Int32) (m_signs : Int32) (m_sold : Int32) (m_markets : Int32) (m_marketAt : Int32) (m_reason : Int32) (m_acts : Int32) (res : Int32 × Int32) (hf : fX11_wipe m_signs = res) : Ct l yX11_wipe (cm_ws yX11_wipe cX11_wipe 2 (some .int)) rmX11_wipe D (cm_T cI cJ cZ) [.ref a] [(a, .inr (11, [.ref a_book, .ref a_now, .int m_sights, .ref a_sight, .int m_signs, .ref a_pad, .int m_sold, .int m_markets, .int m_marketAt, .int m_reason, .int m_acts, .ref a_digits, .ref a_without, .ref a_with, .ref a_counts, .ref a_fewest, .ref a_ways, .ref a_more, .ref a_chooses, .ref a_image, .ref a_isKept]))] (some (.int res.1)) [(a, .inr (11, [.ref a_book, .ref a_now, .int m_sights, .ref a_sight, .int res.2, .ref a_pad, .int m_sold, .int m_markets, .int m_marketAt, .int m_reason, .int m_acts, .ref a_digits, .ref a_without, .ref a_with, .ref a_counts, .ref a_fewest, .ref a_ways, .ref a_more, .ref a_chooses, .ref a_image, .ref a_isKept]))] := by
  refine Ct.of (cc := cX11_wipe) (maxL := 2) (ret := (some .int)) (by decide) (Nat.le_of_ble_eq_true rfl) ?_
  intro p e s m below meth c ls args A Q hav hAe hQ hx hb hr hml hown hlocks hts hK hP hD hA hS hl
  have hKa := hK.1
  have hl : lv_has ls 2 [(0, .ref a)] := hl
  unfold fX11_wipe at hf
  refine lv_aload_n (pc := 0) hx hb dX11_wipe_0 rfl (lv_at hl 0 rfl) ?_
  refine va_get (pc := 1) (D := D) (ci := 11) (v := .int m_signs) (C := RX11) (T := TX11) (N := 21) hx hb hts in_X11 hown hKa hP 0 rfl rfl 4 (by decide) (hts _ tw_716) (fun _ h9 => h9) rfl dX11_wipe_1 ?_
  refine lv_istore_n (pc := 4) (lv' := [(1, .int m_signs), (0, .ref a)]) hx hb dX11_wipe_4 rfl hl (by decide) rfl (fun ls hl => ?_)
  refine lv_aload_n (pc := 5) hx hb dX11_wipe_5 rfl (lv_at hl 1 rfl) ?_
  refine lv_iconst (pc := 6) (v := 0) hx hb dX11_wipe_6 (by decide) ?_
  refine va_put (pc := 7) (D := D) (ci := 11) (v := .int 0) (ty := .int) (C := RX11) (T := TX11) (N := 21) hx hb hts in_X11 tyX11 tyX11_ok nmX11 hown hKa hP hD hS 0 rfl rfl 4 (by decide) (hts _ tw_716) (fun _ h9 => h9) rfl (by decide +kernel) rfl rfl (Nat.le_of_ble_eq_true rfl) dX11_wipe_7 (fun H locs hP hD hS => ?_)
  have hP : va_P D vwCl [(a, .inr (11, [.ref a_book, .ref a_now, .int m_sights, .ref a_sight, .int 0, .ref a_pad, .int m_sold, .int m_markets, .int m_marketAt, .int m_reason, .int m_acts, .ref a_digits, .ref a_without, .ref a_with, .ref a_counts, .ref a_fewest, .ref a_ways, .ref a_more, .ref a_chooses, .ref a_image, .ref a_isKept]))] H := hP
  have hD : va_D A [(a, .inr (11, [.ref a_book, .ref a_now, .int m_sights, .ref a_sight, .int 0, .ref a_pad, .int m_sold, .int m_markets, .int m_marketAt, .int m_reason, .int m_acts, .ref a_digits, .ref a_without, .ref a_with, .ref a_counts, .ref a_fewest, .ref a_ways, .ref a_more, .ref a_chooses, .ref a_image, .ref a_isKept]))] := hD
  refine lv_iload_n (pc := 10) hx hb dX11_wipe_10 rfl (lv_at hl 0 rfl) ?_
  obtain rfl := hf
  exact cm_iret (pc := 11) hAe hQ hx hb hr hlocks hP hD hS [0] (by decide) rfl dX11_wipe_11
def fX11_step (v0 : Int32) (v1 : Int32) : Int32 := cm_let (fX11_in v1 65 72) (fun u5 => (if v0 = 0 then (if u5 = 0 then (if v1 = 99 then 3 else (if v1 = 46 then 0 else (-6))) else 1) else (if v0 = 1 then cm_let (fX11_in v1 48 54) (fun u72 => (if u72 = 0 then (if v1 = 45 then 0 else (if v1 = 43 then 0 else (if v1 = 62 then 2 else (if v1 = 36 then 2 else (-6))))) else 0)) else (if v0 = 2 then (if u5 = 0 then (-6) else 0) else cm_let (fX11_in v1 48 51) (fun u129 => (if u129 = 0 then (-6) else 0))))))
def rmX11_step : Room := { frames := 1, cells := 0, slots := 0, locals := 22 }
set_option maxRecDepth 100000 in
set_option maxHeartbeats 4000000 in
theorem c_X11_step (l : Launch) (D : va_G) (cI cJ cZ : ClassId) (v0 : Int32) (v1 : Int32) (res : Int32) (hf : fX11_step v0 v1 = res) : Ct l yX11_step (cm_ws yX11_step cX11_step 3 (some .int)) rmX11_step D (cm_T cI cJ cZ) [.int v0, .int v1] [] (some (.int res)) [] := by
  refine Ct.of (cc := cX11_step) (maxL := 3) (ret := (some .int)) (by decide) (Nat.le_of_ble_eq_true rfl) ?_
  intro p e s m below meth c ls args A Q hav hAe hQ hx hb hr hml hown hlocks hts hK hP hD hA hS hl
  have hKa := hK.1
  have hl : lv_has ls 3 [(0, .int v0), (1, .int v1)] := hl
  unfold fX11_step at hf
  refine lv_iload_n (pc := 0) hx hb dX11_step_0 rfl (lv_at hl 1 rfl) ?_
  refine lv_bipush (pc := 1) (v := 65) hx hb dX11_step_1 (by decide) ?_
  refine lv_bipush (pc := 3) (v := 72) hx hb dX11_step_3 (by decide) ?_
  obtain ⟨u5, hu5, hf⟩ := cm_lt hf
  refine cm_callS (pc := 5) (As := [.int v1, .int 65, .int 72]) (rest := []) (wr := []) (n := 3) hx hb hml hown hts hK hP hD hS hA (c_X11_in l D cI cJ cZ v1 65 72 u5 hu5) tw_783 tw_781 tw_782 tw_56 rfl rfl (by decide +kernel) rfl ⟨Nat.le_of_ble_eq_true rfl, Nat.le_of_ble_eq_true rfl⟩ [] [] rfl (by decide) rfl (by decide) (by decide) hl.1 rfl (Nat.le_of_ble_eq_true rfl) dX11_step_5 ⟨Nat.zero_le _, Nat.zero_le _⟩ (fun H locs hP hD hS => ?_)
  have hP : va_P D vwCl [] H := hP
  have hD : va_D A [] := hD
  refine W.eq (g2 := F0 m 8 ls [.int u5]) rfl ?_
  refine lv_istore_n (pc := 8) (lv' := [(2, .int u5), (0, .int v0), (1, .int v1)]) hx hb dX11_step_8 rfl hl (by decide) rfl (fun ls hl => ?_)
  refine lv_iload_n (pc := 9) hx hb dX11_step_9 rfl (lv_at hl 1 rfl) ?_
  refine cm_em (v0 = 0) (fun c_10_0 => ?_) (fun c_10_0 => ?_)
  · have hf := cm_ip c_10_0 hf
    refine lv_tableIn (pc := 10) (off := 26) (tgt := 36) hx hb dX11_step_10 (by rw [c_10_0]; decide) (by rw [c_10_0]; decide) (by rw [c_10_0]; rfl) (by decide) ?_
    refine lv_iload_n (pc := 36) hx hb dX11_step_36 rfl (lv_at hl 0 rfl) ?_
    refine lv_if_eq (pc := 37) (tgt := 44) hx hb dX11_step_37 (by decide) (fun c_37 => ?_) (fun c_37 => ?_)
    · have hf := cm_ip c_37 hf
      refine lv_iload_n (pc := 44) hx hb dX11_step_44 rfl (lv_at hl 2 rfl) ?_
      refine lv_bipush (pc := 45) (v := 99) hx hb dX11_step_45 (by decide) ?_
      refine lv_icmp_ne (pc := 47) (tgt := 54) hx hb dX11_step_47 (by decide) (fun c_47 => ?_) (fun c_47 => ?_)
      · have hf := cm_in c_47 hf
        refine lv_iload_n (pc := 54) hx hb dX11_step_54 rfl (lv_at hl 2 rfl) ?_
        refine lv_bipush (pc := 55) (v := 46) hx hb dX11_step_55 (by decide) ?_
        refine lv_icmp_ne (pc := 57) (tgt := 64) hx hb dX11_step_57 (by decide) (fun c_57 => ?_) (fun c_57 => ?_)
        · have hf := cm_in c_57 hf
          refine lv_bipush (pc := 64) (v := (-6)) hx hb dX11_step_64 (by decide) ?_
          obtain rfl := hf
          exact cm_iret (pc := 66) hAe hQ hx hb hr hlocks hP hD hS [] (by decide) rfl dX11_step_66
        · have hf := cm_ip c_57 hf
          refine lv_iconst (pc := 60) (v := 0) hx hb dX11_step_60 (by decide) ?_
          refine lv_goto (pc := 61) (tgt := 66) hx hb dX11_step_61 (by decide) ?_
          obtain rfl := hf
          exact cm_iret (pc := 66) hAe hQ hx hb hr hlocks hP hD hS [] (by decide) rfl dX11_step_66
      · have hf := cm_ip c_47 hf
        refine lv_iconst (pc := 50) (v := 3) hx hb dX11_step_50 (by decide) ?_
        refine lv_goto (pc := 51) (tgt := 66) hx hb dX11_step_51 (by decide) ?_
        obtain rfl := hf
        exact cm_iret (pc := 66) hAe hQ hx hb hr hlocks hP hD hS [] (by decide) rfl dX11_step_66
    · have hf := cm_in c_37 hf
      refine lv_iconst (pc := 40) (v := 1) hx hb dX11_step_40 (by decide) ?_
      refine lv_goto (pc := 41) (tgt := 66) hx hb dX11_step_41 (by decide) ?_
      obtain rfl := hf
      exact cm_iret (pc := 66) hAe hQ hx hb hr hlocks hP hD hS [] (by decide) rfl dX11_step_66
  · have hf := cm_in c_10_0 hf
    refine cm_em (v0 = 1) (fun c_10_1 => ?_) (fun c_10_1 => ?_)
    · have hf := cm_ip c_10_1 hf
      refine lv_tableIn (pc := 10) (off := 57) (tgt := 67) hx hb dX11_step_10 (by rw [c_10_1]; decide) (by rw [c_10_1]; decide) (by rw [c_10_1]; rfl) (by decide) ?_
      refine lv_iload_n (pc := 67) hx hb dX11_step_67 rfl (lv_at hl 2 rfl) ?_
      refine lv_bipush (pc := 68) (v := 48) hx hb dX11_step_68 (by decide) ?_
      refine lv_bipush (pc := 70) (v := 54) hx hb dX11_step_70 (by decide) ?_
      obtain ⟨u72, hu72, hf⟩ := cm_lt hf
      refine cm_callS (pc := 72) (As := [.int v1, .int 48, .int 54]) (rest := []) (wr := []) (n := 3) hx hb hml hown hts hK hP hD hS hA (c_X11_in l D cI cJ cZ v1 48 54 u72 hu72) tw_783 tw_781 tw_782 tw_56 rfl rfl (by decide +kernel) rfl ⟨Nat.le_of_ble_eq_true rfl, Nat.le_of_ble_eq_true rfl⟩ [] [] rfl (by decide) rfl (by decide) (by decide) hl.1 rfl (Nat.le_of_ble_eq_true rfl) dX11_step_72 ⟨Nat.zero_le _, Nat.zero_le _⟩ (fun H locs hP hD hS => ?_)
      have hP : va_P D vwCl [] H := hP
      have hD : va_D A [] := hD
      refine W.eq (g2 := F0 m 75 ls [.int u72]) rfl ?_
      refine lv_if_ne (pc := 75) (tgt := 90) hx hb dX11_step_75 (by decide) (fun c_75 => ?_) (fun c_75 => ?_)
      · have hf := cm_in c_75 hf
        refine lv_iconst (pc := 90) (v := 0) hx hb dX11_step_90 (by decide) ?_
        refine lv_goto (pc := 91) (tgt := 112) hx hb dX11_step_91 (by decide) ?_
        obtain rfl := hf
        exact cm_iret (pc := 112) hAe hQ hx hb hr hlocks hP hD hS [] (by decide) rfl dX11_step_112
      · have hf := cm_ip c_75 hf
        refine lv_iload_n (pc := 78) hx hb dX11_step_78 rfl (lv_at hl 2 rfl) ?_
        refine lv_bipush (pc := 79) (v := 45) hx hb dX11_step_79 (by decide) ?_
        refine lv_icmp_eq (pc := 81) (tgt := 90) hx hb dX11_step_81 (by decide) (fun c_81 => ?_) (fun c_81 => ?_)
        · have hf := cm_ip c_81 hf
          refine lv_iconst (pc := 90) (v := 0) hx hb dX11_step_90 (by decide) ?_
          refine lv_goto (pc := 91) (tgt := 112) hx hb dX11_step_91 (by decide) ?_
          obtain rfl := hf
          exact cm_iret (pc := 112) hAe hQ hx hb hr hlocks hP hD hS [] (by decide) rfl dX11_step_112
        · have hf := cm_in c_81 hf
          refine lv_iload_n (pc := 84) hx hb dX11_step_84 rfl (lv_at hl 2 rfl) ?_
          refine lv_bipush (pc := 85) (v := 43) hx hb dX11_step_85 (by decide) ?_
          refine lv_icmp_ne (pc := 87) (tgt := 94) hx hb dX11_step_87 (by decide) (fun c_87 => ?_) (fun c_87 => ?_)
          · have hf := cm_in c_87 hf
            refine lv_iload_n (pc := 94) hx hb dX11_step_94 rfl (lv_at hl 2 rfl) ?_
            refine lv_bipush (pc := 95) (v := 62) hx hb dX11_step_95 (by decide) ?_
            refine lv_icmp_eq (pc := 97) (tgt := 106) hx hb dX11_step_97 (by decide) (fun c_97 => ?_) (fun c_97 => ?_)
            · have hf := cm_ip c_97 hf
              refine lv_iconst (pc := 106) (v := 2) hx hb dX11_step_106 (by decide) ?_
              refine lv_goto (pc := 107) (tgt := 112) hx hb dX11_step_107 (by decide) ?_
              obtain rfl := hf
              exact cm_iret (pc := 112) hAe hQ hx hb hr hlocks hP hD hS [] (by decide) rfl dX11_step_112
            · have hf := cm_in c_97 hf
              refine lv_iload_n (pc := 100) hx hb dX11_step_100 rfl (lv_at hl 2 rfl) ?_
              refine lv_bipush (pc := 101) (v := 36) hx hb dX11_step_101 (by decide) ?_
              refine lv_icmp_ne (pc := 103) (tgt := 110) hx hb dX11_step_103 (by decide) (fun c_103 => ?_) (fun c_103 => ?_)
              · have hf := cm_in c_103 hf
                refine lv_bipush (pc := 110) (v := (-6)) hx hb dX11_step_110 (by decide) ?_
                obtain rfl := hf
                exact cm_iret (pc := 112) hAe hQ hx hb hr hlocks hP hD hS [] (by decide) rfl dX11_step_112
              · have hf := cm_ip c_103 hf
                refine lv_iconst (pc := 106) (v := 2) hx hb dX11_step_106 (by decide) ?_
                refine lv_goto (pc := 107) (tgt := 112) hx hb dX11_step_107 (by decide) ?_
                obtain rfl := hf
                exact cm_iret (pc := 112) hAe hQ hx hb hr hlocks hP hD hS [] (by decide) rfl dX11_step_112
          · have hf := cm_ip c_87 hf
            refine lv_iconst (pc := 90) (v := 0) hx hb dX11_step_90 (by decide) ?_
            refine lv_goto (pc := 91) (tgt := 112) hx hb dX11_step_91 (by decide) ?_
            obtain rfl := hf
            exact cm_iret (pc := 112) hAe hQ hx hb hr hlocks hP hD hS [] (by decide) rfl dX11_step_112
    · have hf := cm_in c_10_1 hf
      refine cm_em (v0 = 2) (fun c_10_2 => ?_) (fun c_10_2 => ?_)
      · have hf := cm_ip c_10_2 hf
        refine lv_tableIn (pc := 10) (off := 103) (tgt := 113) hx hb dX11_step_10 (by rw [c_10_2]; decide) (by rw [c_10_2]; decide) (by rw [c_10_2]; rfl) (by decide) ?_
        refine lv_iload_n (pc := 113) hx hb dX11_step_113 rfl (lv_at hl 0 rfl) ?_
        refine lv_if_eq (pc := 114) (tgt := 121) hx hb dX11_step_114 (by decide) (fun c_114 => ?_) (fun c_114 => ?_)
        · have hf := cm_ip c_114 hf
          refine lv_bipush (pc := 121) (v := (-6)) hx hb dX11_step_121 (by decide) ?_
          obtain rfl := hf
          exact cm_iret (pc := 123) hAe hQ hx hb hr hlocks hP hD hS [] (by decide) rfl dX11_step_123
        · have hf := cm_in c_114 hf
          refine lv_iconst (pc := 117) (v := 0) hx hb dX11_step_117 (by decide) ?_
          refine lv_goto (pc := 118) (tgt := 123) hx hb dX11_step_118 (by decide) ?_
          obtain rfl := hf
          exact cm_iret (pc := 123) hAe hQ hx hb hr hlocks hP hD hS [] (by decide) rfl dX11_step_123
      · have hf := cm_in c_10_2 hf
        refine lv_tableOut (pc := 10) (tgt := 124) hx hb dX11_step_10 (by have h0 := cm_nt (z := 0) (by decide) c_10_0; have h1 := cm_nt (z := 1) (by decide) c_10_1; have h2 := cm_nt (z := 2) (by decide) c_10_2; omega) (by decide) ?_
        refine lv_iload_n (pc := 124) hx hb dX11_step_124 rfl (lv_at hl 2 rfl) ?_
        refine lv_bipush (pc := 125) (v := 48) hx hb dX11_step_125 (by decide) ?_
        refine lv_bipush (pc := 127) (v := 51) hx hb dX11_step_127 (by decide) ?_
        obtain ⟨u129, hu129, hf⟩ := cm_lt hf
        refine cm_callS (pc := 129) (As := [.int v1, .int 48, .int 51]) (rest := []) (wr := []) (n := 3) hx hb hml hown hts hK hP hD hS hA (c_X11_in l D cI cJ cZ v1 48 51 u129 hu129) tw_783 tw_781 tw_782 tw_56 rfl rfl (by decide +kernel) rfl ⟨Nat.le_of_ble_eq_true rfl, Nat.le_of_ble_eq_true rfl⟩ [] [] rfl (by decide) rfl (by decide) (by decide) hl.1 rfl (Nat.le_of_ble_eq_true rfl) dX11_step_129 ⟨Nat.zero_le _, Nat.zero_le _⟩ (fun H locs hP hD hS => ?_)
        have hP : va_P D vwCl [] H := hP
        have hD : va_D A [] := hD
        refine W.eq (g2 := F0 m 132 ls [.int u129]) rfl ?_
        refine lv_if_eq (pc := 132) (tgt := 139) hx hb dX11_step_132 (by decide) (fun c_132 => ?_) (fun c_132 => ?_)
        · have hf := cm_ip c_132 hf
          refine lv_bipush (pc := 139) (v := (-6)) hx hb dX11_step_139 (by decide) ?_
          obtain rfl := hf
          exact cm_iret (pc := 141) hAe hQ hx hb hr hlocks hP hD hS [] (by decide) rfl dX11_step_141
        · have hf := cm_in c_132 hf
          refine lv_iconst (pc := 135) (v := 0) hx hb dX11_step_135 (by decide) ?_
          refine lv_goto (pc := 136) (tgt := 141) hx hb dX11_step_136 (by decide) ?_
          obtain rfl := hf
          exact cm_iret (pc := 141) hAe hQ hx hb hr hlocks hP hD hS [] (by decide) rfl dX11_step_141
def fX11_faultOf_L4 (m_signs : Int32) (m_pad : (Nat → Int32)) (kx : Int32 → Int32 → Option (Int32)) : Nat → Int32 → Int32 → Option (Int32)
  | 0, _, _ => none
  | n + 1, v1_4, v2_4 => (if m_signs ≤ v2_4 then kx v1_4 v2_4 else if v2_4 < 0 ∨ 60 ≤ v2_4.toNatClampNeg then none else cm_let (fX11_step v1_4 (m_pad v2_4.toNatClampNeg)) (fun u19 => (if 0 ≤ u19 then fX11_faultOf_L4 m_signs m_pad kx n u19 (v2_4 + 1) else some v2_4)))
def fX11_faultOf (m_signs : Int32) (m_pad : (Nat → Int32)) : Option (Int32) := fX11_faultOf_L4 m_signs m_pad (fun v1_4 v2_4 => (if v1_4 = 0 then some (-6) else some m_signs)) 5000 0 0
def rmX11_faultOf : Room := { frames := 2, cells := 0, slots := 0, locals := 44 }
set_option maxRecDepth 100000 in
set_option maxHeartbeats 4000000 in
theorem c_X11_faultOf (l : Launch) (D : va_G) (cI cJ cZ : ClassId) (a a_book a_now a_sight a_pad a_digits a_without a_with a_counts a_fewest a_ways a_more a_chooses a_image a_isKept : Nat) (m_sights : Int32) (m_signs : Int32) (m_sold : Int32) (m_markets : Int32) (m_marketAt : Int32) (m_reason : Int32) (m_acts : Int32) (m_pad : (Nat → Int32)) (res : Int32) (hf : fX11_faultOf m_signs m_pad = some res) : Ct l yX11_faultOf (cm_ws yX11_faultOf cX11_faultOf 3 (some .int)) rmX11_faultOf D (cm_T cI cJ cZ) [.ref a] [(a, .inr (11, [.ref a_book, .ref a_now, .int m_sights, .ref a_sight, .int m_signs, .ref a_pad, .int m_sold, .int m_markets, .int m_marketAt, .int m_reason, .int m_acts, .ref a_digits, .ref a_without, .ref a_with, .ref a_counts, .ref a_fewest, .ref a_ways, .ref a_more, .ref a_chooses, .ref a_image, .ref a_isKept])), cm_kI cI a_pad 60 m_pad] (some (.int res)) [(a, .inr (11, [.ref a_book, .ref a_now, .int m_sights, .ref a_sight, .int m_signs, .ref a_pad, .int m_sold, .int m_markets, .int m_marketAt, .int m_reason, .int m_acts, .ref a_digits, .ref a_without, .ref a_with, .ref a_counts, .ref a_fewest, .ref a_ways, .ref a_more, .ref a_chooses, .ref a_image, .ref a_isKept])), cm_kI cI a_pad 60 m_pad] := by
  refine Ct.of (cc := cX11_faultOf) (maxL := 3) (ret := (some .int)) (by decide) (Nat.le_of_ble_eq_true rfl) ?_
  intro p e s m below meth c ls args A Q hav hAe hQ hx hb hr hml hown hlocks hts hK hP hD hA hS hl
  have hKa := hK.1
  have hl : lv_has ls 3 [(0, .ref a)] := hl
  unfold fX11_faultOf at hf
  refine lv_iconst (pc := 0) (v := 0) hx hb dX11_faultOf_0 (by decide) ?_
  refine lv_istore_n (pc := 1) (lv' := [(1, .int 0), (0, .ref a)]) hx hb dX11_faultOf_1 rfl hl (by decide) rfl (fun ls hl => ?_)
  refine lv_iconst (pc := 2) (v := 0) hx hb dX11_faultOf_2 (by decide) ?_
  refine lv_istore_n (pc := 3) (lv' := [(2, .int 0), (1, .int 0), (0, .ref a)]) hx hb dX11_faultOf_3 rfl hl (by decide) rfl (fun ls hl => ?_)
  have L4 : ∀ (kx : Int32 → Int32 → Option (Int32)), (∀ (v1_4 : Int32) (v2_4 : Int32) (H : Heap) (locs : List Loc) (ls : Array Slot), va_P D vwCl [(a, .inr (11, [.ref a_book, .ref a_now, .int m_sights, .ref a_sight, .int m_signs, .ref a_pad, .int m_sold, .int m_markets, .int m_marketAt, .int m_reason, .int m_acts, .ref a_digits, .ref a_without, .ref a_with, .ref a_counts, .ref a_fewest, .ref a_ways, .ref a_more, .ref a_chooses, .ref a_image, .ref a_isKept])), cm_kI cI a_pad 60 m_pad] H → va_D A [(a, .inr (11, [.ref a_book, .ref a_now, .int m_sights, .ref a_sight, .int m_signs, .ref a_pad, .int m_sold, .int m_markets, .int m_marketAt, .int m_reason, .int m_acts, .ref a_digits, .ref a_without, .ref a_with, .ref a_counts, .ref a_fewest, .ref a_ways, .ref a_more, .ref a_chooses, .ref a_image, .ref a_isKept])), cm_kI cI a_pad 60 m_pad] → va_S A s.heap H locs → lv_has ls 3 [(1, .int v1_4), (0, .ref a)] → kx v1_4 v2_4 = some res → W p l e rmX11_faultOf s m args below meth c H locs 0 0 Q (F0 m 35 ls [])) → ∀ (n : Nat) (v1_4 : Int32) (v2_4 : Int32) (H : Heap) (locs : List Loc) (ls : Array Slot), va_P D vwCl [(a, .inr (11, [.ref a_book, .ref a_now, .int m_sights, .ref a_sight, .int m_signs, .ref a_pad, .int m_sold, .int m_markets, .int m_marketAt, .int m_reason, .int m_acts, .ref a_digits, .ref a_without, .ref a_with, .ref a_counts, .ref a_fewest, .ref a_ways, .ref a_more, .ref a_chooses, .ref a_image, .ref a_isKept])), cm_kI cI a_pad 60 m_pad] H → va_D A [(a, .inr (11, [.ref a_book, .ref a_now, .int m_sights, .ref a_sight, .int m_signs, .ref a_pad, .int m_sold, .int m_markets, .int m_marketAt, .int m_reason, .int m_acts, .ref a_digits, .ref a_without, .ref a_with, .ref a_counts, .ref a_fewest, .ref a_ways, .ref a_more, .ref a_chooses, .ref a_image, .ref a_isKept])), cm_kI cI a_pad 60 m_pad] → va_S A s.heap H locs → lv_has ls 3 [(2, .int v2_4), (1, .int v1_4), (0, .ref a)] → fX11_faultOf_L4 m_signs m_pad kx n v1_4 v2_4 = some res → W p l e rmX11_faultOf s m args below meth c H locs 0 0 Q (F0 m 4 ls []) := by
    intro kx hkx n
    induction n with
    | zero => intro v1_4 v2_4 H locs ls hP hD hS hl hf; cases hf
    | succ n ih =>
      intro v1_4 v2_4 H locs ls hP hD hS hl hf
      rw [fX11_faultOf_L4] at hf
      refine lv_iload_n (pc := 4) hx hb dX11_faultOf_4 rfl (lv_at hl 0 rfl) ?_
      refine lv_aload_n (pc := 5) hx hb dX11_faultOf_5 rfl (lv_at hl 2 rfl) ?_
      refine va_get (pc := 6) (D := D) (ci := 11) (v := .int m_signs) (C := RX11) (T := TX11) (N := 21) hx hb hts in_X11 hown hKa hP 0 rfl rfl 4 (by decide) (hts _ tw_716) (fun _ h9 => h9) rfl dX11_faultOf_6 ?_
      refine lv_icmp_ge (pc := 9) (tgt := 35) hx hb dX11_faultOf_9 (by decide) (fun c_9 => ?_) (fun c_9 => ?_)
      · have hf := cm_ip c_9 hf
        exact hkx v1_4 v2_4 _ _ _ hP hD hS (lv_sub hl [1, 2] rfl) hf
      · have hf := cm_in c_9 hf
        refine lv_iload_n (pc := 12) hx hb dX11_faultOf_12 rfl (lv_at hl 1 rfl) ?_
        refine lv_aload_n (pc := 13) hx hb dX11_faultOf_13 rfl (lv_at hl 2 rfl) ?_
        refine va_get (pc := 14) (D := D) (ci := 11) (v := .ref a_pad) (C := RX11) (T := TX11) (N := 21) hx hb hts in_X11 hown hKa hP 0 rfl rfl 5 (by decide) (hts _ tw_717) (fun _ h9 => h9) rfl dX11_faultOf_14 ?_
        refine lv_iload_n (pc := 17) hx hb dX11_faultOf_17 rfl (lv_at hl 0 rfl) ?_
        obtain ⟨b_18, hf⟩ := cm_ob hf
        refine va_iald (pc := 18) hx hb hKa hP 1 0 rfl rfl b_18 dX11_faultOf_18 ?_
        obtain ⟨u19, hu19, hf⟩ := cm_lt hf
        refine cm_callS (pc := 19) (As := [.int v1_4, .int (m_pad v2_4.toNatClampNeg)]) (rest := []) (wr := [(a, .inr (11, [.ref a_book, .ref a_now, .int m_sights, .ref a_sight, .int m_signs, .ref a_pad, .int m_sold, .int m_markets, .int m_marketAt, .int m_reason, .int m_acts, .ref a_digits, .ref a_without, .ref a_with, .ref a_counts, .ref a_fewest, .ref a_ways, .ref a_more, .ref a_chooses, .ref a_image, .ref a_isKept])), cm_kI cI a_pad 60 m_pad]) (n := 2) hx hb hml hown hts hK hP hD hS hA (c_X11_step l D cI cJ cZ v1_4 (m_pad v2_4.toNatClampNeg) u19 hu19) tw_810 tw_808 tw_809 tw_56 rfl rfl (by decide +kernel) rfl ⟨Nat.le_of_ble_eq_true rfl, Nat.le_of_ble_eq_true rfl⟩ [] [0, 1] rfl (by decide) rfl (by decide) (by decide) hl.1 rfl (Nat.le_of_ble_eq_true rfl) dX11_faultOf_19 ⟨Nat.zero_le _, Nat.zero_le _⟩ (fun H locs hP hD hS => ?_)
        have hP : va_P D vwCl [(a, .inr (11, [.ref a_book, .ref a_now, .int m_sights, .ref a_sight, .int m_signs, .ref a_pad, .int m_sold, .int m_markets, .int m_marketAt, .int m_reason, .int m_acts, .ref a_digits, .ref a_without, .ref a_with, .ref a_counts, .ref a_fewest, .ref a_ways, .ref a_more, .ref a_chooses, .ref a_image, .ref a_isKept])), cm_kI cI a_pad 60 m_pad] H := hP
        have hD : va_D A [(a, .inr (11, [.ref a_book, .ref a_now, .int m_sights, .ref a_sight, .int m_signs, .ref a_pad, .int m_sold, .int m_markets, .int m_marketAt, .int m_reason, .int m_acts, .ref a_digits, .ref a_without, .ref a_with, .ref a_counts, .ref a_fewest, .ref a_ways, .ref a_more, .ref a_chooses, .ref a_image, .ref a_isKept])), cm_kI cI a_pad 60 m_pad] := hD
        refine W.eq (g2 := F0 m 22 ls [.int u19]) rfl ?_
        refine lv_istore_n (pc := 22) (lv' := [(1, .int u19), (2, .int v2_4), (0, .ref a)]) hx hb dX11_faultOf_22 rfl hl (by decide) rfl (fun ls hl => ?_)
        refine lv_iload_n (pc := 23) hx hb dX11_faultOf_23 rfl (lv_at hl 0 rfl) ?_
        refine lv_if_ge (pc := 24) (tgt := 29) hx hb dX11_faultOf_24 (by decide) (fun c_24 => ?_) (fun c_24 => ?_)
        · have hf := cm_ip c_24 hf
          refine lv_iinc (pc := 29) (v := (v2_4 + 1)) (lv' := [(2, .int (v2_4 + 1)), (1, .int u19), (0, .ref a)]) hx hb dX11_faultOf_29 hl (k := 1) rfl rfl (by decide) rfl (fun ls hl => ?_)
          refine lv_goto (pc := 32) (tgt := 4) hx hb dX11_faultOf_32 (by decide) ?_
          exact ih u19 (v2_4 + 1) _ _ _ hP hD hS (lv_sub hl [0, 1, 2] rfl) hf
        · have hf := cm_in c_24 hf
          refine lv_iload_n (pc := 27) hx hb dX11_faultOf_27 rfl (lv_at hl 1 rfl) ?_
          obtain rfl := Option.some.inj hf
          exact cm_iret (pc := 28) hAe hQ hx hb hr hlocks hP hD hS [0, 1] (by decide) rfl dX11_faultOf_28
  refine L4 _ (fun v1_4 v2_4 H locs ls hP hD hS hl hf => ?_) 5000 0 0 _ _ _ hP hD hS (lv_sub hl [0, 1, 2] rfl) hf
  refine lv_iload_n (pc := 35) hx hb dX11_faultOf_35 rfl (lv_at hl 0 rfl) ?_
  refine lv_if_ne (pc := 36) (tgt := 44) hx hb dX11_faultOf_36 (by decide) (fun c_36 => ?_) (fun c_36 => ?_)
  · have hf := cm_in c_36 hf
    refine lv_aload_n (pc := 44) hx hb dX11_faultOf_44 rfl (lv_at hl 1 rfl) ?_
    refine va_get (pc := 45) (D := D) (ci := 11) (v := .int m_signs) (C := RX11) (T := TX11) (N := 21) hx hb hts in_X11 hown hKa hP 0 rfl rfl 4 (by decide) (hts _ tw_716) (fun _ h9 => h9) rfl dX11_faultOf_45 ?_
    obtain rfl := Option.some.inj hf
    exact cm_iret (pc := 48) hAe hQ hx hb hr hlocks hP hD hS [0, 1] (by decide) rfl dX11_faultOf_48
  · have hf := cm_ip c_36 hf
    refine lv_bipush (pc := 39) (v := (-6)) hx hb dX11_faultOf_39 (by decide) ?_
    refine lv_goto (pc := 41) (tgt := 48) hx hb dX11_faultOf_41 (by decide) ?_
    obtain rfl := Option.some.inj hf
    exact cm_iret (pc := 48) hAe hQ hx hb hr hlocks hP hD hS [0, 1] (by decide) rfl dX11_faultOf_48
def fX11_fault (m_signs : Int32) (m_pad : (Nat → Int32)) : Option (Int32) := Option.bind (fX11_faultOf m_signs m_pad) (fun u1 => some u1)
def rmX11_fault : Room := { frames := 3, cells := 0, slots := 0, locals := 66 }
set_option maxRecDepth 100000 in
set_option maxHeartbeats 4000000 in
theorem c_X11_fault (l : Launch) (D : va_G) (cI cJ cZ : ClassId) (a a_book a_now a_sight a_pad a_digits a_without a_with a_counts a_fewest a_ways a_more a_chooses a_image a_isKept : Nat) (m_sights : Int32) (m_signs : Int32) (m_sold : Int32) (m_markets : Int32) (m_marketAt : Int32) (m_reason : Int32) (m_acts : Int32) (m_pad : (Nat → Int32)) (res : Int32) (hf : fX11_fault m_signs m_pad = some res) : Ct l yX11_fault (cm_ws yX11_fault cX11_fault 1 (some .int)) rmX11_fault D (cm_T cI cJ cZ) [.ref a] [(a, .inr (11, [.ref a_book, .ref a_now, .int m_sights, .ref a_sight, .int m_signs, .ref a_pad, .int m_sold, .int m_markets, .int m_marketAt, .int m_reason, .int m_acts, .ref a_digits, .ref a_without, .ref a_with, .ref a_counts, .ref a_fewest, .ref a_ways, .ref a_more, .ref a_chooses, .ref a_image, .ref a_isKept])), cm_kI cI a_pad 60 m_pad] (some (.int res)) [(a, .inr (11, [.ref a_book, .ref a_now, .int m_sights, .ref a_sight, .int m_signs, .ref a_pad, .int m_sold, .int m_markets, .int m_marketAt, .int m_reason, .int m_acts, .ref a_digits, .ref a_without, .ref a_with, .ref a_counts, .ref a_fewest, .ref a_ways, .ref a_more, .ref a_chooses, .ref a_image, .ref a_isKept])), cm_kI cI a_pad 60 m_pad] := by
  refine Ct.of (cc := cX11_fault) (maxL := 1) (ret := (some .int)) (by decide) (Nat.le_of_ble_eq_true rfl) ?_
  intro p e s m below meth c ls args A Q hav hAe hQ hx hb hr hml hown hlocks hts hK hP hD hA hS hl
  have hKa := hK.1
  have hl : lv_has ls 1 [(0, .ref a)] := hl
  unfold fX11_fault at hf
  refine lv_aload_n (pc := 0) hx hb dX11_fault_0 rfl (lv_at hl 0 rfl) ?_
  obtain ⟨u1, hu1, hf⟩ := cm_bd hf
  refine cm_callV (pc := 1) (As := []) (rest := []) (wr := []) (ci := 11) (q0 := 0) (n := 0) hx hb hml hown hts hK hP hD hS hA (c_X11_faultOf l D cI cJ cZ a a_book a_now a_sight a_pad a_digits a_without a_with a_counts a_fewest a_ways a_more a_chooses a_image a_isKept m_sights m_signs m_sold m_markets m_marketAt m_reason m_acts m_pad u1 hu1) tw_807 tw_804 tw_806 tw_28 tw_56 rfl rfl (by decide +kernel) rfl ⟨Nat.le_of_ble_eq_true rfl, Nat.le_of_ble_eq_true rfl⟩ [0, 1] [] rfl (by decide) rfl (by decide) (by decide) rfl rfl rfl hl.1 rfl (Nat.le_of_ble_eq_true rfl) dX11_fault_1 ⟨Nat.zero_le _, Nat.zero_le _⟩ (fun H locs hP hD hS => ?_)
  have hP : va_P D vwCl [(a, .inr (11, [.ref a_book, .ref a_now, .int m_sights, .ref a_sight, .int m_signs, .ref a_pad, .int m_sold, .int m_markets, .int m_marketAt, .int m_reason, .int m_acts, .ref a_digits, .ref a_without, .ref a_with, .ref a_counts, .ref a_fewest, .ref a_ways, .ref a_more, .ref a_chooses, .ref a_image, .ref a_isKept])), cm_kI cI a_pad 60 m_pad] H := hP
  have hD : va_D A [(a, .inr (11, [.ref a_book, .ref a_now, .int m_sights, .ref a_sight, .int m_signs, .ref a_pad, .int m_sold, .int m_markets, .int m_marketAt, .int m_reason, .int m_acts, .ref a_digits, .ref a_without, .ref a_with, .ref a_counts, .ref a_fewest, .ref a_ways, .ref a_more, .ref a_chooses, .ref a_image, .ref a_isKept])), cm_kI cI a_pad 60 m_pad] := hD
  refine W.eq (g2 := F0 m 4 ls [.int u1]) rfl ?_
  obtain rfl := Option.some.inj hf
  exact cm_iret (pc := 4) hAe hQ hx hb hr hlocks hP hD hS [0, 1] (by decide) rfl dX11_fault_4
def fX11_asNow_L2 (m_book : (Nat → Int32)) (kx : Int32 → (Nat → Int32) → Option (Int32 × Int32 × Int32 × (Nat → Int32))) : Nat → Int32 → (Nat → Int32) → Option (Int32 × Int32 × Int32 × (Nat → Int32))
  | 0, _, _ => none
  | n + 1, v1_2, m_now_2 => (if 31 ≤ v1_2 then kx v1_2 m_now_2 else if v1_2 < 0 ∨ 31 ≤ v1_2.toNatClampNeg then none else if v1_2 < 0 ∨ 31 ≤ v1_2.toNatClampNeg then none else fX11_asNow_L2 m_book kx n (v1_2 + 1) (upd m_now_2 v1_2.toNatClampNeg (m_book v1_2.toNatClampNeg)))
def fX11_asNow (m_sold : Int32) (m_markets : Int32) (m_marketAt : Int32) (m_book : (Nat → Int32)) (m_now : (Nat → Int32)) : Option (Int32 × Int32 × Int32 × (Nat → Int32)) := fX11_asNow_L2 m_book (fun v1_2 m_now_2 => some (0, 0, (-6), m_now_2)) 5000 0 m_now
def rmX11_asNow : Room := { frames := 0, cells := 0, slots := 0, locals := 0 }
set_option maxRecDepth 100000 in
set_option maxHeartbeats 4000000 in
theorem c_X11_asNow (l : Launch) (D : va_G) (cI cJ cZ : ClassId) (a a_book a_now a_sight a_pad a_digits a_without a_with a_counts a_fewest a_ways a_more a_chooses a_image a_isKept : Nat) (m_sights : Int32) (m_signs : Int32) (m_sold : Int32) (m_markets : Int32) (m_marketAt : Int32) (m_reason : Int32) (m_acts : Int32) (m_book : (Nat → Int32)) (m_now : (Nat → Int32)) (res : Int32 × Int32 × Int32 × (Nat → Int32)) (hf : fX11_asNow m_sold m_markets m_marketAt m_book m_now = some res) : Ct l yX11_asNow (cm_ws yX11_asNow cX11_asNow 2 none) rmX11_asNow D (cm_T cI cJ cZ) [.ref a] [(a, .inr (11, [.ref a_book, .ref a_now, .int m_sights, .ref a_sight, .int m_signs, .ref a_pad, .int m_sold, .int m_markets, .int m_marketAt, .int m_reason, .int m_acts, .ref a_digits, .ref a_without, .ref a_with, .ref a_counts, .ref a_fewest, .ref a_ways, .ref a_more, .ref a_chooses, .ref a_image, .ref a_isKept])), cm_kI cI a_book 31 m_book, cm_kI cI a_now 31 m_now] none [(a, .inr (11, [.ref a_book, .ref a_now, .int m_sights, .ref a_sight, .int m_signs, .ref a_pad, .int res.1, .int res.2.1, .int res.2.2.1, .int m_reason, .int m_acts, .ref a_digits, .ref a_without, .ref a_with, .ref a_counts, .ref a_fewest, .ref a_ways, .ref a_more, .ref a_chooses, .ref a_image, .ref a_isKept])), cm_kI cI a_book 31 m_book, cm_kI cI a_now 31 res.2.2.2] := by
  refine Ct.of (cc := cX11_asNow) (maxL := 2) (ret := none) (by decide) (Nat.le_of_ble_eq_true rfl) ?_
  intro p e s m below meth c ls args A Q hav hAe hQ hx hb hr hml hown hlocks hts hK hP hD hA hS hl
  have hKa := hK.1
  have hl : lv_has ls 2 [(0, .ref a)] := hl
  unfold fX11_asNow at hf
  refine lv_iconst (pc := 0) (v := 0) hx hb dX11_asNow_0 (by decide) ?_
  refine lv_istore_n (pc := 1) (lv' := [(1, .int 0), (0, .ref a)]) hx hb dX11_asNow_1 rfl hl (by decide) rfl (fun ls hl => ?_)
  have L2 : ∀ (kx : Int32 → (Nat → Int32) → Option (Int32 × Int32 × Int32 × (Nat → Int32))), (∀ (v1_2 : Int32) (m_now_2 : (Nat → Int32)) (H : Heap) (locs : List Loc) (ls : Array Slot), va_P D vwCl [(a, .inr (11, [.ref a_book, .ref a_now, .int m_sights, .ref a_sight, .int m_signs, .ref a_pad, .int m_sold, .int m_markets, .int m_marketAt, .int m_reason, .int m_acts, .ref a_digits, .ref a_without, .ref a_with, .ref a_counts, .ref a_fewest, .ref a_ways, .ref a_more, .ref a_chooses, .ref a_image, .ref a_isKept])), cm_kI cI a_book 31 m_book, cm_kI cI a_now 31 m_now_2] H → va_D A [(a, .inr (11, [.ref a_book, .ref a_now, .int m_sights, .ref a_sight, .int m_signs, .ref a_pad, .int m_sold, .int m_markets, .int m_marketAt, .int m_reason, .int m_acts, .ref a_digits, .ref a_without, .ref a_with, .ref a_counts, .ref a_fewest, .ref a_ways, .ref a_more, .ref a_chooses, .ref a_image, .ref a_isKept])), cm_kI cI a_book 31 m_book, cm_kI cI a_now 31 m_now_2] → va_S A s.heap H locs → lv_has ls 2 [(0, .ref a)] → kx v1_2 m_now_2 = some res → W p l e rmX11_asNow s m args below meth c H locs 0 0 Q (F0 m 26 ls [])) → ∀ (n : Nat) (v1_2 : Int32) (m_now_2 : (Nat → Int32)) (H : Heap) (locs : List Loc) (ls : Array Slot), va_P D vwCl [(a, .inr (11, [.ref a_book, .ref a_now, .int m_sights, .ref a_sight, .int m_signs, .ref a_pad, .int m_sold, .int m_markets, .int m_marketAt, .int m_reason, .int m_acts, .ref a_digits, .ref a_without, .ref a_with, .ref a_counts, .ref a_fewest, .ref a_ways, .ref a_more, .ref a_chooses, .ref a_image, .ref a_isKept])), cm_kI cI a_book 31 m_book, cm_kI cI a_now 31 m_now_2] H → va_D A [(a, .inr (11, [.ref a_book, .ref a_now, .int m_sights, .ref a_sight, .int m_signs, .ref a_pad, .int m_sold, .int m_markets, .int m_marketAt, .int m_reason, .int m_acts, .ref a_digits, .ref a_without, .ref a_with, .ref a_counts, .ref a_fewest, .ref a_ways, .ref a_more, .ref a_chooses, .ref a_image, .ref a_isKept])), cm_kI cI a_book 31 m_book, cm_kI cI a_now 31 m_now_2] → va_S A s.heap H locs → lv_has ls 2 [(1, .int v1_2), (0, .ref a)] → fX11_asNow_L2 m_book kx n v1_2 m_now_2 = some res → W p l e rmX11_asNow s m args below meth c H locs 0 0 Q (F0 m 2 ls []) := by
    intro kx hkx n
    induction n with
    | zero => intro v1_2 m_now_2 H locs ls hP hD hS hl hf; cases hf
    | succ n ih =>
      intro v1_2 m_now_2 H locs ls hP hD hS hl hf
      rw [fX11_asNow_L2] at hf
      refine lv_iload_n (pc := 2) hx hb dX11_asNow_2 rfl (lv_at hl 0 rfl) ?_
      refine lv_bipush (pc := 3) (v := 31) hx hb dX11_asNow_3 (by decide) ?_
      refine lv_icmp_ge (pc := 5) (tgt := 26) hx hb dX11_asNow_5 (by decide) (fun c_5 => ?_) (fun c_5 => ?_)
      · have hf := cm_ip c_5 hf
        exact hkx v1_2 m_now_2 _ _ _ hP hD hS (lv_sub hl [1] rfl) hf
      · have hf := cm_in c_5 hf
        refine lv_aload_n (pc := 8) hx hb dX11_asNow_8 rfl (lv_at hl 1 rfl) ?_
        refine va_get (pc := 9) (D := D) (ci := 11) (v := .ref a_now) (C := RX11) (T := TX11) (N := 21) hx hb hts in_X11 hown hKa hP 0 rfl rfl 1 (by decide) (hts _ tw_713) (fun _ h9 => h9) rfl dX11_asNow_9 ?_
        refine lv_iload_n (pc := 12) hx hb dX11_asNow_12 rfl (lv_at hl 0 rfl) ?_
        refine lv_aload_n (pc := 13) hx hb dX11_asNow_13 rfl (lv_at hl 1 rfl) ?_
        refine va_get (pc := 14) (D := D) (ci := 11) (v := .ref a_book) (C := RX11) (T := TX11) (N := 21) hx hb hts in_X11 hown hKa hP 0 rfl rfl 0 (by decide) (hts _ tw_712) (fun _ h9 => h9) rfl dX11_asNow_14 ?_
        refine lv_iload_n (pc := 17) hx hb dX11_asNow_17 rfl (lv_at hl 0 rfl) ?_
        obtain ⟨b_18, hf⟩ := cm_ob hf
        refine va_iald (pc := 18) hx hb hKa hP 1 0 rfl rfl b_18 dX11_asNow_18 ?_
        obtain ⟨b_19, hf⟩ := cm_ob hf
        refine va_iast (pc := 19) hx hb hKa hP hD hS 2 0 rfl rfl b_19 dX11_asNow_19 (fun H locs hP hD hS => ?_)
        have hP : va_P D vwCl [(a, .inr (11, [.ref a_book, .ref a_now, .int m_sights, .ref a_sight, .int m_signs, .ref a_pad, .int m_sold, .int m_markets, .int m_marketAt, .int m_reason, .int m_acts, .ref a_digits, .ref a_without, .ref a_with, .ref a_counts, .ref a_fewest, .ref a_ways, .ref a_more, .ref a_chooses, .ref a_image, .ref a_isKept])), cm_kI cI a_book 31 m_book, cm_kI cI a_now 31 (upd m_now_2 v1_2.toNatClampNeg (m_book v1_2.toNatClampNeg))] H := hP
        have hD : va_D A [(a, .inr (11, [.ref a_book, .ref a_now, .int m_sights, .ref a_sight, .int m_signs, .ref a_pad, .int m_sold, .int m_markets, .int m_marketAt, .int m_reason, .int m_acts, .ref a_digits, .ref a_without, .ref a_with, .ref a_counts, .ref a_fewest, .ref a_ways, .ref a_more, .ref a_chooses, .ref a_image, .ref a_isKept])), cm_kI cI a_book 31 m_book, cm_kI cI a_now 31 (upd m_now_2 v1_2.toNatClampNeg (m_book v1_2.toNatClampNeg))] := hD
        refine lv_iinc (pc := 20) (v := (v1_2 + 1)) (lv' := [(1, .int (v1_2 + 1)), (0, .ref a)]) hx hb dX11_asNow_20 hl (k := 0) rfl rfl (by decide) rfl (fun ls hl => ?_)
        refine lv_goto (pc := 23) (tgt := 2) hx hb dX11_asNow_23 (by decide) ?_
        exact ih (v1_2 + 1) (upd m_now_2 v1_2.toNatClampNeg (m_book v1_2.toNatClampNeg)) _ _ _ hP hD hS (lv_sub hl [0, 1] rfl) hf
  refine L2 _ (fun v1_2 m_now_2 H locs ls hP hD hS hl hf => ?_) 5000 0 m_now _ _ _ hP hD hS (lv_sub hl [0, 1] rfl) hf
  refine lv_aload_n (pc := 26) hx hb dX11_asNow_26 rfl (lv_at hl 0 rfl) ?_
  refine lv_iconst (pc := 27) (v := 0) hx hb dX11_asNow_27 (by decide) ?_
  refine va_put (pc := 28) (D := D) (ci := 11) (v := .int 0) (ty := .int) (C := RX11) (T := TX11) (N := 21) hx hb hts in_X11 tyX11 tyX11_ok nmX11 hown hKa hP hD hS 0 rfl rfl 6 (by decide) (hts _ tw_718) (fun _ h9 => h9) rfl (by decide +kernel) rfl rfl (Nat.le_of_ble_eq_true rfl) dX11_asNow_28 (fun H locs hP hD hS => ?_)
  have hP : va_P D vwCl [(a, .inr (11, [.ref a_book, .ref a_now, .int m_sights, .ref a_sight, .int m_signs, .ref a_pad, .int 0, .int m_markets, .int m_marketAt, .int m_reason, .int m_acts, .ref a_digits, .ref a_without, .ref a_with, .ref a_counts, .ref a_fewest, .ref a_ways, .ref a_more, .ref a_chooses, .ref a_image, .ref a_isKept])), cm_kI cI a_book 31 m_book, cm_kI cI a_now 31 m_now_2] H := hP
  have hD : va_D A [(a, .inr (11, [.ref a_book, .ref a_now, .int m_sights, .ref a_sight, .int m_signs, .ref a_pad, .int 0, .int m_markets, .int m_marketAt, .int m_reason, .int m_acts, .ref a_digits, .ref a_without, .ref a_with, .ref a_counts, .ref a_fewest, .ref a_ways, .ref a_more, .ref a_chooses, .ref a_image, .ref a_isKept])), cm_kI cI a_book 31 m_book, cm_kI cI a_now 31 m_now_2] := hD
  refine lv_aload_n (pc := 31) hx hb dX11_asNow_31 rfl (lv_at hl 0 rfl) ?_
  refine lv_iconst (pc := 32) (v := 0) hx hb dX11_asNow_32 (by decide) ?_
  refine va_put (pc := 33) (D := D) (ci := 11) (v := .int 0) (ty := .int) (C := RX11) (T := TX11) (N := 21) hx hb hts in_X11 tyX11 tyX11_ok nmX11 hown hKa hP hD hS 0 rfl rfl 7 (by decide) (hts _ tw_719) (fun _ h9 => h9) rfl (by decide +kernel) rfl rfl (Nat.le_of_ble_eq_true rfl) dX11_asNow_33 (fun H locs hP hD hS => ?_)
  have hP : va_P D vwCl [(a, .inr (11, [.ref a_book, .ref a_now, .int m_sights, .ref a_sight, .int m_signs, .ref a_pad, .int 0, .int 0, .int m_marketAt, .int m_reason, .int m_acts, .ref a_digits, .ref a_without, .ref a_with, .ref a_counts, .ref a_fewest, .ref a_ways, .ref a_more, .ref a_chooses, .ref a_image, .ref a_isKept])), cm_kI cI a_book 31 m_book, cm_kI cI a_now 31 m_now_2] H := hP
  have hD : va_D A [(a, .inr (11, [.ref a_book, .ref a_now, .int m_sights, .ref a_sight, .int m_signs, .ref a_pad, .int 0, .int 0, .int m_marketAt, .int m_reason, .int m_acts, .ref a_digits, .ref a_without, .ref a_with, .ref a_counts, .ref a_fewest, .ref a_ways, .ref a_more, .ref a_chooses, .ref a_image, .ref a_isKept])), cm_kI cI a_book 31 m_book, cm_kI cI a_now 31 m_now_2] := hD
  refine lv_aload_n (pc := 36) hx hb dX11_asNow_36 rfl (lv_at hl 0 rfl) ?_
  refine lv_bipush (pc := 37) (v := (-6)) hx hb dX11_asNow_37 (by decide) ?_
  refine va_put (pc := 39) (D := D) (ci := 11) (v := .int (-6)) (ty := .int) (C := RX11) (T := TX11) (N := 21) hx hb hts in_X11 tyX11 tyX11_ok nmX11 hown hKa hP hD hS 0 rfl rfl 8 (by decide) (hts _ tw_720) (fun _ h9 => h9) rfl (by decide +kernel) rfl rfl (Nat.le_of_ble_eq_true rfl) dX11_asNow_39 (fun H locs hP hD hS => ?_)
  have hP : va_P D vwCl [(a, .inr (11, [.ref a_book, .ref a_now, .int m_sights, .ref a_sight, .int m_signs, .ref a_pad, .int 0, .int 0, .int (-6), .int m_reason, .int m_acts, .ref a_digits, .ref a_without, .ref a_with, .ref a_counts, .ref a_fewest, .ref a_ways, .ref a_more, .ref a_chooses, .ref a_image, .ref a_isKept])), cm_kI cI a_book 31 m_book, cm_kI cI a_now 31 m_now_2] H := hP
  have hD : va_D A [(a, .inr (11, [.ref a_book, .ref a_now, .int m_sights, .ref a_sight, .int m_signs, .ref a_pad, .int 0, .int 0, .int (-6), .int m_reason, .int m_acts, .ref a_digits, .ref a_without, .ref a_with, .ref a_counts, .ref a_fewest, .ref a_ways, .ref a_more, .ref a_chooses, .ref a_image, .ref a_isKept])), cm_kI cI a_book 31 m_book, cm_kI cI a_now 31 m_now_2] := hD
  obtain rfl := Option.some.inj hf
  exact cm_vret (pc := 42) hAe hQ hx hb hr hlocks hP hD hS [0, 1, 2] (by decide) rfl dX11_asNow_42
def fX11_chalkOf_L4 (v1 : Int32) (m_now : (Nat → Int32)) (kx : Int32 → Int32 → Option (Int32)) : Nat → Int32 → Int32 → Option (Int32)
  | 0, _, _ => none
  | n + 1, v2_4, v3_4 => (if 8 ≤ v3_4 then kx v2_4 v3_4 else if v3_4 < 0 ∨ 31 ≤ v3_4.toNatClampNeg then none else cm_let ((if (m_now v3_4.toNatClampNeg) = v1 then 1 else 0) : Int32) (fun j18 => fX11_chalkOf_L4 v1 m_now kx n (v2_4 + j18) (v3_4 + 1)))
def fX11_chalkOf (v1 : Int32) (m_now : (Nat → Int32)) : Option (Int32) := fX11_chalkOf_L4 v1 m_now (fun v2_4 v3_4 => some v2_4) 5000 0 0
def rmX11_chalkOf : Room := { frames := 0, cells := 0, slots := 0, locals := 0 }
set_option maxRecDepth 100000 in
set_option maxHeartbeats 4000000 in
theorem c_X11_chalkOf (l : Launch) (D : va_G) (cI cJ cZ : ClassId) (a a_book a_now a_sight a_pad a_digits a_without a_with a_counts a_fewest a_ways a_more a_chooses a_image a_isKept : Nat) (m_sights : Int32) (m_signs : Int32) (m_sold : Int32) (m_markets : Int32) (m_marketAt : Int32) (m_reason : Int32) (m_acts : Int32) (m_now : (Nat → Int32)) (v1 : Int32) (res : Int32) (hf : fX11_chalkOf v1 m_now = some res) : Ct l yX11_chalkOf (cm_ws yX11_chalkOf cX11_chalkOf 4 (some .int)) rmX11_chalkOf D (cm_T cI cJ cZ) [.ref a, .int v1] [(a, .inr (11, [.ref a_book, .ref a_now, .int m_sights, .ref a_sight, .int m_signs, .ref a_pad, .int m_sold, .int m_markets, .int m_marketAt, .int m_reason, .int m_acts, .ref a_digits, .ref a_without, .ref a_with, .ref a_counts, .ref a_fewest, .ref a_ways, .ref a_more, .ref a_chooses, .ref a_image, .ref a_isKept])), cm_kI cI a_now 31 m_now] (some (.int res)) [(a, .inr (11, [.ref a_book, .ref a_now, .int m_sights, .ref a_sight, .int m_signs, .ref a_pad, .int m_sold, .int m_markets, .int m_marketAt, .int m_reason, .int m_acts, .ref a_digits, .ref a_without, .ref a_with, .ref a_counts, .ref a_fewest, .ref a_ways, .ref a_more, .ref a_chooses, .ref a_image, .ref a_isKept])), cm_kI cI a_now 31 m_now] := by
  refine Ct.of (cc := cX11_chalkOf) (maxL := 4) (ret := (some .int)) (by decide) (Nat.le_of_ble_eq_true rfl) ?_
  intro p e s m below meth c ls args A Q hav hAe hQ hx hb hr hml hown hlocks hts hK hP hD hA hS hl
  have hKa := hK.1
  have hl : lv_has ls 4 [(0, .ref a), (1, .int v1)] := hl
  unfold fX11_chalkOf at hf
  refine lv_iconst (pc := 0) (v := 0) hx hb dX11_chalkOf_0 (by decide) ?_
  refine lv_istore_n (pc := 1) (lv' := [(2, .int 0), (0, .ref a), (1, .int v1)]) hx hb dX11_chalkOf_1 rfl hl (by decide) rfl (fun ls hl => ?_)
  refine lv_iconst (pc := 2) (v := 0) hx hb dX11_chalkOf_2 (by decide) ?_
  refine lv_istore_n (pc := 3) (lv' := [(3, .int 0), (2, .int 0), (0, .ref a), (1, .int v1)]) hx hb dX11_chalkOf_3 rfl hl (by decide) rfl (fun ls hl => ?_)
  have L4 : ∀ (kx : Int32 → Int32 → Option (Int32)), (∀ (v2_4 : Int32) (v3_4 : Int32) (H : Heap) (locs : List Loc) (ls : Array Slot), va_P D vwCl [(a, .inr (11, [.ref a_book, .ref a_now, .int m_sights, .ref a_sight, .int m_signs, .ref a_pad, .int m_sold, .int m_markets, .int m_marketAt, .int m_reason, .int m_acts, .ref a_digits, .ref a_without, .ref a_with, .ref a_counts, .ref a_fewest, .ref a_ways, .ref a_more, .ref a_chooses, .ref a_image, .ref a_isKept])), cm_kI cI a_now 31 m_now] H → va_D A [(a, .inr (11, [.ref a_book, .ref a_now, .int m_sights, .ref a_sight, .int m_signs, .ref a_pad, .int m_sold, .int m_markets, .int m_marketAt, .int m_reason, .int m_acts, .ref a_digits, .ref a_without, .ref a_with, .ref a_counts, .ref a_fewest, .ref a_ways, .ref a_more, .ref a_chooses, .ref a_image, .ref a_isKept])), cm_kI cI a_now 31 m_now] → va_S A s.heap H locs → lv_has ls 4 [(2, .int v2_4)] → kx v2_4 v3_4 = some res → W p l e rmX11_chalkOf s m args below meth c H locs 0 0 Q (F0 m 34 ls [])) → ∀ (n : Nat) (v2_4 : Int32) (v3_4 : Int32) (H : Heap) (locs : List Loc) (ls : Array Slot), va_P D vwCl [(a, .inr (11, [.ref a_book, .ref a_now, .int m_sights, .ref a_sight, .int m_signs, .ref a_pad, .int m_sold, .int m_markets, .int m_marketAt, .int m_reason, .int m_acts, .ref a_digits, .ref a_without, .ref a_with, .ref a_counts, .ref a_fewest, .ref a_ways, .ref a_more, .ref a_chooses, .ref a_image, .ref a_isKept])), cm_kI cI a_now 31 m_now] H → va_D A [(a, .inr (11, [.ref a_book, .ref a_now, .int m_sights, .ref a_sight, .int m_signs, .ref a_pad, .int m_sold, .int m_markets, .int m_marketAt, .int m_reason, .int m_acts, .ref a_digits, .ref a_without, .ref a_with, .ref a_counts, .ref a_fewest, .ref a_ways, .ref a_more, .ref a_chooses, .ref a_image, .ref a_isKept])), cm_kI cI a_now 31 m_now] → va_S A s.heap H locs → lv_has ls 4 [(3, .int v3_4), (2, .int v2_4), (0, .ref a), (1, .int v1)] → fX11_chalkOf_L4 v1 m_now kx n v2_4 v3_4 = some res → W p l e rmX11_chalkOf s m args below meth c H locs 0 0 Q (F0 m 4 ls []) := by
    intro kx hkx n
    induction n with
    | zero => intro v2_4 v3_4 H locs ls hP hD hS hl hf; cases hf
    | succ n ih =>
      intro v2_4 v3_4 H locs ls hP hD hS hl hf
      rw [fX11_chalkOf_L4] at hf
      refine lv_iload_n (pc := 4) hx hb dX11_chalkOf_4 rfl (lv_at hl 0 rfl) ?_
      refine lv_bipush (pc := 5) (v := 8) hx hb dX11_chalkOf_5 (by decide) ?_
      refine lv_icmp_ge (pc := 7) (tgt := 34) hx hb dX11_chalkOf_7 (by decide) (fun c_7 => ?_) (fun c_7 => ?_)
      · have hf := cm_ip c_7 hf
        exact hkx v2_4 v3_4 _ _ _ hP hD hS (lv_sub hl [1] rfl) hf
      · have hf := cm_in c_7 hf
        refine lv_iload_n (pc := 10) hx hb dX11_chalkOf_10 rfl (lv_at hl 1 rfl) ?_
        refine lv_aload_n (pc := 11) hx hb dX11_chalkOf_11 rfl (lv_at hl 2 rfl) ?_
        refine va_get (pc := 12) (D := D) (ci := 11) (v := .ref a_now) (C := RX11) (T := TX11) (N := 21) hx hb hts in_X11 hown hKa hP 0 rfl rfl 1 (by decide) (hts _ tw_713) (fun _ h9 => h9) rfl dX11_chalkOf_12 ?_
        refine lv_iload_n (pc := 15) hx hb dX11_chalkOf_15 rfl (lv_at hl 0 rfl) ?_
        obtain ⟨b_16, hf⟩ := cm_ob hf
        refine va_iald (pc := 16) hx hb hKa hP 1 0 rfl rfl b_16 dX11_chalkOf_16 ?_
        refine lv_iload_n (pc := 17) hx hb dX11_chalkOf_17 rfl (lv_at hl 3 rfl) ?_
        obtain ⟨j18, hj18, hf⟩ := cm_lt hf
        have J18 : ∀ (H : Heap) (locs : List Loc) (ls : Array Slot), va_P D vwCl [(a, .inr (11, [.ref a_book, .ref a_now, .int m_sights, .ref a_sight, .int m_signs, .ref a_pad, .int m_sold, .int m_markets, .int m_marketAt, .int m_reason, .int m_acts, .ref a_digits, .ref a_without, .ref a_with, .ref a_counts, .ref a_fewest, .ref a_ways, .ref a_more, .ref a_chooses, .ref a_image, .ref a_isKept])), cm_kI cI a_now 31 m_now] H → va_D A [(a, .inr (11, [.ref a_book, .ref a_now, .int m_sights, .ref a_sight, .int m_signs, .ref a_pad, .int m_sold, .int m_markets, .int m_marketAt, .int m_reason, .int m_acts, .ref a_digits, .ref a_without, .ref a_with, .ref a_counts, .ref a_fewest, .ref a_ways, .ref a_more, .ref a_chooses, .ref a_image, .ref a_isKept])), cm_kI cI a_now 31 m_now] → va_S A s.heap H locs → lv_has ls 4 [(3, .int v3_4), (0, .ref a), (1, .int v1)] → W p l e rmX11_chalkOf s m args below meth c H locs 0 0 Q (F0 m 26 ls [.int j18, .int v2_4]) := by
          intro H locs ls hP hD hS hl
          refine lv_iadd (pc := 26) hx hb dX11_chalkOf_26 ?_
          refine lv_istore_n (pc := 27) (lv' := [(2, .int (v2_4 + j18)), (3, .int v3_4), (0, .ref a), (1, .int v1)]) hx hb dX11_chalkOf_27 rfl hl (by decide) rfl (fun ls hl => ?_)
          refine lv_iinc (pc := 28) (v := (v3_4 + 1)) (lv' := [(3, .int (v3_4 + 1)), (2, .int (v2_4 + j18)), (0, .ref a), (1, .int v1)]) hx hb dX11_chalkOf_28 hl (k := 1) rfl rfl (by decide) rfl (fun ls hl => ?_)
          refine lv_goto (pc := 31) (tgt := 4) hx hb dX11_chalkOf_31 (by decide) ?_
          exact ih (v2_4 + j18) (v3_4 + 1) _ _ _ hP hD hS (lv_sub hl [0, 1, 2, 3] rfl) hf
        clear hf
        have hf := hj18
        refine lv_icmp_ne (pc := 18) (tgt := 25) hx hb dX11_chalkOf_18 (by decide) (fun c_18 => ?_) (fun c_18 => ?_)
        · have hf := cm_in c_18 hf
          refine lv_iconst (pc := 25) (v := 0) hx hb dX11_chalkOf_25 (by decide) ?_
          obtain rfl := hf
          exact J18 _ _ _ hP hD hS (lv_sub hl [0, 2, 3] rfl)
        · have hf := cm_ip c_18 hf
          refine lv_iconst (pc := 21) (v := 1) hx hb dX11_chalkOf_21 (by decide) ?_
          refine lv_goto (pc := 22) (tgt := 26) hx hb dX11_chalkOf_22 (by decide) ?_
          obtain rfl := hf
          exact J18 _ _ _ hP hD hS (lv_sub hl [0, 2, 3] rfl)
  refine L4 _ (fun v2_4 v3_4 H locs ls hP hD hS hl hf => ?_) 5000 0 0 _ _ _ hP hD hS (lv_sub hl [0, 1, 2, 3] rfl) hf
  refine lv_iload_n (pc := 34) hx hb dX11_chalkOf_34 rfl (lv_at hl 0 rfl) ?_
  obtain rfl := Option.some.inj hf
  exact cm_iret (pc := 35) hAe hQ hx hb hr hlocks hP hD hS [0, 1] (by decide) rfl dX11_chalkOf_35
def fX11_theDay_L4 (m_now : (Nat → Int32)) (kx : Int32 → Int32 → Option (Int32)) : Nat → Int32 → Int32 → Option (Int32)
  | 0, _, _ => none
  | n + 1, v1_4, v2_4 => (if 7 ≤ v2_4 then kx v1_4 v2_4 else Option.bind (fX11_chalkOf v2_4 m_now) (fun u12 => Option.bind (fX11_chalkOf v1_4 m_now) (fun u17 => (if u17 ≤ u12 then fX11_theDay_L4 m_now kx n v1_4 (v2_4 + 1) else fX11_theDay_L4 m_now kx n v2_4 (v2_4 + 1)))))
def fX11_theDay (m_now : (Nat → Int32)) : Option (Int32) := fX11_theDay_L4 m_now (fun v1_4 v2_4 => some v1_4) 5000 0 1
def rmX11_theDay : Room := { frames := 1, cells := 0, slots := 0, locals := 23 }
set_option maxRecDepth 100000 in
set_option maxHeartbeats 4000000 in
theorem c_X11_theDay (l : Launch) (D : va_G) (cI cJ cZ : ClassId) (a a_book a_now a_sight a_pad a_digits a_without a_with a_counts a_fewest a_ways a_more a_chooses a_image a_isKept : Nat) (m_sights : Int32) (m_signs : Int32) (m_sold : Int32) (m_markets : Int32) (m_marketAt : Int32) (m_reason : Int32) (m_acts : Int32) (m_now : (Nat → Int32)) (res : Int32) (hf : fX11_theDay m_now = some res) : Ct l yX11_theDay (cm_ws yX11_theDay cX11_theDay 3 (some .int)) rmX11_theDay D (cm_T cI cJ cZ) [.ref a] [(a, .inr (11, [.ref a_book, .ref a_now, .int m_sights, .ref a_sight, .int m_signs, .ref a_pad, .int m_sold, .int m_markets, .int m_marketAt, .int m_reason, .int m_acts, .ref a_digits, .ref a_without, .ref a_with, .ref a_counts, .ref a_fewest, .ref a_ways, .ref a_more, .ref a_chooses, .ref a_image, .ref a_isKept])), cm_kI cI a_now 31 m_now] (some (.int res)) [(a, .inr (11, [.ref a_book, .ref a_now, .int m_sights, .ref a_sight, .int m_signs, .ref a_pad, .int m_sold, .int m_markets, .int m_marketAt, .int m_reason, .int m_acts, .ref a_digits, .ref a_without, .ref a_with, .ref a_counts, .ref a_fewest, .ref a_ways, .ref a_more, .ref a_chooses, .ref a_image, .ref a_isKept])), cm_kI cI a_now 31 m_now] := by
  refine Ct.of (cc := cX11_theDay) (maxL := 3) (ret := (some .int)) (by decide) (Nat.le_of_ble_eq_true rfl) ?_
  intro p e s m below meth c ls args A Q hav hAe hQ hx hb hr hml hown hlocks hts hK hP hD hA hS hl
  have hKa := hK.1
  have hl : lv_has ls 3 [(0, .ref a)] := hl
  unfold fX11_theDay at hf
  refine lv_iconst (pc := 0) (v := 0) hx hb dX11_theDay_0 (by decide) ?_
  refine lv_istore_n (pc := 1) (lv' := [(1, .int 0), (0, .ref a)]) hx hb dX11_theDay_1 rfl hl (by decide) rfl (fun ls hl => ?_)
  refine lv_iconst (pc := 2) (v := 1) hx hb dX11_theDay_2 (by decide) ?_
  refine lv_istore_n (pc := 3) (lv' := [(2, .int 1), (1, .int 0), (0, .ref a)]) hx hb dX11_theDay_3 rfl hl (by decide) rfl (fun ls hl => ?_)
  have L4 : ∀ (kx : Int32 → Int32 → Option (Int32)), (∀ (v1_4 : Int32) (v2_4 : Int32) (H : Heap) (locs : List Loc) (ls : Array Slot), va_P D vwCl [(a, .inr (11, [.ref a_book, .ref a_now, .int m_sights, .ref a_sight, .int m_signs, .ref a_pad, .int m_sold, .int m_markets, .int m_marketAt, .int m_reason, .int m_acts, .ref a_digits, .ref a_without, .ref a_with, .ref a_counts, .ref a_fewest, .ref a_ways, .ref a_more, .ref a_chooses, .ref a_image, .ref a_isKept])), cm_kI cI a_now 31 m_now] H → va_D A [(a, .inr (11, [.ref a_book, .ref a_now, .int m_sights, .ref a_sight, .int m_signs, .ref a_pad, .int m_sold, .int m_markets, .int m_marketAt, .int m_reason, .int m_acts, .ref a_digits, .ref a_without, .ref a_with, .ref a_counts, .ref a_fewest, .ref a_ways, .ref a_more, .ref a_chooses, .ref a_image, .ref a_isKept])), cm_kI cI a_now 31 m_now] → va_S A s.heap H locs → lv_has ls 3 [(1, .int v1_4)] → kx v1_4 v2_4 = some res → W p l e rmX11_theDay s m args below meth c H locs 0 0 Q (F0 m 35 ls [])) → ∀ (n : Nat) (v1_4 : Int32) (v2_4 : Int32) (H : Heap) (locs : List Loc) (ls : Array Slot), va_P D vwCl [(a, .inr (11, [.ref a_book, .ref a_now, .int m_sights, .ref a_sight, .int m_signs, .ref a_pad, .int m_sold, .int m_markets, .int m_marketAt, .int m_reason, .int m_acts, .ref a_digits, .ref a_without, .ref a_with, .ref a_counts, .ref a_fewest, .ref a_ways, .ref a_more, .ref a_chooses, .ref a_image, .ref a_isKept])), cm_kI cI a_now 31 m_now] H → va_D A [(a, .inr (11, [.ref a_book, .ref a_now, .int m_sights, .ref a_sight, .int m_signs, .ref a_pad, .int m_sold, .int m_markets, .int m_marketAt, .int m_reason, .int m_acts, .ref a_digits, .ref a_without, .ref a_with, .ref a_counts, .ref a_fewest, .ref a_ways, .ref a_more, .ref a_chooses, .ref a_image, .ref a_isKept])), cm_kI cI a_now 31 m_now] → va_S A s.heap H locs → lv_has ls 3 [(2, .int v2_4), (1, .int v1_4), (0, .ref a)] → fX11_theDay_L4 m_now kx n v1_4 v2_4 = some res → W p l e rmX11_theDay s m args below meth c H locs 0 0 Q (F0 m 4 ls []) := by
    intro kx hkx n
    induction n with
    | zero => intro v1_4 v2_4 H locs ls hP hD hS hl hf; cases hf
    | succ n ih =>
      intro v1_4 v2_4 H locs ls hP hD hS hl hf
      rw [fX11_theDay_L4] at hf
      refine lv_iload_n (pc := 4) hx hb dX11_theDay_4 rfl (lv_at hl 0 rfl) ?_
      refine lv_bipush (pc := 5) (v := 7) hx hb dX11_theDay_5 (by decide) ?_
      refine lv_icmp_ge (pc := 7) (tgt := 35) hx hb dX11_theDay_7 (by decide) (fun c_7 => ?_) (fun c_7 => ?_)
      · have hf := cm_ip c_7 hf
        exact hkx v1_4 v2_4 _ _ _ hP hD hS (lv_sub hl [1] rfl) hf
      · have hf := cm_in c_7 hf
        refine lv_aload_n (pc := 10) hx hb dX11_theDay_10 rfl (lv_at hl 2 rfl) ?_
        refine lv_iload_n (pc := 11) hx hb dX11_theDay_11 rfl (lv_at hl 0 rfl) ?_
        obtain ⟨u12, hu12, hf⟩ := cm_bd hf
        refine cm_callV (pc := 12) (As := [.int v2_4]) (rest := []) (wr := []) (ci := 11) (q0 := 0) (n := 1) hx hb hml hown hts hK hP hD hS hA (c_X11_chalkOf l D cI cJ cZ a a_book a_now a_sight a_pad a_digits a_without a_with a_counts a_fewest a_ways a_more a_chooses a_image a_isKept m_sights m_signs m_sold m_markets m_marketAt m_reason m_acts m_now v2_4 u12 hu12) tw_834 tw_831 tw_833 tw_33 tw_56 rfl rfl (by decide +kernel) rfl ⟨Nat.le_of_ble_eq_true rfl, Nat.le_of_ble_eq_true rfl⟩ [0, 1] [] rfl (by decide) rfl (by decide) (by decide) rfl rfl rfl hl.1 rfl (Nat.le_of_ble_eq_true rfl) dX11_theDay_12 ⟨Nat.zero_le _, Nat.zero_le _⟩ (fun H locs hP hD hS => ?_)
        have hP : va_P D vwCl [(a, .inr (11, [.ref a_book, .ref a_now, .int m_sights, .ref a_sight, .int m_signs, .ref a_pad, .int m_sold, .int m_markets, .int m_marketAt, .int m_reason, .int m_acts, .ref a_digits, .ref a_without, .ref a_with, .ref a_counts, .ref a_fewest, .ref a_ways, .ref a_more, .ref a_chooses, .ref a_image, .ref a_isKept])), cm_kI cI a_now 31 m_now] H := hP
        have hD : va_D A [(a, .inr (11, [.ref a_book, .ref a_now, .int m_sights, .ref a_sight, .int m_signs, .ref a_pad, .int m_sold, .int m_markets, .int m_marketAt, .int m_reason, .int m_acts, .ref a_digits, .ref a_without, .ref a_with, .ref a_counts, .ref a_fewest, .ref a_ways, .ref a_more, .ref a_chooses, .ref a_image, .ref a_isKept])), cm_kI cI a_now 31 m_now] := hD
        refine W.eq (g2 := F0 m 15 ls [.int u12]) rfl ?_
        refine lv_aload_n (pc := 15) hx hb dX11_theDay_15 rfl (lv_at hl 2 rfl) ?_
        refine lv_iload_n (pc := 16) hx hb dX11_theDay_16 rfl (lv_at hl 1 rfl) ?_
        obtain ⟨u17, hu17, hf⟩ := cm_bd hf
        refine cm_callV (pc := 17) (As := [.int v1_4]) (rest := [.int u12]) (wr := []) (ci := 11) (q0 := 0) (n := 1) hx hb hml hown hts hK hP hD hS hA (c_X11_chalkOf l D cI cJ cZ a a_book a_now a_sight a_pad a_digits a_without a_with a_counts a_fewest a_ways a_more a_chooses a_image a_isKept m_sights m_signs m_sold m_markets m_marketAt m_reason m_acts m_now v1_4 u17 hu17) tw_834 tw_831 tw_833 tw_33 tw_56 rfl rfl (by decide +kernel) rfl ⟨Nat.le_of_ble_eq_true rfl, Nat.le_of_ble_eq_true rfl⟩ [0, 1] [] rfl (by decide) rfl (by decide) (by decide) rfl rfl rfl hl.1 rfl (Nat.le_of_ble_eq_true rfl) dX11_theDay_17 ⟨Nat.zero_le _, Nat.zero_le _⟩ (fun H locs hP hD hS => ?_)
        have hP : va_P D vwCl [(a, .inr (11, [.ref a_book, .ref a_now, .int m_sights, .ref a_sight, .int m_signs, .ref a_pad, .int m_sold, .int m_markets, .int m_marketAt, .int m_reason, .int m_acts, .ref a_digits, .ref a_without, .ref a_with, .ref a_counts, .ref a_fewest, .ref a_ways, .ref a_more, .ref a_chooses, .ref a_image, .ref a_isKept])), cm_kI cI a_now 31 m_now] H := hP
        have hD : va_D A [(a, .inr (11, [.ref a_book, .ref a_now, .int m_sights, .ref a_sight, .int m_signs, .ref a_pad, .int m_sold, .int m_markets, .int m_marketAt, .int m_reason, .int m_acts, .ref a_digits, .ref a_without, .ref a_with, .ref a_counts, .ref a_fewest, .ref a_ways, .ref a_more, .ref a_chooses, .ref a_image, .ref a_isKept])), cm_kI cI a_now 31 m_now] := hD
        refine W.eq (g2 := F0 m 20 ls [.int u17, .int u12]) rfl ?_
        refine lv_icmp_ge (pc := 20) (tgt := 27) hx hb dX11_theDay_20 (by decide) (fun c_20 => ?_) (fun c_20 => ?_)
        · have hf := cm_ip c_20 hf
          refine lv_iload_n (pc := 27) hx hb dX11_theDay_27 rfl (lv_at hl 1 rfl) ?_
          refine lv_istore_n (pc := 28) (lv' := [(1, .int v1_4), (2, .int v2_4), (0, .ref a)]) hx hb dX11_theDay_28 rfl hl (by decide) rfl (fun ls hl => ?_)
          refine lv_iinc (pc := 29) (v := (v2_4 + 1)) (lv' := [(2, .int (v2_4 + 1)), (1, .int v1_4), (0, .ref a)]) hx hb dX11_theDay_29 hl (k := 1) rfl rfl (by decide) rfl (fun ls hl => ?_)
          refine lv_goto (pc := 32) (tgt := 4) hx hb dX11_theDay_32 (by decide) ?_
          exact ih v1_4 (v2_4 + 1) _ _ _ hP hD hS (lv_sub hl [0, 1, 2] rfl) hf
        · have hf := cm_in c_20 hf
          refine lv_iload_n (pc := 23) hx hb dX11_theDay_23 rfl (lv_at hl 0 rfl) ?_
          refine lv_goto (pc := 24) (tgt := 28) hx hb dX11_theDay_24 (by decide) ?_
          refine lv_istore_n (pc := 28) (lv' := [(1, .int v2_4), (2, .int v2_4), (0, .ref a)]) hx hb dX11_theDay_28 rfl hl (by decide) rfl (fun ls hl => ?_)
          refine lv_iinc (pc := 29) (v := (v2_4 + 1)) (lv' := [(2, .int (v2_4 + 1)), (1, .int v2_4), (0, .ref a)]) hx hb dX11_theDay_29 hl (k := 1) rfl rfl (by decide) rfl (fun ls hl => ?_)
          refine lv_goto (pc := 32) (tgt := 4) hx hb dX11_theDay_32 (by decide) ?_
          exact ih v2_4 (v2_4 + 1) _ _ _ hP hD hS (lv_sub hl [0, 1, 2] rfl) hf
  refine L4 _ (fun v1_4 v2_4 H locs ls hP hD hS hl hf => ?_) 5000 0 1 _ _ _ hP hD hS (lv_sub hl [0, 1, 2] rfl) hf
  refine lv_iload_n (pc := 35) hx hb dX11_theDay_35 rfl (lv_at hl 0 rfl) ?_
  obtain rfl := Option.some.inj hf
  exact cm_iret (pc := 36) hAe hQ hx hb hr hlocks hP hD hS [0, 1] (by decide) rfl dX11_theDay_36
def fX11_think (v1 : Int32) (v2 : Int32) (m_now : (Nat → Int32)) : Option (Int32 × (Nat → Int32)) := if v1 < 0 ∨ 31 ≤ v1.toNatClampNeg then none else (if (m_now v1.toNatClampNeg) = v2 then some (1, m_now) else if v1 < 0 ∨ 31 ≤ v1.toNatClampNeg then none else some (0, (upd m_now v1.toNatClampNeg v2)))
def rmX11_think : Room := { frames := 0, cells := 0, slots := 0, locals := 0 }
set_option maxRecDepth 100000 in
set_option maxHeartbeats 4000000 in
theorem c_X11_think (l : Launch) (D : va_G) (cI cJ cZ : ClassId) (a a_book a_now a_sight a_pad a_digits a_without a_with a_counts a_fewest a_ways a_more a_chooses a_image a_isKept : Nat) (m_sights : Int32) (m_signs : Int32) (m_sold : Int32) (m_markets : Int32) (m_marketAt : Int32) (m_reason : Int32) (m_acts : Int32) (m_now : (Nat → Int32)) (v1 : Int32) (v2 : Int32) (res : Int32 × (Nat → Int32)) (hf : fX11_think v1 v2 m_now = some res) : Ct l yX11_think (cm_ws yX11_think cX11_think 3 (some .int)) rmX11_think D (cm_T cI cJ cZ) [.ref a, .int v1, .int v2] [(a, .inr (11, [.ref a_book, .ref a_now, .int m_sights, .ref a_sight, .int m_signs, .ref a_pad, .int m_sold, .int m_markets, .int m_marketAt, .int m_reason, .int m_acts, .ref a_digits, .ref a_without, .ref a_with, .ref a_counts, .ref a_fewest, .ref a_ways, .ref a_more, .ref a_chooses, .ref a_image, .ref a_isKept])), cm_kI cI a_now 31 m_now] (some (.int res.1)) [(a, .inr (11, [.ref a_book, .ref a_now, .int m_sights, .ref a_sight, .int m_signs, .ref a_pad, .int m_sold, .int m_markets, .int m_marketAt, .int m_reason, .int m_acts, .ref a_digits, .ref a_without, .ref a_with, .ref a_counts, .ref a_fewest, .ref a_ways, .ref a_more, .ref a_chooses, .ref a_image, .ref a_isKept])), cm_kI cI a_now 31 res.2] := by
  refine Ct.of (cc := cX11_think) (maxL := 3) (ret := (some .int)) (by decide) (Nat.le_of_ble_eq_true rfl) ?_
  intro p e s m below meth c ls args A Q hav hAe hQ hx hb hr hml hown hlocks hts hK hP hD hA hS hl
  have hKa := hK.1
  have hl : lv_has ls 3 [(0, .ref a), (1, .int v1), (2, .int v2)] := hl
  unfold fX11_think at hf
  refine lv_aload_n (pc := 0) hx hb dX11_think_0 rfl (lv_at hl 0 rfl) ?_
  refine va_get (pc := 1) (D := D) (ci := 11) (v := .ref a_now) (C := RX11) (T := TX11) (N := 21) hx hb hts in_X11 hown hKa hP 0 rfl rfl 1 (by decide) (hts _ tw_713) (fun _ h9 => h9) rfl dX11_think_1 ?_
  refine lv_iload_n (pc := 4) hx hb dX11_think_4 rfl (lv_at hl 1 rfl) ?_
  obtain ⟨b_5, hf⟩ := cm_ob hf
  refine va_iald (pc := 5) hx hb hKa hP 1 0 rfl rfl b_5 dX11_think_5 ?_
  refine lv_iload_n (pc := 6) hx hb dX11_think_6 rfl (lv_at hl 2 rfl) ?_
  refine lv_icmp_ne (pc := 7) (tgt := 12) hx hb dX11_think_7 (by decide) (fun c_7 => ?_) (fun c_7 => ?_)
  · have hf := cm_in c_7 hf
    refine lv_aload_n (pc := 12) hx hb dX11_think_12 rfl (lv_at hl 0 rfl) ?_
    refine va_get (pc := 13) (D := D) (ci := 11) (v := .ref a_now) (C := RX11) (T := TX11) (N := 21) hx hb hts in_X11 hown hKa hP 0 rfl rfl 1 (by decide) (hts _ tw_713) (fun _ h9 => h9) rfl dX11_think_13 ?_
    refine lv_iload_n (pc := 16) hx hb dX11_think_16 rfl (lv_at hl 1 rfl) ?_
    refine lv_iload_n (pc := 17) hx hb dX11_think_17 rfl (lv_at hl 2 rfl) ?_
    obtain ⟨b_18, hf⟩ := cm_ob hf
    refine va_iast (pc := 18) hx hb hKa hP hD hS 1 0 rfl rfl b_18 dX11_think_18 (fun H locs hP hD hS => ?_)
    have hP : va_P D vwCl [(a, .inr (11, [.ref a_book, .ref a_now, .int m_sights, .ref a_sight, .int m_signs, .ref a_pad, .int m_sold, .int m_markets, .int m_marketAt, .int m_reason, .int m_acts, .ref a_digits, .ref a_without, .ref a_with, .ref a_counts, .ref a_fewest, .ref a_ways, .ref a_more, .ref a_chooses, .ref a_image, .ref a_isKept])), cm_kI cI a_now 31 (upd m_now v1.toNatClampNeg v2)] H := hP
    have hD : va_D A [(a, .inr (11, [.ref a_book, .ref a_now, .int m_sights, .ref a_sight, .int m_signs, .ref a_pad, .int m_sold, .int m_markets, .int m_marketAt, .int m_reason, .int m_acts, .ref a_digits, .ref a_without, .ref a_with, .ref a_counts, .ref a_fewest, .ref a_ways, .ref a_more, .ref a_chooses, .ref a_image, .ref a_isKept])), cm_kI cI a_now 31 (upd m_now v1.toNatClampNeg v2)] := hD
    refine lv_iconst (pc := 19) (v := 0) hx hb dX11_think_19 (by decide) ?_
    obtain rfl := Option.some.inj hf
    exact cm_iret (pc := 20) hAe hQ hx hb hr hlocks hP hD hS [0, 1] (by decide) rfl dX11_think_20
  · have hf := cm_ip c_7 hf
    refine lv_iconst (pc := 10) (v := 1) hx hb dX11_think_10 (by decide) ?_
    obtain rfl := Option.some.inj hf
    exact cm_iret (pc := 11) hAe hQ hx hb hr hlocks hP hD hS [0, 1] (by decide) rfl dX11_think_11
def fX11_grow (v1 : Int32) (m_now : (Nat → Int32)) : Option (Int32 × (Nat → Int32)) := if (8 + v1) < 0 ∨ 31 ≤ (8 + v1).toNatClampNeg then none else (if (m_now (8 + v1).toNatClampNeg) = 9 then some (2, m_now) else if (8 + v1) < 0 ∨ 31 ≤ (8 + v1).toNatClampNeg then none else if (8 + v1) < 0 ∨ 31 ≤ (8 + v1).toNatClampNeg then none else some (0, (upd m_now (8 + v1).toNatClampNeg ((m_now (8 + v1).toNatClampNeg) + 1))))
def rmX11_grow : Room := { frames := 0, cells := 0, slots := 0, locals := 0 }
set_option maxRecDepth 100000 in
set_option maxHeartbeats 4000000 in
theorem c_X11_grow (l : Launch) (D : va_G) (cI cJ cZ : ClassId) (a a_book a_now a_sight a_pad a_digits a_without a_with a_counts a_fewest a_ways a_more a_chooses a_image a_isKept : Nat) (m_sights : Int32) (m_signs : Int32) (m_sold : Int32) (m_markets : Int32) (m_marketAt : Int32) (m_reason : Int32) (m_acts : Int32) (m_now : (Nat → Int32)) (v1 : Int32) (res : Int32 × (Nat → Int32)) (hf : fX11_grow v1 m_now = some res) : Ct l yX11_grow (cm_ws yX11_grow cX11_grow 2 (some .int)) rmX11_grow D (cm_T cI cJ cZ) [.ref a, .int v1] [(a, .inr (11, [.ref a_book, .ref a_now, .int m_sights, .ref a_sight, .int m_signs, .ref a_pad, .int m_sold, .int m_markets, .int m_marketAt, .int m_reason, .int m_acts, .ref a_digits, .ref a_without, .ref a_with, .ref a_counts, .ref a_fewest, .ref a_ways, .ref a_more, .ref a_chooses, .ref a_image, .ref a_isKept])), cm_kI cI a_now 31 m_now] (some (.int res.1)) [(a, .inr (11, [.ref a_book, .ref a_now, .int m_sights, .ref a_sight, .int m_signs, .ref a_pad, .int m_sold, .int m_markets, .int m_marketAt, .int m_reason, .int m_acts, .ref a_digits, .ref a_without, .ref a_with, .ref a_counts, .ref a_fewest, .ref a_ways, .ref a_more, .ref a_chooses, .ref a_image, .ref a_isKept])), cm_kI cI a_now 31 res.2] := by
  refine Ct.of (cc := cX11_grow) (maxL := 2) (ret := (some .int)) (by decide) (Nat.le_of_ble_eq_true rfl) ?_
  intro p e s m below meth c ls args A Q hav hAe hQ hx hb hr hml hown hlocks hts hK hP hD hA hS hl
  have hKa := hK.1
  have hl : lv_has ls 2 [(0, .ref a), (1, .int v1)] := hl
  unfold fX11_grow at hf
  refine lv_aload_n (pc := 0) hx hb dX11_grow_0 rfl (lv_at hl 0 rfl) ?_
  refine va_get (pc := 1) (D := D) (ci := 11) (v := .ref a_now) (C := RX11) (T := TX11) (N := 21) hx hb hts in_X11 hown hKa hP 0 rfl rfl 1 (by decide) (hts _ tw_713) (fun _ h9 => h9) rfl dX11_grow_1 ?_
  refine lv_bipush (pc := 4) (v := 8) hx hb dX11_grow_4 (by decide) ?_
  refine lv_iload_n (pc := 6) hx hb dX11_grow_6 rfl (lv_at hl 1 rfl) ?_
  refine lv_iadd (pc := 7) hx hb dX11_grow_7 ?_
  obtain ⟨b_8, hf⟩ := cm_ob hf
  refine va_iald (pc := 8) hx hb hKa hP 1 0 rfl rfl b_8 dX11_grow_8 ?_
  refine lv_bipush (pc := 9) (v := 9) hx hb dX11_grow_9 (by decide) ?_
  refine lv_icmp_ne (pc := 11) (tgt := 16) hx hb dX11_grow_11 (by decide) (fun c_11 => ?_) (fun c_11 => ?_)
  · have hf := cm_in c_11 hf
    refine lv_aload_n (pc := 16) hx hb dX11_grow_16 rfl (lv_at hl 0 rfl) ?_
    refine va_get (pc := 17) (D := D) (ci := 11) (v := .ref a_now) (C := RX11) (T := TX11) (N := 21) hx hb hts in_X11 hown hKa hP 0 rfl rfl 1 (by decide) (hts _ tw_713) (fun _ h9 => h9) rfl dX11_grow_17 ?_
    refine lv_bipush (pc := 20) (v := 8) hx hb dX11_grow_20 (by decide) ?_
    refine lv_iload_n (pc := 22) hx hb dX11_grow_22 rfl (lv_at hl 1 rfl) ?_
    refine lv_iadd (pc := 23) hx hb dX11_grow_23 ?_
    refine lv_dup2_11 (pc := 24) hx hb dX11_grow_24 rfl rfl ?_
    obtain ⟨b_25, hf⟩ := cm_ob hf
    refine va_iald (pc := 25) hx hb hKa hP 1 0 rfl rfl b_25 dX11_grow_25 ?_
    refine lv_iconst (pc := 26) (v := 1) hx hb dX11_grow_26 (by decide) ?_
    refine lv_iadd (pc := 27) hx hb dX11_grow_27 ?_
    obtain ⟨b_28, hf⟩ := cm_ob hf
    refine va_iast (pc := 28) hx hb hKa hP hD hS 1 0 rfl rfl b_28 dX11_grow_28 (fun H locs hP hD hS => ?_)
    have hP : va_P D vwCl [(a, .inr (11, [.ref a_book, .ref a_now, .int m_sights, .ref a_sight, .int m_signs, .ref a_pad, .int m_sold, .int m_markets, .int m_marketAt, .int m_reason, .int m_acts, .ref a_digits, .ref a_without, .ref a_with, .ref a_counts, .ref a_fewest, .ref a_ways, .ref a_more, .ref a_chooses, .ref a_image, .ref a_isKept])), cm_kI cI a_now 31 (upd m_now (8 + v1).toNatClampNeg ((m_now (8 + v1).toNatClampNeg) + 1))] H := hP
    have hD : va_D A [(a, .inr (11, [.ref a_book, .ref a_now, .int m_sights, .ref a_sight, .int m_signs, .ref a_pad, .int m_sold, .int m_markets, .int m_marketAt, .int m_reason, .int m_acts, .ref a_digits, .ref a_without, .ref a_with, .ref a_counts, .ref a_fewest, .ref a_ways, .ref a_more, .ref a_chooses, .ref a_image, .ref a_isKept])), cm_kI cI a_now 31 (upd m_now (8 + v1).toNatClampNeg ((m_now (8 + v1).toNatClampNeg) + 1))] := hD
    refine lv_iconst (pc := 29) (v := 0) hx hb dX11_grow_29 (by decide) ?_
    obtain rfl := Option.some.inj hf
    exact cm_iret (pc := 30) hAe hQ hx hb hr hlocks hP hD hS [0, 1] (by decide) rfl dX11_grow_30
  · have hf := cm_ip c_11 hf
    refine lv_iconst (pc := 14) (v := 2) hx hb dX11_grow_14 (by decide) ?_
    obtain rfl := Option.some.inj hf
    exact cm_iret (pc := 15) hAe hQ hx hb hr hlocks hP hD hS [0, 1] (by decide) rfl dX11_grow_15
def fX11_talk (v1 : Int32) (v2 : Int32) (m_now : (Nat → Int32)) : Option (Int32 × (Nat → Int32)) := (if v1 = v2 then some (3, m_now) else if v1 < 0 ∨ 31 ≤ v1.toNatClampNeg then none else (if 0 ≤ (m_now v1.toNatClampNeg) then if (8 + v2) < 0 ∨ 31 ≤ (8 + v2).toNatClampNeg then none else if (8 + v1) < 0 ∨ 31 ≤ (8 + v1).toNatClampNeg then none else (if (m_now (8 + v2).toNatClampNeg) < (m_now (8 + v1).toNatClampNeg) then if v1 < 0 ∨ 31 ≤ v1.toNatClampNeg then none else if v2 < 0 ∨ 31 ≤ v2.toNatClampNeg then none else if (8 + v2) < 0 ∨ 31 ≤ (8 + v2).toNatClampNeg then none else if (8 + v2) < 0 ∨ 31 ≤ (8 + v2).toNatClampNeg then none else cm_let ((if ((upd m_now v2.toNatClampNeg (m_now v1.toNatClampNeg)) (8 + v2).toNatClampNeg) ≤ 0 then 0 else 1) : Int32) (fun j72 => if (8 + v2) < 0 ∨ 31 ≤ (8 + v2).toNatClampNeg then none else some (0, (upd (upd m_now v2.toNatClampNeg (m_now v1.toNatClampNeg)) (8 + v2).toNatClampNeg (((upd m_now v2.toNatClampNeg (m_now v1.toNatClampNeg)) (8 + v2).toNatClampNeg) - j72)))) else some (5, m_now)) else some (4, m_now)))
def rmX11_talk : Room := { frames := 0, cells := 0, slots := 0, locals := 0 }
set_option maxRecDepth 100000 in
set_option maxHeartbeats 4000000 in
theorem c_X11_talk (l : Launch) (D : va_G) (cI cJ cZ : ClassId) (a a_book a_now a_sight a_pad a_digits a_without a_with a_counts a_fewest a_ways a_more a_chooses a_image a_isKept : Nat) (m_sights : Int32) (m_signs : Int32) (m_sold : Int32) (m_markets : Int32) (m_marketAt : Int32) (m_reason : Int32) (m_acts : Int32) (m_now : (Nat → Int32)) (v1 : Int32) (v2 : Int32) (res : Int32 × (Nat → Int32)) (hf : fX11_talk v1 v2 m_now = some res) : Ct l yX11_talk (cm_ws yX11_talk cX11_talk 3 (some .int)) rmX11_talk D (cm_T cI cJ cZ) [.ref a, .int v1, .int v2] [(a, .inr (11, [.ref a_book, .ref a_now, .int m_sights, .ref a_sight, .int m_signs, .ref a_pad, .int m_sold, .int m_markets, .int m_marketAt, .int m_reason, .int m_acts, .ref a_digits, .ref a_without, .ref a_with, .ref a_counts, .ref a_fewest, .ref a_ways, .ref a_more, .ref a_chooses, .ref a_image, .ref a_isKept])), cm_kI cI a_now 31 m_now] (some (.int res.1)) [(a, .inr (11, [.ref a_book, .ref a_now, .int m_sights, .ref a_sight, .int m_signs, .ref a_pad, .int m_sold, .int m_markets, .int m_marketAt, .int m_reason, .int m_acts, .ref a_digits, .ref a_without, .ref a_with, .ref a_counts, .ref a_fewest, .ref a_ways, .ref a_more, .ref a_chooses, .ref a_image, .ref a_isKept])), cm_kI cI a_now 31 res.2] := by
  refine Ct.of (cc := cX11_talk) (maxL := 3) (ret := (some .int)) (by decide) (Nat.le_of_ble_eq_true rfl) ?_
  intro p e s m below meth c ls args A Q hav hAe hQ hx hb hr hml hown hlocks hts hK hP hD hA hS hl
  have hKa := hK.1
  have hl : lv_has ls 3 [(0, .ref a), (1, .int v1), (2, .int v2)] := hl
  unfold fX11_talk at hf
  refine lv_iload_n (pc := 0) hx hb dX11_talk_0 rfl (lv_at hl 1 rfl) ?_
  refine lv_iload_n (pc := 1) hx hb dX11_talk_1 rfl (lv_at hl 2 rfl) ?_
  refine lv_icmp_ne (pc := 2) (tgt := 7) hx hb dX11_talk_2 (by decide) (fun c_2 => ?_) (fun c_2 => ?_)
  · have hf := cm_in c_2 hf
    refine lv_aload_n (pc := 7) hx hb dX11_talk_7 rfl (lv_at hl 0 rfl) ?_
    refine va_get (pc := 8) (D := D) (ci := 11) (v := .ref a_now) (C := RX11) (T := TX11) (N := 21) hx hb hts in_X11 hown hKa hP 0 rfl rfl 1 (by decide) (hts _ tw_713) (fun _ h9 => h9) rfl dX11_talk_8 ?_
    refine lv_iload_n (pc := 11) hx hb dX11_talk_11 rfl (lv_at hl 1 rfl) ?_
    obtain ⟨b_12, hf⟩ := cm_ob hf
    refine va_iald (pc := 12) hx hb hKa hP 1 0 rfl rfl b_12 dX11_talk_12 ?_
    refine lv_if_ge (pc := 13) (tgt := 18) hx hb dX11_talk_13 (by decide) (fun c_13 => ?_) (fun c_13 => ?_)
    · have hf := cm_ip c_13 hf
      refine lv_aload_n (pc := 18) hx hb dX11_talk_18 rfl (lv_at hl 0 rfl) ?_
      refine va_get (pc := 19) (D := D) (ci := 11) (v := .ref a_now) (C := RX11) (T := TX11) (N := 21) hx hb hts in_X11 hown hKa hP 0 rfl rfl 1 (by decide) (hts _ tw_713) (fun _ h9 => h9) rfl dX11_talk_19 ?_
      refine lv_bipush (pc := 22) (v := 8) hx hb dX11_talk_22 (by decide) ?_
      refine lv_iload_n (pc := 24) hx hb dX11_talk_24 rfl (lv_at hl 2 rfl) ?_
      refine lv_iadd (pc := 25) hx hb dX11_talk_25 ?_
      obtain ⟨b_26, hf⟩ := cm_ob hf
      refine va_iald (pc := 26) hx hb hKa hP 1 0 rfl rfl b_26 dX11_talk_26 ?_
      refine lv_aload_n (pc := 27) hx hb dX11_talk_27 rfl (lv_at hl 0 rfl) ?_
      refine va_get (pc := 28) (D := D) (ci := 11) (v := .ref a_now) (C := RX11) (T := TX11) (N := 21) hx hb hts in_X11 hown hKa hP 0 rfl rfl 1 (by decide) (hts _ tw_713) (fun _ h9 => h9) rfl dX11_talk_28 ?_
      refine lv_bipush (pc := 31) (v := 8) hx hb dX11_talk_31 (by decide) ?_
      refine lv_iload_n (pc := 33) hx hb dX11_talk_33 rfl (lv_at hl 1 rfl) ?_
      refine lv_iadd (pc := 34) hx hb dX11_talk_34 ?_
      obtain ⟨b_35, hf⟩ := cm_ob hf
      refine va_iald (pc := 35) hx hb hKa hP 1 0 rfl rfl b_35 dX11_talk_35 ?_
      refine lv_icmp_lt (pc := 36) (tgt := 41) hx hb dX11_talk_36 (by decide) (fun c_36 => ?_) (fun c_36 => ?_)
      · have hf := cm_ip c_36 hf
        refine lv_aload_n (pc := 41) hx hb dX11_talk_41 rfl (lv_at hl 0 rfl) ?_
        refine va_get (pc := 42) (D := D) (ci := 11) (v := .ref a_now) (C := RX11) (T := TX11) (N := 21) hx hb hts in_X11 hown hKa hP 0 rfl rfl 1 (by decide) (hts _ tw_713) (fun _ h9 => h9) rfl dX11_talk_42 ?_
        refine lv_iload_n (pc := 45) hx hb dX11_talk_45 rfl (lv_at hl 2 rfl) ?_
        refine lv_aload_n (pc := 46) hx hb dX11_talk_46 rfl (lv_at hl 0 rfl) ?_
        refine va_get (pc := 47) (D := D) (ci := 11) (v := .ref a_now) (C := RX11) (T := TX11) (N := 21) hx hb hts in_X11 hown hKa hP 0 rfl rfl 1 (by decide) (hts _ tw_713) (fun _ h9 => h9) rfl dX11_talk_47 ?_
        refine lv_iload_n (pc := 50) hx hb dX11_talk_50 rfl (lv_at hl 1 rfl) ?_
        obtain ⟨b_51, hf⟩ := cm_ob hf
        refine va_iald (pc := 51) hx hb hKa hP 1 0 rfl rfl b_51 dX11_talk_51 ?_
        obtain ⟨b_52, hf⟩ := cm_ob hf
        refine va_iast (pc := 52) hx hb hKa hP hD hS 1 0 rfl rfl b_52 dX11_talk_52 (fun H locs hP hD hS => ?_)
        have hP : va_P D vwCl [(a, .inr (11, [.ref a_book, .ref a_now, .int m_sights, .ref a_sight, .int m_signs, .ref a_pad, .int m_sold, .int m_markets, .int m_marketAt, .int m_reason, .int m_acts, .ref a_digits, .ref a_without, .ref a_with, .ref a_counts, .ref a_fewest, .ref a_ways, .ref a_more, .ref a_chooses, .ref a_image, .ref a_isKept])), cm_kI cI a_now 31 (upd m_now v2.toNatClampNeg (m_now v1.toNatClampNeg))] H := hP
        have hD : va_D A [(a, .inr (11, [.ref a_book, .ref a_now, .int m_sights, .ref a_sight, .int m_signs, .ref a_pad, .int m_sold, .int m_markets, .int m_marketAt, .int m_reason, .int m_acts, .ref a_digits, .ref a_without, .ref a_with, .ref a_counts, .ref a_fewest, .ref a_ways, .ref a_more, .ref a_chooses, .ref a_image, .ref a_isKept])), cm_kI cI a_now 31 (upd m_now v2.toNatClampNeg (m_now v1.toNatClampNeg))] := hD
        refine lv_aload_n (pc := 53) hx hb dX11_talk_53 rfl (lv_at hl 0 rfl) ?_
        refine va_get (pc := 54) (D := D) (ci := 11) (v := .ref a_now) (C := RX11) (T := TX11) (N := 21) hx hb hts in_X11 hown hKa hP 0 rfl rfl 1 (by decide) (hts _ tw_713) (fun _ h9 => h9) rfl dX11_talk_54 ?_
        refine lv_bipush (pc := 57) (v := 8) hx hb dX11_talk_57 (by decide) ?_
        refine lv_iload_n (pc := 59) hx hb dX11_talk_59 rfl (lv_at hl 2 rfl) ?_
        refine lv_iadd (pc := 60) hx hb dX11_talk_60 ?_
        refine lv_dup2_11 (pc := 61) hx hb dX11_talk_61 rfl rfl ?_
        obtain ⟨b_62, hf⟩ := cm_ob hf
        refine va_iald (pc := 62) hx hb hKa hP 1 0 rfl rfl b_62 dX11_talk_62 ?_
        refine lv_aload_n (pc := 63) hx hb dX11_talk_63 rfl (lv_at hl 0 rfl) ?_
        refine va_get (pc := 64) (D := D) (ci := 11) (v := .ref a_now) (C := RX11) (T := TX11) (N := 21) hx hb hts in_X11 hown hKa hP 0 rfl rfl 1 (by decide) (hts _ tw_713) (fun _ h9 => h9) rfl dX11_talk_64 ?_
        refine lv_bipush (pc := 67) (v := 8) hx hb dX11_talk_67 (by decide) ?_
        refine lv_iload_n (pc := 69) hx hb dX11_talk_69 rfl (lv_at hl 2 rfl) ?_
        refine lv_iadd (pc := 70) hx hb dX11_talk_70 ?_
        obtain ⟨b_71, hf⟩ := cm_ob hf
        refine va_iald (pc := 71) hx hb hKa hP 1 0 rfl rfl b_71 dX11_talk_71 ?_
        obtain ⟨j72, hj72, hf⟩ := cm_lt hf
        have J72 : ∀ (H : Heap) (locs : List Loc) (ls : Array Slot), va_P D vwCl [(a, .inr (11, [.ref a_book, .ref a_now, .int m_sights, .ref a_sight, .int m_signs, .ref a_pad, .int m_sold, .int m_markets, .int m_marketAt, .int m_reason, .int m_acts, .ref a_digits, .ref a_without, .ref a_with, .ref a_counts, .ref a_fewest, .ref a_ways, .ref a_more, .ref a_chooses, .ref a_image, .ref a_isKept])), cm_kI cI a_now 31 (upd m_now v2.toNatClampNeg (m_now v1.toNatClampNeg))] H → va_D A [(a, .inr (11, [.ref a_book, .ref a_now, .int m_sights, .ref a_sight, .int m_signs, .ref a_pad, .int m_sold, .int m_markets, .int m_marketAt, .int m_reason, .int m_acts, .ref a_digits, .ref a_without, .ref a_with, .ref a_counts, .ref a_fewest, .ref a_ways, .ref a_more, .ref a_chooses, .ref a_image, .ref a_isKept])), cm_kI cI a_now 31 (upd m_now v2.toNatClampNeg (m_now v1.toNatClampNeg))] → va_S A s.heap H locs → lv_has ls 3 [] → W p l e rmX11_talk s m args below meth c H locs 0 0 Q (F0 m 80 ls [.int j72, .int ((upd m_now v2.toNatClampNeg (m_now v1.toNatClampNeg)) (8 + v2).toNatClampNeg), .int (8 + v2), .ref a_now]) := by
          intro H locs ls hP hD hS hl
          refine lv_isub (pc := 80) hx hb dX11_talk_80 ?_
          obtain ⟨b_81, hf⟩ := cm_ob hf
          refine va_iast (pc := 81) hx hb hKa hP hD hS 1 0 rfl rfl b_81 dX11_talk_81 (fun H locs hP hD hS => ?_)
          have hP : va_P D vwCl [(a, .inr (11, [.ref a_book, .ref a_now, .int m_sights, .ref a_sight, .int m_signs, .ref a_pad, .int m_sold, .int m_markets, .int m_marketAt, .int m_reason, .int m_acts, .ref a_digits, .ref a_without, .ref a_with, .ref a_counts, .ref a_fewest, .ref a_ways, .ref a_more, .ref a_chooses, .ref a_image, .ref a_isKept])), cm_kI cI a_now 31 (upd (upd m_now v2.toNatClampNeg (m_now v1.toNatClampNeg)) (8 + v2).toNatClampNeg (((upd m_now v2.toNatClampNeg (m_now v1.toNatClampNeg)) (8 + v2).toNatClampNeg) - j72))] H := hP
          have hD : va_D A [(a, .inr (11, [.ref a_book, .ref a_now, .int m_sights, .ref a_sight, .int m_signs, .ref a_pad, .int m_sold, .int m_markets, .int m_marketAt, .int m_reason, .int m_acts, .ref a_digits, .ref a_without, .ref a_with, .ref a_counts, .ref a_fewest, .ref a_ways, .ref a_more, .ref a_chooses, .ref a_image, .ref a_isKept])), cm_kI cI a_now 31 (upd (upd m_now v2.toNatClampNeg (m_now v1.toNatClampNeg)) (8 + v2).toNatClampNeg (((upd m_now v2.toNatClampNeg (m_now v1.toNatClampNeg)) (8 + v2).toNatClampNeg) - j72))] := hD
          refine lv_iconst (pc := 82) (v := 0) hx hb dX11_talk_82 (by decide) ?_
          obtain rfl := Option.some.inj hf
          exact cm_iret (pc := 83) hAe hQ hx hb hr hlocks hP hD hS [0, 1] (by decide) rfl dX11_talk_83
        clear hf
        have hf := hj72
        refine lv_if_le (pc := 72) (tgt := 79) hx hb dX11_talk_72 (by decide) (fun c_72 => ?_) (fun c_72 => ?_)
        · have hf := cm_ip c_72 hf
          refine lv_iconst (pc := 79) (v := 0) hx hb dX11_talk_79 (by decide) ?_
          obtain rfl := hf
          exact J72 _ _ _ hP hD hS (lv_sub hl [] rfl)
        · have hf := cm_in c_72 hf
          refine lv_iconst (pc := 75) (v := 1) hx hb dX11_talk_75 (by decide) ?_
          refine lv_goto (pc := 76) (tgt := 80) hx hb dX11_talk_76 (by decide) ?_
          obtain rfl := hf
          exact J72 _ _ _ hP hD hS (lv_sub hl [] rfl)
      · have hf := cm_in c_36 hf
        refine lv_iconst (pc := 39) (v := 5) hx hb dX11_talk_39 (by decide) ?_
        obtain rfl := Option.some.inj hf
        exact cm_iret (pc := 40) hAe hQ hx hb hr hlocks hP hD hS [0, 1] (by decide) rfl dX11_talk_40
    · have hf := cm_in c_13 hf
      refine lv_iconst (pc := 16) (v := 4) hx hb dX11_talk_16 (by decide) ?_
      obtain rfl := Option.some.inj hf
      exact cm_iret (pc := 17) hAe hQ hx hb hr hlocks hP hD hS [0, 1] (by decide) rfl dX11_talk_17
  · have hf := cm_ip c_2 hf
    refine lv_iconst (pc := 5) (v := 3) hx hb dX11_talk_5 (by decide) ?_
    obtain rfl := Option.some.inj hf
    exact cm_iret (pc := 6) hAe hQ hx hb hr hlocks hP hD hS [0, 1] (by decide) rfl dX11_talk_6
