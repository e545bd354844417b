def fX10_isOne (v0 : Int32) : Int32 := (if v0 < 0 then 0 else (if 8 ≤ v0 then 0 else 1))
def rmX10_isOne : Room := { frames := 0, cells := 0, slots := 0, locals := 0 }
set_option maxRecDepth 100000 in
set_option maxHeartbeats 4000000 in
theorem c_X10_isOne (l : Launch) (D : va_G) (cI cJ cZ : ClassId) (v0 : Int32) (res : Int32) (hf : fX10_isOne v0 = res) : Ct l yX10_isOne (cm_ws yX10_isOne cX10_isOne 1 (some .boolean)) rmX10_isOne D (cm_T cI cJ cZ) [.int v0] [] (some (.int res)) [] := by
  refine Ct.of (cc := cX10_isOne) (maxL := 1) (ret := (some .boolean)) (by decide) (Nat.le_of_ble_eq_true rfl) ?_
  intro p e s m below meth c ls args A Q hav hAe hQ hx hb hr hml hown hlocks hts hK hP hD hA hS hl
  have hKa := hK.1
  have hl : lv_has ls 1 [(0, .int v0)] := hl
  unfold fX10_isOne at hf
  refine lv_iload_n (pc := 0) hx hb dX10_isOne_0 rfl (lv_at hl 0 rfl) ?_
  refine lv_if_lt (pc := 1) (tgt := 14) hx hb dX10_isOne_1 (by decide) (fun c_1 => ?_) (fun c_1 => ?_)
  · have hf := cm_ip c_1 hf
    refine lv_iconst (pc := 14) (v := 0) hx hb dX10_isOne_14 (by decide) ?_
    obtain rfl := hf
    exact cm_zret (Or.inl rfl) (pc := 15) hAe hQ hx hb hr hlocks hP hD hS [] (by decide) rfl dX10_isOne_15
  · have hf := cm_in c_1 hf
    refine lv_iload_n (pc := 4) hx hb dX10_isOne_4 rfl (lv_at hl 0 rfl) ?_
    refine lv_bipush (pc := 5) (v := 8) hx hb dX10_isOne_5 (by decide) ?_
    refine lv_icmp_ge (pc := 7) (tgt := 14) hx hb dX10_isOne_7 (by decide) (fun c_7 => ?_) (fun c_7 => ?_)
    · have hf := cm_ip c_7 hf
      refine lv_iconst (pc := 14) (v := 0) hx hb dX10_isOne_14 (by decide) ?_
      obtain rfl := hf
      exact cm_zret (Or.inl rfl) (pc := 15) hAe hQ hx hb hr hlocks hP hD hS [] (by decide) rfl dX10_isOne_15
    · have hf := cm_in c_7 hf
      refine lv_iconst (pc := 10) (v := 1) hx hb dX10_isOne_10 (by decide) ?_
      refine lv_goto (pc := 11) (tgt := 15) hx hb dX10_isOne_11 (by decide) ?_
      obtain rfl := hf
      exact cm_zret (Or.inr rfl) (pc := 15) hAe hQ hx hb hr hlocks hP hD hS [] (by decide) rfl dX10_isOne_15
def fX10_isDay (v0 : Int32) : Int32 := (if v0 < 0 then 0 else (if 7 ≤ v0 then 0 else 1))
def rmX10_isDay : Room := { frames := 0, cells := 0, slots := 0, locals := 0 }
set_option maxRecDepth 100000 in
set_option maxHeartbeats 4000000 in
theorem c_X10_isDay (l : Launch) (D : va_G) (cI cJ cZ : ClassId) (v0 : Int32) (res : Int32) (hf : fX10_isDay v0 = res) : Ct l yX10_isDay (cm_ws yX10_isDay cX10_isDay 1 (some .boolean)) rmX10_isDay D (cm_T cI cJ cZ) [.int v0] [] (some (.int res)) [] := by
  refine Ct.of (cc := cX10_isDay) (maxL := 1) (ret := (some .boolean)) (by decide) (Nat.le_of_ble_eq_true rfl) ?_
  intro p e s m below meth c ls args A Q hav hAe hQ hx hb hr hml hown hlocks hts hK hP hD hA hS hl
  have hKa := hK.1
  have hl : lv_has ls 1 [(0, .int v0)] := hl
  unfold fX10_isDay at hf
  refine lv_iload_n (pc := 0) hx hb dX10_isDay_0 rfl (lv_at hl 0 rfl) ?_
  refine lv_if_lt (pc := 1) (tgt := 14) hx hb dX10_isDay_1 (by decide) (fun c_1 => ?_) (fun c_1 => ?_)
  · have hf := cm_ip c_1 hf
    refine lv_iconst (pc := 14) (v := 0) hx hb dX10_isDay_14 (by decide) ?_
    obtain rfl := hf
    exact cm_zret (Or.inl rfl) (pc := 15) hAe hQ hx hb hr hlocks hP hD hS [] (by decide) rfl dX10_isDay_15
  · have hf := cm_in c_1 hf
    refine lv_iload_n (pc := 4) hx hb dX10_isDay_4 rfl (lv_at hl 0 rfl) ?_
    refine lv_bipush (pc := 5) (v := 7) hx hb dX10_isDay_5 (by decide) ?_
    refine lv_icmp_ge (pc := 7) (tgt := 14) hx hb dX10_isDay_7 (by decide) (fun c_7 => ?_) (fun c_7 => ?_)
    · have hf := cm_ip c_7 hf
      refine lv_iconst (pc := 14) (v := 0) hx hb dX10_isDay_14 (by decide) ?_
      obtain rfl := hf
      exact cm_zret (Or.inl rfl) (pc := 15) hAe hQ hx hb hr hlocks hP hD hS [] (by decide) rfl dX10_isDay_15
    · have hf := cm_in c_7 hf
      refine lv_iconst (pc := 10) (v := 1) hx hb dX10_isDay_10 (by decide) ?_
      refine lv_goto (pc := 11) (tgt := 15) hx hb dX10_isDay_11 (by decide) ?_
      obtain rfl := hf
      exact cm_zret (Or.inr rfl) (pc := 15) hAe hQ hx hb hr hlocks hP hD hS [] (by decide) rfl dX10_isDay_15
def fX10_isWithin (v0 : Int32) (v1 : Int32) (v2 : Int32) : Int32 := (if v0 < v1 then 0 else (if v2 < v0 then 0 else 1))
def rmX10_isWithin : Room := { frames := 0, cells := 0, slots := 0, locals := 0 }
set_option maxRecDepth 100000 in
set_option maxHeartbeats 4000000 in
theorem c_X10_isWithin (l : Launch) (D : va_G) (cI cJ cZ : ClassId) (v0 : Int32) (v1 : Int32) (v2 : Int32) (res : Int32) (hf : fX10_isWithin v0 v1 v2 = res) : Ct l yX10_isWithin (cm_ws yX10_isWithin cX10_isWithin 3 (some .boolean)) rmX10_isWithin D (cm_T cI cJ cZ) [.int v0, .int v1, .int v2] [] (some (.int res)) [] := by
  refine Ct.of (cc := cX10_isWithin) (maxL := 3) (ret := (some .boolean)) (by decide) (Nat.le_of_ble_eq_true rfl) ?_
  intro p e s m below meth c ls args A Q hav hAe hQ hx hb hr hml hown hlocks hts hK hP hD hA hS hl
  have hKa := hK.1
  have hl : lv_has ls 3 [(0, .int v0), (1, .int v1), (2, .int v2)] := hl
  unfold fX10_isWithin at hf
  refine lv_iload_n (pc := 0) hx hb dX10_isWithin_0 rfl (lv_at hl 0 rfl) ?_
  refine lv_iload_n (pc := 1) hx hb dX10_isWithin_1 rfl (lv_at hl 1 rfl) ?_
  refine lv_icmp_lt (pc := 2) (tgt := 14) hx hb dX10_isWithin_2 (by decide) (fun c_2 => ?_) (fun c_2 => ?_)
  · have hf := cm_ip c_2 hf
    refine lv_iconst (pc := 14) (v := 0) hx hb dX10_isWithin_14 (by decide) ?_
    obtain rfl := hf
    exact cm_zret (Or.inl rfl) (pc := 15) hAe hQ hx hb hr hlocks hP hD hS [] (by decide) rfl dX10_isWithin_15
  · have hf := cm_in c_2 hf
    refine lv_iload_n (pc := 5) hx hb dX10_isWithin_5 rfl (lv_at hl 0 rfl) ?_
    refine lv_iload_n (pc := 6) hx hb dX10_isWithin_6 rfl (lv_at hl 2 rfl) ?_
    refine lv_icmp_gt (pc := 7) (tgt := 14) hx hb dX10_isWithin_7 (by decide) (fun c_7 => ?_) (fun c_7 => ?_)
    · have hf := cm_ip c_7 hf
      refine lv_iconst (pc := 14) (v := 0) hx hb dX10_isWithin_14 (by decide) ?_
      obtain rfl := hf
      exact cm_zret (Or.inl rfl) (pc := 15) hAe hQ hx hb hr hlocks hP hD hS [] (by decide) rfl dX10_isWithin_15
    · have hf := cm_in c_7 hf
      refine lv_iconst (pc := 10) (v := 1) hx hb dX10_isWithin_10 (by decide) ?_
      refine lv_goto (pc := 11) (tgt := 15) hx hb dX10_isWithin_11 (by decide) ?_
      obtain rfl := hf
      exact cm_zret (Or.inr rfl) (pc := 15) hAe hQ hx hb hr hlocks hP hD hS [] (by decide) rfl dX10_isWithin_15
def fX10_one (v1 : Int32) (v2 : Int32) (v3 : Int32) (v4 : Int32) (now_bo : SBO) : Option (Int32 × SBO) := cm_let (fX10_isOne v1) (fun u1 => (if u1 = 0 then some ((-1), now_bo) else cm_let (fX10_isDay v2) (fun u10 => cm_let ((if u10 = 0 then (if v2 = (-1) then 1 else 0) else 1) : Int32) (fun j13 => (if j13 = 0 then some ((-2), now_bo) else cm_let (fX10_isWithin v3 0 9) (fun u37 => (if u37 = 0 then some ((-2), now_bo) else cm_let (fX10_isWithin v4 0 99) (fun u48 => (if u48 = 0 then some ((-2), now_bo) else if v1 < 0 ∨ 8 ≤ v1.toNatClampNeg then none else if v1 < 0 ∨ 8 ≤ v1.toNatClampNeg then none else if v1 < 0 ∨ 8 ≤ v1.toNatClampNeg then none else if v1 < 0 ∨ 8 ≤ v1.toNatClampNeg then none else if v1 < 0 ∨ 8 ≤ v1.toNatClampNeg then none else some (((100 * (now_bo.2.1 v1.toNatClampNeg)) + (now_bo.2.2.1 v1.toNatClampNeg)), ((upd now_bo.1 v1.toNatClampNeg v2), (upd now_bo.2.1 v1.toNatClampNeg v3), (upd now_bo.2.2.1 v1.toNatClampNeg v4), now_bo.2.2.2.1, now_bo.2.2.2.2.1, now_bo.2.2.2.2.2.1, now_bo.2.2.2.2.2.2.1, now_bo.2.2.2.2.2.2.2.1, now_bo.2.2.2.2.2.2.2.2)))))))))))
def rmX10_one : Room := { frames := 1, cells := 0, slots := 0, locals := 22 }
set_option maxRecDepth 100000 in
set_option maxHeartbeats 4000000 in
theorem c_X10_one (l : Launch) (D : va_G) (cI cJ cZ : ClassId) (a a_now a_pad a_trial a_sights a_im0 a_im1 a_digits a_voters a_trades a_bells a_now_thinks a_now_sure a_now_coin a_now_far a_now_chalk : Nat) (now_bo : SBO) (v1 : Int32) (v2 : Int32) (v3 : Int32) (v4 : Int32) (res : Int32 × SBO) (hf : fX10_one v1 v2 v3 v4 now_bo = some res) : Ct l yX10_one (cm_ws yX10_one cX10_one 7 (some .int)) rmX10_one D (cm_T cI cJ cZ) [.ref a, .int v1, .int v2, .int v3, .int v4] [(a, .inr (10, [.ref a_now, .ref a_pad, .ref a_trial, .ref a_sights, .ref a_im0, .ref a_im1, .ref a_digits, .ref a_voters, .ref a_trades, .ref a_bells])), (a_now, .inr (1, [.ref a_now_thinks, .ref a_now_sure, .ref a_now_coin, .ref a_now_far, .ref a_now_chalk, .int now_bo.2.2.2.2.2.1, .int now_bo.2.2.2.2.2.2.1, .int now_bo.2.2.2.2.2.2.2.1, .int now_bo.2.2.2.2.2.2.2.2])), cm_kI cI a_now_thinks 8 now_bo.1, cm_kI cI a_now_sure 8 now_bo.2.1, cm_kI cI a_now_coin 8 now_bo.2.2.1, cm_kI cI a_now_far 4 now_bo.2.2.2.1, cm_kI cI a_now_chalk 7 now_bo.2.2.2.2.1] (some (.int res.1)) [(a, .inr (10, [.ref a_now, .ref a_pad, .ref a_trial, .ref a_sights, .ref a_im0, .ref a_im1, .ref a_digits, .ref a_voters, .ref a_trades, .ref a_bells])), (a_now, .inr (1, [.ref a_now_thinks, .ref a_now_sure, .ref a_now_coin, .ref a_now_far, .ref a_now_chalk, .int res.2.2.2.2.2.2.1, .int res.2.2.2.2.2.2.2.1, .int res.2.2.2.2.2.2.2.2.1, .int res.2.2.2.2.2.2.2.2.2])), cm_kI cI a_now_thinks 8 res.2.1, cm_kI cI a_now_sure 8 res.2.2.1, cm_kI cI a_now_coin 8 res.2.2.2.1, cm_kI cI a_now_far 4 res.2.2.2.2.1, cm_kI cI a_now_chalk 7 res.2.2.2.2.2.1] := by
  refine Ct.of (cc := cX10_one) (maxL := 7) (ret := (some .int)) (by decide) (Nat.le_of_ble_eq_true rfl) ?_
  intro p e s m below meth c ls args A Q hav hAe hQ hx hb hr hml hown hlocks hts hK hP hD hA hS hl
  have hKa := hK.1
  have hl : lv_has ls 7 [(0, .ref a), (1, .int v1), (2, .int v2), (3, .int v3), (4, .int v4)] := hl
  unfold fX10_one at hf
  refine lv_iload_n (pc := 0) hx hb dX10_one_0 rfl (lv_at hl 1 rfl) ?_
  obtain ⟨u1, hu1, hf⟩ := cm_lt hf
  refine cm_callS (pc := 1) (As := [.int v1]) (rest := []) (wr := [(a, .inr (10, [.ref a_now, .ref a_pad, .ref a_trial, .ref a_sights, .ref a_im0, .ref a_im1, .ref a_digits, .ref a_voters, .ref a_trades, .ref a_bells])), (a_now, .inr (1, [.ref a_now_thinks, .ref a_now_sure, .ref a_now_coin, .ref a_now_far, .ref a_now_chalk, .int now_bo.2.2.2.2.2.1, .int now_bo.2.2.2.2.2.2.1, .int now_bo.2.2.2.2.2.2.2.1, .int now_bo.2.2.2.2.2.2.2.2])), cm_kI cI a_now_thinks 8 now_bo.1, cm_kI cI a_now_sure 8 now_bo.2.1, cm_kI cI a_now_coin 8 now_bo.2.2.1, cm_kI cI a_now_far 4 now_bo.2.2.2.1, cm_kI cI a_now_chalk 7 now_bo.2.2.2.2.1]) (n := 1) hx hb hml hown hts hK hP hD hS hA (c_X10_isOne l D cI cJ cZ v1 u1 hu1) tw_306 tw_304 tw_305 tw_45 rfl rfl (by decide +kernel) rfl ⟨Nat.le_of_ble_eq_true rfl, Nat.le_of_ble_eq_true rfl⟩ [] [0, 1, 2, 3, 4, 5, 6] rfl (by decide) rfl (by decide) (by decide) hl.1 rfl (Nat.le_of_ble_eq_true rfl) dX10_one_1 ⟨Nat.zero_le _, Nat.zero_le _⟩ (fun H locs hP hD hS => ?_)
  have hP : va_P D vwCl [(a, .inr (10, [.ref a_now, .ref a_pad, .ref a_trial, .ref a_sights, .ref a_im0, .ref a_im1, .ref a_digits, .ref a_voters, .ref a_trades, .ref a_bells])), (a_now, .inr (1, [.ref a_now_thinks, .ref a_now_sure, .ref a_now_coin, .ref a_now_far, .ref a_now_chalk, .int now_bo.2.2.2.2.2.1, .int now_bo.2.2.2.2.2.2.1, .int now_bo.2.2.2.2.2.2.2.1, .int now_bo.2.2.2.2.2.2.2.2])), cm_kI cI a_now_thinks 8 now_bo.1, cm_kI cI a_now_sure 8 now_bo.2.1, cm_kI cI a_now_coin 8 now_bo.2.2.1, cm_kI cI a_now_far 4 now_bo.2.2.2.1, cm_kI cI a_now_chalk 7 now_bo.2.2.2.2.1] H := hP
  have hD : va_D A [(a, .inr (10, [.ref a_now, .ref a_pad, .ref a_trial, .ref a_sights, .ref a_im0, .ref a_im1, .ref a_digits, .ref a_voters, .ref a_trades, .ref a_bells])), (a_now, .inr (1, [.ref a_now_thinks, .ref a_now_sure, .ref a_now_coin, .ref a_now_far, .ref a_now_chalk, .int now_bo.2.2.2.2.2.1, .int now_bo.2.2.2.2.2.2.1, .int now_bo.2.2.2.2.2.2.2.1, .int now_bo.2.2.2.2.2.2.2.2])), cm_kI cI a_now_thinks 8 now_bo.1, cm_kI cI a_now_sure 8 now_bo.2.1, cm_kI cI a_now_coin 8 now_bo.2.2.1, cm_kI cI a_now_far 4 now_bo.2.2.2.1, cm_kI cI a_now_chalk 7 now_bo.2.2.2.2.1] := hD
  refine W.eq (g2 := F0 m 4 ls [.int u1]) rfl ?_
  refine lv_if_ne (pc := 4) (tgt := 9) hx hb dX10_one_4 (by decide) (fun c_4 => ?_) (fun c_4 => ?_)
  · have hf := cm_in c_4 hf
    refine lv_iload_n (pc := 9) hx hb dX10_one_9 rfl (lv_at hl 2 rfl) ?_
    obtain ⟨u10, hu10, hf⟩ := cm_lt hf
    refine cm_callS (pc := 10) (As := [.int v2]) (rest := []) (wr := [(a, .inr (10, [.ref a_now, .ref a_pad, .ref a_trial, .ref a_sights, .ref a_im0, .ref a_im1, .ref a_digits, .ref a_voters, .ref a_trades, .ref a_bells])), (a_now, .inr (1, [.ref a_now_thinks, .ref a_now_sure, .ref a_now_coin, .ref a_now_far, .ref a_now_chalk, .int now_bo.2.2.2.2.2.1, .int now_bo.2.2.2.2.2.2.1, .int now_bo.2.2.2.2.2.2.2.1, .int now_bo.2.2.2.2.2.2.2.2])), cm_kI cI a_now_thinks 8 now_bo.1, cm_kI cI a_now_sure 8 now_bo.2.1, cm_kI cI a_now_coin 8 now_bo.2.2.1, cm_kI cI a_now_far 4 now_bo.2.2.2.1, cm_kI cI a_now_chalk 7 now_bo.2.2.2.2.1]) (n := 1) hx hb hml hown hts hK hP hD hS hA (c_X10_isDay l D cI cJ cZ v2 u10 hu10) tw_309 tw_307 tw_308 tw_45 rfl rfl (by decide +kernel) rfl ⟨Nat.le_of_ble_eq_true rfl, Nat.le_of_ble_eq_true rfl⟩ [] [0, 1, 2, 3, 4, 5, 6] rfl (by decide) rfl (by decide) (by decide) hl.1 rfl (Nat.le_of_ble_eq_true rfl) dX10_one_10 ⟨Nat.zero_le _, Nat.zero_le _⟩ (fun H locs hP hD hS => ?_)
    have hP : va_P D vwCl [(a, .inr (10, [.ref a_now, .ref a_pad, .ref a_trial, .ref a_sights, .ref a_im0, .ref a_im1, .ref a_digits, .ref a_voters, .ref a_trades, .ref a_bells])), (a_now, .inr (1, [.ref a_now_thinks, .ref a_now_sure, .ref a_now_coin, .ref a_now_far, .ref a_now_chalk, .int now_bo.2.2.2.2.2.1, .int now_bo.2.2.2.2.2.2.1, .int now_bo.2.2.2.2.2.2.2.1, .int now_bo.2.2.2.2.2.2.2.2])), cm_kI cI a_now_thinks 8 now_bo.1, cm_kI cI a_now_sure 8 now_bo.2.1, cm_kI cI a_now_coin 8 now_bo.2.2.1, cm_kI cI a_now_far 4 now_bo.2.2.2.1, cm_kI cI a_now_chalk 7 now_bo.2.2.2.2.1] H := hP
    have hD : va_D A [(a, .inr (10, [.ref a_now, .ref a_pad, .ref a_trial, .ref a_sights, .ref a_im0, .ref a_im1, .ref a_digits, .ref a_voters, .ref a_trades, .ref a_bells])), (a_now, .inr (1, [.ref a_now_thinks, .ref a_now_sure, .ref a_now_coin, .ref a_now_far, .ref a_now_chalk, .int now_bo.2.2.2.2.2.1, .int now_bo.2.2.2.2.2.2.1, .int now_bo.2.2.2.2.2.2.2.1, .int now_bo.2.2.2.2.2.2.2.2])), cm_kI cI a_now_thinks 8 now_bo.1, cm_kI cI a_now_sure 8 now_bo.2.1, cm_kI cI a_now_coin 8 now_bo.2.2.1, cm_kI cI a_now_far 4 now_bo.2.2.2.1, cm_kI cI a_now_chalk 7 now_bo.2.2.2.2.1] := hD
    refine W.eq (g2 := F0 m 13 ls [.int u10]) rfl ?_
    obtain ⟨j13, hj13, hf⟩ := cm_lt hf
    have J13 : ∀ (H : Heap) (locs : List Loc) (ls : Array Slot), va_P D vwCl [(a, .inr (10, [.ref a_now, .ref a_pad, .ref a_trial, .ref a_sights, .ref a_im0, .ref a_im1, .ref a_digits, .ref a_voters, .ref a_trades, .ref a_bells])), (a_now, .inr (1, [.ref a_now_thinks, .ref a_now_sure, .ref a_now_coin, .ref a_now_far, .ref a_now_chalk, .int now_bo.2.2.2.2.2.1, .int now_bo.2.2.2.2.2.2.1, .int now_bo.2.2.2.2.2.2.2.1, .int now_bo.2.2.2.2.2.2.2.2])), cm_kI cI a_now_thinks 8 now_bo.1, cm_kI cI a_now_sure 8 now_bo.2.1, cm_kI cI a_now_coin 8 now_bo.2.2.1, cm_kI cI a_now_far 4 now_bo.2.2.2.1, cm_kI cI a_now_chalk 7 now_bo.2.2.2.2.1] H → va_D A [(a, .inr (10, [.ref a_now, .ref a_pad, .ref a_trial, .ref a_sights, .ref a_im0, .ref a_im1, .ref a_digits, .ref a_voters, .ref a_trades, .ref a_bells])), (a_now, .inr (1, [.ref a_now_thinks, .ref a_now_sure, .ref a_now_coin, .ref a_now_far, .ref a_now_chalk, .int now_bo.2.2.2.2.2.1, .int now_bo.2.2.2.2.2.2.1, .int now_bo.2.2.2.2.2.2.2.1, .int now_bo.2.2.2.2.2.2.2.2])), cm_kI cI a_now_thinks 8 now_bo.1, cm_kI cI a_now_sure 8 now_bo.2.1, cm_kI cI a_now_coin 8 now_bo.2.2.1, cm_kI cI a_now_far 4 now_bo.2.2.2.1, cm_kI cI a_now_chalk 7 now_bo.2.2.2.2.1] → va_S A s.heap H locs → lv_has ls 7 [(0, .ref a), (1, .int v1), (2, .int v2), (3, .int v3), (4, .int v4)] → W p l e rmX10_one s m args below meth c H locs 0 0 Q (F0 m 26 ls [.int j13]) := by
      intro H locs ls hP hD hS hl
      refine lv_istore (pc := 26) (lv' := [(5, .int j13), (0, .ref a), (1, .int v1), (2, .int v2), (3, .int v3), (4, .int v4)]) hx hb dX10_one_26 hl (by decide) rfl (fun ls hl => ?_)
      refine lv_iload (pc := 28) hx hb dX10_one_28 (lv_at hl 0 rfl) ?_
      refine lv_if_eq (pc := 30) (tgt := 54) hx hb dX10_one_30 (by decide) (fun c_30 => ?_) (fun c_30 => ?_)
      · have hf := cm_ip c_30 hf
        refine lv_bipush (pc := 54) (v := (-2)) hx hb dX10_one_54 (by decide) ?_
        obtain rfl := Option.some.inj hf
        exact cm_iret (pc := 56) hAe hQ hx hb hr hlocks hP hD hS [0, 1, 2, 3, 4, 5, 6] (by decide) rfl dX10_one_56
      · have hf := cm_in c_30 hf
        refine lv_iload_n (pc := 33) hx hb dX10_one_33 rfl (lv_at hl 4 rfl) ?_
        refine lv_iconst (pc := 34) (v := 0) hx hb dX10_one_34 (by decide) ?_
        refine lv_bipush (pc := 35) (v := 9) hx hb dX10_one_35 (by decide) ?_
        obtain ⟨u37, hu37, hf⟩ := cm_lt hf
        refine cm_callS (pc := 37) (As := [.int v3, .int 0, .int 9]) (rest := []) (wr := [(a, .inr (10, [.ref a_now, .ref a_pad, .ref a_trial, .ref a_sights, .ref a_im0, .ref a_im1, .ref a_digits, .ref a_voters, .ref a_trades, .ref a_bells])), (a_now, .inr (1, [.ref a_now_thinks, .ref a_now_sure, .ref a_now_coin, .ref a_now_far, .ref a_now_chalk, .int now_bo.2.2.2.2.2.1, .int now_bo.2.2.2.2.2.2.1, .int now_bo.2.2.2.2.2.2.2.1, .int now_bo.2.2.2.2.2.2.2.2])), cm_kI cI a_now_thinks 8 now_bo.1, cm_kI cI a_now_sure 8 now_bo.2.1, cm_kI cI a_now_coin 8 now_bo.2.2.1, cm_kI cI a_now_far 4 now_bo.2.2.2.1, cm_kI cI a_now_chalk 7 now_bo.2.2.2.2.1]) (n := 3) hx hb hml hown hts hK hP hD hS hA (c_X10_isWithin l D cI cJ cZ v3 0 9 u37 hu37) tw_312 tw_310 tw_311 tw_45 rfl rfl (by decide +kernel) rfl ⟨Nat.le_of_ble_eq_true rfl, Nat.le_of_ble_eq_true rfl⟩ [] [0, 1, 2, 3, 4, 5, 6] rfl (by decide) rfl (by decide) (by decide) hl.1 rfl (Nat.le_of_ble_eq_true rfl) dX10_one_37 ⟨Nat.zero_le _, Nat.zero_le _⟩ (fun H locs hP hD hS => ?_)
        have hP : va_P D vwCl [(a, .inr (10, [.ref a_now, .ref a_pad, .ref a_trial, .ref a_sights, .ref a_im0, .ref a_im1, .ref a_digits, .ref a_voters, .ref a_trades, .ref a_bells])), (a_now, .inr (1, [.ref a_now_thinks, .ref a_now_sure, .ref a_now_coin, .ref a_now_far, .ref a_now_chalk, .int now_bo.2.2.2.2.2.1, .int now_bo.2.2.2.2.2.2.1, .int now_bo.2.2.2.2.2.2.2.1, .int now_bo.2.2.2.2.2.2.2.2])), cm_kI cI a_now_thinks 8 now_bo.1, cm_kI cI a_now_sure 8 now_bo.2.1, cm_kI cI a_now_coin 8 now_bo.2.2.1, cm_kI cI a_now_far 4 now_bo.2.2.2.1, cm_kI cI a_now_chalk 7 now_bo.2.2.2.2.1] H := hP
        have hD : va_D A [(a, .inr (10, [.ref a_now, .ref a_pad, .ref a_trial, .ref a_sights, .ref a_im0, .ref a_im1, .ref a_digits, .ref a_voters, .ref a_trades, .ref a_bells])), (a_now, .inr (1, [.ref a_now_thinks, .ref a_now_sure, .ref a_now_coin, .ref a_now_far, .ref a_now_chalk, .int now_bo.2.2.2.2.2.1, .int now_bo.2.2.2.2.2.2.1, .int now_bo.2.2.2.2.2.2.2.1, .int now_bo.2.2.2.2.2.2.2.2])), cm_kI cI a_now_thinks 8 now_bo.1, cm_kI cI a_now_sure 8 now_bo.2.1, cm_kI cI a_now_coin 8 now_bo.2.2.1, cm_kI cI a_now_far 4 now_bo.2.2.2.1, cm_kI cI a_now_chalk 7 now_bo.2.2.2.2.1] := hD
        refine W.eq (g2 := F0 m 40 ls [.int u37]) rfl ?_
        refine lv_if_eq (pc := 40) (tgt := 54) hx hb dX10_one_40 (by decide) (fun c_40 => ?_) (fun c_40 => ?_)
        · have hf := cm_ip c_40 hf
          refine lv_bipush (pc := 54) (v := (-2)) hx hb dX10_one_54 (by decide) ?_
          obtain rfl := Option.some.inj hf
          exact cm_iret (pc := 56) hAe hQ hx hb hr hlocks hP hD hS [0, 1, 2, 3, 4, 5, 6] (by decide) rfl dX10_one_56
        · have hf := cm_in c_40 hf
          refine lv_iload (pc := 43) hx hb dX10_one_43 (lv_at hl 5 rfl) ?_
          refine lv_iconst (pc := 45) (v := 0) hx hb dX10_one_45 (by decide) ?_
          refine lv_bipush (pc := 46) (v := 99) hx hb dX10_one_46 (by decide) ?_
          obtain ⟨u48, hu48, hf⟩ := cm_lt hf
          refine cm_callS (pc := 48) (As := [.int v4, .int 0, .int 99]) (rest := []) (wr := [(a, .inr (10, [.ref a_now, .ref a_pad, .ref a_trial, .ref a_sights, .ref a_im0, .ref a_im1, .ref a_digits, .ref a_voters, .ref a_trades, .ref a_bells])), (a_now, .inr (1, [.ref a_now_thinks, .ref a_now_sure, .ref a_now_coin, .ref a_now_far, .ref a_now_chalk, .int now_bo.2.2.2.2.2.1, .int now_bo.2.2.2.2.2.2.1, .int now_bo.2.2.2.2.2.2.2.1, .int now_bo.2.2.2.2.2.2.2.2])), cm_kI cI a_now_thinks 8 now_bo.1, cm_kI cI a_now_sure 8 now_bo.2.1, cm_kI cI a_now_coin 8 now_bo.2.2.1, cm_kI cI a_now_far 4 now_bo.2.2.2.1, cm_kI cI a_now_chalk 7 now_bo.2.2.2.2.1]) (n := 3) hx hb hml hown hts hK hP hD hS hA (c_X10_isWithin l D cI cJ cZ v4 0 99 u48 hu48) tw_312 tw_310 tw_311 tw_45 rfl rfl (by decide +kernel) rfl ⟨Nat.le_of_ble_eq_true rfl, Nat.le_of_ble_eq_true rfl⟩ [] [0, 1, 2, 3, 4, 5, 6] rfl (by decide) rfl (by decide) (by decide) hl.1 rfl (Nat.le_of_ble_eq_true rfl) dX10_one_48 ⟨Nat.zero_le _, Nat.zero_le _⟩ (fun H locs hP hD hS => ?_)
          have hP : va_P D vwCl [(a, .inr (10, [.ref a_now, .ref a_pad, .ref a_trial, .ref a_sights, .ref a_im0, .ref a_im1, .ref a_digits, .ref a_voters, .ref a_trades, .ref a_bells])), (a_now, .inr (1, [.ref a_now_thinks, .ref a_now_sure, .ref a_now_coin, .ref a_now_far, .ref a_now_chalk, .int now_bo.2.2.2.2.2.1, .int now_bo.2.2.2.2.2.2.1, .int now_bo.2.2.2.2.2.2.2.1, .int now_bo.2.2.2.2.2.2.2.2])), cm_kI cI a_now_thinks 8 now_bo.1, cm_kI cI a_now_sure 8 now_bo.2.1, cm_kI cI a_now_coin 8 now_bo.2.2.1, cm_kI cI a_now_far 4 now_bo.2.2.2.1, cm_kI cI a_now_chalk 7 now_bo.2.2.2.2.1] H := hP
          have hD : va_D A [(a, .inr (10, [.ref a_now, .ref a_pad, .ref a_trial, .ref a_sights, .ref a_im0, .ref a_im1, .ref a_digits, .ref a_voters, .ref a_trades, .ref a_bells])), (a_now, .inr (1, [.ref a_now_thinks, .ref a_now_sure, .ref a_now_coin, .ref a_now_far, .ref a_now_chalk, .int now_bo.2.2.2.2.2.1, .int now_bo.2.2.2.2.2.2.1, .int now_bo.2.2.2.2.2.2.2.1, .int now_bo.2.2.2.2.2.2.2.2])), cm_kI cI a_now_thinks 8 now_bo.1, cm_kI cI a_now_sure 8 now_bo.2.1, cm_kI cI a_now_coin 8 now_bo.2.2.1, cm_kI cI a_now_far 4 now_bo.2.2.2.1, cm_kI cI a_now_chalk 7 now_bo.2.2.2.2.1] := hD
          refine W.eq (g2 := F0 m 51 ls [.int u48]) rfl ?_
          refine lv_if_ne (pc := 51) (tgt := 57) hx hb dX10_one_51 (by decide) (fun c_51 => ?_) (fun c_51 => ?_)
          · have hf := cm_in c_51 hf
            refine lv_bipush (pc := 57) (v := 100) hx hb dX10_one_57 (by decide) ?_
            refine lv_aload_n (pc := 59) hx hb dX10_one_59 rfl (lv_at hl 1 rfl) ?_
            refine va_get (pc := 60) (D := D) (ci := 10) (v := .ref a_now) (C := RX10) (T := TX10) (N := 10) hx hb hts in_X10 hown hKa hP 0 rfl rfl 0 (by decide) (hts _ tw_269) (fun _ h9 => h9) rfl dX10_one_60 ?_
            refine va_get (pc := 63) (D := D) (ci := 1) (v := .ref a_now_sure) (C := RX1) (T := TX1) (N := 9) hx hb hts in_X1 hown hKa hP 1 rfl rfl 1 (by decide) (hts _ tw_75) (fun _ h9 => h9) rfl dX10_one_63 ?_
            refine lv_iload_n (pc := 66) hx hb dX10_one_66 rfl (lv_at hl 2 rfl) ?_
            obtain ⟨b_67, hf⟩ := cm_ob hf
            refine va_iald (pc := 67) hx hb hKa hP 3 0 rfl rfl b_67 dX10_one_67 ?_
            refine lv_imul (pc := 68) hx hb dX10_one_68 ?_
            refine lv_aload_n (pc := 69) hx hb dX10_one_69 rfl (lv_at hl 1 rfl) ?_
            refine va_get (pc := 70) (D := D) (ci := 10) (v := .ref a_now) (C := RX10) (T := TX10) (N := 10) hx hb hts in_X10 hown hKa hP 0 rfl rfl 0 (by decide) (hts _ tw_269) (fun _ h9 => h9) rfl dX10_one_70 ?_
            refine va_get (pc := 73) (D := D) (ci := 1) (v := .ref a_now_coin) (C := RX1) (T := TX1) (N := 9) hx hb hts in_X1 hown hKa hP 1 rfl rfl 2 (by decide) (hts _ tw_77) (fun _ h9 => h9) rfl dX10_one_73 ?_
            refine lv_iload_n (pc := 76) hx hb dX10_one_76 rfl (lv_at hl 2 rfl) ?_
            obtain ⟨b_77, hf⟩ := cm_ob hf
            refine va_iald (pc := 77) hx hb hKa hP 4 0 rfl rfl b_77 dX10_one_77 ?_
            refine lv_iadd (pc := 78) hx hb dX10_one_78 ?_
            refine lv_istore (pc := 79) (lv' := [(6, .int ((100 * (now_bo.2.1 v1.toNatClampNeg)) + (now_bo.2.2.1 v1.toNatClampNeg))), (5, .int j13), (0, .ref a), (1, .int v1), (2, .int v2), (3, .int v3), (4, .int v4)]) hx hb dX10_one_79 hl (by decide) rfl (fun ls hl => ?_)
            refine lv_aload_n (pc := 81) hx hb dX10_one_81 rfl (lv_at hl 2 rfl) ?_
            refine va_get (pc := 82) (D := D) (ci := 10) (v := .ref a_now) (C := RX10) (T := TX10) (N := 10) hx hb hts in_X10 hown hKa hP 0 rfl rfl 0 (by decide) (hts _ tw_269) (fun _ h9 => h9) rfl dX10_one_82 ?_
            refine va_get (pc := 85) (D := D) (ci := 1) (v := .ref a_now_thinks) (C := RX1) (T := TX1) (N := 9) hx hb hts in_X1 hown hKa hP 1 rfl rfl 0 (by decide) (hts _ tw_73) (fun _ h9 => h9) rfl dX10_one_85 ?_
            refine lv_iload_n (pc := 88) hx hb dX10_one_88 rfl (lv_at hl 3 rfl) ?_
            refine lv_iload_n (pc := 89) hx hb dX10_one_89 rfl (lv_at hl 4 rfl) ?_
            obtain ⟨b_90, hf⟩ := cm_ob hf
            refine va_iast (pc := 90) hx hb hKa hP hD hS 2 0 rfl rfl b_90 dX10_one_90 (fun H locs hP hD hS => ?_)
            have hP : va_P D vwCl [(a, .inr (10, [.ref a_now, .ref a_pad, .ref a_trial, .ref a_sights, .ref a_im0, .ref a_im1, .ref a_digits, .ref a_voters, .ref a_trades, .ref a_bells])), (a_now, .inr (1, [.ref a_now_thinks, .ref a_now_sure, .ref a_now_coin, .ref a_now_far, .ref a_now_chalk, .int now_bo.2.2.2.2.2.1, .int now_bo.2.2.2.2.2.2.1, .int now_bo.2.2.2.2.2.2.2.1, .int now_bo.2.2.2.2.2.2.2.2])), cm_kI cI a_now_thinks 8 (upd now_bo.1 v1.toNatClampNeg v2), cm_kI cI a_now_sure 8 now_bo.2.1, cm_kI cI a_now_coin 8 now_bo.2.2.1, cm_kI cI a_now_far 4 now_bo.2.2.2.1, cm_kI cI a_now_chalk 7 now_bo.2.2.2.2.1] H := hP
            have hD : va_D A [(a, .inr (10, [.ref a_now, .ref a_pad, .ref a_trial, .ref a_sights, .ref a_im0, .ref a_im1, .ref a_digits, .ref a_voters, .ref a_trades, .ref a_bells])), (a_now, .inr (1, [.ref a_now_thinks, .ref a_now_sure, .ref a_now_coin, .ref a_now_far, .ref a_now_chalk, .int now_bo.2.2.2.2.2.1, .int now_bo.2.2.2.2.2.2.1, .int now_bo.2.2.2.2.2.2.2.1, .int now_bo.2.2.2.2.2.2.2.2])), cm_kI cI a_now_thinks 8 (upd now_bo.1 v1.toNatClampNeg v2), cm_kI cI a_now_sure 8 now_bo.2.1, cm_kI cI a_now_coin 8 now_bo.2.2.1, cm_kI cI a_now_far 4 now_bo.2.2.2.1, cm_kI cI a_now_chalk 7 now_bo.2.2.2.2.1] := hD
            refine lv_aload_n (pc := 91) hx hb dX10_one_91 rfl (lv_at hl 2 rfl) ?_
            refine va_get (pc := 92) (D := D) (ci := 10) (v := .ref a_now) (C := RX10) (T := TX10) (N := 10) hx hb hts in_X10 hown hKa hP 0 rfl rfl 0 (by decide) (hts _ tw_269) (fun _ h9 => h9) rfl dX10_one_92 ?_
            refine va_get (pc := 95) (D := D) (ci := 1) (v := .ref a_now_sure) (C := RX1) (T := TX1) (N := 9) hx hb hts in_X1 hown hKa hP 1 rfl rfl 1 (by decide) (hts _ tw_75) (fun _ h9 => h9) rfl dX10_one_95 ?_
            refine lv_iload_n (pc := 98) hx hb dX10_one_98 rfl (lv_at hl 3 rfl) ?_
            refine lv_iload_n (pc := 99) hx hb dX10_one_99 rfl (lv_at hl 5 rfl) ?_
            obtain ⟨b_100, hf⟩ := cm_ob hf
            refine va_iast (pc := 100) hx hb hKa hP hD hS 3 0 rfl rfl b_100 dX10_one_100 (fun H locs hP hD hS => ?_)
            have hP : va_P D vwCl [(a, .inr (10, [.ref a_now, .ref a_pad, .ref a_trial, .ref a_sights, .ref a_im0, .ref a_im1, .ref a_digits, .ref a_voters, .ref a_trades, .ref a_bells])), (a_now, .inr (1, [.ref a_now_thinks, .ref a_now_sure, .ref a_now_coin, .ref a_now_far, .ref a_now_chalk, .int now_bo.2.2.2.2.2.1, .int now_bo.2.2.2.2.2.2.1, .int now_bo.2.2.2.2.2.2.2.1, .int now_bo.2.2.2.2.2.2.2.2])), cm_kI cI a_now_thinks 8 (upd now_bo.1 v1.toNatClampNeg v2), cm_kI cI a_now_sure 8 (upd now_bo.2.1 v1.toNatClampNeg v3), cm_kI cI a_now_coin 8 now_bo.2.2.1, cm_kI cI a_now_far 4 now_bo.2.2.2.1, cm_kI cI a_now_chalk 7 now_bo.2.2.2.2.1] H := hP
            have hD : va_D A [(a, .inr (10, [.ref a_now, .ref a_pad, .ref a_trial, .ref a_sights, .ref a_im0, .ref a_im1, .ref a_digits, .ref a_voters, .ref a_trades, .ref a_bells])), (a_now, .inr (1, [.ref a_now_thinks, .ref a_now_sure, .ref a_now_coin, .ref a_now_far, .ref a_now_chalk, .int now_bo.2.2.2.2.2.1, .int now_bo.2.2.2.2.2.2.1, .int now_bo.2.2.2.2.2.2.2.1, .int now_bo.2.2.2.2.2.2.2.2])), cm_kI cI a_now_thinks 8 (upd now_bo.1 v1.toNatClampNeg v2), cm_kI cI a_now_sure 8 (upd now_bo.2.1 v1.toNatClampNeg v3), cm_kI cI a_now_coin 8 now_bo.2.2.1, cm_kI cI a_now_far 4 now_bo.2.2.2.1, cm_kI cI a_now_chalk 7 now_bo.2.2.2.2.1] := hD
            refine lv_aload_n (pc := 101) hx hb dX10_one_101 rfl (lv_at hl 2 rfl) ?_
            refine va_get (pc := 102) (D := D) (ci := 10) (v := .ref a_now) (C := RX10) (T := TX10) (N := 10) hx hb hts in_X10 hown hKa hP 0 rfl rfl 0 (by decide) (hts _ tw_269) (fun _ h9 => h9) rfl dX10_one_102 ?_
            refine va_get (pc := 105) (D := D) (ci := 1) (v := .ref a_now_coin) (C := RX1) (T := TX1) (N := 9) hx hb hts in_X1 hown hKa hP 1 rfl rfl 2 (by decide) (hts _ tw_77) (fun _ h9 => h9) rfl dX10_one_105 ?_
            refine lv_iload_n (pc := 108) hx hb dX10_one_108 rfl (lv_at hl 3 rfl) ?_
            refine lv_iload (pc := 109) hx hb dX10_one_109 (lv_at hl 6 rfl) ?_
            obtain ⟨b_111, hf⟩ := cm_ob hf
            refine va_iast (pc := 111) hx hb hKa hP hD hS 4 0 rfl rfl b_111 dX10_one_111 (fun H locs hP hD hS => ?_)
            have hP : va_P D vwCl [(a, .inr (10, [.ref a_now, .ref a_pad, .ref a_trial, .ref a_sights, .ref a_im0, .ref a_im1, .ref a_digits, .ref a_voters, .ref a_trades, .ref a_bells])), (a_now, .inr (1, [.ref a_now_thinks, .ref a_now_sure, .ref a_now_coin, .ref a_now_far, .ref a_now_chalk, .int now_bo.2.2.2.2.2.1, .int now_bo.2.2.2.2.2.2.1, .int now_bo.2.2.2.2.2.2.2.1, .int now_bo.2.2.2.2.2.2.2.2])), cm_kI cI a_now_thinks 8 (upd now_bo.1 v1.toNatClampNeg v2), cm_kI cI a_now_sure 8 (upd now_bo.2.1 v1.toNatClampNeg v3), cm_kI cI a_now_coin 8 (upd now_bo.2.2.1 v1.toNatClampNeg v4), cm_kI cI a_now_far 4 now_bo.2.2.2.1, cm_kI cI a_now_chalk 7 now_bo.2.2.2.2.1] H := hP
            have hD : va_D A [(a, .inr (10, [.ref a_now, .ref a_pad, .ref a_trial, .ref a_sights, .ref a_im0, .ref a_im1, .ref a_digits, .ref a_voters, .ref a_trades, .ref a_bells])), (a_now, .inr (1, [.ref a_now_thinks, .ref a_now_sure, .ref a_now_coin, .ref a_now_far, .ref a_now_chalk, .int now_bo.2.2.2.2.2.1, .int now_bo.2.2.2.2.2.2.1, .int now_bo.2.2.2.2.2.2.2.1, .int now_bo.2.2.2.2.2.2.2.2])), cm_kI cI a_now_thinks 8 (upd now_bo.1 v1.toNatClampNeg v2), cm_kI cI a_now_sure 8 (upd now_bo.2.1 v1.toNatClampNeg v3), cm_kI cI a_now_coin 8 (upd now_bo.2.2.1 v1.toNatClampNeg v4), cm_kI cI a_now_far 4 now_bo.2.2.2.1, cm_kI cI a_now_chalk 7 now_bo.2.2.2.2.1] := hD
            refine lv_iload (pc := 112) hx hb dX10_one_112 (lv_at hl 0 rfl) ?_
            obtain rfl := Option.some.inj hf
            exact cm_iret (pc := 114) hAe hQ hx hb hr hlocks hP hD hS [0, 1, 2, 3, 4, 5, 6] (by decide) rfl dX10_one_114
          · have hf := cm_ip c_51 hf
            refine lv_bipush (pc := 54) (v := (-2)) hx hb dX10_one_54 (by decide) ?_
            obtain rfl := Option.some.inj hf
            exact cm_iret (pc := 56) hAe hQ hx hb hr hlocks hP hD hS [0, 1, 2, 3, 4, 5, 6] (by decide) rfl dX10_one_56
    clear hf
    have hf := hj13
    refine lv_if_ne (pc := 13) (tgt := 21) hx hb dX10_one_13 (by decide) (fun c_13 => ?_) (fun c_13 => ?_)
    · have hf := cm_in c_13 hf
      refine lv_iconst (pc := 21) (v := 1) hx hb dX10_one_21 (by decide) ?_
      refine lv_goto (pc := 22) (tgt := 26) hx hb dX10_one_22 (by decide) ?_
      obtain rfl := hf
      exact J13 _ _ _ hP hD hS (lv_sub hl [0, 1, 2, 3, 4] rfl)
    · have hf := cm_ip c_13 hf
      refine lv_iload_n (pc := 16) hx hb dX10_one_16 rfl (lv_at hl 2 rfl) ?_
      refine lv_iconst (pc := 17) (v := (-1)) hx hb dX10_one_17 (by decide) ?_
      refine lv_icmp_ne (pc := 18) (tgt := 25) hx hb dX10_one_18 (by decide) (fun c_18 => ?_) (fun c_18 => ?_)
      · have hf := cm_in c_18 hf
        refine lv_iconst (pc := 25) (v := 0) hx hb dX10_one_25 (by decide) ?_
        obtain rfl := hf
        exact J13 _ _ _ hP hD hS (lv_sub hl [0, 1, 2, 3, 4] rfl)
      · have hf := cm_ip c_18 hf
        refine lv_iconst (pc := 21) (v := 1) hx hb dX10_one_21 (by decide) ?_
        refine lv_goto (pc := 22) (tgt := 26) hx hb dX10_one_22 (by decide) ?_
        obtain rfl := hf
        exact J13 _ _ _ hP hD hS (lv_sub hl [0, 1, 2, 3, 4] rfl)
  · have hf := cm_ip c_4 hf
    refine lv_iconst (pc := 7) (v := (-1)) hx hb dX10_one_7 (by decide) ?_
    obtain rfl := Option.some.inj hf
    exact cm_iret (pc := 8) hAe hQ hx hb hr hlocks hP hD hS [0, 1, 2, 3, 4, 5, 6] (by decide) rfl dX10_one_8
def fX10_isCart (v0 : Int32) : Int32 := (if v0 < 0 then 0 else (if 4 ≤ v0 then 0 else 1))
def rmX10_isCart : Room := { frames := 0, cells := 0, slots := 0, locals := 0 }
set_option maxRecDepth 100000 in
set_option maxHeartbeats 4000000 in
theorem c_X10_isCart (l : Launch) (D : va_G) (cI cJ cZ : ClassId) (v0 : Int32) (res : Int32) (hf : fX10_isCart v0 = res) : Ct l yX10_isCart (cm_ws yX10_isCart cX10_isCart 1 (some .boolean)) rmX10_isCart D (cm_T cI cJ cZ) [.int v0] [] (some (.int res)) [] := by
  refine Ct.of (cc := cX10_isCart) (maxL := 1) (ret := (some .boolean)) (by decide) (Nat.le_of_ble_eq_true rfl) ?_
  intro p e s m below meth c ls args A Q hav hAe hQ hx hb hr hml hown hlocks hts hK hP hD hA hS hl
  have hKa := hK.1
  have hl : lv_has ls 1 [(0, .int v0)] := hl
  unfold fX10_isCart at hf
  refine lv_iload_n (pc := 0) hx hb dX10_isCart_0 rfl (lv_at hl 0 rfl) ?_
  refine lv_if_lt (pc := 1) (tgt := 13) hx hb dX10_isCart_1 (by decide) (fun c_1 => ?_) (fun c_1 => ?_)
  · have hf := cm_ip c_1 hf
    refine lv_iconst (pc := 13) (v := 0) hx hb dX10_isCart_13 (by decide) ?_
    obtain rfl := hf
    exact cm_zret (Or.inl rfl) (pc := 14) hAe hQ hx hb hr hlocks hP hD hS [] (by decide) rfl dX10_isCart_14
  · have hf := cm_in c_1 hf
    refine lv_iload_n (pc := 4) hx hb dX10_isCart_4 rfl (lv_at hl 0 rfl) ?_
    refine lv_iconst (pc := 5) (v := 4) hx hb dX10_isCart_5 (by decide) ?_
    refine lv_icmp_ge (pc := 6) (tgt := 13) hx hb dX10_isCart_6 (by decide) (fun c_6 => ?_) (fun c_6 => ?_)
    · have hf := cm_ip c_6 hf
      refine lv_iconst (pc := 13) (v := 0) hx hb dX10_isCart_13 (by decide) ?_
      obtain rfl := hf
      exact cm_zret (Or.inl rfl) (pc := 14) hAe hQ hx hb hr hlocks hP hD hS [] (by decide) rfl dX10_isCart_14
    · have hf := cm_in c_6 hf
      refine lv_iconst (pc := 9) (v := 1) hx hb dX10_isCart_9 (by decide) ?_
      refine lv_goto (pc := 10) (tgt := 14) hx hb dX10_isCart_10 (by decide) ?_
      obtain rfl := hf
      exact cm_zret (Or.inr rfl) (pc := 14) hAe hQ hx hb hr hlocks hP hD hS [] (by decide) rfl dX10_isCart_14
def fX10_cart (v1 : Int32) (v2 : Int32) (now_bo : SBO) : Option (Int32 × SBO) := cm_let (fX10_isCart v1) (fun u1 => (if u1 = 0 then some ((-1), now_bo) else cm_let (fX10_isWithin v2 0 9) (fun u13 => (if u13 = 0 then some ((-2), now_bo) else if v1 < 0 ∨ 4 ≤ v1.toNatClampNeg then none else if v1 < 0 ∨ 4 ≤ v1.toNatClampNeg then none else some ((now_bo.2.2.2.1 v1.toNatClampNeg), (now_bo.1, now_bo.2.1, now_bo.2.2.1, (upd now_bo.2.2.2.1 v1.toNatClampNeg v2), now_bo.2.2.2.2.1, now_bo.2.2.2.2.2.1, now_bo.2.2.2.2.2.2.1, now_bo.2.2.2.2.2.2.2.1, now_bo.2.2.2.2.2.2.2.2))))))
def rmX10_cart : Room := { frames := 1, cells := 0, slots := 0, locals := 22 }
set_option maxRecDepth 100000 in
set_option maxHeartbeats 4000000 in
theorem c_X10_cart (l : Launch) (D : va_G) (cI cJ cZ : ClassId) (a a_now a_pad a_trial a_sights a_im0 a_im1 a_digits a_voters a_trades a_bells a_now_thinks a_now_sure a_now_coin a_now_far a_now_chalk : Nat) (now_bo : SBO) (v1 : Int32) (v2 : Int32) (res : Int32 × SBO) (hf : fX10_cart v1 v2 now_bo = some res) : Ct l yX10_cart (cm_ws yX10_cart cX10_cart 4 (some .int)) rmX10_cart D (cm_T cI cJ cZ) [.ref a, .int v1, .int v2] [(a, .inr (10, [.ref a_now, .ref a_pad, .ref a_trial, .ref a_sights, .ref a_im0, .ref a_im1, .ref a_digits, .ref a_voters, .ref a_trades, .ref a_bells])), (a_now, .inr (1, [.ref a_now_thinks, .ref a_now_sure, .ref a_now_coin, .ref a_now_far, .ref a_now_chalk, .int now_bo.2.2.2.2.2.1, .int now_bo.2.2.2.2.2.2.1, .int now_bo.2.2.2.2.2.2.2.1, .int now_bo.2.2.2.2.2.2.2.2])), cm_kI cI a_now_thinks 8 now_bo.1, cm_kI cI a_now_sure 8 now_bo.2.1, cm_kI cI a_now_coin 8 now_bo.2.2.1, cm_kI cI a_now_far 4 now_bo.2.2.2.1, cm_kI cI a_now_chalk 7 now_bo.2.2.2.2.1] (some (.int res.1)) [(a, .inr (10, [.ref a_now, .ref a_pad, .ref a_trial, .ref a_sights, .ref a_im0, .ref a_im1, .ref a_digits, .ref a_voters, .ref a_trades, .ref a_bells])), (a_now, .inr (1, [.ref a_now_thinks, .ref a_now_sure, .ref a_now_coin, .ref a_now_far, .ref a_now_chalk, .int res.2.2.2.2.2.2.1, .int res.2.2.2.2.2.2.2.1, .int res.2.2.2.2.2.2.2.2.1, .int res.2.2.2.2.2.2.2.2.2])), cm_kI cI a_now_thinks 8 res.2.1, cm_kI cI a_now_sure 8 res.2.2.1, cm_kI cI a_now_coin 8 res.2.2.2.1, cm_kI cI a_now_far 4 res.2.2.2.2.1, cm_kI cI a_now_chalk 7 res.2.2.2.2.2.1] := by
  refine Ct.of (cc := cX10_cart) (maxL := 4) (ret := (some .int)) (by decide) (Nat.le_of_ble_eq_true rfl) ?_
  intro p e s m below meth c ls args A Q hav hAe hQ hx hb hr hml hown hlocks hts hK hP hD hA hS hl
  have hKa := hK.1
  have hl : lv_has ls 4 [(0, .ref a), (1, .int v1), (2, .int v2)] := hl
  unfold fX10_cart at hf
  refine lv_iload_n (pc := 0) hx hb dX10_cart_0 rfl (lv_at hl 1 rfl) ?_
  obtain ⟨u1, hu1, hf⟩ := cm_lt hf
  refine cm_callS (pc := 1) (As := [.int v1]) (rest := []) (wr := [(a, .inr (10, [.ref a_now, .ref a_pad, .ref a_trial, .ref a_sights, .ref a_im0, .ref a_im1, .ref a_digits, .ref a_voters, .ref a_trades, .ref a_bells])), (a_now, .inr (1, [.ref a_now_thinks, .ref a_now_sure, .ref a_now_coin, .ref a_now_far, .ref a_now_chalk, .int now_bo.2.2.2.2.2.1, .int now_bo.2.2.2.2.2.2.1, .int now_bo.2.2.2.2.2.2.2.1, .int now_bo.2.2.2.2.2.2.2.2])), cm_kI cI a_now_thinks 8 now_bo.1, cm_kI cI a_now_sure 8 now_bo.2.1, cm_kI cI a_now_coin 8 now_bo.2.2.1, cm_kI cI a_now_far 4 now_bo.2.2.2.1, cm_kI cI a_now_chalk 7 now_bo.2.2.2.2.1]) (n := 1) hx hb hml hown hts hK hP hD hS hA (c_X10_isCart l D cI cJ cZ v1 u1 hu1) tw_319 tw_317 tw_318 tw_45 rfl rfl (by decide +kernel) rfl ⟨Nat.le_of_ble_eq_true rfl, Nat.le_of_ble_eq_true rfl⟩ [] [0, 1, 2, 3, 4, 5, 6] rfl (by decide) rfl (by decide) (by decide) hl.1 rfl (Nat.le_of_ble_eq_true rfl) dX10_cart_1 ⟨Nat.zero_le _, Nat.zero_le _⟩ (fun H locs hP hD hS => ?_)
  have hP : va_P D vwCl [(a, .inr (10, [.ref a_now, .ref a_pad, .ref a_trial, .ref a_sights, .ref a_im0, .ref a_im1, .ref a_digits, .ref a_voters, .ref a_trades, .ref a_bells])), (a_now, .inr (1, [.ref a_now_thinks, .ref a_now_sure, .ref a_now_coin, .ref a_now_far, .ref a_now_chalk, .int now_bo.2.2.2.2.2.1, .int now_bo.2.2.2.2.2.2.1, .int now_bo.2.2.2.2.2.2.2.1, .int now_bo.2.2.2.2.2.2.2.2])), cm_kI cI a_now_thinks 8 now_bo.1, cm_kI cI a_now_sure 8 now_bo.2.1, cm_kI cI a_now_coin 8 now_bo.2.2.1, cm_kI cI a_now_far 4 now_bo.2.2.2.1, cm_kI cI a_now_chalk 7 now_bo.2.2.2.2.1] H := hP
  have hD : va_D A [(a, .inr (10, [.ref a_now, .ref a_pad, .ref a_trial, .ref a_sights, .ref a_im0, .ref a_im1, .ref a_digits, .ref a_voters, .ref a_trades, .ref a_bells])), (a_now, .inr (1, [.ref a_now_thinks, .ref a_now_sure, .ref a_now_coin, .ref a_now_far, .ref a_now_chalk, .int now_bo.2.2.2.2.2.1, .int now_bo.2.2.2.2.2.2.1, .int now_bo.2.2.2.2.2.2.2.1, .int now_bo.2.2.2.2.2.2.2.2])), cm_kI cI a_now_thinks 8 now_bo.1, cm_kI cI a_now_sure 8 now_bo.2.1, cm_kI cI a_now_coin 8 now_bo.2.2.1, cm_kI cI a_now_far 4 now_bo.2.2.2.1, cm_kI cI a_now_chalk 7 now_bo.2.2.2.2.1] := hD
  refine W.eq (g2 := F0 m 4 ls [.int u1]) rfl ?_
  refine lv_if_ne (pc := 4) (tgt := 9) hx hb dX10_cart_4 (by decide) (fun c_4 => ?_) (fun c_4 => ?_)
  · have hf := cm_in c_4 hf
    refine lv_iload_n (pc := 9) hx hb dX10_cart_9 rfl (lv_at hl 2 rfl) ?_
    refine lv_iconst (pc := 10) (v := 0) hx hb dX10_cart_10 (by decide) ?_
    refine lv_bipush (pc := 11) (v := 9) hx hb dX10_cart_11 (by decide) ?_
    obtain ⟨u13, hu13, hf⟩ := cm_lt hf
    refine cm_callS (pc := 13) (As := [.int v2, .int 0, .int 9]) (rest := []) (wr := [(a, .inr (10, [.ref a_now, .ref a_pad, .ref a_trial, .ref a_sights, .ref a_im0, .ref a_im1, .ref a_digits, .ref a_voters, .ref a_trades, .ref a_bells])), (a_now, .inr (1, [.ref a_now_thinks, .ref a_now_sure, .ref a_now_coin, .ref a_now_far, .ref a_now_chalk, .int now_bo.2.2.2.2.2.1, .int now_bo.2.2.2.2.2.2.1, .int now_bo.2.2.2.2.2.2.2.1, .int now_bo.2.2.2.2.2.2.2.2])), cm_kI cI a_now_thinks 8 now_bo.1, cm_kI cI a_now_sure 8 now_bo.2.1, cm_kI cI a_now_coin 8 now_bo.2.2.1, cm_kI cI a_now_far 4 now_bo.2.2.2.1, cm_kI cI a_now_chalk 7 now_bo.2.2.2.2.1]) (n := 3) hx hb hml hown hts hK hP hD hS hA (c_X10_isWithin l D cI cJ cZ v2 0 9 u13 hu13) tw_312 tw_310 tw_311 tw_45 rfl rfl (by decide +kernel) rfl ⟨Nat.le_of_ble_eq_true rfl, Nat.le_of_ble_eq_true rfl⟩ [] [0, 1, 2, 3, 4, 5, 6] rfl (by decide) rfl (by decide) (by decide) hl.1 rfl (Nat.le_of_ble_eq_true rfl) dX10_cart_13 ⟨Nat.zero_le _, Nat.zero_le _⟩ (fun H locs hP hD hS => ?_)
    have hP : va_P D vwCl [(a, .inr (10, [.ref a_now, .ref a_pad, .ref a_trial, .ref a_sights, .ref a_im0, .ref a_im1, .ref a_digits, .ref a_voters, .ref a_trades, .ref a_bells])), (a_now, .inr (1, [.ref a_now_thinks, .ref a_now_sure, .ref a_now_coin, .ref a_now_far, .ref a_now_chalk, .int now_bo.2.2.2.2.2.1, .int now_bo.2.2.2.2.2.2.1, .int now_bo.2.2.2.2.2.2.2.1, .int now_bo.2.2.2.2.2.2.2.2])), cm_kI cI a_now_thinks 8 now_bo.1, cm_kI cI a_now_sure 8 now_bo.2.1, cm_kI cI a_now_coin 8 now_bo.2.2.1, cm_kI cI a_now_far 4 now_bo.2.2.2.1, cm_kI cI a_now_chalk 7 now_bo.2.2.2.2.1] H := hP
    have hD : va_D A [(a, .inr (10, [.ref a_now, .ref a_pad, .ref a_trial, .ref a_sights, .ref a_im0, .ref a_im1, .ref a_digits, .ref a_voters, .ref a_trades, .ref a_bells])), (a_now, .inr (1, [.ref a_now_thinks, .ref a_now_sure, .ref a_now_coin, .ref a_now_far, .ref a_now_chalk, .int now_bo.2.2.2.2.2.1, .int now_bo.2.2.2.2.2.2.1, .int now_bo.2.2.2.2.2.2.2.1, .int now_bo.2.2.2.2.2.2.2.2])), cm_kI cI a_now_thinks 8 now_bo.1, cm_kI cI a_now_sure 8 now_bo.2.1, cm_kI cI a_now_coin 8 now_bo.2.2.1, cm_kI cI a_now_far 4 now_bo.2.2.2.1, cm_kI cI a_now_chalk 7 now_bo.2.2.2.2.1] := hD
    refine W.eq (g2 := F0 m 16 ls [.int u13]) rfl ?_
    refine lv_if_ne (pc := 16) (tgt := 22) hx hb dX10_cart_16 (by decide) (fun c_16 => ?_) (fun c_16 => ?_)
    · have hf := cm_in c_16 hf
      refine lv_aload_n (pc := 22) hx hb dX10_cart_22 rfl (lv_at hl 0 rfl) ?_
      refine va_get (pc := 23) (D := D) (ci := 10) (v := .ref a_now) (C := RX10) (T := TX10) (N := 10) hx hb hts in_X10 hown hKa hP 0 rfl rfl 0 (by decide) (hts _ tw_269) (fun _ h9 => h9) rfl dX10_cart_23 ?_
      refine va_get (pc := 26) (D := D) (ci := 1) (v := .ref a_now_far) (C := RX1) (T := TX1) (N := 9) hx hb hts in_X1 hown hKa hP 1 rfl rfl 3 (by decide) (hts _ tw_79) (fun _ h9 => h9) rfl dX10_cart_26 ?_
      refine lv_iload_n (pc := 29) hx hb dX10_cart_29 rfl (lv_at hl 1 rfl) ?_
      obtain ⟨b_30, hf⟩ := cm_ob hf
      refine va_iald (pc := 30) hx hb hKa hP 5 0 rfl rfl b_30 dX10_cart_30 ?_
      refine lv_istore_n (pc := 31) (lv' := [(3, .int (now_bo.2.2.2.1 v1.toNatClampNeg)), (0, .ref a), (1, .int v1), (2, .int v2)]) hx hb dX10_cart_31 rfl hl (by decide) rfl (fun ls hl => ?_)
      refine lv_aload_n (pc := 32) hx hb dX10_cart_32 rfl (lv_at hl 1 rfl) ?_
      refine va_get (pc := 33) (D := D) (ci := 10) (v := .ref a_now) (C := RX10) (T := TX10) (N := 10) hx hb hts in_X10 hown hKa hP 0 rfl rfl 0 (by decide) (hts _ tw_269) (fun _ h9 => h9) rfl dX10_cart_33 ?_
      refine va_get (pc := 36) (D := D) (ci := 1) (v := .ref a_now_far) (C := RX1) (T := TX1) (N := 9) hx hb hts in_X1 hown hKa hP 1 rfl rfl 3 (by decide) (hts _ tw_79) (fun _ h9 => h9) rfl dX10_cart_36 ?_
      refine lv_iload_n (pc := 39) hx hb dX10_cart_39 rfl (lv_at hl 2 rfl) ?_
      refine lv_iload_n (pc := 40) hx hb dX10_cart_40 rfl (lv_at hl 3 rfl) ?_
      obtain ⟨b_41, hf⟩ := cm_ob hf
      refine va_iast (pc := 41) hx hb hKa hP hD hS 5 0 rfl rfl b_41 dX10_cart_41 (fun H locs hP hD hS => ?_)
      have hP : va_P D vwCl [(a, .inr (10, [.ref a_now, .ref a_pad, .ref a_trial, .ref a_sights, .ref a_im0, .ref a_im1, .ref a_digits, .ref a_voters, .ref a_trades, .ref a_bells])), (a_now, .inr (1, [.ref a_now_thinks, .ref a_now_sure, .ref a_now_coin, .ref a_now_far, .ref a_now_chalk, .int now_bo.2.2.2.2.2.1, .int now_bo.2.2.2.2.2.2.1, .int now_bo.2.2.2.2.2.2.2.1, .int now_bo.2.2.2.2.2.2.2.2])), cm_kI cI a_now_thinks 8 now_bo.1, cm_kI cI a_now_sure 8 now_bo.2.1, cm_kI cI a_now_coin 8 now_bo.2.2.1, cm_kI cI a_now_far 4 (upd now_bo.2.2.2.1 v1.toNatClampNeg v2), cm_kI cI a_now_chalk 7 now_bo.2.2.2.2.1] H := hP
      have hD : va_D A [(a, .inr (10, [.ref a_now, .ref a_pad, .ref a_trial, .ref a_sights, .ref a_im0, .ref a_im1, .ref a_digits, .ref a_voters, .ref a_trades, .ref a_bells])), (a_now, .inr (1, [.ref a_now_thinks, .ref a_now_sure, .ref a_now_coin, .ref a_now_far, .ref a_now_chalk, .int now_bo.2.2.2.2.2.1, .int now_bo.2.2.2.2.2.2.1, .int now_bo.2.2.2.2.2.2.2.1, .int now_bo.2.2.2.2.2.2.2.2])), cm_kI cI a_now_thinks 8 now_bo.1, cm_kI cI a_now_sure 8 now_bo.2.1, cm_kI cI a_now_coin 8 now_bo.2.2.1, cm_kI cI a_now_far 4 (upd now_bo.2.2.2.1 v1.toNatClampNeg v2), cm_kI cI a_now_chalk 7 now_bo.2.2.2.2.1] := hD
      refine lv_iload_n (pc := 42) hx hb dX10_cart_42 rfl (lv_at hl 0 rfl) ?_
      obtain rfl := Option.some.inj hf
      exact cm_iret (pc := 43) hAe hQ hx hb hr hlocks hP hD hS [0, 1, 2, 3, 4, 5, 6] (by decide) rfl dX10_cart_43
    · have hf := cm_ip c_16 hf
      refine lv_bipush (pc := 19) (v := (-2)) hx hb dX10_cart_19 (by decide) ?_
      obtain rfl := Option.some.inj hf
      exact cm_iret (pc := 21) hAe hQ hx hb hr hlocks hP hD hS [0, 1, 2, 3, 4, 5, 6] (by decide) rfl dX10_cart_21
  · have hf := cm_ip c_4 hf
    refine lv_iconst (pc := 7) (v := (-1)) hx hb dX10_cart_7 (by decide) ?_
    obtain rfl := Option.some.inj hf
    exact cm_iret (pc := 8) hAe hQ hx hb hr hlocks hP hD hS [0, 1, 2, 3, 4, 5, 6] (by decide) rfl dX10_cart_8
def fX10_day (v1 : Int32) (now_bo : SBO) : Int32 × SBO := cm_let (fX10_isDay v1) (fun u1 => (if u1 = 0 then ((-2), now_bo) else (now_bo.2.2.2.2.2.1, (now_bo.1, now_bo.2.1, now_bo.2.2.1, now_bo.2.2.2.1, now_bo.2.2.2.2.1, v1, now_bo.2.2.2.2.2.2.1, now_bo.2.2.2.2.2.2.2.1, now_bo.2.2.2.2.2.2.2.2))))
def rmX10_day : Room := { frames := 1, cells := 0, slots := 0, locals := 20 }
set_option maxRecDepth 100000 in
set_option maxHeartbeats 4000000 in
theorem c_X10_day (l : Launch) (D : va_G) (cI cJ cZ : ClassId) (a a_now a_pad a_trial a_sights a_im0 a_im1 a_digits a_voters a_trades a_bells a_now_thinks a_now_sure a_now_coin a_now_far a_now_chalk : Nat) (now_bo : SBO) (v1 : Int32) (res : Int32 × SBO) (hf : fX10_day v1 now_bo = res) : Ct l yX10_day (cm_ws yX10_day cX10_day 3 (some .int)) rmX10_day D (cm_T cI cJ cZ) [.ref a, .int v1] [(a, .inr (10, [.ref a_now, .ref a_pad, .ref a_trial, .ref a_sights, .ref a_im0, .ref a_im1, .ref a_digits, .ref a_voters, .ref a_trades, .ref a_bells])), (a_now, .inr (1, [.ref a_now_thinks, .ref a_now_sure, .ref a_now_coin, .ref a_now_far, .ref a_now_chalk, .int now_bo.2.2.2.2.2.1, .int now_bo.2.2.2.2.2.2.1, .int now_bo.2.2.2.2.2.2.2.1, .int now_bo.2.2.2.2.2.2.2.2])), cm_kI cI a_now_thinks 8 now_bo.1, cm_kI cI a_now_sure 8 now_bo.2.1, cm_kI cI a_now_coin 8 now_bo.2.2.1, cm_kI cI a_now_far 4 now_bo.2.2.2.1, cm_kI cI a_now_chalk 7 now_bo.2.2.2.2.1] (some (.int res.1)) [(a, .inr (10, [.ref a_now, .ref a_pad, .ref a_trial, .ref a_sights, .ref a_im0, .ref a_im1, .ref a_digits, .ref a_voters, .ref a_trades, .ref a_bells])), (a_now, .inr (1, [.ref a_now_thinks, .ref a_now_sure, .ref a_now_coin, .ref a_now_far, .ref a_now_chalk, .int res.2.2.2.2.2.2.1, .int res.2.2.2.2.2.2.2.1, .int res.2.2.2.2.2.2.2.2.1, .int res.2.2.2.2.2.2.2.2.2])), cm_kI cI a_now_thinks 8 res.2.1, cm_kI cI a_now_sure 8 res.2.2.1, cm_kI cI a_now_coin 8 res.2.2.2.1, cm_kI cI a_now_far 4 res.2.2.2.2.1, cm_kI cI a_now_chalk 7 res.2.2.2.2.2.1] := by
  refine Ct.of (cc := cX10_day) (maxL := 3) (ret := (some .int)) (by decide) (Nat.le_of_ble_eq_true rfl) ?_
  intro p e s m below meth c ls args A Q hav hAe hQ hx hb hr hml hown hlocks hts hK hP hD hA hS hl
  have hKa := hK.1
  have hl : lv_has ls 3 [(0, .ref a), (1, .int v1)] := hl
  unfold fX10_day at hf
  refine lv_iload_n (pc := 0) hx hb dX10_day_0 rfl (lv_at hl 1 rfl) ?_
  obtain ⟨u1, hu1, hf⟩ := cm_lt hf
  refine cm_callS (pc := 1) (As := [.int v1]) (rest := []) (wr := [(a, .inr (10, [.ref a_now, .ref a_pad, .ref a_trial, .ref a_sights, .ref a_im0, .ref a_im1, .ref a_digits, .ref a_voters, .ref a_trades, .ref a_bells])), (a_now, .inr (1, [.ref a_now_thinks, .ref a_now_sure, .ref a_now_coin, .ref a_now_far, .ref a_now_chalk, .int now_bo.2.2.2.2.2.1, .int now_bo.2.2.2.2.2.2.1, .int now_bo.2.2.2.2.2.2.2.1, .int now_bo.2.2.2.2.2.2.2.2])), cm_kI cI a_now_thinks 8 now_bo.1, cm_kI cI a_now_sure 8 now_bo.2.1, cm_kI cI a_now_coin 8 now_bo.2.2.1, cm_kI cI a_now_far 4 now_bo.2.2.2.1, cm_kI cI a_now_chalk 7 now_bo.2.2.2.2.1]) (n := 1) hx hb hml hown hts hK hP hD hS hA (c_X10_isDay l D cI cJ cZ v1 u1 hu1) tw_309 tw_307 tw_308 tw_45 rfl rfl (by decide +kernel) rfl ⟨Nat.le_of_ble_eq_true rfl, Nat.le_of_ble_eq_true rfl⟩ [] [0, 1, 2, 3, 4, 5, 6] rfl (by decide) rfl (by decide) (by decide) hl.1 rfl (Nat.le_of_ble_eq_true rfl) dX10_day_1 ⟨Nat.zero_le _, Nat.zero_le _⟩ (fun H locs hP hD hS => ?_)
  have hP : va_P D vwCl [(a, .inr (10, [.ref a_now, .ref a_pad, .ref a_trial, .ref a_sights, .ref a_im0, .ref a_im1, .ref a_digits, .ref a_voters, .ref a_trades, .ref a_bells])), (a_now, .inr (1, [.ref a_now_thinks, .ref a_now_sure, .ref a_now_coin, .ref a_now_far, .ref a_now_chalk, .int now_bo.2.2.2.2.2.1, .int now_bo.2.2.2.2.2.2.1, .int now_bo.2.2.2.2.2.2.2.1, .int now_bo.2.2.2.2.2.2.2.2])), cm_kI cI a_now_thinks 8 now_bo.1, cm_kI cI a_now_sure 8 now_bo.2.1, cm_kI cI a_now_coin 8 now_bo.2.2.1, cm_kI cI a_now_far 4 now_bo.2.2.2.1, cm_kI cI a_now_chalk 7 now_bo.2.2.2.2.1] H := hP
  have hD : va_D A [(a, .inr (10, [.ref a_now, .ref a_pad, .ref a_trial, .ref a_sights, .ref a_im0, .ref a_im1, .ref a_digits, .ref a_voters, .ref a_trades, .ref a_bells])), (a_now, .inr (1, [.ref a_now_thinks, .ref a_now_sure, .ref a_now_coin, .ref a_now_far, .ref a_now_chalk, .int now_bo.2.2.2.2.2.1, .int now_bo.2.2.2.2.2.2.1, .int now_bo.2.2.2.2.2.2.2.1, .int now_bo.2.2.2.2.2.2.2.2])), cm_kI cI a_now_thinks 8 now_bo.1, cm_kI cI a_now_sure 8 now_bo.2.1, cm_kI cI a_now_coin 8 now_bo.2.2.1, cm_kI cI a_now_far 4 now_bo.2.2.2.1, cm_kI cI a_now_chalk 7 now_bo.2.2.2.2.1] := hD
  refine W.eq (g2 := F0 m 4 ls [.int u1]) rfl ?_
  refine lv_if_ne (pc := 4) (tgt := 10) hx hb dX10_day_4 (by decide) (fun c_4 => ?_) (fun c_4 => ?_)
  · have hf := cm_in c_4 hf
    refine lv_aload_n (pc := 10) hx hb dX10_day_10 rfl (lv_at hl 0 rfl) ?_
    refine va_get (pc := 11) (D := D) (ci := 10) (v := .ref a_now) (C := RX10) (T := TX10) (N := 10) hx hb hts in_X10 hown hKa hP 0 rfl rfl 0 (by decide) (hts _ tw_269) (fun _ h9 => h9) rfl dX10_day_11 ?_
    refine va_get (pc := 14) (D := D) (ci := 1) (v := .int now_bo.2.2.2.2.2.1) (C := RX1) (T := TX1) (N := 9) hx hb hts in_X1 hown hKa hP 1 rfl rfl 5 (by decide) (hts _ tw_82) (fun _ h9 => h9) rfl dX10_day_14 ?_
    refine lv_istore_n (pc := 17) (lv' := [(2, .int now_bo.2.2.2.2.2.1), (0, .ref a), (1, .int v1)]) hx hb dX10_day_17 rfl hl (by decide) rfl (fun ls hl => ?_)
    refine lv_aload_n (pc := 18) hx hb dX10_day_18 rfl (lv_at hl 1 rfl) ?_
    refine va_get (pc := 19) (D := D) (ci := 10) (v := .ref a_now) (C := RX10) (T := TX10) (N := 10) hx hb hts in_X10 hown hKa hP 0 rfl rfl 0 (by decide) (hts _ tw_269) (fun _ h9 => h9) rfl dX10_day_19 ?_
    refine lv_iload_n (pc := 22) hx hb dX10_day_22 rfl (lv_at hl 2 rfl) ?_
    refine va_put (pc := 23) (D := D) (ci := 1) (v := .int v1) (ty := .int) (C := RX1) (T := TX1) (N := 9) hx hb hts in_X1 tyX1 tyX1_ok nmX1 hown hKa hP hD hS 1 rfl rfl 5 (by decide) (hts _ tw_82) (fun _ h9 => h9) rfl (by decide +kernel) rfl rfl (Nat.le_of_ble_eq_true rfl) dX10_day_23 (fun H locs hP hD hS => ?_)
    have hP : va_P D vwCl [(a, .inr (10, [.ref a_now, .ref a_pad, .ref a_trial, .ref a_sights, .ref a_im0, .ref a_im1, .ref a_digits, .ref a_voters, .ref a_trades, .ref a_bells])), (a_now, .inr (1, [.ref a_now_thinks, .ref a_now_sure, .ref a_now_coin, .ref a_now_far, .ref a_now_chalk, .int v1, .int now_bo.2.2.2.2.2.2.1, .int now_bo.2.2.2.2.2.2.2.1, .int now_bo.2.2.2.2.2.2.2.2])), cm_kI cI a_now_thinks 8 now_bo.1, cm_kI cI a_now_sure 8 now_bo.2.1, cm_kI cI a_now_coin 8 now_bo.2.2.1, cm_kI cI a_now_far 4 now_bo.2.2.2.1, cm_kI cI a_now_chalk 7 now_bo.2.2.2.2.1] H := hP
    have hD : va_D A [(a, .inr (10, [.ref a_now, .ref a_pad, .ref a_trial, .ref a_sights, .ref a_im0, .ref a_im1, .ref a_digits, .ref a_voters, .ref a_trades, .ref a_bells])), (a_now, .inr (1, [.ref a_now_thinks, .ref a_now_sure, .ref a_now_coin, .ref a_now_far, .ref a_now_chalk, .int v1, .int now_bo.2.2.2.2.2.2.1, .int now_bo.2.2.2.2.2.2.2.1, .int now_bo.2.2.2.2.2.2.2.2])), cm_kI cI a_now_thinks 8 now_bo.1, cm_kI cI a_now_sure 8 now_bo.2.1, cm_kI cI a_now_coin 8 now_bo.2.2.1, cm_kI cI a_now_far 4 now_bo.2.2.2.1, cm_kI cI a_now_chalk 7 now_bo.2.2.2.2.1] := hD
    refine lv_iload_n (pc := 26) hx hb dX10_day_26 rfl (lv_at hl 0 rfl) ?_
    obtain rfl := hf
    exact cm_iret (pc := 27) hAe hQ hx hb hr hlocks hP hD hS [0, 1, 2, 3, 4, 5, 6] (by decide) rfl dX10_day_27
  · have hf := cm_ip c_4 hf
    refine lv_bipush (pc := 7) (v := (-2)) hx hb dX10_day_7 (by decide) ?_
    obtain rfl := hf
    exact cm_iret (pc := 9) hAe hQ hx hb hr hlocks hP hD hS [0, 1, 2, 3, 4, 5, 6] (by decide) rfl dX10_day_9
def fX3_add (v1 : Int32) (pa : SPA) : Option (Int32 × SPA) := (if pa.2 < 60 then if pa.2 < 0 ∨ 60 ≤ pa.2.toNatClampNeg then none else some (1, ((upd pa.1 pa.2.toNatClampNeg v1), (pa.2 + 1))) else some (0, pa))
def rmX3_add : Room := { frames := 0, cells := 0, slots := 0, locals := 0 }
set_option maxRecDepth 100000 in
set_option maxHeartbeats 4000000 in
theorem c_X3_add (l : Launch) (D : va_G) (cI cJ cZ : ClassId) (a a_signs a_reader : Nat) (pa : SPA) (v1 : Int32) (res : Int32 × SPA) (hf : fX3_add v1 pa = some res) : Ct l yX3_add (cm_ws yX3_add cX3_add 2 (some .boolean)) rmX3_add D (cm_T cI cJ cZ) [.ref a, .int v1] [(a, .inr (3, [.ref a_signs, .ref a_reader, .int pa.2])), cm_kI cI a_signs 60 pa.1] (some (.int res.1)) [(a, .inr (3, [.ref a_signs, .ref a_reader, .int res.2.2])), cm_kI cI a_signs 60 res.2.1] := by
  refine Ct.of (cc := cX3_add) (maxL := 2) (ret := (some .boolean)) (by decide) (Nat.le_of_ble_eq_true rfl) ?_
  intro p e s m below meth c ls args A Q hav hAe hQ hx hb hr hml hown hlocks hts hK hP hD hA hS hl
  have hKa := hK.1
  have hl : lv_has ls 2 [(0, .ref a), (1, .int v1)] := hl
  unfold fX3_add at hf
  refine lv_aload_n (pc := 0) hx hb dX3_add_0 rfl (lv_at hl 0 rfl) ?_
  refine va_get (pc := 1) (D := D) (ci := 3) (v := .int pa.2) (C := RX3) (T := TX3) (N := 3) hx hb hts in_X3 hown hKa hP 0 rfl rfl 2 (by decide) (hts _ tw_140) (fun _ h9 => h9) rfl dX3_add_1 ?_
  refine lv_bipush (pc := 4) (v := 60) hx hb dX3_add_4 (by decide) ?_
  refine lv_icmp_lt (pc := 6) (tgt := 11) hx hb dX3_add_6 (by decide) (fun c_6 => ?_) (fun c_6 => ?_)
  · have hf := cm_ip c_6 hf
    refine lv_aload_n (pc := 11) hx hb dX3_add_11 rfl (lv_at hl 0 rfl) ?_
    refine va_get (pc := 12) (D := D) (ci := 3) (v := .ref a_signs) (C := RX3) (T := TX3) (N := 3) hx hb hts in_X3 hown hKa hP 0 rfl rfl 0 (by decide) (hts _ tw_138) (fun _ h9 => h9) rfl dX3_add_12 ?_
    refine lv_aload_n (pc := 15) hx hb dX3_add_15 rfl (lv_at hl 0 rfl) ?_
    refine va_get (pc := 16) (D := D) (ci := 3) (v := .int pa.2) (C := RX3) (T := TX3) (N := 3) hx hb hts in_X3 hown hKa hP 0 rfl rfl 2 (by decide) (hts _ tw_140) (fun _ h9 => h9) rfl dX3_add_16 ?_
    refine lv_iload_n (pc := 19) hx hb dX3_add_19 rfl (lv_at hl 1 rfl) ?_
    obtain ⟨b_20, hf⟩ := cm_ob hf
    refine va_iast (pc := 20) hx hb hKa hP hD hS 1 0 rfl rfl b_20 dX3_add_20 (fun H locs hP hD hS => ?_)
    have hP : va_P D vwCl [(a, .inr (3, [.ref a_signs, .ref a_reader, .int pa.2])), cm_kI cI a_signs 60 (upd pa.1 pa.2.toNatClampNeg v1)] H := hP
    have hD : va_D A [(a, .inr (3, [.ref a_signs, .ref a_reader, .int pa.2])), cm_kI cI a_signs 60 (upd pa.1 pa.2.toNatClampNeg v1)] := hD
    refine lv_aload_n (pc := 21) hx hb dX3_add_21 rfl (lv_at hl 0 rfl) ?_
    refine lv_dup (pc := 22) hx hb dX3_add_22 rfl ?_
    refine va_get (pc := 23) (D := D) (ci := 3) (v := .int pa.2) (C := RX3) (T := TX3) (N := 3) hx hb hts in_X3 hown hKa hP 0 rfl rfl 2 (by decide) (hts _ tw_140) (fun _ h9 => h9) rfl dX3_add_23 ?_
    refine lv_iconst (pc := 26) (v := 1) hx hb dX3_add_26 (by decide) ?_
    refine lv_iadd (pc := 27) hx hb dX3_add_27 ?_
    refine va_put (pc := 28) (D := D) (ci := 3) (v := .int (pa.2 + 1)) (ty := .int) (C := RX3) (T := TX3) (N := 3) hx hb hts in_X3 tyX3 tyX3_ok nmX3 hown hKa hP hD hS 0 rfl rfl 2 (by decide) (hts _ tw_140) (fun _ h9 => h9) rfl (by decide +kernel) rfl rfl (Nat.le_of_ble_eq_true rfl) dX3_add_28 (fun H locs hP hD hS => ?_)
    have hP : va_P D vwCl [(a, .inr (3, [.ref a_signs, .ref a_reader, .int (pa.2 + 1)])), cm_kI cI a_signs 60 (upd pa.1 pa.2.toNatClampNeg v1)] H := hP
    have hD : va_D A [(a, .inr (3, [.ref a_signs, .ref a_reader, .int (pa.2 + 1)])), cm_kI cI a_signs 60 (upd pa.1 pa.2.toNatClampNeg v1)] := hD
    refine lv_iconst (pc := 31) (v := 1) hx hb dX3_add_31 (by decide) ?_
    obtain rfl := Option.some.inj hf
    exact cm_zret (Or.inr rfl) (pc := 32) hAe hQ hx hb hr hlocks hP hD hS [0, 1] (by decide) rfl dX3_add_32
  · have hf := cm_in c_6 hf
    refine lv_iconst (pc := 9) (v := 0) hx hb dX3_add_9 (by decide) ?_
    obtain rfl := Option.some.inj hf
    exact cm_zret (Or.inl rfl) (pc := 10) hAe hQ hx hb hr hlocks hP hD hS [0, 1] (by decide) rfl dX3_add_10
def fX10_say (v1 : Int32) (pad_pa : SPA) : Option (Int32 × SPA) := cm_let (fX10_isWithin v1 33 126) (fun u5 => (if u5 = 0 then some ((-2), pad_pa) else Option.bind (fX3_add v1 pad_pa) (fun u19 => (if u19.1 = 0 then some ((-4), u19.2) else some (u19.2.2, u19.2)))))
def rmX10_say : Room := { frames := 1, cells := 0, slots := 0, locals := 22 }
set_option maxRecDepth 100000 in
set_option maxHeartbeats 4000000 in
theorem c_X10_say (l : Launch) (D : va_G) (cI cJ cZ : ClassId) (a a_now a_pad a_trial a_sights a_im0 a_im1 a_digits a_voters a_trades a_bells a_pad_signs a_pad_reader : Nat) (pad_pa : SPA) (v1 : Int32) (res : Int32 × SPA) (hf : fX10_say v1 pad_pa = some res) : Ct l yX10_say (cm_ws yX10_say cX10_say 2 (some .int)) rmX10_say D (cm_T cI cJ cZ) [.ref a, .int v1] [(a, .inr (10, [.ref a_now, .ref a_pad, .ref a_trial, .ref a_sights, .ref a_im0, .ref a_im1, .ref a_digits, .ref a_voters, .ref a_trades, .ref a_bells])), (a_pad, .inr (3, [.ref a_pad_signs, .ref a_pad_reader, .int pad_pa.2])), cm_kI cI a_pad_signs 60 pad_pa.1] (some (.int res.1)) [(a, .inr (10, [.ref a_now, .ref a_pad, .ref a_trial, .ref a_sights, .ref a_im0, .ref a_im1, .ref a_digits, .ref a_voters, .ref a_trades, .ref a_bells])), (a_pad, .inr (3, [.ref a_pad_signs, .ref a_pad_reader, .int res.2.2])), cm_kI cI a_pad_signs 60 res.2.1] := by
  refine Ct.of (cc := cX10_say) (maxL := 2) (ret := (some .int)) (by decide) (Nat.le_of_ble_eq_true rfl) ?_
  intro p e s m below meth c ls args A Q hav hAe hQ hx hb hr hml hown hlocks hts hK hP hD hA hS hl
  have hKa := hK.1
  have hl : lv_has ls 2 [(0, .ref a), (1, .int v1)] := hl
  unfold fX10_say at hf
  refine lv_iload_n (pc := 0) hx hb dX10_say_0 rfl (lv_at hl 1 rfl) ?_
  refine lv_bipush (pc := 1) (v := 33) hx hb dX10_say_1 (by decide) ?_
  refine lv_bipush (pc := 3) (v := 126) hx hb dX10_say_3 (by decide) ?_
  obtain ⟨u5, hu5, hf⟩ := cm_lt hf
  refine cm_callS (pc := 5) (As := [.int v1, .int 33, .int 126]) (rest := []) (wr := [(a, .inr (10, [.ref a_now, .ref a_pad, .ref a_trial, .ref a_sights, .ref a_im0, .ref a_im1, .ref a_digits, .ref a_voters, .ref a_trades, .ref a_bells])), (a_pad, .inr (3, [.ref a_pad_signs, .ref a_pad_reader, .int pad_pa.2])), cm_kI cI a_pad_signs 60 pad_pa.1]) (n := 3) hx hb hml hown hts hK hP hD hS hA (c_X10_isWithin l D cI cJ cZ v1 33 126 u5 hu5) tw_312 tw_310 tw_311 tw_45 rfl rfl (by decide +kernel) rfl ⟨Nat.le_of_ble_eq_true rfl, Nat.le_of_ble_eq_true rfl⟩ [] [0, 1, 2] rfl (by decide) rfl (by decide) (by decide) hl.1 rfl (Nat.le_of_ble_eq_true rfl) dX10_say_5 ⟨Nat.zero_le _, Nat.zero_le _⟩ (fun H locs hP hD hS => ?_)
  have hP : va_P D vwCl [(a, .inr (10, [.ref a_now, .ref a_pad, .ref a_trial, .ref a_sights, .ref a_im0, .ref a_im1, .ref a_digits, .ref a_voters, .ref a_trades, .ref a_bells])), (a_pad, .inr (3, [.ref a_pad_signs, .ref a_pad_reader, .int pad_pa.2])), cm_kI cI a_pad_signs 60 pad_pa.1] H := hP
  have hD : va_D A [(a, .inr (10, [.ref a_now, .ref a_pad, .ref a_trial, .ref a_sights, .ref a_im0, .ref a_im1, .ref a_digits, .ref a_voters, .ref a_trades, .ref a_bells])), (a_pad, .inr (3, [.ref a_pad_signs, .ref a_pad_reader, .int pad_pa.2])), cm_kI cI a_pad_signs 60 pad_pa.1] := hD
  refine W.eq (g2 := F0 m 8 ls [.int u5]) rfl ?_
  refine lv_if_ne (pc := 8) (tgt := 14) hx hb dX10_say_8 (by decide) (fun c_8 => ?_) (fun c_8 => ?_)
  · have hf := cm_in c_8 hf
    refine lv_aload_n (pc := 14) hx hb dX10_say_14 rfl (lv_at hl 0 rfl) ?_
    refine va_get (pc := 15) (D := D) (ci := 10) (v := .ref a_pad) (C := RX10) (T := TX10) (N := 10) hx hb hts in_X10 hown hKa hP 0 rfl rfl 1 (by decide) (hts _ tw_270) (fun _ h9 => h9) rfl dX10_say_15 ?_
    refine lv_iload_n (pc := 18) hx hb dX10_say_18 rfl (lv_at hl 1 rfl) ?_
    obtain ⟨u19, hu19, hf⟩ := cm_bd hf
    refine cm_callV (pc := 19) (As := [.int v1]) (rest := []) (wr := [(a, .inr (10, [.ref a_now, .ref a_pad, .ref a_trial, .ref a_sights, .ref a_im0, .ref a_im1, .ref a_digits, .ref a_voters, .ref a_trades, .ref a_bells]))]) (ci := 3) (q0 := 1) (n := 1) hx hb hml hown hts hK hP hD hS hA (c_X3_add l D cI cJ cZ a_pad a_pad_signs a_pad_reader pad_pa v1 u19 hu19) tw_331 tw_328 tw_329 tw_330 tw_47 rfl rfl (by decide +kernel) rfl ⟨Nat.le_of_ble_eq_true rfl, Nat.le_of_ble_eq_true rfl⟩ [1, 2] [0] rfl (by decide) rfl (by decide) (by decide) rfl rfl rfl hl.1 rfl (Nat.le_of_ble_eq_true rfl) dX10_say_19 ⟨Nat.zero_le _, Nat.zero_le _⟩ (fun H locs hP hD hS => ?_)
    have hP : va_P D vwCl [(a, .inr (10, [.ref a_now, .ref a_pad, .ref a_trial, .ref a_sights, .ref a_im0, .ref a_im1, .ref a_digits, .ref a_voters, .ref a_trades, .ref a_bells])), (a_pad, .inr (3, [.ref a_pad_signs, .ref a_pad_reader, .int u19.2.2])), cm_kI cI a_pad_signs 60 u19.2.1] H := hP
    have hD : va_D A [(a, .inr (10, [.ref a_now, .ref a_pad, .ref a_trial, .ref a_sights, .ref a_im0, .ref a_im1, .ref a_digits, .ref a_voters, .ref a_trades, .ref a_bells])), (a_pad, .inr (3, [.ref a_pad_signs, .ref a_pad_reader, .int u19.2.2])), cm_kI cI a_pad_signs 60 u19.2.1] := hD
    refine W.eq (g2 := F0 m 22 ls [.int u19.1]) rfl ?_
    refine lv_if_eq (pc := 22) (tgt := 35) hx hb dX10_say_22 (by decide) (fun c_22 => ?_) (fun c_22 => ?_)
    · have hf := cm_ip c_22 hf
      refine lv_bipush (pc := 35) (v := (-4)) hx hb dX10_say_35 (by decide) ?_
      obtain rfl := Option.some.inj hf
      exact cm_iret (pc := 37) hAe hQ hx hb hr hlocks hP hD hS [0, 1, 2] (by decide) rfl dX10_say_37
    · have hf := cm_in c_22 hf
      refine lv_aload_n (pc := 25) hx hb dX10_say_25 rfl (lv_at hl 0 rfl) ?_
      refine va_get (pc := 26) (D := D) (ci := 10) (v := .ref a_pad) (C := RX10) (T := TX10) (N := 10) hx hb hts in_X10 hown hKa hP 0 rfl rfl 1 (by decide) (hts _ tw_270) (fun _ h9 => h9) rfl dX10_say_26 ?_
      refine va_get (pc := 29) (D := D) (ci := 3) (v := .int u19.2.2) (C := RX3) (T := TX3) (N := 3) hx hb hts in_X3 hown hKa hP 1 rfl rfl 2 (by decide) (hts _ tw_142) (fun _ h9 => h9) rfl dX10_say_29 ?_
      refine lv_goto (pc := 32) (tgt := 37) hx hb dX10_say_32 (by decide) ?_
      obtain rfl := Option.some.inj hf
      exact cm_iret (pc := 37) hAe hQ hx hb hr hlocks hP hD hS [0, 1, 2] (by decide) rfl dX10_say_37
  · have hf := cm_ip c_8 hf
    refine lv_bipush (pc := 11) (v := (-2)) hx hb dX10_say_11 (by decide) ?_
    obtain rfl := Option.some.inj hf
    exact cm_iret (pc := 13) hAe hQ hx hb hr hlocks hP hD hS [0, 1, 2] (by decide) rfl dX10_say_13
def fX3_clear (pa : SPA) : Int32 × SPA := (pa.2, (pa.1, 0))
def rmX3_clear : Room := { frames := 0, cells := 0, slots := 0, locals := 0 }
set_option maxRecDepth 100000 in
set_option maxHeartbeats 4000000 in
theorem c_X3_clear (l : Launch) (D : va_G) (cI cJ cZ : ClassId) (a a_signs a_reader : Nat) (pa : SPA) (res : Int32 × SPA) (hf : fX3_clear pa = res) : Ct l yX3_clear (cm_ws yX3_clear cX3_clear 2 (some .int)) rmX3_clear D (cm_T cI cJ cZ) [.ref a] [(a, .inr (3, [.ref a_signs, .ref a_reader, .int pa.2])), cm_kI cI a_signs 60 pa.1] (some (.int res.1)) [(a, .inr (3, [.ref a_signs, .ref a_reader, .int res.2.2])), cm_kI cI a_signs 60 res.2.1] := by
  refine Ct.of (cc := cX3_clear) (maxL := 2) (ret := (some .int)) (by decide) (Nat.le_of_ble_eq_true rfl) ?_
  intro p e s m below meth c ls args A Q hav hAe hQ hx hb hr hml hown hlocks hts hK hP hD hA hS hl
  have hKa := hK.1
  have hl : lv_has ls 2 [(0, .ref a)] := hl
  unfold fX3_clear at hf
  refine lv_aload_n (pc := 0) hx hb dX3_clear_0 rfl (lv_at hl 0 rfl) ?_
  refine va_get (pc := 1) (D := D) (ci := 3) (v := .int pa.2) (C := RX3) (T := TX3) (N := 3) hx hb hts in_X3 hown hKa hP 0 rfl rfl 2 (by decide) (hts _ tw_140) (fun _ h9 => h9) rfl dX3_clear_1 ?_
  refine lv_istore_n (pc := 4) (lv' := [(1, .int pa.2), (0, .ref a)]) hx hb dX3_clear_4 rfl hl (by decide) rfl (fun ls hl => ?_)
  refine lv_aload_n (pc := 5) hx hb dX3_clear_5 rfl (lv_at hl 1 rfl) ?_
  refine lv_iconst (pc := 6) (v := 0) hx hb dX3_clear_6 (by decide) ?_
  refine va_put (pc := 7) (D := D) (ci := 3) (v := .int 0) (ty := .int) (C := RX3) (T := TX3) (N := 3) hx hb hts in_X3 tyX3 tyX3_ok nmX3 hown hKa hP hD hS 0 rfl rfl 2 (by decide) (hts _ tw_140) (fun _ h9 => h9) rfl (by decide +kernel) rfl rfl (Nat.le_of_ble_eq_true rfl) dX3_clear_7 (fun H locs hP hD hS => ?_)
  have hP : va_P D vwCl [(a, .inr (3, [.ref a_signs, .ref a_reader, .int 0])), cm_kI cI a_signs 60 pa.1] H := hP
  have hD : va_D A [(a, .inr (3, [.ref a_signs, .ref a_reader, .int 0])), cm_kI cI a_signs 60 pa.1] := hD
  refine lv_iload_n (pc := 10) hx hb dX3_clear_10 rfl (lv_at hl 0 rfl) ?_
  obtain rfl := hf
  exact cm_iret (pc := 11) hAe hQ hx hb hr hlocks hP hD hS [0, 1] (by decide) rfl dX3_clear_11
def fX10_wipe (pad_pa : SPA) : Int32 × SPA := cm_let (fX3_clear pad_pa) (fun u4 => (u4.1, u4.2))
def rmX10_wipe : Room := { frames := 1, cells := 0, slots := 0, locals := 21 }
set_option maxRecDepth 100000 in
set_option maxHeartbeats 4000000 in
theorem c_X10_wipe (l : Launch) (D : va_G) (cI cJ cZ : ClassId) (a a_now a_pad a_trial a_sights a_im0 a_im1 a_digits a_voters a_trades a_bells a_pad_signs a_pad_reader : Nat) (pad_pa : SPA) (res : Int32 × SPA) (hf : fX10_wipe pad_pa = res) : Ct l yX10_wipe (cm_ws yX10_wipe cX10_wipe 1 (some .int)) rmX10_wipe D (cm_T cI cJ cZ) [.ref a] [(a, .inr (10, [.ref a_now, .ref a_pad, .ref a_trial, .ref a_sights, .ref a_im0, .ref a_im1, .ref a_digits, .ref a_voters, .ref a_trades, .ref a_bells])), (a_pad, .inr (3, [.ref a_pad_signs, .ref a_pad_reader, .int pad_pa.2])), cm_kI cI a_pad_signs 60 pad_pa.1] (some (.int res.1)) [(a, .inr (10, [.ref a_now, .ref a_pad, .ref a_trial, .ref a_sights, .ref a_im0, .ref a_im1, .ref a_digits, .ref a_voters, .ref a_trades, .ref a_bells])), (a_pad, .inr (3, [.ref a_pad_signs, .ref a_pad_reader, .int res.2.2])), cm_kI cI a_pad_signs 60 res.2.1] := by
  refine Ct.of (cc := cX10_wipe) (maxL := 1) (ret := (some .int)) (by decide) (Nat.le_of_ble_eq_true rfl) ?_
  intro p e s m below meth c ls args A Q hav hAe hQ hx hb hr hml hown hlocks hts hK hP hD hA hS hl
  have hKa := hK.1
  have hl : lv_has ls 1 [(0, .ref a)] := hl
  unfold fX10_wipe at hf
  refine lv_aload_n (pc := 0) hx hb dX10_wipe_0 rfl (lv_at hl 0 rfl) ?_
  refine va_get (pc := 1) (D := D) (ci := 10) (v := .ref a_pad) (C := RX10) (T := TX10) (N := 10) hx hb hts in_X10 hown hKa hP 0 rfl rfl 1 (by decide) (hts _ tw_270) (fun _ h9 => h9) rfl dX10_wipe_1 ?_
  obtain ⟨u4, hu4, hf⟩ := cm_lt hf
  refine cm_callV (pc := 4) (As := []) (rest := []) (wr := [(a, .inr (10, [.ref a_now, .ref a_pad, .ref a_trial, .ref a_sights, .ref a_im0, .ref a_im1, .ref a_digits, .ref a_voters, .ref a_trades, .ref a_bells]))]) (ci := 3) (q0 := 1) (n := 0) hx hb hml hown hts hK hP hD hS hA (c_X3_clear l D cI cJ cZ a_pad a_pad_signs a_pad_reader pad_pa u4 hu4) tw_339 tw_336 tw_337 tw_338 tw_47 rfl rfl (by decide +kernel) rfl ⟨Nat.le_of_ble_eq_true rfl, Nat.le_of_ble_eq_true rfl⟩ [1, 2] [0] rfl (by decide) rfl (by decide) (by decide) rfl rfl rfl hl.1 rfl (Nat.le_of_ble_eq_true rfl) dX10_wipe_4 ⟨Nat.zero_le _, Nat.zero_le _⟩ (fun H locs hP hD hS => ?_)
  have hP : va_P D vwCl [(a, .inr (10, [.ref a_now, .ref a_pad, .ref a_trial, .ref a_sights, .ref a_im0, .ref a_im1, .ref a_digits, .ref a_voters, .ref a_trades, .ref a_bells])), (a_pad, .inr (3, [.ref a_pad_signs, .ref a_pad_reader, .int u4.2.2])), cm_kI cI a_pad_signs 60 u4.2.1] H := hP
  have hD : va_D A [(a, .inr (10, [.ref a_now, .ref a_pad, .ref a_trial, .ref a_sights, .ref a_im0, .ref a_im1, .ref a_digits, .ref a_voters, .ref a_trades, .ref a_bells])), (a_pad, .inr (3, [.ref a_pad_signs, .ref a_pad_reader, .int u4.2.2])), cm_kI cI a_pad_signs 60 u4.2.1] := hD
  refine W.eq (g2 := F0 m 7 ls [.int u4.1]) rfl ?_
  obtain rfl := hf
  exact cm_iret (pc := 7) hAe hQ hx hb hr hlocks hP hD hS [0, 1, 2] (by decide) rfl dX10_wipe_7
def fX4_begin (re : SRE) : SRE := (0, re.2.1, re.2.2.1, re.2.2.2)
def rmX4_begin : Room := { frames := 0, cells := 0, slots := 0, locals := 0 }
set_option maxRecDepth 100000 in
set_option maxHeartbeats 4000000 in
theorem c_X4_begin (l : Launch) (D : va_G) (cI cJ cZ : ClassId) (a : Nat) (re : SRE) (res : SRE) (hf : fX4_begin re = res) : Ct l yX4_begin (cm_ws yX4_begin cX4_begin 1 none) rmX4_begin D (cm_T cI cJ cZ) [.ref a] [(a, .inr (4, [.int re.1, .int re.2.1, .int re.2.2.1, .int re.2.2.2]))] none [(a, .inr (4, [.int res.1, .int res.2.1, .int res.2.2.1, .int res.2.2.2]))] := by
  refine Ct.of (cc := cX4_begin) (maxL := 1) (ret := none) (by decide) (Nat.le_of_ble_eq_true rfl) ?_
  intro p e s m below meth c ls args A Q hav hAe hQ hx hb hr hml hown hlocks hts hK hP hD hA hS hl
  have hKa := hK.1
  have hl : lv_has ls 1 [(0, .ref a)] := hl
  unfold fX4_begin at hf
  refine lv_aload_n (pc := 0) hx hb dX4_begin_0 rfl (lv_at hl 0 rfl) ?_
  refine lv_iconst (pc := 1) (v := 0) hx hb dX4_begin_1 (by decide) ?_
  refine va_put (pc := 2) (D := D) (ci := 4) (v := .int 0) (ty := .int) (C := RX4) (T := TX4) (N := 4) hx hb hts in_X4 tyX4 tyX4_ok nmX4 hown hKa hP hD hS 0 rfl rfl 0 (by decide) (hts _ tw_122) (fun _ h9 => h9) rfl (by decide +kernel) rfl rfl (Nat.le_of_ble_eq_true rfl) dX4_begin_2 (fun H locs hP hD hS => ?_)
  have hP : va_P D vwCl [(a, .inr (4, [.int 0, .int re.2.1, .int re.2.2.1, .int re.2.2.2]))] H := hP
  have hD : va_D A [(a, .inr (4, [.int 0, .int re.2.1, .int re.2.2.1, .int re.2.2.2]))] := hD
  obtain rfl := hf
  exact cm_vret (pc := 5) hAe hQ hx hb hr hlocks hP hD hS [0] (by decide) rfl dX4_begin_5
def fX3_signAt (v1 : Int32) (pa : SPA) : Option (Int32) := (if v1 < 0 then some 0 else (if 60 ≤ v1 then some 0 else if v1 < 0 ∨ 60 ≤ v1.toNatClampNeg then none else some (pa.1 v1.toNatClampNeg)))
def rmX3_signAt : Room := { frames := 0, cells := 0, slots := 0, locals := 0 }
set_option maxRecDepth 100000 in
set_option maxHeartbeats 4000000 in
theorem c_X3_signAt (l : Launch) (D : va_G) (cI cJ cZ : ClassId) (a a_signs a_reader : Nat) (pa : SPA) (v1 : Int32) (res : Int32) (hf : fX3_signAt v1 pa = some res) : Ct l yX3_signAt (cm_ws yX3_signAt cX3_signAt 2 (some .int)) rmX3_signAt D (cm_T cI cJ cZ) [.ref a, .int v1] [(a, .inr (3, [.ref a_signs, .ref a_reader, .int pa.2])), cm_kI cI a_signs 60 pa.1] (some (.int res)) [(a, .inr (3, [.ref a_signs, .ref a_reader, .int pa.2])), cm_kI cI a_signs 60 pa.1] := by
  refine Ct.of (cc := cX3_signAt) (maxL := 2) (ret := (some .int)) (by decide) (Nat.le_of_ble_eq_true rfl) ?_
  intro p e s m below meth c ls args A Q hav hAe hQ hx hb hr hml hown hlocks hts hK hP hD hA hS hl
  have hKa := hK.1
  have hl : lv_has ls 2 [(0, .ref a), (1, .int v1)] := hl
  unfold fX3_signAt at hf
  refine lv_iload_n (pc := 0) hx hb dX3_signAt_0 rfl (lv_at hl 1 rfl) ?_
  refine lv_if_lt (pc := 1) (tgt := 19) hx hb dX3_signAt_1 (by decide) (fun c_1 => ?_) (fun c_1 => ?_)
  · have hf := cm_ip c_1 hf
    refine lv_iconst (pc := 19) (v := 0) hx hb dX3_signAt_19 (by decide) ?_
    obtain rfl := Option.some.inj hf
    exact cm_iret (pc := 20) hAe hQ hx hb hr hlocks hP hD hS [0, 1] (by decide) rfl dX3_signAt_20
  · have hf := cm_in c_1 hf
    refine lv_iload_n (pc := 4) hx hb dX3_signAt_4 rfl (lv_at hl 1 rfl) ?_
    refine lv_bipush (pc := 5) (v := 60) hx hb dX3_signAt_5 (by decide) ?_
    refine lv_icmp_ge (pc := 7) (tgt := 19) hx hb dX3_signAt_7 (by decide) (fun c_7 => ?_) (fun c_7 => ?_)
    · have hf := cm_ip c_7 hf
      refine lv_iconst (pc := 19) (v := 0) hx hb dX3_signAt_19 (by decide) ?_
      obtain rfl := Option.some.inj hf
      exact cm_iret (pc := 20) hAe hQ hx hb hr hlocks hP hD hS [0, 1] (by decide) rfl dX3_signAt_20
    · have hf := cm_in c_7 hf
      refine lv_aload_n (pc := 10) hx hb dX3_signAt_10 rfl (lv_at hl 0 rfl) ?_
      refine va_get (pc := 11) (D := D) (ci := 3) (v := .ref a_signs) (C := RX3) (T := TX3) (N := 3) hx hb hts in_X3 hown hKa hP 0 rfl rfl 0 (by decide) (hts _ tw_138) (fun _ h9 => h9) rfl dX3_signAt_11 ?_
      refine lv_iload_n (pc := 14) hx hb dX3_signAt_14 rfl (lv_at hl 1 rfl) ?_
      obtain ⟨b_15, hf⟩ := cm_ob hf
      refine va_iald (pc := 15) hx hb hKa hP 1 0 rfl rfl b_15 dX3_signAt_15 ?_
      refine lv_goto (pc := 16) (tgt := 20) hx hb dX3_signAt_16 (by decide) ?_
      obtain rfl := Option.some.inj hf
      exact cm_iret (pc := 20) hAe hQ hx hb hr hlocks hP hD hS [0, 1] (by decide) rfl dX3_signAt_20
def fX4_end (v1 : Int32) (v2 : Int32) (v3 : Int32) (re : SRE) : Option (Int32 × SRE) := if v3 = 0 ∨ v3 = 1 then some (v3, (0, v1, re.2.2.1, v2)) else none
def rmX4_end : Room := { frames := 0, cells := 0, slots := 0, locals := 0 }
set_option maxRecDepth 100000 in
set_option maxHeartbeats 4000000 in
theorem c_X4_end (l : Launch) (D : va_G) (cI cJ cZ : ClassId) (a : Nat) (re : SRE) (v1 : Int32) (v2 : Int32) (v3 : Int32) (res : Int32 × SRE) (hf : fX4_end v1 v2 v3 re = some res) : Ct l yX4_end (cm_ws yX4_end cX4_end 4 (some .boolean)) rmX4_end D (cm_T cI cJ cZ) [.ref a, .int v1, .int v2, .int v3] [(a, .inr (4, [.int re.1, .int re.2.1, .int re.2.2.1, .int re.2.2.2]))] (some (.int res.1)) [(a, .inr (4, [.int res.2.1, .int res.2.2.1, .int res.2.2.2.1, .int res.2.2.2.2]))] := by
  refine Ct.of (cc := cX4_end) (maxL := 4) (ret := (some .boolean)) (by decide) (Nat.le_of_ble_eq_true rfl) ?_
  intro p e s m below meth c ls args A Q hav hAe hQ hx hb hr hml hown hlocks hts hK hP hD hA hS hl
  have hKa := hK.1
  have hl : lv_has ls 4 [(0, .ref a), (1, .int v1), (2, .int v2), (3, .int v3)] := hl
  unfold fX4_end at hf
  refine lv_aload_n (pc := 0) hx hb dX4_end_0 rfl (lv_at hl 0 rfl) ?_
  refine lv_iload_n (pc := 1) hx hb dX4_end_1 rfl (lv_at hl 1 rfl) ?_
  refine va_put (pc := 2) (D := D) (ci := 4) (v := .int v1) (ty := .int) (C := RX4) (T := TX4) (N := 4) hx hb hts in_X4 tyX4 tyX4_ok nmX4 hown hKa hP hD hS 0 rfl rfl 1 (by decide) (hts _ tw_124) (fun _ h9 => h9) rfl (by decide +kernel) rfl rfl (Nat.le_of_ble_eq_true rfl) dX4_end_2 (fun H locs hP hD hS => ?_)
  have hP : va_P D vwCl [(a, .inr (4, [.int re.1, .int v1, .int re.2.2.1, .int re.2.2.2]))] H := hP
  have hD : va_D A [(a, .inr (4, [.int re.1, .int v1, .int re.2.2.1, .int re.2.2.2]))] := hD
  refine lv_aload_n (pc := 5) hx hb dX4_end_5 rfl (lv_at hl 0 rfl) ?_
  refine lv_iload_n (pc := 6) hx hb dX4_end_6 rfl (lv_at hl 2 rfl) ?_
  refine va_put (pc := 7) (D := D) (ci := 4) (v := .int v2) (ty := .int) (C := RX4) (T := TX4) (N := 4) hx hb hts in_X4 tyX4 tyX4_ok nmX4 hown hKa hP hD hS 0 rfl rfl 3 (by decide) (hts _ tw_128) (fun _ h9 => h9) rfl (by decide +kernel) rfl rfl (Nat.le_of_ble_eq_true rfl) dX4_end_7 (fun H locs hP hD hS => ?_)
  have hP : va_P D vwCl [(a, .inr (4, [.int re.1, .int v1, .int re.2.2.1, .int v2]))] H := hP
  have hD : va_D A [(a, .inr (4, [.int re.1, .int v1, .int re.2.2.1, .int v2]))] := hD
  refine lv_aload_n (pc := 10) hx hb dX4_end_10 rfl (lv_at hl 0 rfl) ?_
  refine lv_iconst (pc := 11) (v := 0) hx hb dX4_end_11 (by decide) ?_
  refine va_put (pc := 12) (D := D) (ci := 4) (v := .int 0) (ty := .int) (C := RX4) (T := TX4) (N := 4) hx hb hts in_X4 tyX4 tyX4_ok nmX4 hown hKa hP hD hS 0 rfl rfl 0 (by decide) (hts _ tw_122) (fun _ h9 => h9) rfl (by decide +kernel) rfl rfl (Nat.le_of_ble_eq_true rfl) dX4_end_12 (fun H locs hP hD hS => ?_)
  have hP : va_P D vwCl [(a, .inr (4, [.int 0, .int v1, .int re.2.2.1, .int v2]))] H := hP
  have hD : va_D A [(a, .inr (4, [.int 0, .int v1, .int re.2.2.1, .int v2]))] := hD
  refine lv_iload_n (pc := 15) hx hb dX4_end_15 rfl (lv_at hl 3 rfl) ?_
  obtain ⟨z_16, hf⟩ := cm_zo hf
  obtain rfl := Option.some.inj hf
  exact cm_zret z_16 (pc := 16) hAe hQ hx hb hr hlocks hP hD hS [0] (by decide) rfl dX4_end_16
def fX4_takeFirst (v1 : Int32) (re : SRE) : Option (Int32 × SRE) := (if v1 = 46 then Option.bind (fX4_end 5 0 1 re) (fun u10 => if u10.1 = 0 ∨ u10.1 = 1 then some (u10.1, u10.2) else none) else (if v1 = 99 then some (1, (3, re.2.1, re.2.2.1, re.2.2.2)) else cm_let (fX10_isOne (v1 - 65)) (fun u44 => if u44 = 0 ∨ u44 = 1 then some (u44, (1, re.2.1, (v1 - 65), re.2.2.2)) else none)))
def rmX4_takeFirst : Room := { frames := 1, cells := 0, slots := 0, locals := 23 }
set_option maxRecDepth 100000 in
set_option maxHeartbeats 4000000 in
theorem c_X4_takeFirst (l : Launch) (D : va_G) (cI cJ cZ : ClassId) (a : Nat) (re : SRE) (v1 : Int32) (res : Int32 × SRE) (hf : fX4_takeFirst v1 re = some res) : Ct l yX4_takeFirst (cm_ws yX4_takeFirst cX4_takeFirst 2 (some .boolean)) rmX4_takeFirst D (cm_T cI cJ cZ) [.ref a, .int v1] [(a, .inr (4, [.int re.1, .int re.2.1, .int re.2.2.1, .int re.2.2.2]))] (some (.int res.1)) [(a, .inr (4, [.int res.2.1, .int res.2.2.1, .int res.2.2.2.1, .int res.2.2.2.2]))] := by
  refine Ct.of (cc := cX4_takeFirst) (maxL := 2) (ret := (some .boolean)) (by decide) (Nat.le_of_ble_eq_true rfl) ?_
  intro p e s m below meth c ls args A Q hav hAe hQ hx hb hr hml hown hlocks hts hK hP hD hA hS hl
  have hKa := hK.1
  have hl : lv_has ls 2 [(0, .ref a), (1, .int v1)] := hl
  unfold fX4_takeFirst at hf
  refine lv_iload_n (pc := 0) hx hb dX4_takeFirst_0 rfl (lv_at hl 1 rfl) ?_
  refine lv_bipush (pc := 1) (v := 46) hx hb dX4_takeFirst_1 (by decide) ?_
  refine lv_icmp_ne (pc := 3) (tgt := 14) hx hb dX4_takeFirst_3 (by decide) (fun c_3 => ?_) (fun c_3 => ?_)
  · have hf := cm_in c_3 hf
    refine lv_iload_n (pc := 14) hx hb dX4_takeFirst_14 rfl (lv_at hl 1 rfl) ?_
    refine lv_bipush (pc := 15) (v := 99) hx hb dX4_takeFirst_15 (by decide) ?_
    refine lv_icmp_ne (pc := 17) (tgt := 27) hx hb dX4_takeFirst_17 (by decide) (fun c_17 => ?_) (fun c_17 => ?_)
    · have hf := cm_in c_17 hf
      refine lv_aload_n (pc := 27) hx hb dX4_takeFirst_27 rfl (lv_at hl 0 rfl) ?_
      refine lv_iload_n (pc := 28) hx hb dX4_takeFirst_28 rfl (lv_at hl 1 rfl) ?_
      refine lv_bipush (pc := 29) (v := 65) hx hb dX4_takeFirst_29 (by decide) ?_
      refine lv_isub (pc := 31) hx hb dX4_takeFirst_31 ?_
      refine va_put (pc := 32) (D := D) (ci := 4) (v := .int (v1 - 65)) (ty := .int) (C := RX4) (T := TX4) (N := 4) hx hb hts in_X4 tyX4 tyX4_ok nmX4 hown hKa hP hD hS 0 rfl rfl 2 (by decide) (hts _ tw_126) (fun _ h9 => h9) rfl (by decide +kernel) rfl rfl (Nat.le_of_ble_eq_true rfl) dX4_takeFirst_32 (fun H locs hP hD hS => ?_)
      have hP : va_P D vwCl [(a, .inr (4, [.int re.1, .int re.2.1, .int (v1 - 65), .int re.2.2.2]))] H := hP
      have hD : va_D A [(a, .inr (4, [.int re.1, .int re.2.1, .int (v1 - 65), .int re.2.2.2]))] := hD
      refine lv_aload_n (pc := 35) hx hb dX4_takeFirst_35 rfl (lv_at hl 0 rfl) ?_
      refine lv_iconst (pc := 36) (v := 1) hx hb dX4_takeFirst_36 (by decide) ?_
      refine va_put (pc := 37) (D := D) (ci := 4) (v := .int 1) (ty := .int) (C := RX4) (T := TX4) (N := 4) hx hb hts in_X4 tyX4 tyX4_ok nmX4 hown hKa hP hD hS 0 rfl rfl 0 (by decide) (hts _ tw_122) (fun _ h9 => h9) rfl (by decide +kernel) rfl rfl (Nat.le_of_ble_eq_true rfl) dX4_takeFirst_37 (fun H locs hP hD hS => ?_)
      have hP : va_P D vwCl [(a, .inr (4, [.int 1, .int re.2.1, .int (v1 - 65), .int re.2.2.2]))] H := hP
      have hD : va_D A [(a, .inr (4, [.int 1, .int re.2.1, .int (v1 - 65), .int re.2.2.2]))] := hD
      refine lv_aload_n (pc := 40) hx hb dX4_takeFirst_40 rfl (lv_at hl 0 rfl) ?_
      refine va_get (pc := 41) (D := D) (ci := 4) (v := .int (v1 - 65)) (C := RX4) (T := TX4) (N := 4) hx hb hts in_X4 hown hKa hP 0 rfl rfl 2 (by decide) (hts _ tw_126) (fun _ h9 => h9) rfl dX4_takeFirst_41 ?_
      obtain ⟨u44, hu44, hf⟩ := cm_lt hf
      refine cm_callN (pc := 44) (As := [.int (v1 - 65)]) (rest := []) (wr := [(a, .inr (4, [.int 1, .int re.2.1, .int (v1 - 65), .int re.2.2.2]))]) (host := RX10) (n := 1) hx hb hml hown hts hK hP hD hS hA (c_X10_isOne l D cI cJ cZ (v1 - 65) u44 hu44) tw_306 (hK.2 (RX4, 25, yX10_isOne, RX10) (List.mem_of_getElem? (i := 16) rfl)) tw_305 tw_45 rfl rfl (by decide +kernel) rfl ⟨Nat.le_of_ble_eq_true rfl, Nat.le_of_ble_eq_true rfl⟩ [] [0] rfl (by decide) rfl (by decide) (by decide) hl.1 rfl (Nat.le_of_ble_eq_true rfl) dX4_takeFirst_44 ⟨Nat.zero_le _, Nat.zero_le _⟩ (fun H locs hP hD hS => ?_)
      have hP : va_P D vwCl [(a, .inr (4, [.int 1, .int re.2.1, .int (v1 - 65), .int re.2.2.2]))] H := hP
      have hD : va_D A [(a, .inr (4, [.int 1, .int re.2.1, .int (v1 - 65), .int re.2.2.2]))] := hD
      refine W.eq (g2 := F0 m 47 ls [.int u44]) rfl ?_
      obtain ⟨z_47, hf⟩ := cm_zo hf
      obtain rfl := Option.some.inj hf
      exact cm_zret z_47 (pc := 47) hAe hQ hx hb hr hlocks hP hD hS [0] (by decide) rfl dX4_takeFirst_47
    · have hf := cm_ip c_17 hf
      refine lv_aload_n (pc := 20) hx hb dX4_takeFirst_20 rfl (lv_at hl 0 rfl) ?_
      refine lv_iconst (pc := 21) (v := 3) hx hb dX4_takeFirst_21 (by decide) ?_
      refine va_put (pc := 22) (D := D) (ci := 4) (v := .int 3) (ty := .int) (C := RX4) (T := TX4) (N := 4) hx hb hts in_X4 tyX4 tyX4_ok nmX4 hown hKa hP hD hS 0 rfl rfl 0 (by decide) (hts _ tw_122) (fun _ h9 => h9) rfl (by decide +kernel) rfl rfl (Nat.le_of_ble_eq_true rfl) dX4_takeFirst_22 (fun H locs hP hD hS => ?_)
      have hP : va_P D vwCl [(a, .inr (4, [.int 3, .int re.2.1, .int re.2.2.1, .int re.2.2.2]))] H := hP
      have hD : va_D A [(a, .inr (4, [.int 3, .int re.2.1, .int re.2.2.1, .int re.2.2.2]))] := hD
      refine lv_iconst (pc := 25) (v := 1) hx hb dX4_takeFirst_25 (by decide) ?_
      obtain rfl := Option.some.inj hf
      exact cm_zret (Or.inr rfl) (pc := 26) hAe hQ hx hb hr hlocks hP hD hS [0] (by decide) rfl dX4_takeFirst_26
  · have hf := cm_ip c_3 hf
    refine lv_aload_n (pc := 6) hx hb dX4_takeFirst_6 rfl (lv_at hl 0 rfl) ?_
    refine lv_iconst (pc := 7) (v := 5) hx hb dX4_takeFirst_7 (by decide) ?_
    refine lv_iconst (pc := 8) (v := 0) hx hb dX4_takeFirst_8 (by decide) ?_
    refine lv_iconst (pc := 9) (v := 1) hx hb dX4_takeFirst_9 (by decide) ?_
    obtain ⟨u10, hu10, hf⟩ := cm_bd hf
    refine cm_callV (pc := 10) (As := [.int 5, .int 0, .int 1]) (rest := []) (wr := []) (ci := 4) (q0 := 0) (n := 3) hx hb hml hown hts hK hP hD hS hA (c_X4_end l D cI cJ cZ a re 5 0 1 u10 hu10) tw_367 tw_364 tw_366 tw_1 tw_48 rfl rfl (by decide +kernel) rfl ⟨Nat.le_of_ble_eq_true rfl, Nat.le_of_ble_eq_true rfl⟩ [0] [] rfl (by decide) rfl (by decide) (by decide) rfl rfl rfl hl.1 rfl (Nat.le_of_ble_eq_true rfl) dX4_takeFirst_10 ⟨Nat.zero_le _, Nat.zero_le _⟩ (fun H locs hP hD hS => ?_)
    have hP : va_P D vwCl [(a, .inr (4, [.int u10.2.1, .int u10.2.2.1, .int u10.2.2.2.1, .int u10.2.2.2.2]))] H := hP
    have hD : va_D A [(a, .inr (4, [.int u10.2.1, .int u10.2.2.1, .int u10.2.2.2.1, .int u10.2.2.2.2]))] := hD
    refine W.eq (g2 := F0 m 13 ls [.int u10.1]) rfl ?_
    obtain ⟨z_13, hf⟩ := cm_zo hf
    obtain rfl := Option.some.inj hf
    exact cm_zret z_13 (pc := 13) hAe hQ hx hb hr hlocks hP hD hS [0] (by decide) rfl dX4_takeFirst_13
def fX4_awaitOther (v1 : Int32) (re : SRE) : Int32 × SRE := (1, (2, v1, re.2.2.1, re.2.2.2))
def rmX4_awaitOther : Room := { frames := 0, cells := 0, slots := 0, locals := 0 }
set_option maxRecDepth 100000 in
set_option maxHeartbeats 4000000 in
theorem c_X4_awaitOther (l : Launch) (D : va_G) (cI cJ cZ : ClassId) (a : Nat) (re : SRE) (v1 : Int32) (res : Int32 × SRE) (hf : fX4_awaitOther v1 re = res) : Ct l yX4_awaitOther (cm_ws yX4_awaitOther cX4_awaitOther 2 (some .boolean)) rmX4_awaitOther D (cm_T cI cJ cZ) [.ref a, .int v1] [(a, .inr (4, [.int re.1, .int re.2.1, .int re.2.2.1, .int re.2.2.2]))] (some (.int res.1)) [(a, .inr (4, [.int res.2.1, .int res.2.2.1, .int res.2.2.2.1, .int res.2.2.2.2]))] := by
  refine Ct.of (cc := cX4_awaitOther) (maxL := 2) (ret := (some .boolean)) (by decide) (Nat.le_of_ble_eq_true rfl) ?_
  intro p e s m below meth c ls args A Q hav hAe hQ hx hb hr hml hown hlocks hts hK hP hD hA hS hl
  have hKa := hK.1
  have hl : lv_has ls 2 [(0, .ref a), (1, .int v1)] := hl
  unfold fX4_awaitOther at hf
  refine lv_aload_n (pc := 0) hx hb dX4_awaitOther_0 rfl (lv_at hl 0 rfl) ?_
  refine lv_iload_n (pc := 1) hx hb dX4_awaitOther_1 rfl (lv_at hl 1 rfl) ?_
  refine va_put (pc := 2) (D := D) (ci := 4) (v := .int v1) (ty := .int) (C := RX4) (T := TX4) (N := 4) hx hb hts in_X4 tyX4 tyX4_ok nmX4 hown hKa hP hD hS 0 rfl rfl 1 (by decide) (hts _ tw_124) (fun _ h9 => h9) rfl (by decide +kernel) rfl rfl (Nat.le_of_ble_eq_true rfl) dX4_awaitOther_2 (fun H locs hP hD hS => ?_)
  have hP : va_P D vwCl [(a, .inr (4, [.int re.1, .int v1, .int re.2.2.1, .int re.2.2.2]))] H := hP
  have hD : va_D A [(a, .inr (4, [.int re.1, .int v1, .int re.2.2.1, .int re.2.2.2]))] := hD
  refine lv_aload_n (pc := 5) hx hb dX4_awaitOther_5 rfl (lv_at hl 0 rfl) ?_
  refine lv_iconst (pc := 6) (v := 2) hx hb dX4_awaitOther_6 (by decide) ?_
  refine va_put (pc := 7) (D := D) (ci := 4) (v := .int 2) (ty := .int) (C := RX4) (T := TX4) (N := 4) hx hb hts in_X4 tyX4 tyX4_ok nmX4 hown hKa hP hD hS 0 rfl rfl 0 (by decide) (hts _ tw_122) (fun _ h9 => h9) rfl (by decide +kernel) rfl rfl (Nat.le_of_ble_eq_true rfl) dX4_awaitOther_7 (fun H locs hP hD hS => ?_)
  have hP : va_P D vwCl [(a, .inr (4, [.int 2, .int v1, .int re.2.2.1, .int re.2.2.2]))] H := hP
  have hD : va_D A [(a, .inr (4, [.int 2, .int v1, .int re.2.2.1, .int re.2.2.2]))] := hD
  refine lv_iconst (pc := 10) (v := 1) hx hb dX4_awaitOther_10 (by decide) ?_
  obtain rfl := hf
  exact cm_zret (Or.inr rfl) (pc := 11) hAe hQ hx hb hr hlocks hP hD hS [0] (by decide) rfl dX4_awaitOther_11
def fX4_takeDeed (v1 : Int32) (re : SRE) : Option (Int32 × SRE) := (if v1 = 36 then cm_let (fX4_awaitOther 3 re) (fun u68 => if u68.1 = 0 ∨ u68.1 = 1 then some (u68.1, u68.2) else none) else (if v1 = 43 then Option.bind (fX4_end 1 0 1 re) (fun u56 => if u56.1 = 0 ∨ u56.1 = 1 then some (u56.1, u56.2) else none) else (if v1 = 45 then Option.bind (fX4_end 0 (-1) 1 re) (fun u48 => if u48.1 = 0 ∨ u48.1 = 1 then some (u48.1, u48.2) else none) else (if v1 = 62 then cm_let (fX4_awaitOther 2 re) (fun u62 => if u62.1 = 0 ∨ u62.1 = 1 then some (u62.1, u62.2) else none) else cm_let (fX10_isDay (v1 - 48)) (fun u82 => Option.bind (fX4_end 0 (v1 - 48) u82 re) (fun u85 => if u85.1 = 0 ∨ u85.1 = 1 then some (u85.1, u85.2) else none))))))
def rmX4_takeDeed : Room := { frames := 1, cells := 0, slots := 0, locals := 23 }
set_option maxRecDepth 100000 in
set_option maxHeartbeats 4000000 in
theorem c_X4_takeDeed (l : Launch) (D : va_G) (cI cJ cZ : ClassId) (a : Nat) (re : SRE) (v1 : Int32) (res : Int32 × SRE) (hf : fX4_takeDeed v1 re = some res) : Ct l yX4_takeDeed (cm_ws yX4_takeDeed cX4_takeDeed 2 (some .boolean)) rmX4_takeDeed D (cm_T cI cJ cZ) [.ref a, .int v1] [(a, .inr (4, [.int re.1, .int re.2.1, .int re.2.2.1, .int re.2.2.2]))] (some (.int res.1)) [(a, .inr (4, [.int res.2.1, .int res.2.2.1, .int res.2.2.2.1, .int res.2.2.2.2]))] := by
  refine Ct.of (cc := cX4_takeDeed) (maxL := 2) (ret := (some .boolean)) (by decide) (Nat.le_of_ble_eq_true rfl) ?_
  intro p e s m below meth c ls args A Q hav hAe hQ hx hb hr hml hown hlocks hts hK hP hD hA hS hl
  have hKa := hK.1
  have hl : lv_has ls 2 [(0, .ref a), (1, .int v1)] := hl
  unfold fX4_takeDeed at hf
  refine lv_iload_n (pc := 0) hx hb dX4_takeDeed_0 rfl (lv_at hl 1 rfl) ?_
  refine cm_em (v1 = 36) (fun c_1_0 => ?_) (fun c_1_0 => ?_)
  · have hf := cm_ip c_1_0 hf
    refine lv_lookup (pc := 1) (off := 65) (tgt := 66) hx hb dX4_takeDeed_1 (by decide) (by rw [c_1_0]; decide) (by decide) ?_
    refine lv_aload_n (pc := 66) hx hb dX4_takeDeed_66 rfl (lv_at hl 0 rfl) ?_
    refine lv_iconst (pc := 67) (v := 3) hx hb dX4_takeDeed_67 (by decide) ?_
    obtain ⟨u68, hu68, hf⟩ := cm_lt hf
    refine cm_callV (pc := 68) (As := [.int 3]) (rest := []) (wr := []) (ci := 4) (q0 := 0) (n := 1) hx hb hml hown hts hK hP hD hS hA (c_X4_awaitOther l D cI cJ cZ a re 3 u68 hu68) tw_376 tw_373 tw_375 tw_3 tw_48 rfl rfl (by decide +kernel) rfl ⟨Nat.le_of_ble_eq_true rfl, Nat.le_of_ble_eq_true rfl⟩ [0] [] rfl (by decide) rfl (by decide) (by decide) rfl rfl rfl hl.1 rfl (Nat.le_of_ble_eq_true rfl) dX4_takeDeed_68 ⟨Nat.zero_le _, Nat.zero_le _⟩ (fun H locs hP hD hS => ?_)
    have hP : va_P D vwCl [(a, .inr (4, [.int u68.2.1, .int u68.2.2.1, .int u68.2.2.2.1, .int u68.2.2.2.2]))] H := hP
    have hD : va_D A [(a, .inr (4, [.int u68.2.1, .int u68.2.2.1, .int u68.2.2.2.1, .int u68.2.2.2.2]))] := hD
    refine W.eq (g2 := F0 m 71 ls [.int u68.1]) rfl ?_
    obtain ⟨z_71, hf⟩ := cm_zo hf
    obtain rfl := Option.some.inj hf
    exact cm_zret z_71 (pc := 71) hAe hQ hx hb hr hlocks hP hD hS [0] (by decide) rfl dX4_takeDeed_71
  · have hf := cm_in c_1_0 hf
    refine cm_em (v1 = 43) (fun c_1_1 => ?_) (fun c_1_1 => ?_)
    · have hf := cm_ip c_1_1 hf
      refine lv_lookup (pc := 1) (off := 51) (tgt := 52) hx hb dX4_takeDeed_1 (by decide) (by rw [c_1_1]; decide) (by decide) ?_
      refine lv_aload_n (pc := 52) hx hb dX4_takeDeed_52 rfl (lv_at hl 0 rfl) ?_
      refine lv_iconst (pc := 53) (v := 1) hx hb dX4_takeDeed_53 (by decide) ?_
      refine lv_iconst (pc := 54) (v := 0) hx hb dX4_takeDeed_54 (by decide) ?_
      refine lv_iconst (pc := 55) (v := 1) hx hb dX4_takeDeed_55 (by decide) ?_
      obtain ⟨u56, hu56, hf⟩ := cm_bd hf
      refine cm_callV (pc := 56) (As := [.int 1, .int 0, .int 1]) (rest := []) (wr := []) (ci := 4) (q0 := 0) (n := 3) hx hb hml hown hts hK hP hD hS hA (c_X4_end l D cI cJ cZ a re 1 0 1 u56 hu56) tw_367 tw_364 tw_366 tw_1 tw_48 rfl rfl (by decide +kernel) rfl ⟨Nat.le_of_ble_eq_true rfl, Nat.le_of_ble_eq_true rfl⟩ [0] [] rfl (by decide) rfl (by decide) (by decide) rfl rfl rfl hl.1 rfl (Nat.le_of_ble_eq_true rfl) dX4_takeDeed_56 ⟨Nat.zero_le _, Nat.zero_le _⟩ (fun H locs hP hD hS => ?_)
      have hP : va_P D vwCl [(a, .inr (4, [.int u56.2.1, .int u56.2.2.1, .int u56.2.2.2.1, .int u56.2.2.2.2]))] H := hP
      have hD : va_D A [(a, .inr (4, [.int u56.2.1, .int u56.2.2.1, .int u56.2.2.2.1, .int u56.2.2.2.2]))] := hD
      refine W.eq (g2 := F0 m 59 ls [.int u56.1]) rfl ?_
      obtain ⟨z_59, hf⟩ := cm_zo hf
      obtain rfl := Option.some.inj hf
      exact cm_zret z_59 (pc := 59) hAe hQ hx hb hr hlocks hP hD hS [0] (by decide) rfl dX4_takeDeed_59
    · have hf := cm_in c_1_1 hf
      refine cm_em (v1 = 45) (fun c_1_2 => ?_) (fun c_1_2 => ?_)
      · have hf := cm_ip c_1_2 hf
        refine lv_lookup (pc := 1) (off := 43) (tgt := 44) hx hb dX4_takeDeed_1 (by decide) (by rw [c_1_2]; decide) (by decide) ?_
        refine lv_aload_n (pc := 44) hx hb dX4_takeDeed_44 rfl (lv_at hl 0 rfl) ?_
        refine lv_iconst (pc := 45) (v := 0) hx hb dX4_takeDeed_45 (by decide) ?_
        refine lv_iconst (pc := 46) (v := (-1)) hx hb dX4_takeDeed_46 (by decide) ?_
        refine lv_iconst (pc := 47) (v := 1) hx hb dX4_takeDeed_47 (by decide) ?_
        obtain ⟨u48, hu48, hf⟩ := cm_bd hf
        refine cm_callV (pc := 48) (As := [.int 0, .int (-1), .int 1]) (rest := []) (wr := []) (ci := 4) (q0 := 0) (n := 3) hx hb hml hown hts hK hP hD hS hA (c_X4_end l D cI cJ cZ a re 0 (-1) 1 u48 hu48) tw_367 tw_364 tw_366 tw_1 tw_48 rfl rfl (by decide +kernel) rfl ⟨Nat.le_of_ble_eq_true rfl, Nat.le_of_ble_eq_true rfl⟩ [0] [] rfl (by decide) rfl (by decide) (by decide) rfl rfl rfl hl.1 rfl (Nat.le_of_ble_eq_true rfl) dX4_takeDeed_48 ⟨Nat.zero_le _, Nat.zero_le _⟩ (fun H locs hP hD hS => ?_)
        have hP : va_P D vwCl [(a, .inr (4, [.int u48.2.1, .int u48.2.2.1, .int u48.2.2.2.1, .int u48.2.2.2.2]))] H := hP
        have hD : va_D A [(a, .inr (4, [.int u48.2.1, .int u48.2.2.1, .int u48.2.2.2.1, .int u48.2.2.2.2]))] := hD
        refine W.eq (g2 := F0 m 51 ls [.int u48.1]) rfl ?_
        obtain ⟨z_51, hf⟩ := cm_zo hf
        obtain rfl := Option.some.inj hf
        exact cm_zret z_51 (pc := 51) hAe hQ hx hb hr hlocks hP hD hS [0] (by decide) rfl dX4_takeDeed_51
      · have hf := cm_in c_1_2 hf
        refine cm_em (v1 = 62) (fun c_1_3 => ?_) (fun c_1_3 => ?_)
        · have hf := cm_ip c_1_3 hf
          refine lv_lookup (pc := 1) (off := 59) (tgt := 60) hx hb dX4_takeDeed_1 (by decide) (by rw [c_1_3]; decide) (by decide) ?_
          refine lv_aload_n (pc := 60) hx hb dX4_takeDeed_60 rfl (lv_at hl 0 rfl) ?_
          refine lv_iconst (pc := 61) (v := 2) hx hb dX4_takeDeed_61 (by decide) ?_
          obtain ⟨u62, hu62, hf⟩ := cm_lt hf
          refine cm_callV (pc := 62) (As := [.int 2]) (rest := []) (wr := []) (ci := 4) (q0 := 0) (n := 1) hx hb hml hown hts hK hP hD hS hA (c_X4_awaitOther l D cI cJ cZ a re 2 u62 hu62) tw_376 tw_373 tw_375 tw_3 tw_48 rfl rfl (by decide +kernel) rfl ⟨Nat.le_of_ble_eq_true rfl, Nat.le_of_ble_eq_true rfl⟩ [0] [] rfl (by decide) rfl (by decide) (by decide) rfl rfl rfl hl.1 rfl (Nat.le_of_ble_eq_true rfl) dX4_takeDeed_62 ⟨Nat.zero_le _, Nat.zero_le _⟩ (fun H locs hP hD hS => ?_)
          have hP : va_P D vwCl [(a, .inr (4, [.int u62.2.1, .int u62.2.2.1, .int u62.2.2.2.1, .int u62.2.2.2.2]))] H := hP
          have hD : va_D A [(a, .inr (4, [.int u62.2.1, .int u62.2.2.1, .int u62.2.2.2.1, .int u62.2.2.2.2]))] := hD
          refine W.eq (g2 := F0 m 65 ls [.int u62.1]) rfl ?_
          obtain ⟨z_65, hf⟩ := cm_zo hf
          obtain rfl := Option.some.inj hf
          exact cm_zret z_65 (pc := 65) hAe hQ hx hb hr hlocks hP hD hS [0] (by decide) rfl dX4_takeDeed_65
        · have hf := cm_in c_1_3 hf
          refine lv_lookup (pc := 1) (off := 71) (tgt := 72) hx hb dX4_takeDeed_1 (by decide) (by have h0 := cm_nt (z := 36) (by decide) c_1_0; have h1 := cm_nt (z := 43) (by decide) c_1_1; have h2 := cm_nt (z := 45) (by decide) c_1_2; have h3 := cm_nt (z := 62) (by decide) c_1_3; simp [Op.lookupswitch.offset, Ne.symm h0, Ne.symm h1, Ne.symm h2, Ne.symm h3]) (by decide) ?_
          refine lv_aload_n (pc := 72) hx hb dX4_takeDeed_72 rfl (lv_at hl 0 rfl) ?_
          refine lv_iconst (pc := 73) (v := 0) hx hb dX4_takeDeed_73 (by decide) ?_
          refine lv_iload_n (pc := 74) hx hb dX4_takeDeed_74 rfl (lv_at hl 1 rfl) ?_
          refine lv_bipush (pc := 75) (v := 48) hx hb dX4_takeDeed_75 (by decide) ?_
          refine lv_isub (pc := 77) hx hb dX4_takeDeed_77 ?_
          refine lv_iload_n (pc := 78) hx hb dX4_takeDeed_78 rfl (lv_at hl 1 rfl) ?_
          refine lv_bipush (pc := 79) (v := 48) hx hb dX4_takeDeed_79 (by decide) ?_
          refine lv_isub (pc := 81) hx hb dX4_takeDeed_81 ?_
          obtain ⟨u82, hu82, hf⟩ := cm_lt hf
          refine cm_callN (pc := 82) (As := [.int (v1 - 48)]) (rest := [.int (v1 - 48), .int 0, .ref a]) (wr := [(a, .inr (4, [.int re.1, .int re.2.1, .int re.2.2.1, .int re.2.2.2]))]) (host := RX10) (n := 1) hx hb hml hown hts hK hP hD hS hA (c_X10_isDay l D cI cJ cZ (v1 - 48) u82 hu82) tw_309 (hK.2 (RX4, 41, yX10_isDay, RX10) (List.mem_of_getElem? (i := 18) rfl)) tw_308 tw_45 rfl rfl (by decide +kernel) rfl ⟨Nat.le_of_ble_eq_true rfl, Nat.le_of_ble_eq_true rfl⟩ [] [0] rfl (by decide) rfl (by decide) (by decide) hl.1 rfl (Nat.le_of_ble_eq_true rfl) dX4_takeDeed_82 ⟨Nat.zero_le _, Nat.zero_le _⟩ (fun H locs hP hD hS => ?_)
          have hP : va_P D vwCl [(a, .inr (4, [.int re.1, .int re.2.1, .int re.2.2.1, .int re.2.2.2]))] H := hP
          have hD : va_D A [(a, .inr (4, [.int re.1, .int re.2.1, .int re.2.2.1, .int re.2.2.2]))] := hD
          refine W.eq (g2 := F0 m 85 ls [.int u82, .int (v1 - 48), .int 0, .ref a]) rfl ?_
          obtain ⟨u85, hu85, hf⟩ := cm_bd hf
          refine cm_callV (pc := 85) (As := [.int 0, .int (v1 - 48), .int u82]) (rest := []) (wr := []) (ci := 4) (q0 := 0) (n := 3) hx hb hml hown hts hK hP hD hS hA (c_X4_end l D cI cJ cZ a re 0 (v1 - 48) u82 u85 hu85) tw_367 tw_364 tw_366 tw_1 tw_48 rfl rfl (by decide +kernel) rfl ⟨Nat.le_of_ble_eq_true rfl, Nat.le_of_ble_eq_true rfl⟩ [0] [] rfl (by decide) rfl (by decide) (by decide) rfl rfl rfl hl.1 rfl (Nat.le_of_ble_eq_true rfl) dX4_takeDeed_85 ⟨Nat.zero_le _, Nat.zero_le _⟩ (fun H locs hP hD hS => ?_)
          have hP : va_P D vwCl [(a, .inr (4, [.int u85.2.1, .int u85.2.2.1, .int u85.2.2.2.1, .int u85.2.2.2.2]))] H := hP
          have hD : va_D A [(a, .inr (4, [.int u85.2.1, .int u85.2.2.1, .int u85.2.2.2.1, .int u85.2.2.2.2]))] := hD
          refine W.eq (g2 := F0 m 88 ls [.int u85.1]) rfl ?_
          obtain ⟨z_88, hf⟩ := cm_zo hf
          obtain rfl := Option.some.inj hf
          exact cm_zret z_88 (pc := 88) hAe hQ hx hb hr hlocks hP hD hS [0] (by decide) rfl dX4_takeDeed_88
def fX4_take (v1 : Int32) (re : SRE) : Option (Int32 × SRE) := (if re.1 = 0 then Option.bind (fX4_takeFirst v1 re) (fun u34 => if u34.1 = 0 ∨ u34.1 = 1 then some (u34.1, u34.2) else none) else (if re.1 = 1 then Option.bind (fX4_takeDeed v1 re) (fun u40 => if u40.1 = 0 ∨ u40.1 = 1 then some (u40.1, u40.2) else none) else (if re.1 = 2 then cm_let (fX10_isOne (v1 - 65)) (fun u57 => Option.bind (fX4_end re.2.1 (v1 - 65) u57 re) (fun u60 => if u60.1 = 0 ∨ u60.1 = 1 then some (u60.1, u60.2) else none)) else cm_let (fX10_isCart (v1 - 48)) (fun u74 => Option.bind (fX4_end 4 (v1 - 48) u74 re) (fun u77 => if u77.1 = 0 ∨ u77.1 = 1 then some (u77.1, u77.2) else none)))))
def rmX4_take : Room := { frames := 2, cells := 0, slots := 0, locals := 44 }
set_option maxRecDepth 100000 in
set_option maxHeartbeats 4000000 in
theorem c_X4_take (l : Launch) (D : va_G) (cI cJ cZ : ClassId) (a : Nat) (re : SRE) (v1 : Int32) (res : Int32 × SRE) (hf : fX4_take v1 re = some res) : Ct l yX4_take (cm_ws yX4_take cX4_take 2 (some .boolean)) rmX4_take D (cm_T cI cJ cZ) [.ref a, .int v1] [(a, .inr (4, [.int re.1, .int re.2.1, .int re.2.2.1, .int re.2.2.2]))] (some (.int res.1)) [(a, .inr (4, [.int res.2.1, .int res.2.2.1, .int res.2.2.2.1, .int res.2.2.2.2]))] := by
  refine Ct.of (cc := cX4_take) (maxL := 2) (ret := (some .boolean)) (by decide) (Nat.le_of_ble_eq_true rfl) ?_
  intro p e s m below meth c ls args A Q hav hAe hQ hx hb hr hml hown hlocks hts hK hP hD hA hS hl
  have hKa := hK.1
  have hl : lv_has ls 2 [(0, .ref a), (1, .int v1)] := hl
  unfold fX4_take at hf
  refine lv_aload_n (pc := 0) hx hb dX4_take_0 rfl (lv_at hl 0 rfl) ?_
  refine va_get (pc := 1) (D := D) (ci := 4) (v := .int re.1) (C := RX4) (T := TX4) (N := 4) hx hb hts in_X4 hown hKa hP 0 rfl rfl 0 (by decide) (hts _ tw_122) (fun _ h9 => h9) rfl dX4_take_1 ?_
  refine cm_em (re.1 = 0) (fun c_4_0 => ?_) (fun c_4_0 => ?_)
  · have hf := cm_ip c_4_0 hf
    refine lv_tableIn (pc := 4) (off := 28) (tgt := 32) hx hb dX4_take_4 (by rw [c_4_0]; decide) (by rw [c_4_0]; decide) (by rw [c_4_0]; rfl) (by decide) ?_
    refine lv_aload_n (pc := 32) hx hb dX4_take_32 rfl (lv_at hl 0 rfl) ?_
    refine lv_iload_n (pc := 33) hx hb dX4_take_33 rfl (lv_at hl 1 rfl) ?_
    obtain ⟨u34, hu34, hf⟩ := cm_bd hf
    refine cm_callV (pc := 34) (As := [.int v1]) (rest := []) (wr := []) (ci := 4) (q0 := 0) (n := 1) hx hb hml hown hts hK hP hD hS hA (c_X4_takeFirst l D cI cJ cZ a re v1 u34 hu34) tw_363 tw_360 tw_362 tw_0 tw_48 rfl rfl (by decide +kernel) rfl ⟨Nat.le_of_ble_eq_true rfl, Nat.le_of_ble_eq_true rfl⟩ [0] [] rfl (by decide) rfl (by decide) (by decide) rfl rfl rfl hl.1 rfl (Nat.le_of_ble_eq_true rfl) dX4_take_34 ⟨Nat.zero_le _, Nat.zero_le _⟩ (fun H locs hP hD hS => ?_)
    have hP : va_P D vwCl [(a, .inr (4, [.int u34.2.1, .int u34.2.2.1, .int u34.2.2.2.1, .int u34.2.2.2.2]))] H := hP
    have hD : va_D A [(a, .inr (4, [.int u34.2.1, .int u34.2.2.1, .int u34.2.2.2.1, .int u34.2.2.2.2]))] := hD
    refine W.eq (g2 := F0 m 37 ls [.int u34.1]) rfl ?_
    obtain ⟨z_37, hf⟩ := cm_zo hf
    obtain rfl := Option.some.inj hf
    exact cm_zret z_37 (pc := 37) hAe hQ hx hb hr hlocks hP hD hS [0] (by decide) rfl dX4_take_37
  · have hf := cm_in c_4_0 hf
    refine cm_em (re.1 = 1) (fun c_4_1 => ?_) (fun c_4_1 => ?_)
    · have hf := cm_ip c_4_1 hf
      refine lv_tableIn (pc := 4) (off := 34) (tgt := 38) hx hb dX4_take_4 (by rw [c_4_1]; decide) (by rw [c_4_1]; decide) (by rw [c_4_1]; rfl) (by decide) ?_
      refine lv_aload_n (pc := 38) hx hb dX4_take_38 rfl (lv_at hl 0 rfl) ?_
      refine lv_iload_n (pc := 39) hx hb dX4_take_39 rfl (lv_at hl 1 rfl) ?_
      obtain ⟨u40, hu40, hf⟩ := cm_bd hf
      refine cm_callV (pc := 40) (As := [.int v1]) (rest := []) (wr := []) (ci := 4) (q0 := 0) (n := 1) hx hb hml hown hts hK hP hD hS hA (c_X4_takeDeed l D cI cJ cZ a re v1 u40 hu40) tw_372 tw_369 tw_371 tw_2 tw_48 rfl rfl (by decide +kernel) rfl ⟨Nat.le_of_ble_eq_true rfl, Nat.le_of_ble_eq_true rfl⟩ [0] [] rfl (by decide) rfl (by decide) (by decide) rfl rfl rfl hl.1 rfl (Nat.le_of_ble_eq_true rfl) dX4_take_40 ⟨Nat.zero_le _, Nat.zero_le _⟩ (fun H locs hP hD hS => ?_)
      have hP : va_P D vwCl [(a, .inr (4, [.int u40.2.1, .int u40.2.2.1, .int u40.2.2.2.1, .int u40.2.2.2.2]))] H := hP
      have hD : va_D A [(a, .inr (4, [.int u40.2.1, .int u40.2.2.1, .int u40.2.2.2.1, .int u40.2.2.2.2]))] := hD
      refine W.eq (g2 := F0 m 43 ls [.int u40.1]) rfl ?_
      obtain ⟨z_43, hf⟩ := cm_zo hf
      obtain rfl := Option.some.inj hf
      exact cm_zret z_43 (pc := 43) hAe hQ hx hb hr hlocks hP hD hS [0] (by decide) rfl dX4_take_43
    · have hf := cm_in c_4_1 hf
      refine cm_em (re.1 = 2) (fun c_4_2 => ?_) (fun c_4_2 => ?_)
      · have hf := cm_ip c_4_2 hf
        refine lv_tableIn (pc := 4) (off := 40) (tgt := 44) hx hb dX4_take_4 (by rw [c_4_2]; decide) (by rw [c_4_2]; decide) (by rw [c_4_2]; rfl) (by decide) ?_
        refine lv_aload_n (pc := 44) hx hb dX4_take_44 rfl (lv_at hl 0 rfl) ?_
        refine lv_aload_n (pc := 45) hx hb dX4_take_45 rfl (lv_at hl 0 rfl) ?_
        refine va_get (pc := 46) (D := D) (ci := 4) (v := .int re.2.1) (C := RX4) (T := TX4) (N := 4) hx hb hts in_X4 hown hKa hP 0 rfl rfl 1 (by decide) (hts _ tw_124) (fun _ h9 => h9) rfl dX4_take_46 ?_
        refine lv_iload_n (pc := 49) hx hb dX4_take_49 rfl (lv_at hl 1 rfl) ?_
        refine lv_bipush (pc := 50) (v := 65) hx hb dX4_take_50 (by decide) ?_
        refine lv_isub (pc := 52) hx hb dX4_take_52 ?_
        refine lv_iload_n (pc := 53) hx hb dX4_take_53 rfl (lv_at hl 1 rfl) ?_
        refine lv_bipush (pc := 54) (v := 65) hx hb dX4_take_54 (by decide) ?_
        refine lv_isub (pc := 56) hx hb dX4_take_56 ?_
        obtain ⟨u57, hu57, hf⟩ := cm_lt hf
        refine cm_callN (pc := 57) (As := [.int (v1 - 65)]) (rest := [.int (v1 - 65), .int re.2.1, .ref a]) (wr := [(a, .inr (4, [.int re.1, .int re.2.1, .int re.2.2.1, .int re.2.2.2]))]) (host := RX10) (n := 1) hx hb hml hown hts hK hP hD hS hA (c_X10_isOne l D cI cJ cZ (v1 - 65) u57 hu57) tw_306 (hK.2 (RX4, 25, yX10_isOne, RX10) (List.mem_of_getElem? (i := 16) rfl)) tw_305 tw_45 rfl rfl (by decide +kernel) rfl ⟨Nat.le_of_ble_eq_true rfl, Nat.le_of_ble_eq_true rfl⟩ [] [0] rfl (by decide) rfl (by decide) (by decide) hl.1 rfl (Nat.le_of_ble_eq_true rfl) dX4_take_57 ⟨Nat.zero_le _, Nat.zero_le _⟩ (fun H locs hP hD hS => ?_)
        have hP : va_P D vwCl [(a, .inr (4, [.int re.1, .int re.2.1, .int re.2.2.1, .int re.2.2.2]))] H := hP
        have hD : va_D A [(a, .inr (4, [.int re.1, .int re.2.1, .int re.2.2.1, .int re.2.2.2]))] := hD
        refine W.eq (g2 := F0 m 60 ls [.int u57, .int (v1 - 65), .int re.2.1, .ref a]) rfl ?_
        obtain ⟨u60, hu60, hf⟩ := cm_bd hf
        refine cm_callV (pc := 60) (As := [.int re.2.1, .int (v1 - 65), .int u57]) (rest := []) (wr := []) (ci := 4) (q0 := 0) (n := 3) hx hb hml hown hts hK hP hD hS hA (c_X4_end l D cI cJ cZ a re re.2.1 (v1 - 65) u57 u60 hu60) tw_367 tw_364 tw_366 tw_1 tw_48 rfl rfl (by decide +kernel) rfl ⟨Nat.le_of_ble_eq_true rfl, Nat.le_of_ble_eq_true rfl⟩ [0] [] rfl (by decide) rfl (by decide) (by decide) rfl rfl rfl hl.1 rfl (Nat.le_of_ble_eq_true rfl) dX4_take_60 ⟨Nat.zero_le _, Nat.zero_le _⟩ (fun H locs hP hD hS => ?_)
        have hP : va_P D vwCl [(a, .inr (4, [.int u60.2.1, .int u60.2.2.1, .int u60.2.2.2.1, .int u60.2.2.2.2]))] H := hP
        have hD : va_D A [(a, .inr (4, [.int u60.2.1, .int u60.2.2.1, .int u60.2.2.2.1, .int u60.2.2.2.2]))] := hD
        refine W.eq (g2 := F0 m 63 ls [.int u60.1]) rfl ?_
        obtain ⟨z_63, hf⟩ := cm_zo hf
        obtain rfl := Option.some.inj hf
        exact cm_zret z_63 (pc := 63) hAe hQ hx hb hr hlocks hP hD hS [0] (by decide) rfl dX4_take_63
      · have hf := cm_in c_4_2 hf
        refine lv_tableOut (pc := 4) (tgt := 64) hx hb dX4_take_4 (by have h0 := cm_nt (z := 0) (by decide) c_4_0; have h1 := cm_nt (z := 1) (by decide) c_4_1; have h2 := cm_nt (z := 2) (by decide) c_4_2; omega) (by decide) ?_
        refine lv_aload_n (pc := 64) hx hb dX4_take_64 rfl (lv_at hl 0 rfl) ?_
        refine lv_iconst (pc := 65) (v := 4) hx hb dX4_take_65 (by decide) ?_
        refine lv_iload_n (pc := 66) hx hb dX4_take_66 rfl (lv_at hl 1 rfl) ?_
        refine lv_bipush (pc := 67) (v := 48) hx hb dX4_take_67 (by decide) ?_
        refine lv_isub (pc := 69) hx hb dX4_take_69 ?_
        refine lv_iload_n (pc := 70) hx hb dX4_take_70 rfl (lv_at hl 1 rfl) ?_
        refine lv_bipush (pc := 71) (v := 48) hx hb dX4_take_71 (by decide) ?_
        refine lv_isub (pc := 73) hx hb dX4_take_73 ?_
        obtain ⟨u74, hu74, hf⟩ := cm_lt hf
        refine cm_callN (pc := 74) (As := [.int (v1 - 48)]) (rest := [.int (v1 - 48), .int 4, .ref a]) (wr := [(a, .inr (4, [.int re.1, .int re.2.1, .int re.2.2.1, .int re.2.2.2]))]) (host := RX10) (n := 1) hx hb hml hown hts hK hP hD hS hA (c_X10_isCart l D cI cJ cZ (v1 - 48) u74 hu74) tw_319 (hK.2 (RX4, 32, yX10_isCart, RX10) (List.mem_of_getElem? (i := 17) rfl)) tw_318 tw_45 rfl rfl (by decide +kernel) rfl ⟨Nat.le_of_ble_eq_true rfl, Nat.le_of_ble_eq_true rfl⟩ [] [0] rfl (by decide) rfl (by decide) (by decide) hl.1 rfl (Nat.le_of_ble_eq_true rfl) dX4_take_74 ⟨Nat.zero_le _, Nat.zero_le _⟩ (fun H locs hP hD hS => ?_)
        have hP : va_P D vwCl [(a, .inr (4, [.int re.1, .int re.2.1, .int re.2.2.1, .int re.2.2.2]))] H := hP
        have hD : va_D A [(a, .inr (4, [.int re.1, .int re.2.1, .int re.2.2.1, .int re.2.2.2]))] := hD
        refine W.eq (g2 := F0 m 77 ls [.int u74, .int (v1 - 48), .int 4, .ref a]) rfl ?_
        obtain ⟨u77, hu77, hf⟩ := cm_bd hf
        refine cm_callV (pc := 77) (As := [.int 4, .int (v1 - 48), .int u74]) (rest := []) (wr := []) (ci := 4) (q0 := 0) (n := 3) hx hb hml hown hts hK hP hD hS hA (c_X4_end l D cI cJ cZ a re 4 (v1 - 48) u74 u77 hu77) tw_367 tw_364 tw_366 tw_1 tw_48 rfl rfl (by decide +kernel) rfl ⟨Nat.le_of_ble_eq_true rfl, Nat.le_of_ble_eq_true rfl⟩ [0] [] rfl (by decide) rfl (by decide) (by decide) rfl rfl rfl hl.1 rfl (Nat.le_of_ble_eq_true rfl) dX4_take_77 ⟨Nat.zero_le _, Nat.zero_le _⟩ (fun H locs hP hD hS => ?_)
        have hP : va_P D vwCl [(a, .inr (4, [.int u77.2.1, .int u77.2.2.1, .int u77.2.2.2.1, .int u77.2.2.2.2]))] H := hP
        have hD : va_D A [(a, .inr (4, [.int u77.2.1, .int u77.2.2.1, .int u77.2.2.2.1, .int u77.2.2.2.2]))] := hD
        refine W.eq (g2 := F0 m 80 ls [.int u77.1]) rfl ?_
        obtain ⟨z_80, hf⟩ := cm_zo hf
        obtain rfl := Option.some.inj hf
        exact cm_zret z_80 (pc := 80) hAe hQ hx hb hr hlocks hP hD hS [0] (by decide) rfl dX4_take_80
def fX4_isBetweenActs (re : SRE) : Int32 := (if re.1 = 0 then 1 else 0)
def rmX4_isBetweenActs : Room := { frames := 0, cells := 0, slots := 0, locals := 0 }
set_option maxRecDepth 100000 in
set_option maxHeartbeats 4000000 in
theorem c_X4_isBetweenActs (l : Launch) (D : va_G) (cI cJ cZ : ClassId) (a : Nat) (re : SRE) (res : Int32) (hf : fX4_isBetweenActs re = res) : Ct l yX4_isBetweenActs (cm_ws yX4_isBetweenActs cX4_isBetweenActs 1 (some .boolean)) rmX4_isBetweenActs D (cm_T cI cJ cZ) [.ref a] [(a, .inr (4, [.int re.1, .int re.2.1, .int re.2.2.1, .int re.2.2.2]))] (some (.int res)) [(a, .inr (4, [.int re.1, .int re.2.1, .int re.2.2.1, .int re.2.2.2]))] := by
  refine Ct.of (cc := cX4_isBetweenActs) (maxL := 1) (ret := (some .boolean)) (by decide) (Nat.le_of_ble_eq_true rfl) ?_
  intro p e s m below meth c ls args A Q hav hAe hQ hx hb hr hml hown hlocks hts hK hP hD hA hS hl
  have hKa := hK.1
  have hl : lv_has ls 1 [(0, .ref a)] := hl
  unfold fX4_isBetweenActs at hf
  refine lv_aload_n (pc := 0) hx hb dX4_isBetweenActs_0 rfl (lv_at hl 0 rfl) ?_
  refine va_get (pc := 1) (D := D) (ci := 4) (v := .int re.1) (C := RX4) (T := TX4) (N := 4) hx hb hts in_X4 hown hKa hP 0 rfl rfl 0 (by decide) (hts _ tw_122) (fun _ h9 => h9) rfl dX4_isBetweenActs_1 ?_
  refine lv_if_ne (pc := 4) (tgt := 11) hx hb dX4_isBetweenActs_4 (by decide) (fun c_4 => ?_) (fun c_4 => ?_)
  · have hf := cm_in c_4 hf
    refine lv_iconst (pc := 11) (v := 0) hx hb dX4_isBetweenActs_11 (by decide) ?_
    obtain rfl := hf
    exact cm_zret (Or.inl rfl) (pc := 12) hAe hQ hx hb hr hlocks hP hD hS [0] (by decide) rfl dX4_isBetweenActs_12
  · have hf := cm_ip c_4 hf
    refine lv_iconst (pc := 7) (v := 1) hx hb dX4_isBetweenActs_7 (by decide) ?_
    refine lv_goto (pc := 8) (tgt := 12) hx hb dX4_isBetweenActs_8 (by decide) ?_
    obtain rfl := hf
    exact cm_zret (Or.inr rfl) (pc := 12) hAe hQ hx hb hr hlocks hP hD hS [0] (by decide) rfl dX4_isBetweenActs_12
def fX3_firstFault_L9 (pa : SPA) (kx : Int32 → SRE → Option (Int32 × SRE)) : Nat → Int32 → SRE → Option (Int32 × SRE)
  | 0, _, _ => none
  | n + 1, v1_9, reader_re_9 => (if pa.2 ≤ v1_9 then kx v1_9 reader_re_9 else Option.bind (fX3_signAt v1_9 pa) (fun u23 => Option.bind (fX4_take u23 reader_re_9) (fun u26 => (if u26.1 = 0 then some (v1_9, u26.2) else fX3_firstFault_L9 pa kx n (v1_9 + 1) u26.2))))
def fX3_firstFault (pa : SPA) (reader_re : SRE) : Option (Int32 × SRE) := cm_let (fX4_begin reader_re) (fun u4 => fX3_firstFault_L9 pa (fun v1_9 reader_re_9 => cm_let (fX4_isBetweenActs reader_re_9) (fun u44 => (if u44 = 0 then some (pa.2, reader_re_9) else some ((-6), reader_re_9)))) 5000 0 u4)
def rmX3_firstFault : Room := { frames := 3, cells := 0, slots := 0, locals := 65 }
set_option maxRecDepth 100000 in
set_option maxHeartbeats 4000000 in
theorem c_X3_firstFault (l : Launch) (D : va_G) (cI cJ cZ : ClassId) (a a_signs a_reader : Nat) (pa : SPA) (reader_re : SRE) (res : Int32 × SRE) (hf : fX3_firstFault pa reader_re = some res) : Ct l yX3_firstFault (cm_ws yX3_firstFault cX3_firstFault 2 (some .int)) rmX3_firstFault D (cm_T cI cJ cZ) [.ref a] [(a, .inr (3, [.ref a_signs, .ref a_reader, .int pa.2])), cm_kI cI a_signs 60 pa.1, (a_reader, .inr (4, [.int reader_re.1, .int reader_re.2.1, .int reader_re.2.2.1, .int reader_re.2.2.2]))] (some (.int res.1)) [(a, .inr (3, [.ref a_signs, .ref a_reader, .int pa.2])), cm_kI cI a_signs 60 pa.1, (a_reader, .inr (4, [.int res.2.1, .int res.2.2.1, .int res.2.2.2.1, .int res.2.2.2.2]))] := by
  refine Ct.of (cc := cX3_firstFault) (maxL := 2) (ret := (some .int)) (by decide) (Nat.le_of_ble_eq_true rfl) ?_
  intro p e s m below meth c ls args A Q hav hAe hQ hx hb hr hml hown hlocks hts hK hP hD hA hS hl
  have hKa := hK.1
  have hl : lv_has ls 2 [(0, .ref a)] := hl
  unfold fX3_firstFault at hf
  refine lv_aload_n (pc := 0) hx hb dX3_firstFault_0 rfl (lv_at hl 0 rfl) ?_
  refine va_get (pc := 1) (D := D) (ci := 3) (v := .ref a_reader) (C := RX3) (T := TX3) (N := 3) hx hb hts in_X3 hown hKa hP 0 rfl rfl 1 (by decide) (hts _ tw_139) (fun _ h9 => h9) rfl dX3_firstFault_1 ?_
  obtain ⟨u4, hu4, hf⟩ := cm_lt hf
  refine cm_callV (pc := 4) (As := []) (rest := []) (wr := [(a, .inr (3, [.ref a_signs, .ref a_reader, .int pa.2])), cm_kI cI a_signs 60 pa.1]) (ci := 4) (q0 := 2) (n := 0) hx hb hml hown hts hK hP hD hS hA (c_X4_begin l D cI cJ cZ a_reader reader_re u4 hu4) tw_351 tw_348 tw_349 tw_350 tw_48 rfl rfl (by decide +kernel) rfl ⟨Nat.le_of_ble_eq_true rfl, Nat.le_of_ble_eq_true rfl⟩ [2] [0, 1] rfl (by decide) rfl (by decide) (by decide) rfl rfl rfl hl.1 rfl (Nat.le_of_ble_eq_true rfl) dX3_firstFault_4 ⟨Nat.zero_le _, Nat.zero_le _⟩ (fun H locs hP hD hS => ?_)
  have hP : va_P D vwCl [(a, .inr (3, [.ref a_signs, .ref a_reader, .int pa.2])), cm_kI cI a_signs 60 pa.1, (a_reader, .inr (4, [.int u4.1, .int u4.2.1, .int u4.2.2.1, .int u4.2.2.2]))] H := hP
  have hD : va_D A [(a, .inr (3, [.ref a_signs, .ref a_reader, .int pa.2])), cm_kI cI a_signs 60 pa.1, (a_reader, .inr (4, [.int u4.1, .int u4.2.1, .int u4.2.2.1, .int u4.2.2.2]))] := hD
  refine W.eq (g2 := F0 m 7 ls []) rfl ?_
  refine lv_iconst (pc := 7) (v := 0) hx hb dX3_firstFault_7 (by decide) ?_
  refine lv_istore_n (pc := 8) (lv' := [(1, .int 0), (0, .ref a)]) hx hb dX3_firstFault_8 rfl hl (by decide) rfl (fun ls hl => ?_)
  have L9 : ∀ (kx : Int32 → SRE → Option (Int32 × SRE)), (∀ (v1_9 : Int32) (reader_re_9 : SRE) (H : Heap) (locs : List Loc) (ls : Array Slot), va_P D vwCl [(a, .inr (3, [.ref a_signs, .ref a_reader, .int pa.2])), cm_kI cI a_signs 60 pa.1, (a_reader, .inr (4, [.int reader_re_9.1, .int reader_re_9.2.1, .int reader_re_9.2.2.1, .int reader_re_9.2.2.2]))] H → va_D A [(a, .inr (3, [.ref a_signs, .ref a_reader, .int pa.2])), cm_kI cI a_signs 60 pa.1, (a_reader, .inr (4, [.int reader_re_9.1, .int reader_re_9.2.1, .int reader_re_9.2.2.1, .int reader_re_9.2.2.2]))] → va_S A s.heap H locs → lv_has ls 2 [(0, .ref a)] → kx v1_9 reader_re_9 = some res → W p l e rmX3_firstFault s m args below meth c H locs 0 0 Q (F0 m 40 ls [])) → ∀ (n : Nat) (v1_9 : Int32) (reader_re_9 : SRE) (H : Heap) (locs : List Loc) (ls : Array Slot), va_P D vwCl [(a, .inr (3, [.ref a_signs, .ref a_reader, .int pa.2])), cm_kI cI a_signs 60 pa.1, (a_reader, .inr (4, [.int reader_re_9.1, .int reader_re_9.2.1, .int reader_re_9.2.2.1, .int reader_re_9.2.2.2]))] H → va_D A [(a, .inr (3, [.ref a_signs, .ref a_reader, .int pa.2])), cm_kI cI a_signs 60 pa.1, (a_reader, .inr (4, [.int reader_re_9.1, .int reader_re_9.2.1, .int reader_re_9.2.2.1, .int reader_re_9.2.2.2]))] → va_S A s.heap H locs → lv_has ls 2 [(1, .int v1_9), (0, .ref a)] → fX3_firstFault_L9 pa kx n v1_9 reader_re_9 = some res → W p l e rmX3_firstFault s m args below meth c H locs 0 0 Q (F0 m 9 ls []) := by
    intro kx hkx n
    induction n with
    | zero => intro v1_9 reader_re_9 H locs ls hP hD hS hl hf; cases hf
    | succ n ih =>
      intro v1_9 reader_re_9 H locs ls hP hD hS hl hf
      rw [fX3_firstFault_L9] at hf
      refine lv_iload_n (pc := 9) hx hb dX3_firstFault_9 rfl (lv_at hl 0 rfl) ?_
      refine lv_aload_n (pc := 10) hx hb dX3_firstFault_10 rfl (lv_at hl 1 rfl) ?_
      refine va_get (pc := 11) (D := D) (ci := 3) (v := .int pa.2) (C := RX3) (T := TX3) (N := 3) hx hb hts in_X3 hown hKa hP 0 rfl rfl 2 (by decide) (hts _ tw_140) (fun _ h9 => h9) rfl dX3_firstFault_11 ?_
      refine lv_icmp_ge (pc := 14) (tgt := 40) hx hb dX3_firstFault_14 (by decide) (fun c_14 => ?_) (fun c_14 => ?_)
      · have hf := cm_ip c_14 hf
        exact hkx v1_9 reader_re_9 _ _ _ hP hD hS (lv_sub hl [1] rfl) hf
      · have hf := cm_in c_14 hf
        refine lv_aload_n (pc := 17) hx hb dX3_firstFault_17 rfl (lv_at hl 1 rfl) ?_
        refine va_get (pc := 18) (D := D) (ci := 3) (v := .ref a_reader) (C := RX3) (T := TX3) (N := 3) hx hb hts in_X3 hown hKa hP 0 rfl rfl 1 (by decide) (hts _ tw_139) (fun _ h9 => h9) rfl dX3_firstFault_18 ?_
        refine lv_aload_n (pc := 21) hx hb dX3_firstFault_21 rfl (lv_at hl 1 rfl) ?_
        refine lv_iload_n (pc := 22) hx hb dX3_firstFault_22 rfl (lv_at hl 0 rfl) ?_
        obtain ⟨u23, hu23, hf⟩ := cm_bd hf
        refine cm_callV (pc := 23) (As := [.int v1_9]) (rest := [.ref a_reader]) (wr := [(a_reader, .inr (4, [.int reader_re_9.1, .int reader_re_9.2.1, .int reader_re_9.2.2.1, .int reader_re_9.2.2.2]))]) (ci := 3) (q0 := 0) (n := 1) hx hb hml hown hts hK hP hD hS hA (c_X3_signAt l D cI cJ cZ a a_signs a_reader pa v1_9 u23 hu23) tw_355 tw_352 tw_353 tw_354 tw_47 rfl rfl (by decide +kernel) rfl ⟨Nat.le_of_ble_eq_true rfl, Nat.le_of_ble_eq_true rfl⟩ [0, 1] [2] rfl (by decide) rfl (by decide) (by decide) rfl rfl rfl hl.1 rfl (Nat.le_of_ble_eq_true rfl) dX3_firstFault_23 ⟨Nat.zero_le _, Nat.zero_le _⟩ (fun H locs hP hD hS => ?_)
        have hP : va_P D vwCl [(a_reader, .inr (4, [.int reader_re_9.1, .int reader_re_9.2.1, .int reader_re_9.2.2.1, .int reader_re_9.2.2.2])), (a, .inr (3, [.ref a_signs, .ref a_reader, .int pa.2])), cm_kI cI a_signs 60 pa.1] H := hP
        have hD : va_D A [(a_reader, .inr (4, [.int reader_re_9.1, .int reader_re_9.2.1, .int reader_re_9.2.2.1, .int reader_re_9.2.2.2])), (a, .inr (3, [.ref a_signs, .ref a_reader, .int pa.2])), cm_kI cI a_signs 60 pa.1] := hD
        refine W.eq (g2 := F0 m 26 ls [.int u23, .ref a_reader]) rfl ?_
        obtain ⟨u26, hu26, hf⟩ := cm_bd hf
        refine cm_callV (pc := 26) (As := [.int u23]) (rest := []) (wr := [(a, .inr (3, [.ref a_signs, .ref a_reader, .int pa.2])), cm_kI cI a_signs 60 pa.1]) (ci := 4) (q0 := 0) (n := 1) hx hb hml hown hts hK hP hD hS hA (c_X4_take l D cI cJ cZ a_reader reader_re_9 u23 u26 hu26) tw_359 tw_356 tw_357 tw_358 tw_48 rfl rfl (by decide +kernel) rfl ⟨Nat.le_of_ble_eq_true rfl, Nat.le_of_ble_eq_true rfl⟩ [0] [1, 2] rfl (by decide) rfl (by decide) (by decide) rfl rfl rfl hl.1 rfl (Nat.le_of_ble_eq_true rfl) dX3_firstFault_26 ⟨Nat.zero_le _, Nat.zero_le _⟩ (fun H locs hP hD hS => ?_)
        have hP : va_P D vwCl [(a, .inr (3, [.ref a_signs, .ref a_reader, .int pa.2])), cm_kI cI a_signs 60 pa.1, (a_reader, .inr (4, [.int u26.2.1, .int u26.2.2.1, .int u26.2.2.2.1, .int u26.2.2.2.2]))] H := hP
        have hD : va_D A [(a, .inr (3, [.ref a_signs, .ref a_reader, .int pa.2])), cm_kI cI a_signs 60 pa.1, (a_reader, .inr (4, [.int u26.2.1, .int u26.2.2.1, .int u26.2.2.2.1, .int u26.2.2.2.2]))] := hD
        refine W.eq (g2 := F0 m 29 ls [.int u26.1]) rfl ?_
        refine lv_if_ne (pc := 29) (tgt := 34) hx hb dX3_firstFault_29 (by decide) (fun c_29 => ?_) (fun c_29 => ?_)
        · have hf := cm_in c_29 hf
          refine lv_iinc (pc := 34) (v := (v1_9 + 1)) (lv' := [(1, .int (v1_9 + 1)), (0, .ref a)]) hx hb dX3_firstFault_34 hl (k := 0) rfl rfl (by decide) rfl (fun ls hl => ?_)
          refine lv_goto (pc := 37) (tgt := 9) hx hb dX3_firstFault_37 (by decide) ?_
          exact ih (v1_9 + 1) u26.2 _ _ _ hP hD hS (lv_sub hl [0, 1] rfl) hf
        · have hf := cm_ip c_29 hf
          refine lv_iload_n (pc := 32) hx hb dX3_firstFault_32 rfl (lv_at hl 0 rfl) ?_
          obtain rfl := Option.some.inj hf
          exact cm_iret (pc := 33) hAe hQ hx hb hr hlocks hP hD hS [0, 1, 2] (by decide) rfl dX3_firstFault_33
  refine L9 _ (fun v1_9 reader_re_9 H locs ls hP hD hS hl hf => ?_) 5000 0 u4 _ _ _ hP hD hS (lv_sub hl [0, 1] rfl) hf
  refine lv_aload_n (pc := 40) hx hb dX3_firstFault_40 rfl (lv_at hl 0 rfl) ?_
  refine va_get (pc := 41) (D := D) (ci := 3) (v := .ref a_reader) (C := RX3) (T := TX3) (N := 3) hx hb hts in_X3 hown hKa hP 0 rfl rfl 1 (by decide) (hts _ tw_139) (fun _ h9 => h9) rfl dX3_firstFault_41 ?_
  obtain ⟨u44, hu44, hf⟩ := cm_lt hf
  refine cm_callV (pc := 44) (As := []) (rest := []) (wr := [(a, .inr (3, [.ref a_signs, .ref a_reader, .int pa.2])), cm_kI cI a_signs 60 pa.1]) (ci := 4) (q0 := 2) (n := 0) hx hb hml hown hts hK hP hD hS hA (c_X4_isBetweenActs l D cI cJ cZ a_reader reader_re_9 u44 hu44) tw_382 tw_379 tw_380 tw_381 tw_48 rfl rfl (by decide +kernel) rfl ⟨Nat.le_of_ble_eq_true rfl, Nat.le_of_ble_eq_true rfl⟩ [2] [0, 1] rfl (by decide) rfl (by decide) (by decide) rfl rfl rfl hl.1 rfl (Nat.le_of_ble_eq_true rfl) dX3_firstFault_44 ⟨Nat.zero_le _, Nat.zero_le _⟩ (fun H locs hP hD hS => ?_)
  have hP : va_P D vwCl [(a, .inr (3, [.ref a_signs, .ref a_reader, .int pa.2])), cm_kI cI a_signs 60 pa.1, (a_reader, .inr (4, [.int reader_re_9.1, .int reader_re_9.2.1, .int reader_re_9.2.2.1, .int reader_re_9.2.2.2]))] H := hP
  have hD : va_D A [(a, .inr (3, [.ref a_signs, .ref a_reader, .int pa.2])), cm_kI cI a_signs 60 pa.1, (a_reader, .inr (4, [.int reader_re_9.1, .int reader_re_9.2.1, .int reader_re_9.2.2.1, .int reader_re_9.2.2.2]))] := hD
  refine W.eq (g2 := F0 m 47 ls [.int u44]) rfl ?_
  refine lv_if_eq (pc := 47) (tgt := 55) hx hb dX3_firstFault_47 (by decide) (fun c_47 => ?_) (fun c_47 => ?_)
  · have hf := cm_ip c_47 hf
    refine lv_aload_n (pc := 55) hx hb dX3_firstFault_55 rfl (lv_at hl 0 rfl) ?_
    refine va_get (pc := 56) (D := D) (ci := 3) (v := .int pa.2) (C := RX3) (T := TX3) (N := 3) hx hb hts in_X3 hown hKa hP 0 rfl rfl 2 (by decide) (hts _ tw_140) (fun _ h9 => h9) rfl dX3_firstFault_56 ?_
    obtain rfl := Option.some.inj hf
    exact cm_iret (pc := 59) hAe hQ hx hb hr hlocks hP hD hS [0, 1, 2] (by decide) rfl dX3_firstFault_59
  · have hf := cm_in c_47 hf
    refine lv_bipush (pc := 50) (v := (-6)) hx hb dX3_firstFault_50 (by decide) ?_
    refine lv_goto (pc := 52) (tgt := 59) hx hb dX3_firstFault_52 (by decide) ?_
    obtain rfl := Option.some.inj hf
    exact cm_iret (pc := 59) hAe hQ hx hb hr hlocks hP hD hS [0, 1, 2] (by decide) rfl dX3_firstFault_59
def fX10_fault (pad_pa : SPA) (pad_reader_re : SRE) : Option (Int32 × SRE) := Option.bind (fX3_firstFault pad_pa pad_reader_re) (fun u4 => some (u4.1, u4.2))
def rmX10_fault : Room := { frames := 4, cells := 0, slots := 0, locals := 86 }
set_option maxRecDepth 100000 in
set_option maxHeartbeats 4000000 in
theorem c_X10_fault (l : Launch) (D : va_G) (cI cJ cZ : ClassId) (a a_now a_pad a_trial a_sights a_im0 a_im1 a_digits a_voters a_trades a_bells a_pad_signs a_pad_reader : Nat) (pad_pa : SPA) (pad_reader_re : SRE) (res : Int32 × SRE) (hf : fX10_fault pad_pa pad_reader_re = some res) : Ct l yX10_fault (cm_ws yX10_fault cX10_fault 1 (some .int)) rmX10_fault D (cm_T cI cJ cZ) [.ref a] [(a, .inr (10, [.ref a_now, .ref a_pad, .ref a_trial, .ref a_sights, .ref a_im0, .ref a_im1, .ref a_digits, .ref a_voters, .ref a_trades, .ref a_bells])), (a_pad, .inr (3, [.ref a_pad_signs, .ref a_pad_reader, .int pad_pa.2])), cm_kI cI a_pad_signs 60 pad_pa.1, (a_pad_reader, .inr (4, [.int pad_reader_re.1, .int pad_reader_re.2.1, .int pad_reader_re.2.2.1, .int pad_reader_re.2.2.2]))] (some (.int res.1)) [(a, .inr (10, [.ref a_now, .ref a_pad, .ref a_trial, .ref a_sights, .ref a_im0, .ref a_im1, .ref a_digits, .ref a_voters, .ref a_trades, .ref a_bells])), (a_pad, .inr (3, [.ref a_pad_signs, .ref a_pad_reader, .int pad_pa.2])), cm_kI cI a_pad_signs 60 pad_pa.1, (a_pad_reader, .inr (4, [.int res.2.1, .int res.2.2.1, .int res.2.2.2.1, .int res.2.2.2.2]))] := by
  refine Ct.of (cc := cX10_fault) (maxL := 1) (ret := (some .int)) (by decide) (Nat.le_of_ble_eq_true rfl) ?_
  intro p e s m below meth c ls args A Q hav hAe hQ hx hb hr hml hown hlocks hts hK hP hD hA hS hl
  have hKa := hK.1
  have hl : lv_has ls 1 [(0, .ref a)] := hl
  unfold fX10_fault at hf
  refine lv_aload_n (pc := 0) hx hb dX10_fault_0 rfl (lv_at hl 0 rfl) ?_
  refine va_get (pc := 1) (D := D) (ci := 10) (v := .ref a_pad) (C := RX10) (T := TX10) (N := 10) hx hb hts in_X10 hown hKa hP 0 rfl rfl 1 (by decide) (hts _ tw_270) (fun _ h9 => h9) rfl dX10_fault_1 ?_
  obtain ⟨u4, hu4, hf⟩ := cm_bd hf
  refine cm_callV (pc := 4) (As := []) (rest := []) (wr := [(a, .inr (10, [.ref a_now, .ref a_pad, .ref a_trial, .ref a_sights, .ref a_im0, .ref a_im1, .ref a_digits, .ref a_voters, .ref a_trades, .ref a_bells]))]) (ci := 3) (q0 := 1) (n := 0) hx hb hml hown hts hK hP hD hS hA (c_X3_firstFault l D cI cJ cZ a_pad a_pad_signs a_pad_reader pad_pa pad_reader_re u4 hu4) tw_347 tw_344 tw_345 tw_346 tw_47 rfl rfl (by decide +kernel) rfl ⟨Nat.le_of_ble_eq_true rfl, Nat.le_of_ble_eq_true rfl⟩ [1, 2, 3] [0] rfl (by decide) rfl (by decide) (by decide) rfl rfl rfl hl.1 rfl (Nat.le_of_ble_eq_true rfl) dX10_fault_4 ⟨Nat.zero_le _, Nat.zero_le _⟩ (fun H locs hP hD hS => ?_)
  have hP : va_P D vwCl [(a, .inr (10, [.ref a_now, .ref a_pad, .ref a_trial, .ref a_sights, .ref a_im0, .ref a_im1, .ref a_digits, .ref a_voters, .ref a_trades, .ref a_bells])), (a_pad, .inr (3, [.ref a_pad_signs, .ref a_pad_reader, .int pad_pa.2])), cm_kI cI a_pad_signs 60 pad_pa.1, (a_pad_reader, .inr (4, [.int u4.2.1, .int u4.2.2.1, .int u4.2.2.2.1, .int u4.2.2.2.2]))] H := hP
  have hD : va_D A [(a, .inr (10, [.ref a_now, .ref a_pad, .ref a_trial, .ref a_sights, .ref a_im0, .ref a_im1, .ref a_digits, .ref a_voters, .ref a_trades, .ref a_bells])), (a_pad, .inr (3, [.ref a_pad_signs, .ref a_pad_reader, .int pad_pa.2])), cm_kI cI a_pad_signs 60 pad_pa.1, (a_pad_reader, .inr (4, [.int u4.2.1, .int u4.2.2.1, .int u4.2.2.2.1, .int u4.2.2.2.2]))] := hD
  refine W.eq (g2 := F0 m 7 ls [.int u4.1]) rfl ?_
  obtain rfl := Option.some.inj hf
  exact cm_iret (pc := 7) hAe hQ hx hb hr hlocks hP hD hS [0, 1, 2, 3] (by decide) rfl dX10_fault_7
