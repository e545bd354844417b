def fX1_fewestToSway_L12 (v1 : Int32) (v2_12 : Int32) (bo_12 : SBO) (kx : Int32 → Int32 → Option (Int32 × SBO)) : Nat → Int32 → Int32 → Option (Int32 × SBO)
  | 0, _, _ => none
  | n + 1, v3_12, v4_12 => (if v2_12 < v4_12 then kx v3_12 v4_12 else Option.bind (fX1_movesToLeave v1 v4_12 bo_12) (fun u23 => fX1_fewestToSway_L12 v1 v2_12 bo_12 kx n (if u23 < v3_12 then u23 else v3_12) (v4_12 + 1)))
def fX1_fewestToSway (v1 : Int32) (bo : SBO) : Option (Int32 × SBO) := Option.bind (fX1_chalkOf v1 bo) (fun u2 => fX1_fewestToSway_L12 v1 u2.1 u2.2 (fun v3_12 v4_12 => some (v3_12, u2.2)) 5000 8 0)
def rmX1_fewestToSway : Room := { frames := 2, cells := 0, slots := 0, locals := 48 }
set_option maxRecDepth 100000 in
set_option maxHeartbeats 4000000 in
theorem c_X1_fewestToSway (l : Launch) (D : va_G) (cI cJ cZ : ClassId) (a a_thinks a_sure a_coin a_far a_chalk : Nat) (bo : SBO) (v1 : Int32) (res : Int32 × SBO) (hf : fX1_fewestToSway v1 bo = some res) : Ct l yX1_fewestToSway (cm_ws yX1_fewestToSway cX1_fewestToSway 5 (some .int)) rmX1_fewestToSway D (cm_T cI cJ cZ) [.ref a, .int v1] [(a, .inr (1, [.ref a_thinks, .ref a_sure, .ref a_coin, .ref a_far, .ref a_chalk, .int bo.2.2.2.2.2.1, .int bo.2.2.2.2.2.2.1, .int bo.2.2.2.2.2.2.2.1, .int bo.2.2.2.2.2.2.2.2])), cm_kI cI a_thinks 8 bo.1, cm_kI cI a_sure 8 bo.2.1, cm_kI cI a_coin 8 bo.2.2.1, cm_kI cI a_far 4 bo.2.2.2.1, cm_kI cI a_chalk 7 bo.2.2.2.2.1] (some (.int res.1)) [(a, .inr (1, [.ref a_thinks, .ref a_sure, .ref a_coin, .ref a_far, .ref a_chalk, .int res.2.2.2.2.2.2.1, .int res.2.2.2.2.2.2.2.1, .int res.2.2.2.2.2.2.2.2.1, .int res.2.2.2.2.2.2.2.2.2])), cm_kI cI a_thinks 8 res.2.1, cm_kI cI a_sure 8 res.2.2.1, cm_kI cI a_coin 8 res.2.2.2.1, cm_kI cI a_far 4 res.2.2.2.2.1, cm_kI cI a_chalk 7 res.2.2.2.2.2.1] := by
  refine Ct.of (cc := cX1_fewestToSway) (maxL := 5) (ret := (some .int)) (by decide) (Nat.le_of_ble_eq_true rfl) ?_
  intro p e s m below meth c ls args A Q hav hAe hQ hx hb hr hml hown hlocks hts hK hP hD hA hS hl
  have hKa := hK.1
  have hl : lv_has ls 5 [(0, .ref a), (1, .int v1)] := hl
  unfold fX1_fewestToSway at hf
  refine lv_aload_n (pc := 0) hx hb dX1_fewestToSway_0 rfl (lv_at hl 0 rfl) ?_
  refine lv_iload_n (pc := 1) hx hb dX1_fewestToSway_1 rfl (lv_at hl 1 rfl) ?_
  obtain ⟨u2, hu2, hf⟩ := cm_bd hf
  refine cm_callV (pc := 2) (As := [.int v1]) (rest := []) (wr := []) (ci := 1) (q0 := 0) (n := 1) hx hb hml hown hts hK hP hD hS hA (c_X1_chalkOf l D cI cJ cZ a a_thinks a_sure a_coin a_far a_chalk bo v1 u2 hu2) tw_479 tw_493 tw_477 tw_478 tw_46 rfl rfl (by decide +kernel) rfl ⟨Nat.le_of_ble_eq_true rfl, Nat.le_of_ble_eq_true rfl⟩ [0, 1, 2, 3, 4, 5] [] rfl (by decide) rfl (by decide) (by decide) rfl rfl rfl hl.1 rfl (Nat.le_of_ble_eq_true rfl) dX1_fewestToSway_2 ⟨Nat.zero_le _, Nat.zero_le _⟩ (fun H locs hP hD hS => ?_)
  have hP : va_P D vwCl [(a, .inr (1, [.ref a_thinks, .ref a_sure, .ref a_coin, .ref a_far, .ref a_chalk, .int u2.2.2.2.2.2.2.1, .int u2.2.2.2.2.2.2.2.1, .int u2.2.2.2.2.2.2.2.2.1, .int u2.2.2.2.2.2.2.2.2.2])), cm_kI cI a_thinks 8 u2.2.1, cm_kI cI a_sure 8 u2.2.2.1, cm_kI cI a_coin 8 u2.2.2.2.1, cm_kI cI a_far 4 u2.2.2.2.2.1, cm_kI cI a_chalk 7 u2.2.2.2.2.2.1] H := hP
  have hD : va_D A [(a, .inr (1, [.ref a_thinks, .ref a_sure, .ref a_coin, .ref a_far, .ref a_chalk, .int u2.2.2.2.2.2.2.1, .int u2.2.2.2.2.2.2.2.1, .int u2.2.2.2.2.2.2.2.2.1, .int u2.2.2.2.2.2.2.2.2.2])), cm_kI cI a_thinks 8 u2.2.1, cm_kI cI a_sure 8 u2.2.2.1, cm_kI cI a_coin 8 u2.2.2.2.1, cm_kI cI a_far 4 u2.2.2.2.2.1, cm_kI cI a_chalk 7 u2.2.2.2.2.2.1] := hD
  refine W.eq (g2 := F0 m 5 ls [.int u2.1]) rfl ?_
  refine lv_istore_n (pc := 5) (lv' := [(2, .int u2.1), (0, .ref a), (1, .int v1)]) hx hb dX1_fewestToSway_5 rfl hl (by decide) rfl (fun ls hl => ?_)
  refine lv_bipush (pc := 6) (v := 8) hx hb dX1_fewestToSway_6 (by decide) ?_
  refine lv_istore_n (pc := 8) (lv' := [(3, .int 8), (2, .int u2.1), (0, .ref a), (1, .int v1)]) hx hb dX1_fewestToSway_8 rfl hl (by decide) rfl (fun ls hl => ?_)
  refine lv_iconst (pc := 9) (v := 0) hx hb dX1_fewestToSway_9 (by decide) ?_
  refine lv_istore (pc := 10) (lv' := [(4, .int 0), (3, .int 8), (2, .int u2.1), (0, .ref a), (1, .int v1)]) hx hb dX1_fewestToSway_10 hl (by decide) rfl (fun ls hl => ?_)
  have L12 : ∀ (v2_12 : Int32) (bo_12 : SBO) (kx : Int32 → Int32 → Option (Int32 × SBO)), (∀ (v3_12 : Int32) (v4_12 : Int32) (H : Heap) (locs : List Loc) (ls : Array Slot), va_P D vwCl [(a, .inr (1, [.ref a_thinks, .ref a_sure, .ref a_coin, .ref a_far, .ref a_chalk, .int bo_12.2.2.2.2.2.1, .int bo_12.2.2.2.2.2.2.1, .int bo_12.2.2.2.2.2.2.2.1, .int bo_12.2.2.2.2.2.2.2.2])), cm_kI cI a_thinks 8 bo_12.1, cm_kI cI a_sure 8 bo_12.2.1, cm_kI cI a_coin 8 bo_12.2.2.1, cm_kI cI a_far 4 bo_12.2.2.2.1, cm_kI cI a_chalk 7 bo_12.2.2.2.2.1] H → va_D A [(a, .inr (1, [.ref a_thinks, .ref a_sure, .ref a_coin, .ref a_far, .ref a_chalk, .int bo_12.2.2.2.2.2.1, .int bo_12.2.2.2.2.2.2.1, .int bo_12.2.2.2.2.2.2.2.1, .int bo_12.2.2.2.2.2.2.2.2])), cm_kI cI a_thinks 8 bo_12.1, cm_kI cI a_sure 8 bo_12.2.1, cm_kI cI a_coin 8 bo_12.2.2.1, cm_kI cI a_far 4 bo_12.2.2.2.1, cm_kI cI a_chalk 7 bo_12.2.2.2.2.1] → va_S A s.heap H locs → lv_has ls 5 [(3, .int v3_12)] → kx v3_12 v4_12 = some res → W p l e rmX1_fewestToSway s m args below meth c H locs 0 0 Q (F0 m 36 ls [])) → ∀ (n : Nat) (v3_12 : Int32) (v4_12 : Int32) (H : Heap) (locs : List Loc) (ls : Array Slot), va_P D vwCl [(a, .inr (1, [.ref a_thinks, .ref a_sure, .ref a_coin, .ref a_far, .ref a_chalk, .int bo_12.2.2.2.2.2.1, .int bo_12.2.2.2.2.2.2.1, .int bo_12.2.2.2.2.2.2.2.1, .int bo_12.2.2.2.2.2.2.2.2])), cm_kI cI a_thinks 8 bo_12.1, cm_kI cI a_sure 8 bo_12.2.1, cm_kI cI a_coin 8 bo_12.2.2.1, cm_kI cI a_far 4 bo_12.2.2.2.1, cm_kI cI a_chalk 7 bo_12.2.2.2.2.1] H → va_D A [(a, .inr (1, [.ref a_thinks, .ref a_sure, .ref a_coin, .ref a_far, .ref a_chalk, .int bo_12.2.2.2.2.2.1, .int bo_12.2.2.2.2.2.2.1, .int bo_12.2.2.2.2.2.2.2.1, .int bo_12.2.2.2.2.2.2.2.2])), cm_kI cI a_thinks 8 bo_12.1, cm_kI cI a_sure 8 bo_12.2.1, cm_kI cI a_coin 8 bo_12.2.2.1, cm_kI cI a_far 4 bo_12.2.2.2.1, cm_kI cI a_chalk 7 bo_12.2.2.2.2.1] → va_S A s.heap H locs → lv_has ls 5 [(4, .int v4_12), (3, .int v3_12), (2, .int v2_12), (0, .ref a), (1, .int v1)] → fX1_fewestToSway_L12 v1 v2_12 bo_12 kx n v3_12 v4_12 = some res → W p l e rmX1_fewestToSway s m args below meth c H locs 0 0 Q (F0 m 12 ls []) := by
    intro v2_12 bo_12 kx hkx n
    induction n with
    | zero => intro v3_12 v4_12 H locs ls hP hD hS hl hf; cases hf
    | succ n ih =>
      intro v3_12 v4_12 H locs ls hP hD hS hl hf
      rw [fX1_fewestToSway_L12] at hf
      refine lv_iload (pc := 12) hx hb dX1_fewestToSway_12 (lv_at hl 0 rfl) ?_
      refine lv_iload_n (pc := 14) hx hb dX1_fewestToSway_14 rfl (lv_at hl 2 rfl) ?_
      refine lv_icmp_gt (pc := 15) (tgt := 36) hx hb dX1_fewestToSway_15 (by decide) (fun c_15 => ?_) (fun c_15 => ?_)
      · have hf := cm_ip c_15 hf
        exact hkx v3_12 v4_12 _ _ _ hP hD hS (lv_sub hl [1] rfl) hf
      · have hf := cm_in c_15 hf
        refine lv_iload_n (pc := 18) hx hb dX1_fewestToSway_18 rfl (lv_at hl 1 rfl) ?_
        refine lv_aload_n (pc := 19) hx hb dX1_fewestToSway_19 rfl (lv_at hl 3 rfl) ?_
        refine lv_iload_n (pc := 20) hx hb dX1_fewestToSway_20 rfl (lv_at hl 4 rfl) ?_
        refine lv_iload (pc := 21) hx hb dX1_fewestToSway_21 (lv_at hl 0 rfl) ?_
        obtain ⟨u23, hu23, hf⟩ := cm_bd hf
        refine cm_callV (pc := 23) (As := [.int v1, .int v4_12]) (rest := [.int v3_12]) (wr := []) (ci := 1) (q0 := 0) (n := 2) hx hb hml hown hts hK hP hD hS hA (c_X1_movesToLeave l D cI cJ cZ a a_thinks a_sure a_coin a_far a_chalk bo_12 v1 v4_12 u23 hu23) tw_497 tw_494 tw_496 tw_14 tw_46 rfl rfl (by decide +kernel) rfl ⟨Nat.le_of_ble_eq_true rfl, Nat.le_of_ble_eq_true rfl⟩ [0, 1, 2, 3, 4, 5] [] rfl (by decide) rfl (by decide) (by decide) rfl rfl rfl hl.1 rfl (Nat.le_of_ble_eq_true rfl) dX1_fewestToSway_23 ⟨Nat.zero_le _, Nat.zero_le _⟩ (fun H locs hP hD hS => ?_)
        have hP : va_P D vwCl [(a, .inr (1, [.ref a_thinks, .ref a_sure, .ref a_coin, .ref a_far, .ref a_chalk, .int bo_12.2.2.2.2.2.1, .int bo_12.2.2.2.2.2.2.1, .int bo_12.2.2.2.2.2.2.2.1, .int bo_12.2.2.2.2.2.2.2.2])), cm_kI cI a_thinks 8 bo_12.1, cm_kI cI a_sure 8 bo_12.2.1, cm_kI cI a_coin 8 bo_12.2.2.1, cm_kI cI a_far 4 bo_12.2.2.2.1, cm_kI cI a_chalk 7 bo_12.2.2.2.2.1] H := hP
        have hD : va_D A [(a, .inr (1, [.ref a_thinks, .ref a_sure, .ref a_coin, .ref a_far, .ref a_chalk, .int bo_12.2.2.2.2.2.1, .int bo_12.2.2.2.2.2.2.1, .int bo_12.2.2.2.2.2.2.2.1, .int bo_12.2.2.2.2.2.2.2.2])), cm_kI cI a_thinks 8 bo_12.1, cm_kI cI a_sure 8 bo_12.2.1, cm_kI cI a_coin 8 bo_12.2.2.1, cm_kI cI a_far 4 bo_12.2.2.2.1, cm_kI cI a_chalk 7 bo_12.2.2.2.2.1] := hD
        refine W.eq (g2 := F0 m 26 ls [.int u23, .int v3_12]) rfl ?_
        refine va_mmin (pc := 26) hx hb (hml.trans hl.1.symm) hown (hts _ tw_444) (hts _ tw_445) (hts _ tw_57) (hts _ tw_446) (Nat.le_of_ble_eq_true rfl) (Nat.le_of_ble_eq_true rfl) (Nat.zero_le _) (Nat.zero_le _) dX1_fewestToSway_26 ?_
        refine lv_istore_n (pc := 29) (lv' := [(3, .int (if u23 < v3_12 then u23 else v3_12)), (4, .int v4_12), (2, .int v2_12), (0, .ref a), (1, .int v1)]) hx hb dX1_fewestToSway_29 rfl hl (by decide) rfl (fun ls hl => ?_)
        refine lv_iinc (pc := 30) (v := (v4_12 + 1)) (lv' := [(4, .int (v4_12 + 1)), (3, .int (if u23 < v3_12 then u23 else v3_12)), (2, .int v2_12), (0, .ref a), (1, .int v1)]) hx hb dX1_fewestToSway_30 hl (k := 1) rfl rfl (by decide) rfl (fun ls hl => ?_)
        refine lv_goto (pc := 33) (tgt := 12) hx hb dX1_fewestToSway_33 (by decide) ?_
        exact ih (if u23 < v3_12 then u23 else v3_12) (v4_12 + 1) _ _ _ hP hD hS (lv_sub hl [0, 1, 2, 3, 4] rfl) hf
  refine L12 u2.1 u2.2 _ (fun v3_12 v4_12 H locs ls hP hD hS hl hf => ?_) 5000 8 0 _ _ _ hP hD hS (lv_sub hl [0, 1, 2, 3, 4] rfl) hf
  refine lv_iload_n (pc := 36) hx hb dX1_fewestToSway_36 rfl (lv_at hl 0 rfl) ?_
  obtain rfl := Option.some.inj hf
  exact cm_iret (pc := 37) hAe hQ hx hb hr hlocks hP hD hS [0, 1, 2, 3, 4, 5] (by decide) rfl dX1_fewestToSway_37
def fX10_sway (v1 : Int32) (now_bo : SBO) : Option (Int32 × SBO) := cm_let (fX10_isDay v1) (fun u1 => (if u1 = 0 then some ((-2), now_bo) else Option.bind (fX1_fewestToSway v1 now_bo) (fun u12 => some (u12.1, u12.2))))
def rmX10_sway : Room := { frames := 3, cells := 0, slots := 0, locals := 72 }
set_option maxRecDepth 100000 in
set_option maxHeartbeats 4000000 in
theorem c_X10_sway (l : Launch) (D : va_G) (cI cJ cZ : ClassId) (a a_now a_pad a_trial a_sights a_im0 a_im1 a_digits a_voters a_trades a_bells a_now_thinks a_now_sure a_now_coin a_now_far a_now_chalk : Nat) (now_bo : SBO) (v1 : Int32) (res : Int32 × SBO) (hf : fX10_sway v1 now_bo = some res) : Ct l yX10_sway (cm_ws yX10_sway cX10_sway 2 (some .int)) rmX10_sway D (cm_T cI cJ cZ) [.ref a, .int v1] [(a, .inr (10, [.ref a_now, .ref a_pad, .ref a_trial, .ref a_sights, .ref a_im0, .ref a_im1, .ref a_digits, .ref a_voters, .ref a_trades, .ref a_bells])), (a_now, .inr (1, [.ref a_now_thinks, .ref a_now_sure, .ref a_now_coin, .ref a_now_far, .ref a_now_chalk, .int now_bo.2.2.2.2.2.1, .int now_bo.2.2.2.2.2.2.1, .int now_bo.2.2.2.2.2.2.2.1, .int now_bo.2.2.2.2.2.2.2.2])), cm_kI cI a_now_thinks 8 now_bo.1, cm_kI cI a_now_sure 8 now_bo.2.1, cm_kI cI a_now_coin 8 now_bo.2.2.1, cm_kI cI a_now_far 4 now_bo.2.2.2.1, cm_kI cI a_now_chalk 7 now_bo.2.2.2.2.1] (some (.int res.1)) [(a, .inr (10, [.ref a_now, .ref a_pad, .ref a_trial, .ref a_sights, .ref a_im0, .ref a_im1, .ref a_digits, .ref a_voters, .ref a_trades, .ref a_bells])), (a_now, .inr (1, [.ref a_now_thinks, .ref a_now_sure, .ref a_now_coin, .ref a_now_far, .ref a_now_chalk, .int res.2.2.2.2.2.2.1, .int res.2.2.2.2.2.2.2.1, .int res.2.2.2.2.2.2.2.2.1, .int res.2.2.2.2.2.2.2.2.2])), cm_kI cI a_now_thinks 8 res.2.1, cm_kI cI a_now_sure 8 res.2.2.1, cm_kI cI a_now_coin 8 res.2.2.2.1, cm_kI cI a_now_far 4 res.2.2.2.2.1, cm_kI cI a_now_chalk 7 res.2.2.2.2.2.1] := by
  refine Ct.of (cc := cX10_sway) (maxL := 2) (ret := (some .int)) (by decide) (Nat.le_of_ble_eq_true rfl) ?_
  intro p e s m below meth c ls args A Q hav hAe hQ hx hb hr hml hown hlocks hts hK hP hD hA hS hl
  have hKa := hK.1
  have hl : lv_has ls 2 [(0, .ref a), (1, .int v1)] := hl
  unfold fX10_sway at hf
  refine lv_iload_n (pc := 0) hx hb dX10_sway_0 rfl (lv_at hl 1 rfl) ?_
  obtain ⟨u1, hu1, hf⟩ := cm_lt hf
  refine cm_callS (pc := 1) (As := [.int v1]) (rest := []) (wr := [(a, .inr (10, [.ref a_now, .ref a_pad, .ref a_trial, .ref a_sights, .ref a_im0, .ref a_im1, .ref a_digits, .ref a_voters, .ref a_trades, .ref a_bells])), (a_now, .inr (1, [.ref a_now_thinks, .ref a_now_sure, .ref a_now_coin, .ref a_now_far, .ref a_now_chalk, .int now_bo.2.2.2.2.2.1, .int now_bo.2.2.2.2.2.2.1, .int now_bo.2.2.2.2.2.2.2.1, .int now_bo.2.2.2.2.2.2.2.2])), cm_kI cI a_now_thinks 8 now_bo.1, cm_kI cI a_now_sure 8 now_bo.2.1, cm_kI cI a_now_coin 8 now_bo.2.2.1, cm_kI cI a_now_far 4 now_bo.2.2.2.1, cm_kI cI a_now_chalk 7 now_bo.2.2.2.2.1]) (n := 1) hx hb hml hown hts hK hP hD hS hA (c_X10_isDay l D cI cJ cZ v1 u1 hu1) tw_309 tw_307 tw_308 tw_45 rfl rfl (by decide +kernel) rfl ⟨Nat.le_of_ble_eq_true rfl, Nat.le_of_ble_eq_true rfl⟩ [] [0, 1, 2, 3, 4, 5, 6] rfl (by decide) rfl (by decide) (by decide) hl.1 rfl (Nat.le_of_ble_eq_true rfl) dX10_sway_1 ⟨Nat.zero_le _, Nat.zero_le _⟩ (fun H locs hP hD hS => ?_)
  have hP : va_P D vwCl [(a, .inr (10, [.ref a_now, .ref a_pad, .ref a_trial, .ref a_sights, .ref a_im0, .ref a_im1, .ref a_digits, .ref a_voters, .ref a_trades, .ref a_bells])), (a_now, .inr (1, [.ref a_now_thinks, .ref a_now_sure, .ref a_now_coin, .ref a_now_far, .ref a_now_chalk, .int now_bo.2.2.2.2.2.1, .int now_bo.2.2.2.2.2.2.1, .int now_bo.2.2.2.2.2.2.2.1, .int now_bo.2.2.2.2.2.2.2.2])), cm_kI cI a_now_thinks 8 now_bo.1, cm_kI cI a_now_sure 8 now_bo.2.1, cm_kI cI a_now_coin 8 now_bo.2.2.1, cm_kI cI a_now_far 4 now_bo.2.2.2.1, cm_kI cI a_now_chalk 7 now_bo.2.2.2.2.1] H := hP
  have hD : va_D A [(a, .inr (10, [.ref a_now, .ref a_pad, .ref a_trial, .ref a_sights, .ref a_im0, .ref a_im1, .ref a_digits, .ref a_voters, .ref a_trades, .ref a_bells])), (a_now, .inr (1, [.ref a_now_thinks, .ref a_now_sure, .ref a_now_coin, .ref a_now_far, .ref a_now_chalk, .int now_bo.2.2.2.2.2.1, .int now_bo.2.2.2.2.2.2.1, .int now_bo.2.2.2.2.2.2.2.1, .int now_bo.2.2.2.2.2.2.2.2])), cm_kI cI a_now_thinks 8 now_bo.1, cm_kI cI a_now_sure 8 now_bo.2.1, cm_kI cI a_now_coin 8 now_bo.2.2.1, cm_kI cI a_now_far 4 now_bo.2.2.2.1, cm_kI cI a_now_chalk 7 now_bo.2.2.2.2.1] := hD
  refine W.eq (g2 := F0 m 4 ls [.int u1]) rfl ?_
  refine lv_if_eq (pc := 4) (tgt := 18) hx hb dX10_sway_4 (by decide) (fun c_4 => ?_) (fun c_4 => ?_)
  · have hf := cm_ip c_4 hf
    refine lv_bipush (pc := 18) (v := (-2)) hx hb dX10_sway_18 (by decide) ?_
    obtain rfl := Option.some.inj hf
    exact cm_iret (pc := 20) hAe hQ hx hb hr hlocks hP hD hS [0, 1, 2, 3, 4, 5, 6] (by decide) rfl dX10_sway_20
  · have hf := cm_in c_4 hf
    refine lv_aload_n (pc := 7) hx hb dX10_sway_7 rfl (lv_at hl 0 rfl) ?_
    refine va_get (pc := 8) (D := D) (ci := 10) (v := .ref a_now) (C := RX10) (T := TX10) (N := 10) hx hb hts in_X10 hown hKa hP 0 rfl rfl 0 (by decide) (hts _ tw_269) (fun _ h9 => h9) rfl dX10_sway_8 ?_
    refine lv_iload_n (pc := 11) hx hb dX10_sway_11 rfl (lv_at hl 1 rfl) ?_
    obtain ⟨u12, hu12, hf⟩ := cm_bd hf
    refine cm_callV (pc := 12) (As := [.int v1]) (rest := []) (wr := [(a, .inr (10, [.ref a_now, .ref a_pad, .ref a_trial, .ref a_sights, .ref a_im0, .ref a_im1, .ref a_digits, .ref a_voters, .ref a_trades, .ref a_bells]))]) (ci := 1) (q0 := 1) (n := 1) hx hb hml hown hts hK hP hD hS hA (c_X1_fewestToSway l D cI cJ cZ a_now a_now_thinks a_now_sure a_now_coin a_now_far a_now_chalk now_bo v1 u12 hu12) tw_492 tw_489 tw_490 tw_491 tw_46 rfl rfl (by decide +kernel) rfl ⟨Nat.le_of_ble_eq_true rfl, Nat.le_of_ble_eq_true rfl⟩ [1, 2, 3, 4, 5, 6] [0] rfl (by decide) rfl (by decide) (by decide) rfl rfl rfl hl.1 rfl (Nat.le_of_ble_eq_true rfl) dX10_sway_12 ⟨Nat.zero_le _, Nat.zero_le _⟩ (fun H locs hP hD hS => ?_)
    have hP : va_P D vwCl [(a, .inr (10, [.ref a_now, .ref a_pad, .ref a_trial, .ref a_sights, .ref a_im0, .ref a_im1, .ref a_digits, .ref a_voters, .ref a_trades, .ref a_bells])), (a_now, .inr (1, [.ref a_now_thinks, .ref a_now_sure, .ref a_now_coin, .ref a_now_far, .ref a_now_chalk, .int u12.2.2.2.2.2.2.1, .int u12.2.2.2.2.2.2.2.1, .int u12.2.2.2.2.2.2.2.2.1, .int u12.2.2.2.2.2.2.2.2.2])), cm_kI cI a_now_thinks 8 u12.2.1, cm_kI cI a_now_sure 8 u12.2.2.1, cm_kI cI a_now_coin 8 u12.2.2.2.1, cm_kI cI a_now_far 4 u12.2.2.2.2.1, cm_kI cI a_now_chalk 7 u12.2.2.2.2.2.1] H := hP
    have hD : va_D A [(a, .inr (10, [.ref a_now, .ref a_pad, .ref a_trial, .ref a_sights, .ref a_im0, .ref a_im1, .ref a_digits, .ref a_voters, .ref a_trades, .ref a_bells])), (a_now, .inr (1, [.ref a_now_thinks, .ref a_now_sure, .ref a_now_coin, .ref a_now_far, .ref a_now_chalk, .int u12.2.2.2.2.2.2.1, .int u12.2.2.2.2.2.2.2.1, .int u12.2.2.2.2.2.2.2.2.1, .int u12.2.2.2.2.2.2.2.2.2])), cm_kI cI a_now_thinks 8 u12.2.1, cm_kI cI a_now_sure 8 u12.2.2.1, cm_kI cI a_now_coin 8 u12.2.2.2.1, cm_kI cI a_now_far 4 u12.2.2.2.2.1, cm_kI cI a_now_chalk 7 u12.2.2.2.2.2.1] := hD
    refine W.eq (g2 := F0 m 15 ls [.int u12.1]) rfl ?_
    refine lv_goto (pc := 15) (tgt := 20) hx hb dX10_sway_15 (by decide) ?_
    obtain rfl := Option.some.inj hf
    exact cm_iret (pc := 20) hAe hQ hx hb hr hlocks hP hD hS [0, 1, 2, 3, 4, 5, 6] (by decide) rfl dX10_sway_20
def fX5_read_L28 (kx : Int32 → Int32 → SRO → Option (Int32 × SRO)) : Nat → Int32 → Int32 → SRO → Option (Int32 × SRO)
  | 0, _, _, _ => none
  | n + 1, v3_28, v4_28, ro_28 => (if v4_28 < 0 then kx v3_28 v4_28 ro_28 else if v4_28 < 0 ∨ 9 ≤ v4_28.toNatClampNeg then none else fX5_read_L28 kx n (v3_28 / 10) (v4_28 + (-1)) ((upd ro_28.1 v4_28.toNatClampNeg (irm v3_28 10)), ro_28.2))
def fX5_read (v1 : Int32) (v2 : Int32) (ro : SRO) : Option (Int32 × SRO) := (if v1 < 0 then some (0, ro) else cm_let (fX10_isWithin v2 1 9) (fun u8 => (if u8 = 0 then some (0, ro) else fX5_read_L28 (fun v3_28 v4_28 ro_28 => (if v3_28 = 0 then some (1, ro_28) else some (0, ro_28))) 5000 v1 (v2 - 1) (ro.1, v2))))
def rmX5_read : Room := { frames := 1, cells := 0, slots := 0, locals := 22 }
set_option maxRecDepth 100000 in
set_option maxHeartbeats 4000000 in
theorem c_X5_read (l : Launch) (D : va_G) (cI cJ cZ : ClassId) (a a_digits : Nat) (ro : SRO) (v1 : Int32) (v2 : Int32) (res : Int32 × SRO) (hf : fX5_read v1 v2 ro = some res) : Ct l yX5_read (cm_ws yX5_read cX5_read 5 (some .boolean)) rmX5_read D (cm_T cI cJ cZ) [.ref a, .int v1, .int v2] [(a, .inr (5, [.ref a_digits, .int ro.2])), cm_kI cI a_digits 9 ro.1] (some (.int res.1)) [(a, .inr (5, [.ref a_digits, .int res.2.2])), cm_kI cI a_digits 9 res.2.1] := by
  refine Ct.of (cc := cX5_read) (maxL := 5) (ret := (some .boolean)) (by decide) (Nat.le_of_ble_eq_true rfl) ?_
  intro p e s m below meth c ls args A Q hav hAe hQ hx hb hr hml hown hlocks hts hK hP hD hA hS hl
  have hKa := hK.1
  have hl : lv_has ls 5 [(0, .ref a), (1, .int v1), (2, .int v2)] := hl
  unfold fX5_read at hf
  refine lv_iload_n (pc := 0) hx hb dX5_read_0 rfl (lv_at hl 1 rfl) ?_
  refine lv_if_lt (pc := 1) (tgt := 14) hx hb dX5_read_1 (by decide) (fun c_1 => ?_) (fun c_1 => ?_)
  · have hf := cm_ip c_1 hf
    refine lv_iconst (pc := 14) (v := 0) hx hb dX5_read_14 (by decide) ?_
    obtain rfl := Option.some.inj hf
    exact cm_zret (Or.inl rfl) (pc := 15) hAe hQ hx hb hr hlocks hP hD hS [0, 1] (by decide) rfl dX5_read_15
  · have hf := cm_in c_1 hf
    refine lv_iload_n (pc := 4) hx hb dX5_read_4 rfl (lv_at hl 2 rfl) ?_
    refine lv_iconst (pc := 5) (v := 1) hx hb dX5_read_5 (by decide) ?_
    refine lv_bipush (pc := 6) (v := 9) hx hb dX5_read_6 (by decide) ?_
    obtain ⟨u8, hu8, hf⟩ := cm_lt hf
    refine cm_callN (pc := 8) (As := [.int v2, .int 1, .int 9]) (rest := []) (wr := [(a, .inr (5, [.ref a_digits, .int ro.2])), cm_kI cI a_digits 9 ro.1]) (host := RX10) (n := 3) hx hb hml hown hts hK hP hD hS hA (c_X10_isWithin l D cI cJ cZ v2 1 9 u8 hu8) tw_312 (hK.2 (RX5, 15, yX10_isWithin, RX10) (List.mem_of_getElem? (i := 19) rfl)) tw_311 tw_45 rfl rfl (by decide +kernel) rfl ⟨Nat.le_of_ble_eq_true rfl, Nat.le_of_ble_eq_true rfl⟩ [] [0, 1] rfl (by decide) rfl (by decide) (by decide) hl.1 rfl (Nat.le_of_ble_eq_true rfl) dX5_read_8 ⟨Nat.zero_le _, Nat.zero_le _⟩ (fun H locs hP hD hS => ?_)
    have hP : va_P D vwCl [(a, .inr (5, [.ref a_digits, .int ro.2])), cm_kI cI a_digits 9 ro.1] H := hP
    have hD : va_D A [(a, .inr (5, [.ref a_digits, .int ro.2])), cm_kI cI a_digits 9 ro.1] := hD
    refine W.eq (g2 := F0 m 11 ls [.int u8]) rfl ?_
    refine lv_if_ne (pc := 11) (tgt := 16) hx hb dX5_read_11 (by decide) (fun c_11 => ?_) (fun c_11 => ?_)
    · have hf := cm_in c_11 hf
      refine lv_aload_n (pc := 16) hx hb dX5_read_16 rfl (lv_at hl 0 rfl) ?_
      refine lv_iload_n (pc := 17) hx hb dX5_read_17 rfl (lv_at hl 2 rfl) ?_
      refine va_put (pc := 18) (D := D) (ci := 5) (v := .int v2) (ty := .int) (C := RX5) (T := TX5) (N := 2) hx hb hts in_X5 tyX5 tyX5_ok nmX5 hown hKa hP hD hS 0 rfl rfl 1 (by decide) (hts _ tw_227) (fun _ h9 => h9) rfl (by decide +kernel) rfl rfl (Nat.le_of_ble_eq_true rfl) dX5_read_18 (fun H locs hP hD hS => ?_)
      have hP : va_P D vwCl [(a, .inr (5, [.ref a_digits, .int v2])), cm_kI cI a_digits 9 ro.1] H := hP
      have hD : va_D A [(a, .inr (5, [.ref a_digits, .int v2])), cm_kI cI a_digits 9 ro.1] := hD
      refine lv_iload_n (pc := 21) hx hb dX5_read_21 rfl (lv_at hl 1 rfl) ?_
      refine lv_istore_n (pc := 22) (lv' := [(3, .int v1), (0, .ref a), (1, .int v1), (2, .int v2)]) hx hb dX5_read_22 rfl hl (by decide) rfl (fun ls hl => ?_)
      refine lv_iload_n (pc := 23) hx hb dX5_read_23 rfl (lv_at hl 3 rfl) ?_
      refine lv_iconst (pc := 24) (v := 1) hx hb dX5_read_24 (by decide) ?_
      refine lv_isub (pc := 25) hx hb dX5_read_25 ?_
      refine lv_istore (pc := 26) (lv' := [(4, .int (v2 - 1)), (3, .int v1), (0, .ref a), (1, .int v1), (2, .int v2)]) hx hb dX5_read_26 hl (by decide) rfl (fun ls hl => ?_)
      have L28 : ∀ (kx : Int32 → Int32 → SRO → Option (Int32 × SRO)), (∀ (v3_28 : Int32) (v4_28 : Int32) (ro_28 : SRO) (H : Heap) (locs : List Loc) (ls : Array Slot), va_P D vwCl [(a, .inr (5, [.ref a_digits, .int ro_28.2])), cm_kI cI a_digits 9 ro_28.1] H → va_D A [(a, .inr (5, [.ref a_digits, .int ro_28.2])), cm_kI cI a_digits 9 ro_28.1] → va_S A s.heap H locs → lv_has ls 5 [(3, .int v3_28)] → kx v3_28 v4_28 ro_28 = some res → W p l e rmX5_read s m args below meth c H locs 0 0 Q (F0 m 55 ls [])) → ∀ (n : Nat) (v3_28 : Int32) (v4_28 : Int32) (ro_28 : SRO) (H : Heap) (locs : List Loc) (ls : Array Slot), va_P D vwCl [(a, .inr (5, [.ref a_digits, .int ro_28.2])), cm_kI cI a_digits 9 ro_28.1] H → va_D A [(a, .inr (5, [.ref a_digits, .int ro_28.2])), cm_kI cI a_digits 9 ro_28.1] → va_S A s.heap H locs → lv_has ls 5 [(4, .int v4_28), (3, .int v3_28), (0, .ref a)] → fX5_read_L28 kx n v3_28 v4_28 ro_28 = some res → W p l e rmX5_read s m args below meth c H locs 0 0 Q (F0 m 28 ls []) := by
        intro kx hkx n
        induction n with
        | zero => intro v3_28 v4_28 ro_28 H locs ls hP hD hS hl hf; cases hf
        | succ n ih =>
          intro v3_28 v4_28 ro_28 H locs ls hP hD hS hl hf
          rw [fX5_read_L28] at hf
          refine lv_iload (pc := 28) hx hb dX5_read_28 (lv_at hl 0 rfl) ?_
          refine lv_if_lt (pc := 30) (tgt := 55) hx hb dX5_read_30 (by decide) (fun c_30 => ?_) (fun c_30 => ?_)
          · have hf := cm_ip c_30 hf
            exact hkx v3_28 v4_28 ro_28 _ _ _ hP hD hS (lv_sub hl [1] rfl) hf
          · have hf := cm_in c_30 hf
            refine lv_aload_n (pc := 33) hx hb dX5_read_33 rfl (lv_at hl 2 rfl) ?_
            refine va_get (pc := 34) (D := D) (ci := 5) (v := .ref a_digits) (C := RX5) (T := TX5) (N := 2) hx hb hts in_X5 hown hKa hP 0 rfl rfl 0 (by decide) (hts _ tw_226) (fun _ h9 => h9) rfl dX5_read_34 ?_
            refine lv_iload (pc := 37) hx hb dX5_read_37 (lv_at hl 0 rfl) ?_
            refine lv_iload_n (pc := 39) hx hb dX5_read_39 rfl (lv_at hl 1 rfl) ?_
            refine lv_bipush (pc := 40) (v := 10) hx hb dX5_read_40 (by decide) ?_
            refine cm_irem (pc := 42) hx hb dX5_read_42 (by decide) ?_
            obtain ⟨b_43, hf⟩ := cm_ob hf
            refine va_iast (pc := 43) hx hb hKa hP hD hS 1 0 rfl rfl b_43 dX5_read_43 (fun H locs hP hD hS => ?_)
            have hP : va_P D vwCl [(a, .inr (5, [.ref a_digits, .int ro_28.2])), cm_kI cI a_digits 9 (upd ro_28.1 v4_28.toNatClampNeg (irm v3_28 10))] H := hP
            have hD : va_D A [(a, .inr (5, [.ref a_digits, .int ro_28.2])), cm_kI cI a_digits 9 (upd ro_28.1 v4_28.toNatClampNeg (irm v3_28 10))] := hD
            refine lv_iload_n (pc := 44) hx hb dX5_read_44 rfl (lv_at hl 1 rfl) ?_
            refine lv_bipush (pc := 45) (v := 10) hx hb dX5_read_45 (by decide) ?_
            refine lv_idiv (pc := 47) hx hb dX5_read_47 (by decide) ?_
            refine lv_istore_n (pc := 48) (lv' := [(3, .int (v3_28 / 10)), (4, .int v4_28), (0, .ref a)]) hx hb dX5_read_48 rfl hl (by decide) rfl (fun ls hl => ?_)
            refine lv_iinc (pc := 49) (v := (v4_28 + (-1))) (lv' := [(4, .int (v4_28 + (-1))), (3, .int (v3_28 / 10)), (0, .ref a)]) hx hb dX5_read_49 hl (k := 1) rfl rfl (by decide) rfl (fun ls hl => ?_)
            refine lv_goto (pc := 52) (tgt := 28) hx hb dX5_read_52 (by decide) ?_
            exact ih (v3_28 / 10) (v4_28 + (-1)) ((upd ro_28.1 v4_28.toNatClampNeg (irm v3_28 10)), ro_28.2) _ _ _ hP hD hS (lv_sub hl [0, 1, 2] rfl) hf
      refine L28 _ (fun v3_28 v4_28 ro_28 H locs ls hP hD hS hl hf => ?_) 5000 v1 (v2 - 1) (ro.1, v2) _ _ _ hP hD hS (lv_sub hl [0, 1, 2] rfl) hf
      refine lv_iload_n (pc := 55) hx hb dX5_read_55 rfl (lv_at hl 0 rfl) ?_
      refine lv_if_ne (pc := 56) (tgt := 63) hx hb dX5_read_56 (by decide) (fun c_56 => ?_) (fun c_56 => ?_)
      · have hf := cm_in c_56 hf
        refine lv_iconst (pc := 63) (v := 0) hx hb dX5_read_63 (by decide) ?_
        obtain rfl := Option.some.inj hf
        exact cm_zret (Or.inl rfl) (pc := 64) hAe hQ hx hb hr hlocks hP hD hS [0, 1] (by decide) rfl dX5_read_64
      · have hf := cm_ip c_56 hf
        refine lv_iconst (pc := 59) (v := 1) hx hb dX5_read_59 (by decide) ?_
        refine lv_goto (pc := 60) (tgt := 64) hx hb dX5_read_60 (by decide) ?_
        obtain rfl := Option.some.inj hf
        exact cm_zret (Or.inr rfl) (pc := 64) hAe hQ hx hb hr hlocks hP hD hS [0, 1] (by decide) rfl dX5_read_64
    · have hf := cm_ip c_11 hf
      refine lv_iconst (pc := 14) (v := 0) hx hb dX5_read_14 (by decide) ?_
      obtain rfl := Option.some.inj hf
      exact cm_zret (Or.inl rfl) (pc := 15) hAe hQ hx hb hr hlocks hP hD hS [0, 1] (by decide) rfl dX5_read_15
def fX5_digit (v1 : Int32) (ro : SRO) : Option (Int32) := cm_let (fX10_isWithin v1 0 8) (fun u4 => (if u4 = 0 then some 0 else if v1 < 0 ∨ 9 ≤ v1.toNatClampNeg then none else some (ro.1 v1.toNatClampNeg)))
def rmX5_digit : Room := { frames := 1, cells := 0, slots := 0, locals := 22 }
set_option maxRecDepth 100000 in
set_option maxHeartbeats 4000000 in
theorem c_X5_digit (l : Launch) (D : va_G) (cI cJ cZ : ClassId) (a a_digits : Nat) (ro : SRO) (v1 : Int32) (res : Int32) (hf : fX5_digit v1 ro = some res) : Ct l yX5_digit (cm_ws yX5_digit cX5_digit 2 (some .int)) rmX5_digit D (cm_T cI cJ cZ) [.ref a, .int v1] [(a, .inr (5, [.ref a_digits, .int ro.2])), cm_kI cI a_digits 9 ro.1] (some (.int res)) [(a, .inr (5, [.ref a_digits, .int ro.2])), cm_kI cI a_digits 9 ro.1] := by
  refine Ct.of (cc := cX5_digit) (maxL := 2) (ret := (some .int)) (by decide) (Nat.le_of_ble_eq_true rfl) ?_
  intro p e s m below meth c ls args A Q hav hAe hQ hx hb hr hml hown hlocks hts hK hP hD hA hS hl
  have hKa := hK.1
  have hl : lv_has ls 2 [(0, .ref a), (1, .int v1)] := hl
  unfold fX5_digit at hf
  refine lv_iload_n (pc := 0) hx hb dX5_digit_0 rfl (lv_at hl 1 rfl) ?_
  refine lv_iconst (pc := 1) (v := 0) hx hb dX5_digit_1 (by decide) ?_
  refine lv_bipush (pc := 2) (v := 8) hx hb dX5_digit_2 (by decide) ?_
  obtain ⟨u4, hu4, hf⟩ := cm_lt hf
  refine cm_callN (pc := 4) (As := [.int v1, .int 0, .int 8]) (rest := []) (wr := [(a, .inr (5, [.ref a_digits, .int ro.2])), cm_kI cI a_digits 9 ro.1]) (host := RX10) (n := 3) hx hb hml hown hts hK hP hD hS hA (c_X10_isWithin l D cI cJ cZ v1 0 8 u4 hu4) tw_312 (hK.2 (RX5, 15, yX10_isWithin, RX10) (List.mem_of_getElem? (i := 19) rfl)) tw_311 tw_45 rfl rfl (by decide +kernel) rfl ⟨Nat.le_of_ble_eq_true rfl, Nat.le_of_ble_eq_true rfl⟩ [] [0, 1] rfl (by decide) rfl (by decide) (by decide) hl.1 rfl (Nat.le_of_ble_eq_true rfl) dX5_digit_4 ⟨Nat.zero_le _, Nat.zero_le _⟩ (fun H locs hP hD hS => ?_)
  have hP : va_P D vwCl [(a, .inr (5, [.ref a_digits, .int ro.2])), cm_kI cI a_digits 9 ro.1] H := hP
  have hD : va_D A [(a, .inr (5, [.ref a_digits, .int ro.2])), cm_kI cI a_digits 9 ro.1] := hD
  refine W.eq (g2 := F0 m 7 ls [.int u4]) rfl ?_
  refine lv_if_eq (pc := 7) (tgt := 19) hx hb dX5_digit_7 (by decide) (fun c_7 => ?_) (fun c_7 => ?_)
  · have hf := cm_ip c_7 hf
    refine lv_iconst (pc := 19) (v := 0) hx hb dX5_digit_19 (by decide) ?_
    obtain rfl := Option.some.inj hf
    exact cm_iret (pc := 20) hAe hQ hx hb hr hlocks hP hD hS [0, 1] (by decide) rfl dX5_digit_20
  · have hf := cm_in c_7 hf
    refine lv_aload_n (pc := 10) hx hb dX5_digit_10 rfl (lv_at hl 0 rfl) ?_
    refine va_get (pc := 11) (D := D) (ci := 5) (v := .ref a_digits) (C := RX5) (T := TX5) (N := 2) hx hb hts in_X5 hown hKa hP 0 rfl rfl 0 (by decide) (hts _ tw_226) (fun _ h9 => h9) rfl dX5_digit_11 ?_
    refine lv_iload_n (pc := 14) hx hb dX5_digit_14 rfl (lv_at hl 1 rfl) ?_
    obtain ⟨b_15, hf⟩ := cm_ob hf
    refine va_iald (pc := 15) hx hb hKa hP 1 0 rfl rfl b_15 dX5_digit_15 ?_
    refine lv_goto (pc := 16) (tgt := 20) hx hb dX5_digit_16 (by decide) ?_
    obtain rfl := Option.some.inj hf
    exact cm_iret (pc := 20) hAe hQ hx hb hr hlocks hP hD hS [0, 1] (by decide) rfl dX5_digit_20
def fX9_addVoter_L9 (v2_9 : Int32) (kx : Int32 → (Nat → Int32) → Option ((Nat → Int32))) : Nat → Int32 → (Nat → Int32) → Option ((Nat → Int32))
  | 0, _, _ => none
  | n + 1, v3_9, vo_9 => (if v3_9 < v2_9 then kx v3_9 vo_9 else if v3_9 < 0 ∨ 82 ≤ v3_9.toNatClampNeg then none else if (v3_9 - v2_9) < 0 ∨ 82 ≤ (v3_9 - v2_9).toNatClampNeg then none else if v3_9 < 0 ∨ 82 ≤ v3_9.toNatClampNeg then none else fX9_addVoter_L9 v2_9 kx n (v3_9 + (-1)) (upd vo_9 v3_9.toNatClampNeg ((vo_9 v3_9.toNatClampNeg) + (vo_9 (v3_9 - v2_9).toNatClampNeg))))
def fX9_addVoter (v1 : Int32) (vo : (Nat → Int32)) : Option ((Nat → Int32)) := fX9_addVoter_L9 (if 0 < v1 then v1 else 0) (fun v3_9 vo_9 => some vo_9) 5000 81 vo
def rmX9_addVoter : Room := { frames := 1, cells := 0, slots := 0, locals := 21 }
set_option maxRecDepth 100000 in
set_option maxHeartbeats 4000000 in
theorem c_X9_addVoter (l : Launch) (D : va_G) (cI cJ cZ : ClassId) (a a_sets : Nat) (vo : (Nat → Int32)) (v1 : Int32) (res : (Nat → Int32)) (hf : fX9_addVoter v1 vo = some res) : Ct l yX9_addVoter (cm_ws yX9_addVoter cX9_addVoter 4 none) rmX9_addVoter D (cm_T cI cJ cZ) [.ref a, .int v1] [(a, .inr (9, [.ref a_sets])), cm_kI cI a_sets 82 vo] none [(a, .inr (9, [.ref a_sets])), cm_kI cI a_sets 82 res] := by
  refine Ct.of (cc := cX9_addVoter) (maxL := 4) (ret := none) (by decide) (Nat.le_of_ble_eq_true rfl) ?_
  intro p e s m below meth c ls args A Q hav hAe hQ hx hb hr hml hown hlocks hts hK hP hD hA hS hl
  have hKa := hK.1
  have hl : lv_has ls 4 [(0, .ref a), (1, .int v1)] := hl
  unfold fX9_addVoter at hf
  refine lv_iconst (pc := 0) (v := 0) hx hb dX9_addVoter_0 (by decide) ?_
  refine lv_iload_n (pc := 1) hx hb dX9_addVoter_1 rfl (lv_at hl 1 rfl) ?_
  refine va_mmax (pc := 2) hx hb (hml.trans hl.1.symm) hown (hts _ tw_526) (hts _ tw_417) (hts _ tw_57) (hts _ tw_418) (Nat.le_of_ble_eq_true rfl) (Nat.le_of_ble_eq_true rfl) (Nat.zero_le _) (Nat.zero_le _) dX9_addVoter_2 ?_
  refine lv_istore_n (pc := 5) (lv' := [(2, .int (if 0 < v1 then v1 else 0)), (0, .ref a), (1, .int v1)]) hx hb dX9_addVoter_5 rfl hl (by decide) rfl (fun ls hl => ?_)
  refine lv_bipush (pc := 6) (v := 81) hx hb dX9_addVoter_6 (by decide) ?_
  refine lv_istore_n (pc := 8) (lv' := [(3, .int 81), (2, .int (if 0 < v1 then v1 else 0)), (0, .ref a), (1, .int v1)]) hx hb dX9_addVoter_8 rfl hl (by decide) rfl (fun ls hl => ?_)
  have L9 : ∀ (v2_9 : Int32) (kx : Int32 → (Nat → Int32) → Option ((Nat → Int32))), (∀ (v3_9 : Int32) (vo_9 : (Nat → Int32)) (H : Heap) (locs : List Loc) (ls : Array Slot), va_P D vwCl [(a, .inr (9, [.ref a_sets])), cm_kI cI a_sets 82 vo_9] H → va_D A [(a, .inr (9, [.ref a_sets])), cm_kI cI a_sets 82 vo_9] → va_S A s.heap H locs → lv_has ls 4 [] → kx v3_9 vo_9 = some res → W p l e rmX9_addVoter s m args below meth c H locs 0 0 Q (F0 m 37 ls [])) → ∀ (n : Nat) (v3_9 : Int32) (vo_9 : (Nat → Int32)) (H : Heap) (locs : List Loc) (ls : Array Slot), va_P D vwCl [(a, .inr (9, [.ref a_sets])), cm_kI cI a_sets 82 vo_9] H → va_D A [(a, .inr (9, [.ref a_sets])), cm_kI cI a_sets 82 vo_9] → va_S A s.heap H locs → lv_has ls 4 [(3, .int v3_9), (2, .int v2_9), (0, .ref a)] → fX9_addVoter_L9 v2_9 kx n v3_9 vo_9 = some res → W p l e rmX9_addVoter s m args below meth c H locs 0 0 Q (F0 m 9 ls []) := by
    intro v2_9 kx hkx n
    induction n with
    | zero => intro v3_9 vo_9 H locs ls hP hD hS hl hf; cases hf
    | succ n ih =>
      intro v3_9 vo_9 H locs ls hP hD hS hl hf
      rw [fX9_addVoter_L9] at hf
      refine lv_iload_n (pc := 9) hx hb dX9_addVoter_9 rfl (lv_at hl 0 rfl) ?_
      refine lv_iload_n (pc := 10) hx hb dX9_addVoter_10 rfl (lv_at hl 1 rfl) ?_
      refine lv_icmp_lt (pc := 11) (tgt := 37) hx hb dX9_addVoter_11 (by decide) (fun c_11 => ?_) (fun c_11 => ?_)
      · have hf := cm_ip c_11 hf
        exact hkx v3_9 vo_9 _ _ _ hP hD hS (lv_sub hl [] rfl) hf
      · have hf := cm_in c_11 hf
        refine lv_aload_n (pc := 14) hx hb dX9_addVoter_14 rfl (lv_at hl 2 rfl) ?_
        refine va_get (pc := 15) (D := D) (ci := 9) (v := .ref a_sets) (C := RX9) (T := TX9) (N := 1) hx hb hts in_X9 hown hKa hP 0 rfl rfl 0 (by decide) (hts _ tw_241) (fun _ h9 => h9) rfl dX9_addVoter_15 ?_
        refine lv_iload_n (pc := 18) hx hb dX9_addVoter_18 rfl (lv_at hl 0 rfl) ?_
        refine lv_dup2_11 (pc := 19) hx hb dX9_addVoter_19 rfl rfl ?_
        obtain ⟨b_20, hf⟩ := cm_ob hf
        refine va_iald (pc := 20) hx hb hKa hP 1 0 rfl rfl b_20 dX9_addVoter_20 ?_
        refine lv_aload_n (pc := 21) hx hb dX9_addVoter_21 rfl (lv_at hl 2 rfl) ?_
        refine va_get (pc := 22) (D := D) (ci := 9) (v := .ref a_sets) (C := RX9) (T := TX9) (N := 1) hx hb hts in_X9 hown hKa hP 0 rfl rfl 0 (by decide) (hts _ tw_241) (fun _ h9 => h9) rfl dX9_addVoter_22 ?_
        refine lv_iload_n (pc := 25) hx hb dX9_addVoter_25 rfl (lv_at hl 0 rfl) ?_
        refine lv_iload_n (pc := 26) hx hb dX9_addVoter_26 rfl (lv_at hl 1 rfl) ?_
        refine lv_isub (pc := 27) hx hb dX9_addVoter_27 ?_
        obtain ⟨b_28, hf⟩ := cm_ob hf
        refine va_iald (pc := 28) hx hb hKa hP 1 0 rfl rfl b_28 dX9_addVoter_28 ?_
        refine lv_iadd (pc := 29) hx hb dX9_addVoter_29 ?_
        obtain ⟨b_30, hf⟩ := cm_ob hf
        refine va_iast (pc := 30) hx hb hKa hP hD hS 1 0 rfl rfl b_30 dX9_addVoter_30 (fun H locs hP hD hS => ?_)
        have hP : va_P D vwCl [(a, .inr (9, [.ref a_sets])), cm_kI cI a_sets 82 (upd vo_9 v3_9.toNatClampNeg ((vo_9 v3_9.toNatClampNeg) + (vo_9 (v3_9 - v2_9).toNatClampNeg)))] H := hP
        have hD : va_D A [(a, .inr (9, [.ref a_sets])), cm_kI cI a_sets 82 (upd vo_9 v3_9.toNatClampNeg ((vo_9 v3_9.toNatClampNeg) + (vo_9 (v3_9 - v2_9).toNatClampNeg)))] := hD
        refine lv_iinc (pc := 31) (v := (v3_9 + (-1))) (lv' := [(3, .int (v3_9 + (-1))), (2, .int v2_9), (0, .ref a)]) hx hb dX9_addVoter_31 hl (k := 0) rfl rfl (by decide) rfl (fun ls hl => ?_)
        refine lv_goto (pc := 34) (tgt := 9) hx hb dX9_addVoter_34 (by decide) ?_
        exact ih (v3_9 + (-1)) (upd vo_9 v3_9.toNatClampNeg ((vo_9 v3_9.toNatClampNeg) + (vo_9 (v3_9 - v2_9).toNatClampNeg))) _ _ _ hP hD hS (lv_sub hl [0, 1, 2] rfl) hf
  refine L9 (if 0 < v1 then v1 else 0) _ (fun v3_9 vo_9 H locs ls hP hD hS hl hf => ?_) 5000 81 vo _ _ _ hP hD hS (lv_sub hl [0, 1, 2] rfl) hf
  obtain rfl := Option.some.inj hf
  exact cm_vret (pc := 37) hAe hQ hx hb hr hlocks hP hD hS [0, 1] (by decide) rfl dX9_addVoter_37
def fX9_countSets_L2 (kx : Int32 → (Nat → Int32) → Option ((Nat → Int32))) : Nat → Int32 → (Nat → Int32) → Option ((Nat → Int32))
  | 0, _, _ => none
  | n + 1, v3_2, vo_2 => (if 81 < v3_2 then kx v3_2 vo_2 else if v3_2 < 0 ∨ 82 ≤ v3_2.toNatClampNeg then none else fX9_countSets_L2 kx n (v3_2 + 1) (upd vo_2 v3_2.toNatClampNeg 0))
def fX9_countSets_L30 (v2 : Int32) (p1_ro : SRO) (kx : Int32 → (Nat → Int32) → Option ((Nat → Int32))) : Nat → Int32 → (Nat → Int32) → Option ((Nat → Int32))
  | 0, _, _ => none
  | n + 1, v3_30, vo_30 => (if p1_ro.2 ≤ v3_30 then kx v3_30 vo_30 else (if v3_30 = v2 then fX9_countSets_L30 v2 p1_ro kx n (v3_30 + 1) vo_30 else Option.bind (fX5_digit v3_30 p1_ro) (fun u46 => Option.bind (fX9_addVoter u46 vo_30) (fun u49 => fX9_countSets_L30 v2 p1_ro kx n (v3_30 + 1) u49))))
def fX9_countSets (v2 : Int32) (vo : (Nat → Int32)) (p1_ro : SRO) : Option ((Nat → Int32)) := fX9_countSets_L2 (fun v3_2 vo_2 => fX9_countSets_L30 v2 p1_ro (fun v3_30 vo_30 => some vo_30) 5000 0 (upd vo_2 0 1)) 5000 1 vo
def rmX9_countSets : Room := { frames := 2, cells := 0, slots := 0, locals := 44 }
set_option maxRecDepth 100000 in
set_option maxHeartbeats 4000000 in
theorem c_X9_countSets (l : Launch) (D : va_G) (cI cJ cZ : ClassId) (a a_sets a_p1 a_p1_digits : Nat) (vo : (Nat → Int32)) (p1_ro : SRO) (v2 : Int32) (res : (Nat → Int32)) (hf : fX9_countSets v2 vo p1_ro = some res) : Ct l yX9_countSets (cm_ws yX9_countSets cX9_countSets 4 none) rmX9_countSets D (cm_T cI cJ cZ) [.ref a, .ref a_p1, .int v2] [(a, .inr (9, [.ref a_sets])), cm_kI cI a_sets 82 vo, (a_p1, .inr (5, [.ref a_p1_digits, .int p1_ro.2])), cm_kI cI a_p1_digits 9 p1_ro.1] none [(a, .inr (9, [.ref a_sets])), cm_kI cI a_sets 82 res, (a_p1, .inr (5, [.ref a_p1_digits, .int p1_ro.2])), cm_kI cI a_p1_digits 9 p1_ro.1] := by
  refine Ct.of (cc := cX9_countSets) (maxL := 4) (ret := none) (by decide) (Nat.le_of_ble_eq_true rfl) ?_
  intro p e s m below meth c ls args A Q hav hAe hQ hx hb hr hml hown hlocks hts hK hP hD hA hS hl
  have hKa := hK.1
  have hl : lv_has ls 4 [(0, .ref a), (1, .ref a_p1), (2, .int v2)] := hl
  unfold fX9_countSets at hf
  refine lv_iconst (pc := 0) (v := 1) hx hb dX9_countSets_0 (by decide) ?_
  refine lv_istore_n (pc := 1) (lv' := [(3, .int 1), (0, .ref a), (1, .ref a_p1), (2, .int v2)]) hx hb dX9_countSets_1 rfl hl (by decide) rfl (fun ls hl => ?_)
  have L2 : ∀ (kx : Int32 → (Nat → Int32) → Option ((Nat → Int32))), (∀ (v3_2 : Int32) (vo_2 : (Nat → Int32)) (H : Heap) (locs : List Loc) (ls : Array Slot), va_P D vwCl [(a, .inr (9, [.ref a_sets])), cm_kI cI a_sets 82 vo_2, (a_p1, .inr (5, [.ref a_p1_digits, .int p1_ro.2])), cm_kI cI a_p1_digits 9 p1_ro.1] H → va_D A [(a, .inr (9, [.ref a_sets])), cm_kI cI a_sets 82 vo_2, (a_p1, .inr (5, [.ref a_p1_digits, .int p1_ro.2])), cm_kI cI a_p1_digits 9 p1_ro.1] → va_S A s.heap H locs → lv_has ls 4 [(0, .ref a), (1, .ref a_p1), (2, .int v2)] → kx v3_2 vo_2 = some res → W p l e rmX9_countSets s m args below meth c H locs 0 0 Q (F0 m 21 ls [])) → ∀ (n : Nat) (v3_2 : Int32) (vo_2 : (Nat → Int32)) (H : Heap) (locs : List Loc) (ls : Array Slot), va_P D vwCl [(a, .inr (9, [.ref a_sets])), cm_kI cI a_sets 82 vo_2, (a_p1, .inr (5, [.ref a_p1_digits, .int p1_ro.2])), cm_kI cI a_p1_digits 9 p1_ro.1] H → va_D A [(a, .inr (9, [.ref a_sets])), cm_kI cI a_sets 82 vo_2, (a_p1, .inr (5, [.ref a_p1_digits, .int p1_ro.2])), cm_kI cI a_p1_digits 9 p1_ro.1] → va_S A s.heap H locs → lv_has ls 4 [(3, .int v3_2), (0, .ref a), (1, .ref a_p1), (2, .int v2)] → fX9_countSets_L2 kx n v3_2 vo_2 = some res → W p l e rmX9_countSets s m args below meth c H locs 0 0 Q (F0 m 2 ls []) := by
    intro kx hkx n
    induction n with
    | zero => intro v3_2 vo_2 H locs ls hP hD hS hl hf; cases hf
    | succ n ih =>
      intro v3_2 vo_2 H locs ls hP hD hS hl hf
      rw [fX9_countSets_L2] at hf
      refine lv_iload_n (pc := 2) hx hb dX9_countSets_2 rfl (lv_at hl 0 rfl) ?_
      refine lv_bipush (pc := 3) (v := 81) hx hb dX9_countSets_3 (by decide) ?_
      refine lv_icmp_gt (pc := 5) (tgt := 21) hx hb dX9_countSets_5 (by decide) (fun c_5 => ?_) (fun c_5 => ?_)
      · have hf := cm_ip c_5 hf
        exact hkx v3_2 vo_2 _ _ _ hP hD hS (lv_sub hl [1, 2, 3] rfl) hf
      · have hf := cm_in c_5 hf
        refine lv_aload_n (pc := 8) hx hb dX9_countSets_8 rfl (lv_at hl 1 rfl) ?_
        refine va_get (pc := 9) (D := D) (ci := 9) (v := .ref a_sets) (C := RX9) (T := TX9) (N := 1) hx hb hts in_X9 hown hKa hP 0 rfl rfl 0 (by decide) (hts _ tw_241) (fun _ h9 => h9) rfl dX9_countSets_9 ?_
        refine lv_iload_n (pc := 12) hx hb dX9_countSets_12 rfl (lv_at hl 0 rfl) ?_
        refine lv_iconst (pc := 13) (v := 0) hx hb dX9_countSets_13 (by decide) ?_
        obtain ⟨b_14, hf⟩ := cm_ob hf
        refine va_iast (pc := 14) hx hb hKa hP hD hS 1 0 rfl rfl b_14 dX9_countSets_14 (fun H locs hP hD hS => ?_)
        have hP : va_P D vwCl [(a, .inr (9, [.ref a_sets])), cm_kI cI a_sets 82 (upd vo_2 v3_2.toNatClampNeg 0), (a_p1, .inr (5, [.ref a_p1_digits, .int p1_ro.2])), cm_kI cI a_p1_digits 9 p1_ro.1] H := hP
        have hD : va_D A [(a, .inr (9, [.ref a_sets])), cm_kI cI a_sets 82 (upd vo_2 v3_2.toNatClampNeg 0), (a_p1, .inr (5, [.ref a_p1_digits, .int p1_ro.2])), cm_kI cI a_p1_digits 9 p1_ro.1] := hD
        refine lv_iinc (pc := 15) (v := (v3_2 + 1)) (lv' := [(3, .int (v3_2 + 1)), (0, .ref a), (1, .ref a_p1), (2, .int v2)]) hx hb dX9_countSets_15 hl (k := 0) rfl rfl (by decide) rfl (fun ls hl => ?_)
        refine lv_goto (pc := 18) (tgt := 2) hx hb dX9_countSets_18 (by decide) ?_
        exact ih (v3_2 + 1) (upd vo_2 v3_2.toNatClampNeg 0) _ _ _ hP hD hS (lv_sub hl [0, 1, 2, 3] rfl) hf
  refine L2 _ (fun v3_2 vo_2 H locs ls hP hD hS hl hf => ?_) 5000 1 vo _ _ _ hP hD hS (lv_sub hl [0, 1, 2, 3] rfl) hf
  refine lv_aload_n (pc := 21) hx hb dX9_countSets_21 rfl (lv_at hl 0 rfl) ?_
  refine va_get (pc := 22) (D := D) (ci := 9) (v := .ref a_sets) (C := RX9) (T := TX9) (N := 1) hx hb hts in_X9 hown hKa hP 0 rfl rfl 0 (by decide) (hts _ tw_241) (fun _ h9 => h9) rfl dX9_countSets_22 ?_
  refine lv_iconst (pc := 25) (v := 0) hx hb dX9_countSets_25 (by decide) ?_
  refine lv_iconst (pc := 26) (v := 1) hx hb dX9_countSets_26 (by decide) ?_
  refine cm_iast (pc := 27) hx hb hKa hP hD hS 1 0 rfl rfl 0 rfl (by decide) dX9_countSets_27 (fun H locs hP hD hS => ?_)
  have hP : va_P D vwCl [(a, .inr (9, [.ref a_sets])), cm_kI cI a_sets 82 (upd vo_2 0 1), (a_p1, .inr (5, [.ref a_p1_digits, .int p1_ro.2])), cm_kI cI a_p1_digits 9 p1_ro.1] H := hP
  have hD : va_D A [(a, .inr (9, [.ref a_sets])), cm_kI cI a_sets 82 (upd vo_2 0 1), (a_p1, .inr (5, [.ref a_p1_digits, .int p1_ro.2])), cm_kI cI a_p1_digits 9 p1_ro.1] := hD
  refine lv_iconst (pc := 28) (v := 0) hx hb dX9_countSets_28 (by decide) ?_
  refine lv_istore_n (pc := 29) (lv' := [(3, .int 0), (0, .ref a), (1, .ref a_p1), (2, .int v2)]) hx hb dX9_countSets_29 rfl hl (by decide) rfl (fun ls hl => ?_)
  have L30 : ∀ (kx : Int32 → (Nat → Int32) → Option ((Nat → Int32))), (∀ (v3_30 : Int32) (vo_30 : (Nat → Int32)) (H : Heap) (locs : List Loc) (ls : Array Slot), va_P D vwCl [(a, .inr (9, [.ref a_sets])), cm_kI cI a_sets 82 vo_30, (a_p1, .inr (5, [.ref a_p1_digits, .int p1_ro.2])), cm_kI cI a_p1_digits 9 p1_ro.1] H → va_D A [(a, .inr (9, [.ref a_sets])), cm_kI cI a_sets 82 vo_30, (a_p1, .inr (5, [.ref a_p1_digits, .int p1_ro.2])), cm_kI cI a_p1_digits 9 p1_ro.1] → va_S A s.heap H locs → lv_has ls 4 [] → kx v3_30 vo_30 = some res → W p l e rmX9_countSets s m args below meth c H locs 0 0 Q (F0 m 58 ls [])) → ∀ (n : Nat) (v3_30 : Int32) (vo_30 : (Nat → Int32)) (H : Heap) (locs : List Loc) (ls : Array Slot), va_P D vwCl [(a, .inr (9, [.ref a_sets])), cm_kI cI a_sets 82 vo_30, (a_p1, .inr (5, [.ref a_p1_digits, .int p1_ro.2])), cm_kI cI a_p1_digits 9 p1_ro.1] H → va_D A [(a, .inr (9, [.ref a_sets])), cm_kI cI a_sets 82 vo_30, (a_p1, .inr (5, [.ref a_p1_digits, .int p1_ro.2])), cm_kI cI a_p1_digits 9 p1_ro.1] → va_S A s.heap H locs → lv_has ls 4 [(3, .int v3_30), (0, .ref a), (1, .ref a_p1), (2, .int v2)] → fX9_countSets_L30 v2 p1_ro kx n v3_30 vo_30 = some res → W p l e rmX9_countSets s m args below meth c H locs 0 0 Q (F0 m 30 ls []) := by
    intro kx hkx n
    induction n with
    | zero => intro v3_30 vo_30 H locs ls hP hD hS hl hf; cases hf
    | succ n ih =>
      intro v3_30 vo_30 H locs ls hP hD hS hl hf
      rw [fX9_countSets_L30] at hf
      refine lv_iload_n (pc := 30) hx hb dX9_countSets_30 rfl (lv_at hl 0 rfl) ?_
      refine lv_aload_n (pc := 31) hx hb dX9_countSets_31 rfl (lv_at hl 2 rfl) ?_
      refine va_get (pc := 32) (D := D) (ci := 5) (v := .int p1_ro.2) (C := RX5) (T := TX5) (N := 2) hx hb hts in_X5 hown hKa hP 2 rfl rfl 1 (by decide) (hts _ tw_229) (fun _ h9 => h9) rfl dX9_countSets_32 ?_
      refine lv_icmp_ge (pc := 35) (tgt := 58) hx hb dX9_countSets_35 (by decide) (fun c_35 => ?_) (fun c_35 => ?_)
      · have hf := cm_ip c_35 hf
        exact hkx v3_30 vo_30 _ _ _ hP hD hS (lv_sub hl [] rfl) hf
      · have hf := cm_in c_35 hf
        refine lv_iload_n (pc := 38) hx hb dX9_countSets_38 rfl (lv_at hl 0 rfl) ?_
        refine lv_iload_n (pc := 39) hx hb dX9_countSets_39 rfl (lv_at hl 3 rfl) ?_
        refine lv_icmp_eq (pc := 40) (tgt := 52) hx hb dX9_countSets_40 (by decide) (fun c_40 => ?_) (fun c_40 => ?_)
        · have hf := cm_ip c_40 hf
          refine lv_iinc (pc := 52) (v := (v3_30 + 1)) (lv' := [(3, .int (v3_30 + 1)), (0, .ref a), (1, .ref a_p1), (2, .int v2)]) hx hb dX9_countSets_52 hl (k := 0) rfl rfl (by decide) rfl (fun ls hl => ?_)
          refine lv_goto (pc := 55) (tgt := 30) hx hb dX9_countSets_55 (by decide) ?_
          exact ih (v3_30 + 1) vo_30 _ _ _ hP hD hS (lv_sub hl [0, 1, 2, 3] rfl) hf
        · have hf := cm_in c_40 hf
          refine lv_aload_n (pc := 43) hx hb dX9_countSets_43 rfl (lv_at hl 1 rfl) ?_
          refine lv_aload_n (pc := 44) hx hb dX9_countSets_44 rfl (lv_at hl 2 rfl) ?_
          refine lv_iload_n (pc := 45) hx hb dX9_countSets_45 rfl (lv_at hl 0 rfl) ?_
          obtain ⟨u46, hu46, hf⟩ := cm_bd hf
          refine cm_callV (pc := 46) (As := [.int v3_30]) (rest := [.ref a]) (wr := [(a, .inr (9, [.ref a_sets])), cm_kI cI a_sets 82 vo_30]) (ci := 5) (q0 := 2) (n := 1) hx hb hml hown hts hK hP hD hS hA (c_X5_digit l D cI cJ cZ a_p1 a_p1_digits p1_ro v3_30 u46 hu46) tw_521 tw_518 tw_519 tw_520 tw_52 rfl rfl (by decide +kernel) rfl ⟨Nat.le_of_ble_eq_true rfl, Nat.le_of_ble_eq_true rfl⟩ [2, 3] [0, 1] rfl (by decide) rfl (by decide) (by decide) rfl rfl rfl hl.1 rfl (Nat.le_of_ble_eq_true rfl) dX9_countSets_46 ⟨Nat.zero_le _, Nat.zero_le _⟩ (fun H locs hP hD hS => ?_)
          have hP : va_P D vwCl [(a, .inr (9, [.ref a_sets])), cm_kI cI a_sets 82 vo_30, (a_p1, .inr (5, [.ref a_p1_digits, .int p1_ro.2])), cm_kI cI a_p1_digits 9 p1_ro.1] H := hP
          have hD : va_D A [(a, .inr (9, [.ref a_sets])), cm_kI cI a_sets 82 vo_30, (a_p1, .inr (5, [.ref a_p1_digits, .int p1_ro.2])), cm_kI cI a_p1_digits 9 p1_ro.1] := hD
          refine W.eq (g2 := F0 m 49 ls [.int u46, .ref a]) rfl ?_
          obtain ⟨u49, hu49, hf⟩ := cm_bd hf
          refine cm_callV (pc := 49) (As := [.int u46]) (rest := []) (wr := [(a_p1, .inr (5, [.ref a_p1_digits, .int p1_ro.2])), cm_kI cI a_p1_digits 9 p1_ro.1]) (ci := 9) (q0 := 0) (n := 1) hx hb hml hown hts hK hP hD hS hA (c_X9_addVoter l D cI cJ cZ a a_sets vo_30 u46 u49 hu49) tw_525 tw_522 tw_524 tw_16 tw_53 rfl rfl (by decide +kernel) rfl ⟨Nat.le_of_ble_eq_true rfl, Nat.le_of_ble_eq_true rfl⟩ [0, 1] [2, 3] rfl (by decide) rfl (by decide) (by decide) rfl rfl rfl hl.1 rfl (Nat.le_of_ble_eq_true rfl) dX9_countSets_49 ⟨Nat.zero_le _, Nat.zero_le _⟩ (fun H locs hP hD hS => ?_)
          have hP : va_P D vwCl [(a_p1, .inr (5, [.ref a_p1_digits, .int p1_ro.2])), cm_kI cI a_p1_digits 9 p1_ro.1, (a, .inr (9, [.ref a_sets])), cm_kI cI a_sets 82 u49] H := hP
          have hD : va_D A [(a_p1, .inr (5, [.ref a_p1_digits, .int p1_ro.2])), cm_kI cI a_p1_digits 9 p1_ro.1, (a, .inr (9, [.ref a_sets])), cm_kI cI a_sets 82 u49] := hD
          refine W.eq (g2 := F0 m 52 ls []) rfl ?_
          refine lv_iinc (pc := 52) (v := (v3_30 + 1)) (lv' := [(3, .int (v3_30 + 1)), (0, .ref a), (1, .ref a_p1), (2, .int v2)]) hx hb dX9_countSets_52 hl (k := 0) rfl rfl (by decide) rfl (fun ls hl => ?_)
          refine lv_goto (pc := 55) (tgt := 30) hx hb dX9_countSets_55 (by decide) ?_
          have hP := hP.sub (ws' := [(a, .inr (9, [.ref a_sets])), cm_kI cI a_sets 82 u49, (a_p1, .inr (5, [.ref a_p1_digits, .int p1_ro.2])), cm_kI cI a_p1_digits 9 p1_ro.1]) [2, 3, 0, 1] rfl
          have hD := hD.sub (ws' := [(a, .inr (9, [.ref a_sets])), cm_kI cI a_sets 82 u49, (a_p1, .inr (5, [.ref a_p1_digits, .int p1_ro.2])), cm_kI cI a_p1_digits 9 p1_ro.1]) [2, 3, 0, 1] (by decide) rfl
          exact ih (v3_30 + 1) u49 _ _ _ hP hD hS (lv_sub hl [0, 1, 2, 3] rfl) hf
  refine L30 _ (fun v3_30 vo_30 H locs ls hP hD hS hl hf => ?_) 5000 0 (upd vo_2 0 1) _ _ _ hP hD hS (lv_sub hl [0, 1, 2, 3] rfl) hf
  obtain rfl := Option.some.inj hf
  exact cm_vret (pc := 58) hAe hQ hx hb hr hlocks hP hD hS [0, 1, 2, 3] (by decide) rfl dX9_countSets_58
def fX9_setsWithin_L9 (v2 : Int32) (vo : (Nat → Int32)) (kx : Int32 → Int32 → Option (Int32)) : Nat → Int32 → Int32 → Option (Int32)
  | 0, _, _ => none
  | n + 1, v3_9, v4_9 => (if v2 < v4_9 then kx v3_9 v4_9 else (if 81 < v4_9 then kx v3_9 v4_9 else if v4_9 < 0 ∨ 82 ≤ v4_9.toNatClampNeg then none else fX9_setsWithin_L9 v2 vo kx n (v3_9 + (vo v4_9.toNatClampNeg)) (v4_9 + 1)))
def fX9_setsWithin (v1 : Int32) (v2 : Int32) (vo : (Nat → Int32)) : Option (Int32) := fX9_setsWithin_L9 v2 vo (fun v3_9 v4_9 => some v3_9) 5000 0 (if 0 < v1 then v1 else 0)
def rmX9_setsWithin : Room := { frames := 1, cells := 0, slots := 0, locals := 21 }
set_option maxRecDepth 100000 in
set_option maxHeartbeats 4000000 in
theorem c_X9_setsWithin (l : Launch) (D : va_G) (cI cJ cZ : ClassId) (a a_sets : Nat) (vo : (Nat → Int32)) (v1 : Int32) (v2 : Int32) (res : Int32) (hf : fX9_setsWithin v1 v2 vo = some res) : Ct l yX9_setsWithin (cm_ws yX9_setsWithin cX9_setsWithin 5 (some .int)) rmX9_setsWithin D (cm_T cI cJ cZ) [.ref a, .int v1, .int v2] [(a, .inr (9, [.ref a_sets])), cm_kI cI a_sets 82 vo] (some (.int res)) [(a, .inr (9, [.ref a_sets])), cm_kI cI a_sets 82 vo] := by
  refine Ct.of (cc := cX9_setsWithin) (maxL := 5) (ret := (some .int)) (by decide) (Nat.le_of_ble_eq_true rfl) ?_
  intro p e s m below meth c ls args A Q hav hAe hQ hx hb hr hml hown hlocks hts hK hP hD hA hS hl
  have hKa := hK.1
  have hl : lv_has ls 5 [(0, .ref a), (1, .int v1), (2, .int v2)] := hl
  unfold fX9_setsWithin at hf
  refine lv_iconst (pc := 0) (v := 0) hx hb dX9_setsWithin_0 (by decide) ?_
  refine lv_istore_n (pc := 1) (lv' := [(3, .int 0), (0, .ref a), (1, .int v1), (2, .int v2)]) hx hb dX9_setsWithin_1 rfl hl (by decide) rfl (fun ls hl => ?_)
  refine lv_iconst (pc := 2) (v := 0) hx hb dX9_setsWithin_2 (by decide) ?_
  refine lv_iload_n (pc := 3) hx hb dX9_setsWithin_3 rfl (lv_at hl 2 rfl) ?_
  refine va_mmax (pc := 4) hx hb (hml.trans hl.1.symm) hown (hts _ tw_526) (hts _ tw_417) (hts _ tw_57) (hts _ tw_418) (Nat.le_of_ble_eq_true rfl) (Nat.le_of_ble_eq_true rfl) (Nat.zero_le _) (Nat.zero_le _) dX9_setsWithin_4 ?_
  refine lv_istore (pc := 7) (lv' := [(4, .int (if 0 < v1 then v1 else 0)), (3, .int 0), (0, .ref a), (1, .int v1), (2, .int v2)]) hx hb dX9_setsWithin_7 hl (by decide) rfl (fun ls hl => ?_)
  have L9 : ∀ (kx : Int32 → Int32 → Option (Int32)), (∀ (v3_9 : Int32) (v4_9 : Int32) (H : Heap) (locs : List Loc) (ls : Array Slot), va_P D vwCl [(a, .inr (9, [.ref a_sets])), cm_kI cI a_sets 82 vo] H → va_D A [(a, .inr (9, [.ref a_sets])), cm_kI cI a_sets 82 vo] → va_S A s.heap H locs → lv_has ls 5 [(3, .int v3_9)] → kx v3_9 v4_9 = some res → W p l e rmX9_setsWithin s m args below meth c H locs 0 0 Q (F0 m 38 ls [])) → ∀ (n : Nat) (v3_9 : Int32) (v4_9 : Int32) (H : Heap) (locs : List Loc) (ls : Array Slot), va_P D vwCl [(a, .inr (9, [.ref a_sets])), cm_kI cI a_sets 82 vo] H → va_D A [(a, .inr (9, [.ref a_sets])), cm_kI cI a_sets 82 vo] → va_S A s.heap H locs → lv_has ls 5 [(4, .int v4_9), (3, .int v3_9), (0, .ref a), (2, .int v2)] → fX9_setsWithin_L9 v2 vo kx n v3_9 v4_9 = some res → W p l e rmX9_setsWithin s m args below meth c H locs 0 0 Q (F0 m 9 ls []) := by
    intro kx hkx n
    induction n with
    | zero => intro v3_9 v4_9 H locs ls hP hD hS hl hf; cases hf
    | succ n ih =>
      intro v3_9 v4_9 H locs ls hP hD hS hl hf
      rw [fX9_setsWithin_L9] at hf
      refine lv_iload (pc := 9) hx hb dX9_setsWithin_9 (lv_at hl 0 rfl) ?_
      refine lv_iload_n (pc := 11) hx hb dX9_setsWithin_11 rfl (lv_at hl 3 rfl) ?_
      refine lv_icmp_gt (pc := 12) (tgt := 38) hx hb dX9_setsWithin_12 (by decide) (fun c_12 => ?_) (fun c_12 => ?_)
      · have hf := cm_ip c_12 hf
        exact hkx v3_9 v4_9 _ _ _ hP hD hS (lv_sub hl [1] rfl) hf
      · have hf := cm_in c_12 hf
        refine lv_iload (pc := 15) hx hb dX9_setsWithin_15 (lv_at hl 0 rfl) ?_
        refine lv_bipush (pc := 17) (v := 81) hx hb dX9_setsWithin_17 (by decide) ?_
        refine lv_icmp_gt (pc := 19) (tgt := 38) hx hb dX9_setsWithin_19 (by decide) (fun c_19 => ?_) (fun c_19 => ?_)
        · have hf := cm_ip c_19 hf
          exact hkx v3_9 v4_9 _ _ _ hP hD hS (lv_sub hl [1] rfl) hf
        · have hf := cm_in c_19 hf
          refine lv_iload_n (pc := 22) hx hb dX9_setsWithin_22 rfl (lv_at hl 1 rfl) ?_
          refine lv_aload_n (pc := 23) hx hb dX9_setsWithin_23 rfl (lv_at hl 2 rfl) ?_
          refine va_get (pc := 24) (D := D) (ci := 9) (v := .ref a_sets) (C := RX9) (T := TX9) (N := 1) hx hb hts in_X9 hown hKa hP 0 rfl rfl 0 (by decide) (hts _ tw_241) (fun _ h9 => h9) rfl dX9_setsWithin_24 ?_
          refine lv_iload (pc := 27) hx hb dX9_setsWithin_27 (lv_at hl 0 rfl) ?_
          obtain ⟨b_29, hf⟩ := cm_ob hf
          refine va_iald (pc := 29) hx hb hKa hP 1 0 rfl rfl b_29 dX9_setsWithin_29 ?_
          refine lv_iadd (pc := 30) hx hb dX9_setsWithin_30 ?_
          refine lv_istore_n (pc := 31) (lv' := [(3, .int (v3_9 + (vo v4_9.toNatClampNeg))), (4, .int v4_9), (0, .ref a), (2, .int v2)]) hx hb dX9_setsWithin_31 rfl hl (by decide) rfl (fun ls hl => ?_)
          refine lv_iinc (pc := 32) (v := (v4_9 + 1)) (lv' := [(4, .int (v4_9 + 1)), (3, .int (v3_9 + (vo v4_9.toNatClampNeg))), (0, .ref a), (2, .int v2)]) hx hb dX9_setsWithin_32 hl (k := 1) rfl rfl (by decide) rfl (fun ls hl => ?_)
          refine lv_goto (pc := 35) (tgt := 9) hx hb dX9_setsWithin_35 (by decide) ?_
          exact ih (v3_9 + (vo v4_9.toNatClampNeg)) (v4_9 + 1) _ _ _ hP hD hS (lv_sub hl [0, 1, 2, 3] rfl) hf
  refine L9 _ (fun v3_9 v4_9 H locs ls hP hD hS hl hf => ?_) 5000 0 (if 0 < v1 then v1 else 0) _ _ _ hP hD hS (lv_sub hl [0, 1, 2, 4] rfl) hf
  refine lv_iload_n (pc := 38) hx hb dX9_setsWithin_38 rfl (lv_at hl 0 rfl) ?_
  obtain rfl := Option.some.inj hf
  exact cm_iret (pc := 39) hAe hQ hx hb hr hlocks hP hD hS [0, 1] (by decide) rfl dX9_setsWithin_39
def fX9_neededSets (v2 : Int32) (v3 : Int32) (vo : (Nat → Int32)) (p1_ro : SRO) : Option (Int32 × (Nat → Int32)) := Option.bind (fX9_countSets v3 vo p1_ro) (fun u3 => Option.bind (fX5_digit v3 p1_ro) (fun u10 => Option.bind (fX9_setsWithin (v2 - u10) (v2 - 1) u3) (fun u17 => some (u17, u3))))
def rmX9_neededSets : Room := { frames := 3, cells := 0, slots := 0, locals := 67 }
set_option maxRecDepth 100000 in
set_option maxHeartbeats 4000000 in
theorem c_X9_neededSets (l : Launch) (D : va_G) (cI cJ cZ : ClassId) (a a_sets a_p1 a_p1_digits : Nat) (vo : (Nat → Int32)) (p1_ro : SRO) (v2 : Int32) (v3 : Int32) (res : Int32 × (Nat → Int32)) (hf : fX9_neededSets v2 v3 vo p1_ro = some res) : Ct l yX9_neededSets (cm_ws yX9_neededSets cX9_neededSets 4 (some .int)) rmX9_neededSets D (cm_T cI cJ cZ) [.ref a, .ref a_p1, .int v2, .int v3] [(a, .inr (9, [.ref a_sets])), cm_kI cI a_sets 82 vo, (a_p1, .inr (5, [.ref a_p1_digits, .int p1_ro.2])), cm_kI cI a_p1_digits 9 p1_ro.1] (some (.int res.1)) [(a, .inr (9, [.ref a_sets])), cm_kI cI a_sets 82 res.2, (a_p1, .inr (5, [.ref a_p1_digits, .int p1_ro.2])), cm_kI cI a_p1_digits 9 p1_ro.1] := by
  refine Ct.of (cc := cX9_neededSets) (maxL := 4) (ret := (some .int)) (by decide) (Nat.le_of_ble_eq_true rfl) ?_
  intro p e s m below meth c ls args A Q hav hAe hQ hx hb hr hml hown hlocks hts hK hP hD hA hS hl
  have hKa := hK.1
  have hl : lv_has ls 4 [(0, .ref a), (1, .ref a_p1), (2, .int v2), (3, .int v3)] := hl
  unfold fX9_neededSets at hf
  refine lv_aload_n (pc := 0) hx hb dX9_neededSets_0 rfl (lv_at hl 0 rfl) ?_
  refine lv_aload_n (pc := 1) hx hb dX9_neededSets_1 rfl (lv_at hl 1 rfl) ?_
  refine lv_iload_n (pc := 2) hx hb dX9_neededSets_2 rfl (lv_at hl 3 rfl) ?_
  obtain ⟨u3, hu3, hf⟩ := cm_bd hf
  refine cm_callV (pc := 3) (As := [.ref a_p1, .int v3]) (rest := []) (wr := []) (ci := 9) (q0 := 0) (n := 2) hx hb hml hown hts hK hP hD hS hA (c_X9_countSets l D cI cJ cZ a a_sets a_p1 a_p1_digits vo p1_ro v3 u3 hu3) tw_517 tw_514 tw_516 tw_15 tw_53 rfl rfl (by decide +kernel) rfl ⟨Nat.le_of_ble_eq_true rfl, Nat.le_of_ble_eq_true rfl⟩ [0, 1, 2, 3] [] rfl (by decide) rfl (by decide) (by decide) rfl rfl rfl hl.1 rfl (Nat.le_of_ble_eq_true rfl) dX9_neededSets_3 ⟨Nat.zero_le _, Nat.zero_le _⟩ (fun H locs hP hD hS => ?_)
  have hP : va_P D vwCl [(a, .inr (9, [.ref a_sets])), cm_kI cI a_sets 82 u3, (a_p1, .inr (5, [.ref a_p1_digits, .int p1_ro.2])), cm_kI cI a_p1_digits 9 p1_ro.1] H := hP
  have hD : va_D A [(a, .inr (9, [.ref a_sets])), cm_kI cI a_sets 82 u3, (a_p1, .inr (5, [.ref a_p1_digits, .int p1_ro.2])), cm_kI cI a_p1_digits 9 p1_ro.1] := hD
  refine W.eq (g2 := F0 m 6 ls []) rfl ?_
  refine lv_aload_n (pc := 6) hx hb dX9_neededSets_6 rfl (lv_at hl 0 rfl) ?_
  refine lv_iload_n (pc := 7) hx hb dX9_neededSets_7 rfl (lv_at hl 2 rfl) ?_
  refine lv_aload_n (pc := 8) hx hb dX9_neededSets_8 rfl (lv_at hl 1 rfl) ?_
  refine lv_iload_n (pc := 9) hx hb dX9_neededSets_9 rfl (lv_at hl 3 rfl) ?_
  obtain ⟨u10, hu10, hf⟩ := cm_bd hf
  refine cm_callV (pc := 10) (As := [.int v3]) (rest := [.int v2, .ref a]) (wr := [(a, .inr (9, [.ref a_sets])), cm_kI cI a_sets 82 u3]) (ci := 5) (q0 := 2) (n := 1) hx hb hml hown hts hK hP hD hS hA (c_X5_digit l D cI cJ cZ a_p1 a_p1_digits p1_ro v3 u10 hu10) tw_521 tw_518 tw_519 tw_520 tw_52 rfl rfl (by decide +kernel) rfl ⟨Nat.le_of_ble_eq_true rfl, Nat.le_of_ble_eq_true rfl⟩ [2, 3] [0, 1] rfl (by decide) rfl (by decide) (by decide) rfl rfl rfl hl.1 rfl (Nat.le_of_ble_eq_true rfl) dX9_neededSets_10 ⟨Nat.zero_le _, Nat.zero_le _⟩ (fun H locs hP hD hS => ?_)
  have hP : va_P D vwCl [(a, .inr (9, [.ref a_sets])), cm_kI cI a_sets 82 u3, (a_p1, .inr (5, [.ref a_p1_digits, .int p1_ro.2])), cm_kI cI a_p1_digits 9 p1_ro.1] H := hP
  have hD : va_D A [(a, .inr (9, [.ref a_sets])), cm_kI cI a_sets 82 u3, (a_p1, .inr (5, [.ref a_p1_digits, .int p1_ro.2])), cm_kI cI a_p1_digits 9 p1_ro.1] := hD
  refine W.eq (g2 := F0 m 13 ls [.int u10, .int v2, .ref a]) rfl ?_
  refine lv_isub (pc := 13) hx hb dX9_neededSets_13 ?_
  refine lv_iload_n (pc := 14) hx hb dX9_neededSets_14 rfl (lv_at hl 2 rfl) ?_
  refine lv_iconst (pc := 15) (v := 1) hx hb dX9_neededSets_15 (by decide) ?_
  refine lv_isub (pc := 16) hx hb dX9_neededSets_16 ?_
  obtain ⟨u17, hu17, hf⟩ := cm_bd hf
  refine cm_callV (pc := 17) (As := [.int (v2 - u10), .int (v2 - 1)]) (rest := []) (wr := [(a_p1, .inr (5, [.ref a_p1_digits, .int p1_ro.2])), cm_kI cI a_p1_digits 9 p1_ro.1]) (ci := 9) (q0 := 0) (n := 2) hx hb hml hown hts hK hP hD hS hA (c_X9_setsWithin l D cI cJ cZ a a_sets u3 (v2 - u10) (v2 - 1) u17 hu17) tw_530 tw_527 tw_529 tw_17 tw_53 rfl rfl (by decide +kernel) rfl ⟨Nat.le_of_ble_eq_true rfl, Nat.le_of_ble_eq_true rfl⟩ [0, 1] [2, 3] rfl (by decide) rfl (by decide) (by decide) rfl rfl rfl hl.1 rfl (Nat.le_of_ble_eq_true rfl) dX9_neededSets_17 ⟨Nat.zero_le _, Nat.zero_le _⟩ (fun H locs hP hD hS => ?_)
  have hP : va_P D vwCl [(a_p1, .inr (5, [.ref a_p1_digits, .int p1_ro.2])), cm_kI cI a_p1_digits 9 p1_ro.1, (a, .inr (9, [.ref a_sets])), cm_kI cI a_sets 82 u3] H := hP
  have hD : va_D A [(a_p1, .inr (5, [.ref a_p1_digits, .int p1_ro.2])), cm_kI cI a_p1_digits 9 p1_ro.1, (a, .inr (9, [.ref a_sets])), cm_kI cI a_sets 82 u3] := hD
  refine W.eq (g2 := F0 m 20 ls [.int u17]) rfl ?_
  obtain rfl := Option.some.inj hf
  exact cm_iret (pc := 20) hAe hQ hx hb hr hlocks hP hD hS [2, 3, 0, 1] (by decide) rfl dX9_neededSets_20
def fX9_carryingSets (v2 : Int32) (vo : (Nat → Int32)) (p1_ro : SRO) : Option (Int32 × (Nat → Int32)) := Option.bind (fX9_countSets (-1) vo p1_ro) (fun u3 => Option.bind (fX9_setsWithin v2 81 u3) (fun u10 => some (u10, u3)))
def rmX9_carryingSets : Room := { frames := 3, cells := 0, slots := 0, locals := 67 }
set_option maxRecDepth 100000 in
set_option maxHeartbeats 4000000 in
theorem c_X9_carryingSets (l : Launch) (D : va_G) (cI cJ cZ : ClassId) (a a_sets a_p1 a_p1_digits : Nat) (vo : (Nat → Int32)) (p1_ro : SRO) (v2 : Int32) (res : Int32 × (Nat → Int32)) (hf : fX9_carryingSets v2 vo p1_ro = some res) : Ct l yX9_carryingSets (cm_ws yX9_carryingSets cX9_carryingSets 3 (some .int)) rmX9_carryingSets D (cm_T cI cJ cZ) [.ref a, .ref a_p1, .int v2] [(a, .inr (9, [.ref a_sets])), cm_kI cI a_sets 82 vo, (a_p1, .inr (5, [.ref a_p1_digits, .int p1_ro.2])), cm_kI cI a_p1_digits 9 p1_ro.1] (some (.int res.1)) [(a, .inr (9, [.ref a_sets])), cm_kI cI a_sets 82 res.2, (a_p1, .inr (5, [.ref a_p1_digits, .int p1_ro.2])), cm_kI cI a_p1_digits 9 p1_ro.1] := by
  refine Ct.of (cc := cX9_carryingSets) (maxL := 3) (ret := (some .int)) (by decide) (Nat.le_of_ble_eq_true rfl) ?_
  intro p e s m below meth c ls args A Q hav hAe hQ hx hb hr hml hown hlocks hts hK hP hD hA hS hl
  have hKa := hK.1
  have hl : lv_has ls 3 [(0, .ref a), (1, .ref a_p1), (2, .int v2)] := hl
  unfold fX9_carryingSets at hf
  refine lv_aload_n (pc := 0) hx hb dX9_carryingSets_0 rfl (lv_at hl 0 rfl) ?_
  refine lv_aload_n (pc := 1) hx hb dX9_carryingSets_1 rfl (lv_at hl 1 rfl) ?_
  refine lv_iconst (pc := 2) (v := (-1)) hx hb dX9_carryingSets_2 (by decide) ?_
  obtain ⟨u3, hu3, hf⟩ := cm_bd hf
  refine cm_callV (pc := 3) (As := [.ref a_p1, .int (-1)]) (rest := []) (wr := []) (ci := 9) (q0 := 0) (n := 2) hx hb hml hown hts hK hP hD hS hA (c_X9_countSets l D cI cJ cZ a a_sets a_p1 a_p1_digits vo p1_ro (-1) u3 hu3) tw_517 tw_514 tw_516 tw_15 tw_53 rfl rfl (by decide +kernel) rfl ⟨Nat.le_of_ble_eq_true rfl, Nat.le_of_ble_eq_true rfl⟩ [0, 1, 2, 3] [] rfl (by decide) rfl (by decide) (by decide) rfl rfl rfl hl.1 rfl (Nat.le_of_ble_eq_true rfl) dX9_carryingSets_3 ⟨Nat.zero_le _, Nat.zero_le _⟩ (fun H locs hP hD hS => ?_)
  have hP : va_P D vwCl [(a, .inr (9, [.ref a_sets])), cm_kI cI a_sets 82 u3, (a_p1, .inr (5, [.ref a_p1_digits, .int p1_ro.2])), cm_kI cI a_p1_digits 9 p1_ro.1] H := hP
  have hD : va_D A [(a, .inr (9, [.ref a_sets])), cm_kI cI a_sets 82 u3, (a_p1, .inr (5, [.ref a_p1_digits, .int p1_ro.2])), cm_kI cI a_p1_digits 9 p1_ro.1] := hD
  refine W.eq (g2 := F0 m 6 ls []) rfl ?_
  refine lv_aload_n (pc := 6) hx hb dX9_carryingSets_6 rfl (lv_at hl 0 rfl) ?_
  refine lv_iload_n (pc := 7) hx hb dX9_carryingSets_7 rfl (lv_at hl 2 rfl) ?_
  refine lv_bipush (pc := 8) (v := 81) hx hb dX9_carryingSets_8 (by decide) ?_
  obtain ⟨u10, hu10, hf⟩ := cm_bd hf
  refine cm_callV (pc := 10) (As := [.int v2, .int 81]) (rest := []) (wr := [(a_p1, .inr (5, [.ref a_p1_digits, .int p1_ro.2])), cm_kI cI a_p1_digits 9 p1_ro.1]) (ci := 9) (q0 := 0) (n := 2) hx hb hml hown hts hK hP hD hS hA (c_X9_setsWithin l D cI cJ cZ a a_sets u3 v2 81 u10 hu10) tw_530 tw_527 tw_529 tw_17 tw_53 rfl rfl (by decide +kernel) rfl ⟨Nat.le_of_ble_eq_true rfl, Nat.le_of_ble_eq_true rfl⟩ [0, 1] [2, 3] rfl (by decide) rfl (by decide) (by decide) rfl rfl rfl hl.1 rfl (Nat.le_of_ble_eq_true rfl) dX9_carryingSets_10 ⟨Nat.zero_le _, Nat.zero_le _⟩ (fun H locs hP hD hS => ?_)
  have hP : va_P D vwCl [(a_p1, .inr (5, [.ref a_p1_digits, .int p1_ro.2])), cm_kI cI a_p1_digits 9 p1_ro.1, (a, .inr (9, [.ref a_sets])), cm_kI cI a_sets 82 u3] H := hP
  have hD : va_D A [(a_p1, .inr (5, [.ref a_p1_digits, .int p1_ro.2])), cm_kI cI a_p1_digits 9 p1_ro.1, (a, .inr (9, [.ref a_sets])), cm_kI cI a_sets 82 u3] := hD
  refine W.eq (g2 := F0 m 13 ls [.int u10]) rfl ?_
  obtain rfl := Option.some.inj hf
  exact cm_iret (pc := 13) hAe hQ hx hb hr hlocks hP hD hS [2, 3, 0, 1] (by decide) rfl dX9_carryingSets_13
def fX10_needed (v1 : Int32) (v2 : Int32) (v3 : Int32) (v4 : Int32) (v5 : Int32) (digits_ro : SRO) (voters_vo : (Nat → Int32)) : Option (Int32 × SRO × (Nat → Int32)) := Option.bind (fX5_read v1 v2 digits_ro) (fun u6 => (if u6.1 = 0 then some ((-2), u6.2, voters_vo) else cm_let (fX10_isWithin v3 1 81) (fun u16 => (if u16 = 0 then some ((-2), u6.2, voters_vo) else cm_let (fX10_isWithin v4 0 (v2 - 1)) (fun u31 => (if u31 = 0 then some ((-2), u6.2, voters_vo) else cm_let (fX10_isWithin v5 0 1) (fun u41 => (if u41 = 0 then some ((-2), u6.2, voters_vo) else (if v5 = 0 then Option.bind (fX9_neededSets v3 v4 voters_vo u6.2) (fun u66 => some (u66.1, u6.2, u66.2)) else Option.bind (fX9_carryingSets v3 voters_vo u6.2) (fun u81 => some (u81.1, u6.2, u81.2)))))))))))
def rmX10_needed : Room := { frames := 4, cells := 0, slots := 0, locals := 90 }
set_option maxRecDepth 100000 in
set_option maxHeartbeats 4000000 in
theorem c_X10_needed (l : Launch) (D : va_G) (cI cJ cZ : ClassId) (a a_now a_pad a_trial a_sights a_im0 a_im1 a_digits a_voters a_trades a_bells a_digits_digits a_voters_sets : Nat) (digits_ro : SRO) (voters_vo : (Nat → Int32)) (v1 : Int32) (v2 : Int32) (v3 : Int32) (v4 : Int32) (v5 : Int32) (res : Int32 × SRO × (Nat → Int32)) (hf : fX10_needed v1 v2 v3 v4 v5 digits_ro voters_vo = some res) : Ct l yX10_needed (cm_ws yX10_needed cX10_needed 6 (some .int)) rmX10_needed D (cm_T cI cJ cZ) [.ref a, .int v1, .int v2, .int v3, .int v4, .int v5] [(a, .inr (10, [.ref a_now, .ref a_pad, .ref a_trial, .ref a_sights, .ref a_im0, .ref a_im1, .ref a_digits, .ref a_voters, .ref a_trades, .ref a_bells])), (a_digits, .inr (5, [.ref a_digits_digits, .int digits_ro.2])), cm_kI cI a_digits_digits 9 digits_ro.1, (a_voters, .inr (9, [.ref a_voters_sets])), cm_kI cI a_voters_sets 82 voters_vo] (some (.int res.1)) [(a, .inr (10, [.ref a_now, .ref a_pad, .ref a_trial, .ref a_sights, .ref a_im0, .ref a_im1, .ref a_digits, .ref a_voters, .ref a_trades, .ref a_bells])), (a_digits, .inr (5, [.ref a_digits_digits, .int res.2.1.2])), cm_kI cI a_digits_digits 9 res.2.1.1, (a_voters, .inr (9, [.ref a_voters_sets])), cm_kI cI a_voters_sets 82 res.2.2] := by
  refine Ct.of (cc := cX10_needed) (maxL := 6) (ret := (some .int)) (by decide) (Nat.le_of_ble_eq_true rfl) ?_
  intro p e s m below meth c ls args A Q hav hAe hQ hx hb hr hml hown hlocks hts hK hP hD hA hS hl
  have hKa := hK.1
  have hl : lv_has ls 6 [(0, .ref a), (1, .int v1), (2, .int v2), (3, .int v3), (4, .int v4), (5, .int v5)] := hl
  unfold fX10_needed at hf
  refine lv_aload_n (pc := 0) hx hb dX10_needed_0 rfl (lv_at hl 0 rfl) ?_
  refine va_get (pc := 1) (D := D) (ci := 10) (v := .ref a_digits) (C := RX10) (T := TX10) (N := 10) hx hb hts in_X10 hown hKa hP 0 rfl rfl 6 (by decide) (hts _ tw_275) (fun _ h9 => h9) rfl dX10_needed_1 ?_
  refine lv_iload_n (pc := 4) hx hb dX10_needed_4 rfl (lv_at hl 1 rfl) ?_
  refine lv_iload_n (pc := 5) hx hb dX10_needed_5 rfl (lv_at hl 2 rfl) ?_
  obtain ⟨u6, hu6, hf⟩ := cm_bd hf
  refine cm_callV (pc := 6) (As := [.int v1, .int v2]) (rest := []) (wr := [(a, .inr (10, [.ref a_now, .ref a_pad, .ref a_trial, .ref a_sights, .ref a_im0, .ref a_im1, .ref a_digits, .ref a_voters, .ref a_trades, .ref a_bells])), (a_voters, .inr (9, [.ref a_voters_sets])), cm_kI cI a_voters_sets 82 voters_vo]) (ci := 5) (q0 := 1) (n := 2) hx hb hml hown hts hK hP hD hS hA (c_X5_read l D cI cJ cZ a_digits a_digits_digits digits_ro v1 v2 u6 hu6) tw_508 tw_505 tw_506 tw_507 tw_52 rfl rfl (by decide +kernel) rfl ⟨Nat.le_of_ble_eq_true rfl, Nat.le_of_ble_eq_true rfl⟩ [1, 2] [0, 3, 4] rfl (by decide) rfl (by decide) (by decide) rfl rfl rfl hl.1 rfl (Nat.le_of_ble_eq_true rfl) dX10_needed_6 ⟨Nat.zero_le _, Nat.zero_le _⟩ (fun H locs hP hD hS => ?_)
  have hP : va_P D vwCl [(a, .inr (10, [.ref a_now, .ref a_pad, .ref a_trial, .ref a_sights, .ref a_im0, .ref a_im1, .ref a_digits, .ref a_voters, .ref a_trades, .ref a_bells])), (a_voters, .inr (9, [.ref a_voters_sets])), cm_kI cI a_voters_sets 82 voters_vo, (a_digits, .inr (5, [.ref a_digits_digits, .int u6.2.2])), cm_kI cI a_digits_digits 9 u6.2.1] H := hP
  have hD : va_D A [(a, .inr (10, [.ref a_now, .ref a_pad, .ref a_trial, .ref a_sights, .ref a_im0, .ref a_im1, .ref a_digits, .ref a_voters, .ref a_trades, .ref a_bells])), (a_voters, .inr (9, [.ref a_voters_sets])), cm_kI cI a_voters_sets 82 voters_vo, (a_digits, .inr (5, [.ref a_digits_digits, .int u6.2.2])), cm_kI cI a_digits_digits 9 u6.2.1] := hD
  refine W.eq (g2 := F0 m 9 ls [.int u6.1]) rfl ?_
  refine lv_if_eq (pc := 9) (tgt := 22) hx hb dX10_needed_9 (by decide) (fun c_9 => ?_) (fun c_9 => ?_)
  · have hf := cm_ip c_9 hf
    refine lv_bipush (pc := 22) (v := (-2)) hx hb dX10_needed_22 (by decide) ?_
    obtain rfl := Option.some.inj hf
    exact cm_iret (pc := 24) hAe hQ hx hb hr hlocks hP hD hS [0, 3, 4, 1, 2] (by decide) rfl dX10_needed_24
  · have hf := cm_in c_9 hf
    refine lv_iload_n (pc := 12) hx hb dX10_needed_12 rfl (lv_at hl 3 rfl) ?_
    refine lv_iconst (pc := 13) (v := 1) hx hb dX10_needed_13 (by decide) ?_
    refine lv_bipush (pc := 14) (v := 81) hx hb dX10_needed_14 (by decide) ?_
    obtain ⟨u16, hu16, hf⟩ := cm_lt hf
    refine cm_callS (pc := 16) (As := [.int v3, .int 1, .int 81]) (rest := []) (wr := [(a, .inr (10, [.ref a_now, .ref a_pad, .ref a_trial, .ref a_sights, .ref a_im0, .ref a_im1, .ref a_digits, .ref a_voters, .ref a_trades, .ref a_bells])), (a_voters, .inr (9, [.ref a_voters_sets])), cm_kI cI a_voters_sets 82 voters_vo, (a_digits, .inr (5, [.ref a_digits_digits, .int u6.2.2])), cm_kI cI a_digits_digits 9 u6.2.1]) (n := 3) hx hb hml hown hts hK hP hD hS hA (c_X10_isWithin l D cI cJ cZ v3 1 81 u16 hu16) tw_312 tw_310 tw_311 tw_45 rfl rfl (by decide +kernel) rfl ⟨Nat.le_of_ble_eq_true rfl, Nat.le_of_ble_eq_true rfl⟩ [] [0, 1, 2, 3, 4] rfl (by decide) rfl (by decide) (by decide) hl.1 rfl (Nat.le_of_ble_eq_true rfl) dX10_needed_16 ⟨Nat.zero_le _, Nat.zero_le _⟩ (fun H locs hP hD hS => ?_)
    have hP : va_P D vwCl [(a, .inr (10, [.ref a_now, .ref a_pad, .ref a_trial, .ref a_sights, .ref a_im0, .ref a_im1, .ref a_digits, .ref a_voters, .ref a_trades, .ref a_bells])), (a_voters, .inr (9, [.ref a_voters_sets])), cm_kI cI a_voters_sets 82 voters_vo, (a_digits, .inr (5, [.ref a_digits_digits, .int u6.2.2])), cm_kI cI a_digits_digits 9 u6.2.1] H := hP
    have hD : va_D A [(a, .inr (10, [.ref a_now, .ref a_pad, .ref a_trial, .ref a_sights, .ref a_im0, .ref a_im1, .ref a_digits, .ref a_voters, .ref a_trades, .ref a_bells])), (a_voters, .inr (9, [.ref a_voters_sets])), cm_kI cI a_voters_sets 82 voters_vo, (a_digits, .inr (5, [.ref a_digits_digits, .int u6.2.2])), cm_kI cI a_digits_digits 9 u6.2.1] := hD
    refine W.eq (g2 := F0 m 19 ls [.int u16]) rfl ?_
    refine lv_if_ne (pc := 19) (tgt := 25) hx hb dX10_needed_19 (by decide) (fun c_19 => ?_) (fun c_19 => ?_)
    · have hf := cm_in c_19 hf
      refine lv_iload (pc := 25) hx hb dX10_needed_25 (lv_at hl 4 rfl) ?_
      refine lv_iconst (pc := 27) (v := 0) hx hb dX10_needed_27 (by decide) ?_
      refine lv_iload_n (pc := 28) hx hb dX10_needed_28 rfl (lv_at hl 2 rfl) ?_
      refine lv_iconst (pc := 29) (v := 1) hx hb dX10_needed_29 (by decide) ?_
      refine lv_isub (pc := 30) hx hb dX10_needed_30 ?_
      obtain ⟨u31, hu31, hf⟩ := cm_lt hf
      refine cm_callS (pc := 31) (As := [.int v4, .int 0, .int (v2 - 1)]) (rest := []) (wr := [(a, .inr (10, [.ref a_now, .ref a_pad, .ref a_trial, .ref a_sights, .ref a_im0, .ref a_im1, .ref a_digits, .ref a_voters, .ref a_trades, .ref a_bells])), (a_voters, .inr (9, [.ref a_voters_sets])), cm_kI cI a_voters_sets 82 voters_vo, (a_digits, .inr (5, [.ref a_digits_digits, .int u6.2.2])), cm_kI cI a_digits_digits 9 u6.2.1]) (n := 3) hx hb hml hown hts hK hP hD hS hA (c_X10_isWithin l D cI cJ cZ v4 0 (v2 - 1) u31 hu31) tw_312 tw_310 tw_311 tw_45 rfl rfl (by decide +kernel) rfl ⟨Nat.le_of_ble_eq_true rfl, Nat.le_of_ble_eq_true rfl⟩ [] [0, 1, 2, 3, 4] rfl (by decide) rfl (by decide) (by decide) hl.1 rfl (Nat.le_of_ble_eq_true rfl) dX10_needed_31 ⟨Nat.zero_le _, Nat.zero_le _⟩ (fun H locs hP hD hS => ?_)
      have hP : va_P D vwCl [(a, .inr (10, [.ref a_now, .ref a_pad, .ref a_trial, .ref a_sights, .ref a_im0, .ref a_im1, .ref a_digits, .ref a_voters, .ref a_trades, .ref a_bells])), (a_voters, .inr (9, [.ref a_voters_sets])), cm_kI cI a_voters_sets 82 voters_vo, (a_digits, .inr (5, [.ref a_digits_digits, .int u6.2.2])), cm_kI cI a_digits_digits 9 u6.2.1] H := hP
      have hD : va_D A [(a, .inr (10, [.ref a_now, .ref a_pad, .ref a_trial, .ref a_sights, .ref a_im0, .ref a_im1, .ref a_digits, .ref a_voters, .ref a_trades, .ref a_bells])), (a_voters, .inr (9, [.ref a_voters_sets])), cm_kI cI a_voters_sets 82 voters_vo, (a_digits, .inr (5, [.ref a_digits_digits, .int u6.2.2])), cm_kI cI a_digits_digits 9 u6.2.1] := hD
      refine W.eq (g2 := F0 m 34 ls [.int u31]) rfl ?_
      refine lv_if_eq (pc := 34) (tgt := 47) hx hb dX10_needed_34 (by decide) (fun c_34 => ?_) (fun c_34 => ?_)
      · have hf := cm_ip c_34 hf
        refine lv_bipush (pc := 47) (v := (-2)) hx hb dX10_needed_47 (by decide) ?_
        obtain rfl := Option.some.inj hf
        exact cm_iret (pc := 49) hAe hQ hx hb hr hlocks hP hD hS [0, 3, 4, 1, 2] (by decide) rfl dX10_needed_49
      · have hf := cm_in c_34 hf
        refine lv_iload (pc := 37) hx hb dX10_needed_37 (lv_at hl 5 rfl) ?_
        refine lv_iconst (pc := 39) (v := 0) hx hb dX10_needed_39 (by decide) ?_
        refine lv_iconst (pc := 40) (v := 1) hx hb dX10_needed_40 (by decide) ?_
        obtain ⟨u41, hu41, hf⟩ := cm_lt hf
        refine cm_callS (pc := 41) (As := [.int v5, .int 0, .int 1]) (rest := []) (wr := [(a, .inr (10, [.ref a_now, .ref a_pad, .ref a_trial, .ref a_sights, .ref a_im0, .ref a_im1, .ref a_digits, .ref a_voters, .ref a_trades, .ref a_bells])), (a_voters, .inr (9, [.ref a_voters_sets])), cm_kI cI a_voters_sets 82 voters_vo, (a_digits, .inr (5, [.ref a_digits_digits, .int u6.2.2])), cm_kI cI a_digits_digits 9 u6.2.1]) (n := 3) hx hb hml hown hts hK hP hD hS hA (c_X10_isWithin l D cI cJ cZ v5 0 1 u41 hu41) tw_312 tw_310 tw_311 tw_45 rfl rfl (by decide +kernel) rfl ⟨Nat.le_of_ble_eq_true rfl, Nat.le_of_ble_eq_true rfl⟩ [] [0, 1, 2, 3, 4] rfl (by decide) rfl (by decide) (by decide) hl.1 rfl (Nat.le_of_ble_eq_true rfl) dX10_needed_41 ⟨Nat.zero_le _, Nat.zero_le _⟩ (fun H locs hP hD hS => ?_)
        have hP : va_P D vwCl [(a, .inr (10, [.ref a_now, .ref a_pad, .ref a_trial, .ref a_sights, .ref a_im0, .ref a_im1, .ref a_digits, .ref a_voters, .ref a_trades, .ref a_bells])), (a_voters, .inr (9, [.ref a_voters_sets])), cm_kI cI a_voters_sets 82 voters_vo, (a_digits, .inr (5, [.ref a_digits_digits, .int u6.2.2])), cm_kI cI a_digits_digits 9 u6.2.1] H := hP
        have hD : va_D A [(a, .inr (10, [.ref a_now, .ref a_pad, .ref a_trial, .ref a_sights, .ref a_im0, .ref a_im1, .ref a_digits, .ref a_voters, .ref a_trades, .ref a_bells])), (a_voters, .inr (9, [.ref a_voters_sets])), cm_kI cI a_voters_sets 82 voters_vo, (a_digits, .inr (5, [.ref a_digits_digits, .int u6.2.2])), cm_kI cI a_digits_digits 9 u6.2.1] := hD
        refine W.eq (g2 := F0 m 44 ls [.int u41]) rfl ?_
        refine lv_if_ne (pc := 44) (tgt := 50) hx hb dX10_needed_44 (by decide) (fun c_44 => ?_) (fun c_44 => ?_)
        · have hf := cm_in c_44 hf
          refine lv_iload (pc := 50) hx hb dX10_needed_50 (lv_at hl 5 rfl) ?_
          refine lv_if_ne (pc := 52) (tgt := 72) hx hb dX10_needed_52 (by decide) (fun c_52 => ?_) (fun c_52 => ?_)
          · have hf := cm_in c_52 hf
            refine lv_aload_n (pc := 72) hx hb dX10_needed_72 rfl (lv_at hl 0 rfl) ?_
            refine va_get (pc := 73) (D := D) (ci := 10) (v := .ref a_voters) (C := RX10) (T := TX10) (N := 10) hx hb hts in_X10 hown hKa hP 0 rfl rfl 7 (by decide) (hts _ tw_276) (fun _ h9 => h9) rfl dX10_needed_73 ?_
            refine lv_aload_n (pc := 76) hx hb dX10_needed_76 rfl (lv_at hl 0 rfl) ?_
            refine va_get (pc := 77) (D := D) (ci := 10) (v := .ref a_digits) (C := RX10) (T := TX10) (N := 10) hx hb hts in_X10 hown hKa hP 0 rfl rfl 6 (by decide) (hts _ tw_275) (fun _ h9 => h9) rfl dX10_needed_77 ?_
            refine lv_iload_n (pc := 80) hx hb dX10_needed_80 rfl (lv_at hl 3 rfl) ?_
            obtain ⟨u81, hu81, hf⟩ := cm_bd hf
            refine cm_callV (pc := 81) (As := [.ref a_digits, .int v3]) (rest := []) (wr := [(a, .inr (10, [.ref a_now, .ref a_pad, .ref a_trial, .ref a_sights, .ref a_im0, .ref a_im1, .ref a_digits, .ref a_voters, .ref a_trades, .ref a_bells]))]) (ci := 9) (q0 := 1) (n := 2) hx hb hml hown hts hK hP hD hS hA (c_X9_carryingSets l D cI cJ cZ a_voters a_voters_sets a_digits a_digits_digits voters_vo u6.2 v3 u81 hu81) tw_534 tw_531 tw_532 tw_533 tw_53 rfl rfl (by decide +kernel) rfl ⟨Nat.le_of_ble_eq_true rfl, Nat.le_of_ble_eq_true rfl⟩ [1, 2, 3, 4] [0] rfl (by decide) rfl (by decide) (by decide) rfl rfl rfl hl.1 rfl (Nat.le_of_ble_eq_true rfl) dX10_needed_81 ⟨Nat.zero_le _, Nat.zero_le _⟩ (fun H locs hP hD hS => ?_)
            have hP : va_P D vwCl [(a, .inr (10, [.ref a_now, .ref a_pad, .ref a_trial, .ref a_sights, .ref a_im0, .ref a_im1, .ref a_digits, .ref a_voters, .ref a_trades, .ref a_bells])), (a_voters, .inr (9, [.ref a_voters_sets])), cm_kI cI a_voters_sets 82 u81.2, (a_digits, .inr (5, [.ref a_digits_digits, .int u6.2.2])), cm_kI cI a_digits_digits 9 u6.2.1] H := hP
            have hD : va_D A [(a, .inr (10, [.ref a_now, .ref a_pad, .ref a_trial, .ref a_sights, .ref a_im0, .ref a_im1, .ref a_digits, .ref a_voters, .ref a_trades, .ref a_bells])), (a_voters, .inr (9, [.ref a_voters_sets])), cm_kI cI a_voters_sets 82 u81.2, (a_digits, .inr (5, [.ref a_digits_digits, .int u6.2.2])), cm_kI cI a_digits_digits 9 u6.2.1] := hD
            refine W.eq (g2 := F0 m 84 ls [.int u81.1]) rfl ?_
            obtain rfl := Option.some.inj hf
            exact cm_iret (pc := 84) hAe hQ hx hb hr hlocks hP hD hS [0, 3, 4, 1, 2] (by decide) rfl dX10_needed_84
          · have hf := cm_ip c_52 hf
            refine lv_aload_n (pc := 55) hx hb dX10_needed_55 rfl (lv_at hl 0 rfl) ?_
            refine va_get (pc := 56) (D := D) (ci := 10) (v := .ref a_voters) (C := RX10) (T := TX10) (N := 10) hx hb hts in_X10 hown hKa hP 0 rfl rfl 7 (by decide) (hts _ tw_276) (fun _ h9 => h9) rfl dX10_needed_56 ?_
            refine lv_aload_n (pc := 59) hx hb dX10_needed_59 rfl (lv_at hl 0 rfl) ?_
            refine va_get (pc := 60) (D := D) (ci := 10) (v := .ref a_digits) (C := RX10) (T := TX10) (N := 10) hx hb hts in_X10 hown hKa hP 0 rfl rfl 6 (by decide) (hts _ tw_275) (fun _ h9 => h9) rfl dX10_needed_60 ?_
            refine lv_iload_n (pc := 63) hx hb dX10_needed_63 rfl (lv_at hl 3 rfl) ?_
            refine lv_iload (pc := 64) hx hb dX10_needed_64 (lv_at hl 4 rfl) ?_
            obtain ⟨u66, hu66, hf⟩ := cm_bd hf
            refine cm_callV (pc := 66) (As := [.ref a_digits, .int v3, .int v4]) (rest := []) (wr := [(a, .inr (10, [.ref a_now, .ref a_pad, .ref a_trial, .ref a_sights, .ref a_im0, .ref a_im1, .ref a_digits, .ref a_voters, .ref a_trades, .ref a_bells]))]) (ci := 9) (q0 := 1) (n := 3) hx hb hml hown hts hK hP hD hS hA (c_X9_neededSets l D cI cJ cZ a_voters a_voters_sets a_digits a_digits_digits voters_vo u6.2 v3 v4 u66 hu66) tw_513 tw_510 tw_511 tw_512 tw_53 rfl rfl (by decide +kernel) rfl ⟨Nat.le_of_ble_eq_true rfl, Nat.le_of_ble_eq_true rfl⟩ [1, 2, 3, 4] [0] rfl (by decide) rfl (by decide) (by decide) rfl rfl rfl hl.1 rfl (Nat.le_of_ble_eq_true rfl) dX10_needed_66 ⟨Nat.zero_le _, Nat.zero_le _⟩ (fun H locs hP hD hS => ?_)
            have hP : va_P D vwCl [(a, .inr (10, [.ref a_now, .ref a_pad, .ref a_trial, .ref a_sights, .ref a_im0, .ref a_im1, .ref a_digits, .ref a_voters, .ref a_trades, .ref a_bells])), (a_voters, .inr (9, [.ref a_voters_sets])), cm_kI cI a_voters_sets 82 u66.2, (a_digits, .inr (5, [.ref a_digits_digits, .int u6.2.2])), cm_kI cI a_digits_digits 9 u6.2.1] H := hP
            have hD : va_D A [(a, .inr (10, [.ref a_now, .ref a_pad, .ref a_trial, .ref a_sights, .ref a_im0, .ref a_im1, .ref a_digits, .ref a_voters, .ref a_trades, .ref a_bells])), (a_voters, .inr (9, [.ref a_voters_sets])), cm_kI cI a_voters_sets 82 u66.2, (a_digits, .inr (5, [.ref a_digits_digits, .int u6.2.2])), cm_kI cI a_digits_digits 9 u6.2.1] := hD
            refine W.eq (g2 := F0 m 69 ls [.int u66.1]) rfl ?_
            refine lv_goto (pc := 69) (tgt := 84) hx hb dX10_needed_69 (by decide) ?_
            obtain rfl := Option.some.inj hf
            exact cm_iret (pc := 84) hAe hQ hx hb hr hlocks hP hD hS [0, 3, 4, 1, 2] (by decide) rfl dX10_needed_84
        · have hf := cm_ip c_44 hf
          refine lv_bipush (pc := 47) (v := (-2)) hx hb dX10_needed_47 (by decide) ?_
          obtain rfl := Option.some.inj hf
          exact cm_iret (pc := 49) hAe hQ hx hb hr hlocks hP hD hS [0, 3, 4, 1, 2] (by decide) rfl dX10_needed_49
    · have hf := cm_ip c_19 hf
      refine lv_bipush (pc := 22) (v := (-2)) hx hb dX10_needed_22 (by decide) ?_
      obtain rfl := Option.some.inj hf
      exact cm_iret (pc := 24) hAe hQ hx hb hr hlocks hP hD hS [0, 3, 4, 1, 2] (by decide) rfl dX10_needed_24
def fX7_goToMarket_L2 (v1 : Int32) (v2 : Int32) (kx : Int32 → STD → Option (STD)) : Nat → Int32 → STD → Option (STD)
  | 0, _, _ => none
  | n + 1, v3_2, td_2 => (if v2 < v3_2 then kx v3_2 td_2 else (if 9 < v3_2 then kx v3_2 td_2 else if v3_2 < 0 ∨ 10 ≤ v3_2.toNatClampNeg then none else if v3_2 < 0 ∨ 10 ≤ v3_2.toNatClampNeg then none else if v3_2 < 0 ∨ 10 ≤ v3_2.toNatClampNeg then none else if v3_2 < 0 ∨ 10 ≤ v3_2.toNatClampNeg then none else if (v3_2 - 1) < 0 ∨ 10 ≤ (v3_2 - 1).toNatClampNeg then none else if v3_2 < 0 ∨ 10 ≤ v3_2.toNatClampNeg then none else fX7_goToMarket_L2 v1 v2 kx n (v3_2 + 1) ((upd td_2.1 v3_2.toNatClampNeg (if (td_2.1 v3_2.toNatClampNeg) < ((td_2.2 v3_2.toNatClampNeg) + v1) then ((td_2.2 v3_2.toNatClampNeg) + v1) else (td_2.1 v3_2.toNatClampNeg))), (upd td_2.2 v3_2.toNatClampNeg (if (td_2.2 v3_2.toNatClampNeg) < (((upd td_2.1 v3_2.toNatClampNeg (if (td_2.1 v3_2.toNatClampNeg) < ((td_2.2 v3_2.toNatClampNeg) + v1) then ((td_2.2 v3_2.toNatClampNeg) + v1) else (td_2.1 v3_2.toNatClampNeg))) (v3_2 - 1).toNatClampNeg) - v1) then (((upd td_2.1 v3_2.toNatClampNeg (if (td_2.1 v3_2.toNatClampNeg) < ((td_2.2 v3_2.toNatClampNeg) + v1) then ((td_2.2 v3_2.toNatClampNeg) + v1) else (td_2.1 v3_2.toNatClampNeg))) (v3_2 - 1).toNatClampNeg) - v1) else (td_2.2 v3_2.toNatClampNeg))))))
def fX7_goToMarket (v1 : Int32) (v2 : Int32) (td : STD) : Option (STD) := fX7_goToMarket_L2 v1 v2 (fun v3_2 td_2 => some td_2) 5000 1 td
def rmX7_goToMarket : Room := { frames := 1, cells := 0, slots := 0, locals := 21 }
set_option maxRecDepth 100000 in
set_option maxHeartbeats 4000000 in
theorem c_X7_goToMarket (l : Launch) (D : va_G) (cI cJ cZ : ClassId) (a a_empty a_holding : Nat) (td : STD) (v1 : Int32) (v2 : Int32) (res : STD) (hf : fX7_goToMarket v1 v2 td = some res) : Ct l yX7_goToMarket (cm_ws yX7_goToMarket cX7_goToMarket 4 none) rmX7_goToMarket D (cm_T cI cJ cZ) [.ref a, .int v1, .int v2] [(a, .inr (7, [.ref a_empty, .ref a_holding])), cm_kI cI a_empty 10 td.1, cm_kI cI a_holding 10 td.2] none [(a, .inr (7, [.ref a_empty, .ref a_holding])), cm_kI cI a_empty 10 res.1, cm_kI cI a_holding 10 res.2] := by
  refine Ct.of (cc := cX7_goToMarket) (maxL := 4) (ret := none) (by decide) (Nat.le_of_ble_eq_true rfl) ?_
  intro p e s m below meth c ls args A Q hav hAe hQ hx hb hr hml hown hlocks hts hK hP hD hA hS hl
  have hKa := hK.1
  have hl : lv_has ls 4 [(0, .ref a), (1, .int v1), (2, .int v2)] := hl
  unfold fX7_goToMarket at hf
  refine lv_iconst (pc := 0) (v := 1) hx hb dX7_goToMarket_0 (by decide) ?_
  refine lv_istore_n (pc := 1) (lv' := [(3, .int 1), (0, .ref a), (1, .int v1), (2, .int v2)]) hx hb dX7_goToMarket_1 rfl hl (by decide) rfl (fun ls hl => ?_)
  have L2 : ∀ (kx : Int32 → STD → Option (STD)), (∀ (v3_2 : Int32) (td_2 : STD) (H : Heap) (locs : List Loc) (ls : Array Slot), va_P D vwCl [(a, .inr (7, [.ref a_empty, .ref a_holding])), cm_kI cI a_empty 10 td_2.1, cm_kI cI a_holding 10 td_2.2] H → va_D A [(a, .inr (7, [.ref a_empty, .ref a_holding])), cm_kI cI a_empty 10 td_2.1, cm_kI cI a_holding 10 td_2.2] → va_S A s.heap H locs → lv_has ls 4 [] → kx v3_2 td_2 = some res → W p l e rmX7_goToMarket s m args below meth c H locs 0 0 Q (F0 m 67 ls [])) → ∀ (n : Nat) (v3_2 : Int32) (td_2 : STD) (H : Heap) (locs : List Loc) (ls : Array Slot), va_P D vwCl [(a, .inr (7, [.ref a_empty, .ref a_holding])), cm_kI cI a_empty 10 td_2.1, cm_kI cI a_holding 10 td_2.2] H → va_D A [(a, .inr (7, [.ref a_empty, .ref a_holding])), cm_kI cI a_empty 10 td_2.1, cm_kI cI a_holding 10 td_2.2] → va_S A s.heap H locs → lv_has ls 4 [(3, .int v3_2), (0, .ref a), (1, .int v1), (2, .int v2)] → fX7_goToMarket_L2 v1 v2 kx n v3_2 td_2 = some res → W p l e rmX7_goToMarket s m args below meth c H locs 0 0 Q (F0 m 2 ls []) := by
    intro kx hkx n
    induction n with
    | zero => intro v3_2 td_2 H locs ls hP hD hS hl hf; cases hf
    | succ n ih =>
      intro v3_2 td_2 H locs ls hP hD hS hl hf
      rw [fX7_goToMarket_L2] at hf
      refine lv_iload_n (pc := 2) hx hb dX7_goToMarket_2 rfl (lv_at hl 0 rfl) ?_
      refine lv_iload_n (pc := 3) hx hb dX7_goToMarket_3 rfl (lv_at hl 3 rfl) ?_
      refine lv_icmp_gt (pc := 4) (tgt := 67) hx hb dX7_goToMarket_4 (by decide) (fun c_4 => ?_) (fun c_4 => ?_)
      · have hf := cm_ip c_4 hf
        exact hkx v3_2 td_2 _ _ _ hP hD hS (lv_sub hl [] rfl) hf
      · have hf := cm_in c_4 hf
        refine lv_iload_n (pc := 7) hx hb dX7_goToMarket_7 rfl (lv_at hl 0 rfl) ?_
        refine lv_bipush (pc := 8) (v := 9) hx hb dX7_goToMarket_8 (by decide) ?_
        refine lv_icmp_gt (pc := 10) (tgt := 67) hx hb dX7_goToMarket_10 (by decide) (fun c_10 => ?_) (fun c_10 => ?_)
        · have hf := cm_ip c_10 hf
          exact hkx v3_2 td_2 _ _ _ hP hD hS (lv_sub hl [] rfl) hf
        · have hf := cm_in c_10 hf
          refine lv_aload_n (pc := 13) hx hb dX7_goToMarket_13 rfl (lv_at hl 1 rfl) ?_
          refine va_get (pc := 14) (D := D) (ci := 7) (v := .ref a_empty) (C := RX7) (T := TX7) (N := 2) hx hb hts in_X7 hown hKa hP 0 rfl rfl 0 (by decide) (hts _ tw_251) (fun _ h9 => h9) rfl dX7_goToMarket_14 ?_
          refine lv_iload_n (pc := 17) hx hb dX7_goToMarket_17 rfl (lv_at hl 0 rfl) ?_
          refine lv_aload_n (pc := 18) hx hb dX7_goToMarket_18 rfl (lv_at hl 1 rfl) ?_
          refine va_get (pc := 19) (D := D) (ci := 7) (v := .ref a_empty) (C := RX7) (T := TX7) (N := 2) hx hb hts in_X7 hown hKa hP 0 rfl rfl 0 (by decide) (hts _ tw_251) (fun _ h9 => h9) rfl dX7_goToMarket_19 ?_
          refine lv_iload_n (pc := 22) hx hb dX7_goToMarket_22 rfl (lv_at hl 0 rfl) ?_
          obtain ⟨b_23, hf⟩ := cm_ob hf
          refine va_iald (pc := 23) hx hb hKa hP 1 0 rfl rfl b_23 dX7_goToMarket_23 ?_
          refine lv_aload_n (pc := 24) hx hb dX7_goToMarket_24 rfl (lv_at hl 1 rfl) ?_
          refine va_get (pc := 25) (D := D) (ci := 7) (v := .ref a_holding) (C := RX7) (T := TX7) (N := 2) hx hb hts in_X7 hown hKa hP 0 rfl rfl 1 (by decide) (hts _ tw_252) (fun _ h9 => h9) rfl dX7_goToMarket_25 ?_
          refine lv_iload_n (pc := 28) hx hb dX7_goToMarket_28 rfl (lv_at hl 0 rfl) ?_
          obtain ⟨b_29, hf⟩ := cm_ob hf
          refine va_iald (pc := 29) hx hb hKa hP 2 0 rfl rfl b_29 dX7_goToMarket_29 ?_
          refine lv_iload_n (pc := 30) hx hb dX7_goToMarket_30 rfl (lv_at hl 2 rfl) ?_
          refine lv_iadd (pc := 31) hx hb dX7_goToMarket_31 ?_
          refine va_mmax (pc := 32) hx hb (hml.trans hl.1.symm) hown (hts _ tw_548) (hts _ tw_417) (hts _ tw_57) (hts _ tw_418) (Nat.le_of_ble_eq_true rfl) (Nat.le_of_ble_eq_true rfl) (Nat.zero_le _) (Nat.zero_le _) dX7_goToMarket_32 ?_
          obtain ⟨b_35, hf⟩ := cm_ob hf
          refine va_iast (pc := 35) hx hb hKa hP hD hS 1 0 rfl rfl b_35 dX7_goToMarket_35 (fun H locs hP hD hS => ?_)
          have hP : va_P D vwCl [(a, .inr (7, [.ref a_empty, .ref a_holding])), cm_kI cI a_empty 10 (upd td_2.1 v3_2.toNatClampNeg (if (td_2.1 v3_2.toNatClampNeg) < ((td_2.2 v3_2.toNatClampNeg) + v1) then ((td_2.2 v3_2.toNatClampNeg) + v1) else (td_2.1 v3_2.toNatClampNeg))), cm_kI cI a_holding 10 td_2.2] H := hP
          have hD : va_D A [(a, .inr (7, [.ref a_empty, .ref a_holding])), cm_kI cI a_empty 10 (upd td_2.1 v3_2.toNatClampNeg (if (td_2.1 v3_2.toNatClampNeg) < ((td_2.2 v3_2.toNatClampNeg) + v1) then ((td_2.2 v3_2.toNatClampNeg) + v1) else (td_2.1 v3_2.toNatClampNeg))), cm_kI cI a_holding 10 td_2.2] := hD
          refine lv_aload_n (pc := 36) hx hb dX7_goToMarket_36 rfl (lv_at hl 1 rfl) ?_
          refine va_get (pc := 37) (D := D) (ci := 7) (v := .ref a_holding) (C := RX7) (T := TX7) (N := 2) hx hb hts in_X7 hown hKa hP 0 rfl rfl 1 (by decide) (hts _ tw_252) (fun _ h9 => h9) rfl dX7_goToMarket_37 ?_
          refine lv_iload_n (pc := 40) hx hb dX7_goToMarket_40 rfl (lv_at hl 0 rfl) ?_
          refine lv_aload_n (pc := 41) hx hb dX7_goToMarket_41 rfl (lv_at hl 1 rfl) ?_
          refine va_get (pc := 42) (D := D) (ci := 7) (v := .ref a_holding) (C := RX7) (T := TX7) (N := 2) hx hb hts in_X7 hown hKa hP 0 rfl rfl 1 (by decide) (hts _ tw_252) (fun _ h9 => h9) rfl dX7_goToMarket_42 ?_
          refine lv_iload_n (pc := 45) hx hb dX7_goToMarket_45 rfl (lv_at hl 0 rfl) ?_
          obtain ⟨b_46, hf⟩ := cm_ob hf
          refine va_iald (pc := 46) hx hb hKa hP 2 0 rfl rfl b_46 dX7_goToMarket_46 ?_
          refine lv_aload_n (pc := 47) hx hb dX7_goToMarket_47 rfl (lv_at hl 1 rfl) ?_
          refine va_get (pc := 48) (D := D) (ci := 7) (v := .ref a_empty) (C := RX7) (T := TX7) (N := 2) hx hb hts in_X7 hown hKa hP 0 rfl rfl 0 (by decide) (hts _ tw_251) (fun _ h9 => h9) rfl dX7_goToMarket_48 ?_
          refine lv_iload_n (pc := 51) hx hb dX7_goToMarket_51 rfl (lv_at hl 0 rfl) ?_
          refine lv_iconst (pc := 52) (v := 1) hx hb dX7_goToMarket_52 (by decide) ?_
          refine lv_isub (pc := 53) hx hb dX7_goToMarket_53 ?_
          obtain ⟨b_54, hf⟩ := cm_ob hf
          refine va_iald (pc := 54) hx hb hKa hP 1 0 rfl rfl b_54 dX7_goToMarket_54 ?_
          refine lv_iload_n (pc := 55) hx hb dX7_goToMarket_55 rfl (lv_at hl 2 rfl) ?_
          refine lv_isub (pc := 56) hx hb dX7_goToMarket_56 ?_
          refine va_mmax (pc := 57) hx hb (hml.trans hl.1.symm) hown (hts _ tw_548) (hts _ tw_417) (hts _ tw_57) (hts _ tw_418) (Nat.le_of_ble_eq_true rfl) (Nat.le_of_ble_eq_true rfl) (Nat.zero_le _) (Nat.zero_le _) dX7_goToMarket_57 ?_
          obtain ⟨b_60, hf⟩ := cm_ob hf
          refine va_iast (pc := 60) hx hb hKa hP hD hS 2 0 rfl rfl b_60 dX7_goToMarket_60 (fun H locs hP hD hS => ?_)
          have hP : va_P D vwCl [(a, .inr (7, [.ref a_empty, .ref a_holding])), cm_kI cI a_empty 10 (upd td_2.1 v3_2.toNatClampNeg (if (td_2.1 v3_2.toNatClampNeg) < ((td_2.2 v3_2.toNatClampNeg) + v1) then ((td_2.2 v3_2.toNatClampNeg) + v1) else (td_2.1 v3_2.toNatClampNeg))), cm_kI cI a_holding 10 (upd td_2.2 v3_2.toNatClampNeg (if (td_2.2 v3_2.toNatClampNeg) < (((upd td_2.1 v3_2.toNatClampNeg (if (td_2.1 v3_2.toNatClampNeg) < ((td_2.2 v3_2.toNatClampNeg) + v1) then ((td_2.2 v3_2.toNatClampNeg) + v1) else (td_2.1 v3_2.toNatClampNeg))) (v3_2 - 1).toNatClampNeg) - v1) then (((upd td_2.1 v3_2.toNatClampNeg (if (td_2.1 v3_2.toNatClampNeg) < ((td_2.2 v3_2.toNatClampNeg) + v1) then ((td_2.2 v3_2.toNatClampNeg) + v1) else (td_2.1 v3_2.toNatClampNeg))) (v3_2 - 1).toNatClampNeg) - v1) else (td_2.2 v3_2.toNatClampNeg)))] H := hP
          have hD : va_D A [(a, .inr (7, [.ref a_empty, .ref a_holding])), cm_kI cI a_empty 10 (upd td_2.1 v3_2.toNatClampNeg (if (td_2.1 v3_2.toNatClampNeg) < ((td_2.2 v3_2.toNatClampNeg) + v1) then ((td_2.2 v3_2.toNatClampNeg) + v1) else (td_2.1 v3_2.toNatClampNeg))), cm_kI cI a_holding 10 (upd td_2.2 v3_2.toNatClampNeg (if (td_2.2 v3_2.toNatClampNeg) < (((upd td_2.1 v3_2.toNatClampNeg (if (td_2.1 v3_2.toNatClampNeg) < ((td_2.2 v3_2.toNatClampNeg) + v1) then ((td_2.2 v3_2.toNatClampNeg) + v1) else (td_2.1 v3_2.toNatClampNeg))) (v3_2 - 1).toNatClampNeg) - v1) then (((upd td_2.1 v3_2.toNatClampNeg (if (td_2.1 v3_2.toNatClampNeg) < ((td_2.2 v3_2.toNatClampNeg) + v1) then ((td_2.2 v3_2.toNatClampNeg) + v1) else (td_2.1 v3_2.toNatClampNeg))) (v3_2 - 1).toNatClampNeg) - v1) else (td_2.2 v3_2.toNatClampNeg)))] := hD
          refine lv_iinc (pc := 61) (v := (v3_2 + 1)) (lv' := [(3, .int (v3_2 + 1)), (0, .ref a), (1, .int v1), (2, .int v2)]) hx hb dX7_goToMarket_61 hl (k := 0) rfl rfl (by decide) rfl (fun ls hl => ?_)
          refine lv_goto (pc := 64) (tgt := 2) hx hb dX7_goToMarket_64 (by decide) ?_
          exact ih (v3_2 + 1) ((upd td_2.1 v3_2.toNatClampNeg (if (td_2.1 v3_2.toNatClampNeg) < ((td_2.2 v3_2.toNatClampNeg) + v1) then ((td_2.2 v3_2.toNatClampNeg) + v1) else (td_2.1 v3_2.toNatClampNeg))), (upd td_2.2 v3_2.toNatClampNeg (if (td_2.2 v3_2.toNatClampNeg) < (((upd td_2.1 v3_2.toNatClampNeg (if (td_2.1 v3_2.toNatClampNeg) < ((td_2.2 v3_2.toNatClampNeg) + v1) then ((td_2.2 v3_2.toNatClampNeg) + v1) else (td_2.1 v3_2.toNatClampNeg))) (v3_2 - 1).toNatClampNeg) - v1) then (((upd td_2.1 v3_2.toNatClampNeg (if (td_2.1 v3_2.toNatClampNeg) < ((td_2.2 v3_2.toNatClampNeg) + v1) then ((td_2.2 v3_2.toNatClampNeg) + v1) else (td_2.1 v3_2.toNatClampNeg))) (v3_2 - 1).toNatClampNeg) - v1) else (td_2.2 v3_2.toNatClampNeg)))) _ _ _ hP hD hS (lv_sub hl [0, 1, 2, 3] rfl) hf
  refine L2 _ (fun v3_2 td_2 H locs ls hP hD hS hl hf => ?_) 5000 1 td _ _ _ hP hD hS (lv_sub hl [0, 1, 2, 3] rfl) hf
  obtain rfl := Option.some.inj hf
  exact cm_vret (pc := 67) hAe hQ hx hb hr hlocks hP hD hS [0, 1, 2] (by decide) rfl dX7_goToMarket_67
def fX7_run_L2 (kx : Int32 → STD → Option (STD)) : Nat → Int32 → STD → Option (STD)
  | 0, _, _ => none
  | n + 1, v3_2, td_2 => (if 9 < v3_2 then kx v3_2 td_2 else if v3_2 < 0 ∨ 10 ≤ v3_2.toNatClampNeg then none else if v3_2 < 0 ∨ 10 ≤ v3_2.toNatClampNeg then none else fX7_run_L2 kx n (v3_2 + 1) ((upd td_2.1 v3_2.toNatClampNeg 0), (upd td_2.2 v3_2.toNatClampNeg (-1000))))
def fX7_run_L32 (v2 : Int32) (p1_ro : SRO) (kx : Int32 → STD → Option (STD)) : Nat → Int32 → STD → Option (STD)
  | 0, _, _ => none
  | n + 1, v3_32, td_32 => (if p1_ro.2 ≤ v3_32 then kx v3_32 td_32 else Option.bind (fX5_digit v3_32 p1_ro) (fun u43 => Option.bind (fX7_goToMarket u43 v2 td_32) (fun u47 => fX7_run_L32 v2 p1_ro kx n (v3_32 + 1) u47)))
def fX7_run (v2 : Int32) (td : STD) (p1_ro : SRO) : Option (STD) := fX7_run_L2 (fun v3_2 td_2 => fX7_run_L32 v2 p1_ro (fun v3_32 td_32 => some td_32) 5000 0 td_2) 5000 0 td
def rmX7_run : Room := { frames := 2, cells := 0, slots := 0, locals := 44 }
set_option maxRecDepth 100000 in
set_option maxHeartbeats 4000000 in
theorem c_X7_run (l : Launch) (D : va_G) (cI cJ cZ : ClassId) (a a_empty a_holding a_p1 a_p1_digits : Nat) (td : STD) (p1_ro : SRO) (v2 : Int32) (res : STD) (hf : fX7_run v2 td p1_ro = some res) : Ct l yX7_run (cm_ws yX7_run cX7_run 4 none) rmX7_run D (cm_T cI cJ cZ) [.ref a, .ref a_p1, .int v2] [(a, .inr (7, [.ref a_empty, .ref a_holding])), cm_kI cI a_empty 10 td.1, cm_kI cI a_holding 10 td.2, (a_p1, .inr (5, [.ref a_p1_digits, .int p1_ro.2])), cm_kI cI a_p1_digits 9 p1_ro.1] none [(a, .inr (7, [.ref a_empty, .ref a_holding])), cm_kI cI a_empty 10 res.1, cm_kI cI a_holding 10 res.2, (a_p1, .inr (5, [.ref a_p1_digits, .int p1_ro.2])), cm_kI cI a_p1_digits 9 p1_ro.1] := by
  refine Ct.of (cc := cX7_run) (maxL := 4) (ret := none) (by decide) (Nat.le_of_ble_eq_true rfl) ?_
  intro p e s m below meth c ls args A Q hav hAe hQ hx hb hr hml hown hlocks hts hK hP hD hA hS hl
  have hKa := hK.1
  have hl : lv_has ls 4 [(0, .ref a), (1, .ref a_p1), (2, .int v2)] := hl
  unfold fX7_run at hf
  refine lv_iconst (pc := 0) (v := 0) hx hb dX7_run_0 (by decide) ?_
  refine lv_istore_n (pc := 1) (lv' := [(3, .int 0), (0, .ref a), (1, .ref a_p1), (2, .int v2)]) hx hb dX7_run_1 rfl hl (by decide) rfl (fun ls hl => ?_)
  have L2 : ∀ (kx : Int32 → STD → Option (STD)), (∀ (v3_2 : Int32) (td_2 : STD) (H : Heap) (locs : List Loc) (ls : Array Slot), va_P D vwCl [(a, .inr (7, [.ref a_empty, .ref a_holding])), cm_kI cI a_empty 10 td_2.1, cm_kI cI a_holding 10 td_2.2, (a_p1, .inr (5, [.ref a_p1_digits, .int p1_ro.2])), cm_kI cI a_p1_digits 9 p1_ro.1] H → va_D A [(a, .inr (7, [.ref a_empty, .ref a_holding])), cm_kI cI a_empty 10 td_2.1, cm_kI cI a_holding 10 td_2.2, (a_p1, .inr (5, [.ref a_p1_digits, .int p1_ro.2])), cm_kI cI a_p1_digits 9 p1_ro.1] → va_S A s.heap H locs → lv_has ls 4 [(0, .ref a), (1, .ref a_p1), (2, .int v2)] → kx v3_2 td_2 = some res → W p l e rmX7_run s m args below meth c H locs 0 0 Q (F0 m 30 ls [])) → ∀ (n : Nat) (v3_2 : Int32) (td_2 : STD) (H : Heap) (locs : List Loc) (ls : Array Slot), va_P D vwCl [(a, .inr (7, [.ref a_empty, .ref a_holding])), cm_kI cI a_empty 10 td_2.1, cm_kI cI a_holding 10 td_2.2, (a_p1, .inr (5, [.ref a_p1_digits, .int p1_ro.2])), cm_kI cI a_p1_digits 9 p1_ro.1] H → va_D A [(a, .inr (7, [.ref a_empty, .ref a_holding])), cm_kI cI a_empty 10 td_2.1, cm_kI cI a_holding 10 td_2.2, (a_p1, .inr (5, [.ref a_p1_digits, .int p1_ro.2])), cm_kI cI a_p1_digits 9 p1_ro.1] → va_S A s.heap H locs → lv_has ls 4 [(3, .int v3_2), (0, .ref a), (1, .ref a_p1), (2, .int v2)] → fX7_run_L2 kx n v3_2 td_2 = some res → W p l e rmX7_run s m args below meth c H locs 0 0 Q (F0 m 2 ls []) := by
    intro kx hkx n
    induction n with
    | zero => intro v3_2 td_2 H locs ls hP hD hS hl hf; cases hf
    | succ n ih =>
      intro v3_2 td_2 H locs ls hP hD hS hl hf
      rw [fX7_run_L2] at hf
      refine lv_iload_n (pc := 2) hx hb dX7_run_2 rfl (lv_at hl 0 rfl) ?_
      refine lv_bipush (pc := 3) (v := 9) hx hb dX7_run_3 (by decide) ?_
      refine lv_icmp_gt (pc := 5) (tgt := 30) hx hb dX7_run_5 (by decide) (fun c_5 => ?_) (fun c_5 => ?_)
      · have hf := cm_ip c_5 hf
        exact hkx v3_2 td_2 _ _ _ hP hD hS (lv_sub hl [1, 2, 3] rfl) hf
      · have hf := cm_in c_5 hf
        refine lv_aload_n (pc := 8) hx hb dX7_run_8 rfl (lv_at hl 1 rfl) ?_
        refine va_get (pc := 9) (D := D) (ci := 7) (v := .ref a_empty) (C := RX7) (T := TX7) (N := 2) hx hb hts in_X7 hown hKa hP 0 rfl rfl 0 (by decide) (hts _ tw_251) (fun _ h9 => h9) rfl dX7_run_9 ?_
        refine lv_iload_n (pc := 12) hx hb dX7_run_12 rfl (lv_at hl 0 rfl) ?_
        refine lv_iconst (pc := 13) (v := 0) hx hb dX7_run_13 (by decide) ?_
        obtain ⟨b_14, hf⟩ := cm_ob hf
        refine va_iast (pc := 14) hx hb hKa hP hD hS 1 0 rfl rfl b_14 dX7_run_14 (fun H locs hP hD hS => ?_)
        have hP : va_P D vwCl [(a, .inr (7, [.ref a_empty, .ref a_holding])), cm_kI cI a_empty 10 (upd td_2.1 v3_2.toNatClampNeg 0), cm_kI cI a_holding 10 td_2.2, (a_p1, .inr (5, [.ref a_p1_digits, .int p1_ro.2])), cm_kI cI a_p1_digits 9 p1_ro.1] H := hP
        have hD : va_D A [(a, .inr (7, [.ref a_empty, .ref a_holding])), cm_kI cI a_empty 10 (upd td_2.1 v3_2.toNatClampNeg 0), cm_kI cI a_holding 10 td_2.2, (a_p1, .inr (5, [.ref a_p1_digits, .int p1_ro.2])), cm_kI cI a_p1_digits 9 p1_ro.1] := hD
        refine lv_aload_n (pc := 15) hx hb dX7_run_15 rfl (lv_at hl 1 rfl) ?_
        refine va_get (pc := 16) (D := D) (ci := 7) (v := .ref a_holding) (C := RX7) (T := TX7) (N := 2) hx hb hts in_X7 hown hKa hP 0 rfl rfl 1 (by decide) (hts _ tw_252) (fun _ h9 => h9) rfl dX7_run_16 ?_
        refine lv_iload_n (pc := 19) hx hb dX7_run_19 rfl (lv_at hl 0 rfl) ?_
        refine lv_sipush (pc := 20) (v := (-1000)) hx hb dX7_run_20 (by decide) ?_
        obtain ⟨b_23, hf⟩ := cm_ob hf
        refine va_iast (pc := 23) hx hb hKa hP hD hS 2 0 rfl rfl b_23 dX7_run_23 (fun H locs hP hD hS => ?_)
        have hP : va_P D vwCl [(a, .inr (7, [.ref a_empty, .ref a_holding])), cm_kI cI a_empty 10 (upd td_2.1 v3_2.toNatClampNeg 0), cm_kI cI a_holding 10 (upd td_2.2 v3_2.toNatClampNeg (-1000)), (a_p1, .inr (5, [.ref a_p1_digits, .int p1_ro.2])), cm_kI cI a_p1_digits 9 p1_ro.1] H := hP
        have hD : va_D A [(a, .inr (7, [.ref a_empty, .ref a_holding])), cm_kI cI a_empty 10 (upd td_2.1 v3_2.toNatClampNeg 0), cm_kI cI a_holding 10 (upd td_2.2 v3_2.toNatClampNeg (-1000)), (a_p1, .inr (5, [.ref a_p1_digits, .int p1_ro.2])), cm_kI cI a_p1_digits 9 p1_ro.1] := hD
        refine lv_iinc (pc := 24) (v := (v3_2 + 1)) (lv' := [(3, .int (v3_2 + 1)), (0, .ref a), (1, .ref a_p1), (2, .int v2)]) hx hb dX7_run_24 hl (k := 0) rfl rfl (by decide) rfl (fun ls hl => ?_)
        refine lv_goto (pc := 27) (tgt := 2) hx hb dX7_run_27 (by decide) ?_
        exact ih (v3_2 + 1) ((upd td_2.1 v3_2.toNatClampNeg 0), (upd td_2.2 v3_2.toNatClampNeg (-1000))) _ _ _ hP hD hS (lv_sub hl [0, 1, 2, 3] rfl) hf
  refine L2 _ (fun v3_2 td_2 H locs ls hP hD hS hl hf => ?_) 5000 0 td _ _ _ hP hD hS (lv_sub hl [0, 1, 2, 3] rfl) hf
  refine lv_iconst (pc := 30) (v := 0) hx hb dX7_run_30 (by decide) ?_
  refine lv_istore_n (pc := 31) (lv' := [(3, .int 0), (0, .ref a), (1, .ref a_p1), (2, .int v2)]) hx hb dX7_run_31 rfl hl (by decide) rfl (fun ls hl => ?_)
  have L32 : ∀ (kx : Int32 → STD → Option (STD)), (∀ (v3_32 : Int32) (td_32 : STD) (H : Heap) (locs : List Loc) (ls : Array Slot), va_P D vwCl [(a, .inr (7, [.ref a_empty, .ref a_holding])), cm_kI cI a_empty 10 td_32.1, cm_kI cI a_holding 10 td_32.2, (a_p1, .inr (5, [.ref a_p1_digits, .int p1_ro.2])), cm_kI cI a_p1_digits 9 p1_ro.1] H → va_D A [(a, .inr (7, [.ref a_empty, .ref a_holding])), cm_kI cI a_empty 10 td_32.1, cm_kI cI a_holding 10 td_32.2, (a_p1, .inr (5, [.ref a_p1_digits, .int p1_ro.2])), cm_kI cI a_p1_digits 9 p1_ro.1] → va_S A s.heap H locs → lv_has ls 4 [] → kx v3_32 td_32 = some res → W p l e rmX7_run s m args below meth c H locs 0 0 Q (F0 m 56 ls [])) → ∀ (n : Nat) (v3_32 : Int32) (td_32 : STD) (H : Heap) (locs : List Loc) (ls : Array Slot), va_P D vwCl [(a, .inr (7, [.ref a_empty, .ref a_holding])), cm_kI cI a_empty 10 td_32.1, cm_kI cI a_holding 10 td_32.2, (a_p1, .inr (5, [.ref a_p1_digits, .int p1_ro.2])), cm_kI cI a_p1_digits 9 p1_ro.1] H → va_D A [(a, .inr (7, [.ref a_empty, .ref a_holding])), cm_kI cI a_empty 10 td_32.1, cm_kI cI a_holding 10 td_32.2, (a_p1, .inr (5, [.ref a_p1_digits, .int p1_ro.2])), cm_kI cI a_p1_digits 9 p1_ro.1] → va_S A s.heap H locs → lv_has ls 4 [(3, .int v3_32), (0, .ref a), (1, .ref a_p1), (2, .int v2)] → fX7_run_L32 v2 p1_ro kx n v3_32 td_32 = some res → W p l e rmX7_run s m args below meth c H locs 0 0 Q (F0 m 32 ls []) := by
    intro kx hkx n
    induction n with
    | zero => intro v3_32 td_32 H locs ls hP hD hS hl hf; cases hf
    | succ n ih =>
      intro v3_32 td_32 H locs ls hP hD hS hl hf
      rw [fX7_run_L32] at hf
      refine lv_iload_n (pc := 32) hx hb dX7_run_32 rfl (lv_at hl 0 rfl) ?_
      refine lv_aload_n (pc := 33) hx hb dX7_run_33 rfl (lv_at hl 2 rfl) ?_
      refine va_get (pc := 34) (D := D) (ci := 5) (v := .int p1_ro.2) (C := RX5) (T := TX5) (N := 2) hx hb hts in_X5 hown hKa hP 3 rfl rfl 1 (by decide) (hts _ tw_228) (fun _ h9 => h9) rfl dX7_run_34 ?_
      refine lv_icmp_ge (pc := 37) (tgt := 56) hx hb dX7_run_37 (by decide) (fun c_37 => ?_) (fun c_37 => ?_)
      · have hf := cm_ip c_37 hf
        exact hkx v3_32 td_32 _ _ _ hP hD hS (lv_sub hl [] rfl) hf
      · have hf := cm_in c_37 hf
        refine lv_aload_n (pc := 40) hx hb dX7_run_40 rfl (lv_at hl 1 rfl) ?_
        refine lv_aload_n (pc := 41) hx hb dX7_run_41 rfl (lv_at hl 2 rfl) ?_
        refine lv_iload_n (pc := 42) hx hb dX7_run_42 rfl (lv_at hl 0 rfl) ?_
        obtain ⟨u43, hu43, hf⟩ := cm_bd hf
        refine cm_callV (pc := 43) (As := [.int v3_32]) (rest := [.ref a]) (wr := [(a, .inr (7, [.ref a_empty, .ref a_holding])), cm_kI cI a_empty 10 td_32.1, cm_kI cI a_holding 10 td_32.2]) (ci := 5) (q0 := 3) (n := 1) hx hb hml hown hts hK hP hD hS hA (c_X5_digit l D cI cJ cZ a_p1 a_p1_digits p1_ro v3_32 u43 hu43) tw_521 tw_543 tw_519 tw_520 tw_52 rfl rfl (by decide +kernel) rfl ⟨Nat.le_of_ble_eq_true rfl, Nat.le_of_ble_eq_true rfl⟩ [3, 4] [0, 1, 2] rfl (by decide) rfl (by decide) (by decide) rfl rfl rfl hl.1 rfl (Nat.le_of_ble_eq_true rfl) dX7_run_43 ⟨Nat.zero_le _, Nat.zero_le _⟩ (fun H locs hP hD hS => ?_)
        have hP : va_P D vwCl [(a, .inr (7, [.ref a_empty, .ref a_holding])), cm_kI cI a_empty 10 td_32.1, cm_kI cI a_holding 10 td_32.2, (a_p1, .inr (5, [.ref a_p1_digits, .int p1_ro.2])), cm_kI cI a_p1_digits 9 p1_ro.1] H := hP
        have hD : va_D A [(a, .inr (7, [.ref a_empty, .ref a_holding])), cm_kI cI a_empty 10 td_32.1, cm_kI cI a_holding 10 td_32.2, (a_p1, .inr (5, [.ref a_p1_digits, .int p1_ro.2])), cm_kI cI a_p1_digits 9 p1_ro.1] := hD
        refine W.eq (g2 := F0 m 46 ls [.int u43, .ref a]) rfl ?_
        refine lv_iload_n (pc := 46) hx hb dX7_run_46 rfl (lv_at hl 3 rfl) ?_
        obtain ⟨u47, hu47, hf⟩ := cm_bd hf
        refine cm_callV (pc := 47) (As := [.int u43, .int v2]) (rest := []) (wr := [(a_p1, .inr (5, [.ref a_p1_digits, .int p1_ro.2])), cm_kI cI a_p1_digits 9 p1_ro.1]) (ci := 7) (q0 := 0) (n := 2) hx hb hml hown hts hK hP hD hS hA (c_X7_goToMarket l D cI cJ cZ a a_empty a_holding td_32 u43 v2 u47 hu47) tw_547 tw_544 tw_546 tw_18 tw_54 rfl rfl (by decide +kernel) rfl ⟨Nat.le_of_ble_eq_true rfl, Nat.le_of_ble_eq_true rfl⟩ [0, 1, 2] [3, 4] rfl (by decide) rfl (by decide) (by decide) rfl rfl rfl hl.1 rfl (Nat.le_of_ble_eq_true rfl) dX7_run_47 ⟨Nat.zero_le _, Nat.zero_le _⟩ (fun H locs hP hD hS => ?_)
        have hP : va_P D vwCl [(a_p1, .inr (5, [.ref a_p1_digits, .int p1_ro.2])), cm_kI cI a_p1_digits 9 p1_ro.1, (a, .inr (7, [.ref a_empty, .ref a_holding])), cm_kI cI a_empty 10 u47.1, cm_kI cI a_holding 10 u47.2] H := hP
        have hD : va_D A [(a_p1, .inr (5, [.ref a_p1_digits, .int p1_ro.2])), cm_kI cI a_p1_digits 9 p1_ro.1, (a, .inr (7, [.ref a_empty, .ref a_holding])), cm_kI cI a_empty 10 u47.1, cm_kI cI a_holding 10 u47.2] := hD
        refine W.eq (g2 := F0 m 50 ls []) rfl ?_
        refine lv_iinc (pc := 50) (v := (v3_32 + 1)) (lv' := [(3, .int (v3_32 + 1)), (0, .ref a), (1, .ref a_p1), (2, .int v2)]) hx hb dX7_run_50 hl (k := 0) rfl rfl (by decide) rfl (fun ls hl => ?_)
        refine lv_goto (pc := 53) (tgt := 32) hx hb dX7_run_53 (by decide) ?_
        have hP := hP.sub (ws' := [(a, .inr (7, [.ref a_empty, .ref a_holding])), cm_kI cI a_empty 10 u47.1, cm_kI cI a_holding 10 u47.2, (a_p1, .inr (5, [.ref a_p1_digits, .int p1_ro.2])), cm_kI cI a_p1_digits 9 p1_ro.1]) [2, 3, 4, 0, 1] rfl
        have hD := hD.sub (ws' := [(a, .inr (7, [.ref a_empty, .ref a_holding])), cm_kI cI a_empty 10 u47.1, cm_kI cI a_holding 10 u47.2, (a_p1, .inr (5, [.ref a_p1_digits, .int p1_ro.2])), cm_kI cI a_p1_digits 9 p1_ro.1]) [2, 3, 4, 0, 1] (by decide) rfl
        exact ih (v3_32 + 1) u47 _ _ _ hP hD hS (lv_sub hl [0, 1, 2, 3] rfl) hf
  refine L32 _ (fun v3_32 td_32 H locs ls hP hD hS hl hf => ?_) 5000 0 td_2 _ _ _ hP hD hS (lv_sub hl [0, 1, 2, 3] rfl) hf
  obtain rfl := Option.some.inj hf
  exact cm_vret (pc := 56) hAe hQ hx hb hr hlocks hP hD hS [0, 1, 2, 3, 4] (by decide) rfl dX7_run_56
def fX7_most (v1 : Int32) (td : STD) : Option (Int32) := cm_let (fX10_isWithin v1 0 9) (fun u4 => (if u4 = 0 then some 0 else if v1 < 0 ∨ 10 ≤ v1.toNatClampNeg then none else some (td.1 v1.toNatClampNeg)))
def rmX7_most : Room := { frames := 1, cells := 0, slots := 0, locals := 22 }
set_option maxRecDepth 100000 in
set_option maxHeartbeats 4000000 in
theorem c_X7_most (l : Launch) (D : va_G) (cI cJ cZ : ClassId) (a a_empty a_holding : Nat) (td : STD) (v1 : Int32) (res : Int32) (hf : fX7_most v1 td = some res) : Ct l yX7_most (cm_ws yX7_most cX7_most 2 (some .int)) rmX7_most D (cm_T cI cJ cZ) [.ref a, .int v1] [(a, .inr (7, [.ref a_empty, .ref a_holding])), cm_kI cI a_empty 10 td.1, cm_kI cI a_holding 10 td.2] (some (.int res)) [(a, .inr (7, [.ref a_empty, .ref a_holding])), cm_kI cI a_empty 10 td.1, cm_kI cI a_holding 10 td.2] := by
  refine Ct.of (cc := cX7_most) (maxL := 2) (ret := (some .int)) (by decide) (Nat.le_of_ble_eq_true rfl) ?_
  intro p e s m below meth c ls args A Q hav hAe hQ hx hb hr hml hown hlocks hts hK hP hD hA hS hl
  have hKa := hK.1
  have hl : lv_has ls 2 [(0, .ref a), (1, .int v1)] := hl
  unfold fX7_most at hf
  refine lv_iload_n (pc := 0) hx hb dX7_most_0 rfl (lv_at hl 1 rfl) ?_
  refine lv_iconst (pc := 1) (v := 0) hx hb dX7_most_1 (by decide) ?_
  refine lv_bipush (pc := 2) (v := 9) hx hb dX7_most_2 (by decide) ?_
  obtain ⟨u4, hu4, hf⟩ := cm_lt hf
  refine cm_callN (pc := 4) (As := [.int v1, .int 0, .int 9]) (rest := []) (wr := [(a, .inr (7, [.ref a_empty, .ref a_holding])), cm_kI cI a_empty 10 td.1, cm_kI cI a_holding 10 td.2]) (host := RX10) (n := 3) hx hb hml hown hts hK hP hD hS hA (c_X10_isWithin l D cI cJ cZ v1 0 9 u4 hu4) tw_312 (hK.2 (RX7, 38, yX10_isWithin, RX10) (List.mem_of_getElem? (i := 20) rfl)) tw_311 tw_45 rfl rfl (by decide +kernel) rfl ⟨Nat.le_of_ble_eq_true rfl, Nat.le_of_ble_eq_true rfl⟩ [] [0, 1, 2] rfl (by decide) rfl (by decide) (by decide) hl.1 rfl (Nat.le_of_ble_eq_true rfl) dX7_most_4 ⟨Nat.zero_le _, Nat.zero_le _⟩ (fun H locs hP hD hS => ?_)
  have hP : va_P D vwCl [(a, .inr (7, [.ref a_empty, .ref a_holding])), cm_kI cI a_empty 10 td.1, cm_kI cI a_holding 10 td.2] H := hP
  have hD : va_D A [(a, .inr (7, [.ref a_empty, .ref a_holding])), cm_kI cI a_empty 10 td.1, cm_kI cI a_holding 10 td.2] := hD
  refine W.eq (g2 := F0 m 7 ls [.int u4]) rfl ?_
  refine lv_if_eq (pc := 7) (tgt := 19) hx hb dX7_most_7 (by decide) (fun c_7 => ?_) (fun c_7 => ?_)
  · have hf := cm_ip c_7 hf
    refine lv_iconst (pc := 19) (v := 0) hx hb dX7_most_19 (by decide) ?_
    obtain rfl := Option.some.inj hf
    exact cm_iret (pc := 20) hAe hQ hx hb hr hlocks hP hD hS [0, 1, 2] (by decide) rfl dX7_most_20
  · have hf := cm_in c_7 hf
    refine lv_aload_n (pc := 10) hx hb dX7_most_10 rfl (lv_at hl 0 rfl) ?_
    refine va_get (pc := 11) (D := D) (ci := 7) (v := .ref a_empty) (C := RX7) (T := TX7) (N := 2) hx hb hts in_X7 hown hKa hP 0 rfl rfl 0 (by decide) (hts _ tw_251) (fun _ h9 => h9) rfl dX7_most_11 ?_
    refine lv_iload_n (pc := 14) hx hb dX7_most_14 rfl (lv_at hl 1 rfl) ?_
    obtain ⟨b_15, hf⟩ := cm_ob hf
    refine va_iald (pc := 15) hx hb hKa hP 1 0 rfl rfl b_15 dX7_most_15 ?_
    refine lv_goto (pc := 16) (tgt := 20) hx hb dX7_most_16 (by decide) ?_
    obtain rfl := Option.some.inj hf
    exact cm_iret (pc := 20) hAe hQ hx hb hr hlocks hP hD hS [0, 1, 2] (by decide) rfl dX7_most_20
def fX7_fewest_L8 (v1 : Int32) (u2 : Int32) (td : STD) (kx : Int32 → Option (Int32)) : Nat → Int32 → Option (Int32)
  | 0, _ => none
  | n + 1, v3_8 => (if v1 ≤ v3_8 then kx v3_8 else Option.bind (fX7_most v3_8 td) (fun u15 => (if u15 = u2 then some v3_8 else fX7_fewest_L8 v1 u2 td kx n (v3_8 + 1))))
def fX7_fewest (v1 : Int32) (td : STD) : Option (Int32) := Option.bind (fX7_most v1 td) (fun u2 => fX7_fewest_L8 v1 u2 td (fun v3_8 => some v1) 5000 0)
def rmX7_fewest : Room := { frames := 2, cells := 0, slots := 0, locals := 43 }
set_option maxRecDepth 100000 in
set_option maxHeartbeats 4000000 in
theorem c_X7_fewest (l : Launch) (D : va_G) (cI cJ cZ : ClassId) (a a_empty a_holding : Nat) (td : STD) (v1 : Int32) (res : Int32) (hf : fX7_fewest v1 td = some res) : Ct l yX7_fewest (cm_ws yX7_fewest cX7_fewest 4 (some .int)) rmX7_fewest D (cm_T cI cJ cZ) [.ref a, .int v1] [(a, .inr (7, [.ref a_empty, .ref a_holding])), cm_kI cI a_empty 10 td.1, cm_kI cI a_holding 10 td.2] (some (.int res)) [(a, .inr (7, [.ref a_empty, .ref a_holding])), cm_kI cI a_empty 10 td.1, cm_kI cI a_holding 10 td.2] := by
  refine Ct.of (cc := cX7_fewest) (maxL := 4) (ret := (some .int)) (by decide) (Nat.le_of_ble_eq_true rfl) ?_
  intro p e s m below meth c ls args A Q hav hAe hQ hx hb hr hml hown hlocks hts hK hP hD hA hS hl
  have hKa := hK.1
  have hl : lv_has ls 4 [(0, .ref a), (1, .int v1)] := hl
  unfold fX7_fewest at hf
  refine lv_aload_n (pc := 0) hx hb dX7_fewest_0 rfl (lv_at hl 0 rfl) ?_
  refine lv_iload_n (pc := 1) hx hb dX7_fewest_1 rfl (lv_at hl 1 rfl) ?_
  obtain ⟨u2, hu2, hf⟩ := cm_bd hf
  refine cm_callV (pc := 2) (As := [.int v1]) (rest := []) (wr := []) (ci := 7) (q0 := 0) (n := 1) hx hb hml hown hts hK hP hD hS hA (c_X7_most l D cI cJ cZ a a_empty a_holding td v1 u2 hu2) tw_552 tw_558 tw_550 tw_551 tw_54 rfl rfl (by decide +kernel) rfl ⟨Nat.le_of_ble_eq_true rfl, Nat.le_of_ble_eq_true rfl⟩ [0, 1, 2] [] rfl (by decide) rfl (by decide) (by decide) rfl rfl rfl hl.1 rfl (Nat.le_of_ble_eq_true rfl) dX7_fewest_2 ⟨Nat.zero_le _, Nat.zero_le _⟩ (fun H locs hP hD hS => ?_)
  have hP : va_P D vwCl [(a, .inr (7, [.ref a_empty, .ref a_holding])), cm_kI cI a_empty 10 td.1, cm_kI cI a_holding 10 td.2] H := hP
  have hD : va_D A [(a, .inr (7, [.ref a_empty, .ref a_holding])), cm_kI cI a_empty 10 td.1, cm_kI cI a_holding 10 td.2] := hD
  refine W.eq (g2 := F0 m 5 ls [.int u2]) rfl ?_
  refine lv_istore_n (pc := 5) (lv' := [(2, .int u2), (0, .ref a), (1, .int v1)]) hx hb dX7_fewest_5 rfl hl (by decide) rfl (fun ls hl => ?_)
  refine lv_iconst (pc := 6) (v := 0) hx hb dX7_fewest_6 (by decide) ?_
  refine lv_istore_n (pc := 7) (lv' := [(3, .int 0), (2, .int u2), (0, .ref a), (1, .int v1)]) hx hb dX7_fewest_7 rfl hl (by decide) rfl (fun ls hl => ?_)
  have L8 : ∀ (kx : Int32 → Option (Int32)), (∀ (v3_8 : Int32) (H : Heap) (locs : List Loc) (ls : Array Slot), va_P D vwCl [(a, .inr (7, [.ref a_empty, .ref a_holding])), cm_kI cI a_empty 10 td.1, cm_kI cI a_holding 10 td.2] H → va_D A [(a, .inr (7, [.ref a_empty, .ref a_holding])), cm_kI cI a_empty 10 td.1, cm_kI cI a_holding 10 td.2] → va_S A s.heap H locs → lv_has ls 4 [(1, .int v1)] → kx v3_8 = some res → W p l e rmX7_fewest s m args below meth c H locs 0 0 Q (F0 m 30 ls [])) → ∀ (n : Nat) (v3_8 : Int32) (H : Heap) (locs : List Loc) (ls : Array Slot), va_P D vwCl [(a, .inr (7, [.ref a_empty, .ref a_holding])), cm_kI cI a_empty 10 td.1, cm_kI cI a_holding 10 td.2] H → va_D A [(a, .inr (7, [.ref a_empty, .ref a_holding])), cm_kI cI a_empty 10 td.1, cm_kI cI a_holding 10 td.2] → va_S A s.heap H locs → lv_has ls 4 [(3, .int v3_8), (2, .int u2), (0, .ref a), (1, .int v1)] → fX7_fewest_L8 v1 u2 td kx n v3_8 = some res → W p l e rmX7_fewest s m args below meth c H locs 0 0 Q (F0 m 8 ls []) := by
    intro kx hkx n
    induction n with
    | zero => intro v3_8 H locs ls hP hD hS hl hf; cases hf
    | succ n ih =>
      intro v3_8 H locs ls hP hD hS hl hf
      rw [fX7_fewest_L8] at hf
      refine lv_iload_n (pc := 8) hx hb dX7_fewest_8 rfl (lv_at hl 0 rfl) ?_
      refine lv_iload_n (pc := 9) hx hb dX7_fewest_9 rfl (lv_at hl 3 rfl) ?_
      refine lv_icmp_ge (pc := 10) (tgt := 30) hx hb dX7_fewest_10 (by decide) (fun c_10 => ?_) (fun c_10 => ?_)
      · have hf := cm_ip c_10 hf
        exact hkx v3_8 _ _ _ hP hD hS (lv_sub hl [3] rfl) hf
      · have hf := cm_in c_10 hf
        refine lv_aload_n (pc := 13) hx hb dX7_fewest_13 rfl (lv_at hl 2 rfl) ?_
        refine lv_iload_n (pc := 14) hx hb dX7_fewest_14 rfl (lv_at hl 0 rfl) ?_
        obtain ⟨u15, hu15, hf⟩ := cm_bd hf
        refine cm_callV (pc := 15) (As := [.int v3_8]) (rest := []) (wr := []) (ci := 7) (q0 := 0) (n := 1) hx hb hml hown hts hK hP hD hS hA (c_X7_most l D cI cJ cZ a a_empty a_holding td v3_8 u15 hu15) tw_552 tw_558 tw_550 tw_551 tw_54 rfl rfl (by decide +kernel) rfl ⟨Nat.le_of_ble_eq_true rfl, Nat.le_of_ble_eq_true rfl⟩ [0, 1, 2] [] rfl (by decide) rfl (by decide) (by decide) rfl rfl rfl hl.1 rfl (Nat.le_of_ble_eq_true rfl) dX7_fewest_15 ⟨Nat.zero_le _, Nat.zero_le _⟩ (fun H locs hP hD hS => ?_)
        have hP : va_P D vwCl [(a, .inr (7, [.ref a_empty, .ref a_holding])), cm_kI cI a_empty 10 td.1, cm_kI cI a_holding 10 td.2] H := hP
        have hD : va_D A [(a, .inr (7, [.ref a_empty, .ref a_holding])), cm_kI cI a_empty 10 td.1, cm_kI cI a_holding 10 td.2] := hD
        refine W.eq (g2 := F0 m 18 ls [.int u15]) rfl ?_
        refine lv_iload_n (pc := 18) hx hb dX7_fewest_18 rfl (lv_at hl 1 rfl) ?_
        refine lv_icmp_ne (pc := 19) (tgt := 24) hx hb dX7_fewest_19 (by decide) (fun c_19 => ?_) (fun c_19 => ?_)
        · have hf := cm_in c_19 hf
          refine lv_iinc (pc := 24) (v := (v3_8 + 1)) (lv' := [(3, .int (v3_8 + 1)), (2, .int u2), (0, .ref a), (1, .int v1)]) hx hb dX7_fewest_24 hl (k := 0) rfl rfl (by decide) rfl (fun ls hl => ?_)
          refine lv_goto (pc := 27) (tgt := 8) hx hb dX7_fewest_27 (by decide) ?_
          exact ih (v3_8 + 1) _ _ _ hP hD hS (lv_sub hl [0, 1, 2, 3] rfl) hf
        · have hf := cm_ip c_19 hf
          refine lv_iload_n (pc := 22) hx hb dX7_fewest_22 rfl (lv_at hl 0 rfl) ?_
          obtain rfl := Option.some.inj hf
          exact cm_iret (pc := 23) hAe hQ hx hb hr hlocks hP hD hS [0, 1, 2] (by decide) rfl dX7_fewest_23
  refine L8 _ (fun v3_8 H locs ls hP hD hS hl hf => ?_) 5000 0 _ _ _ hP hD hS (lv_sub hl [0, 1, 2, 3] rfl) hf
  refine lv_iload_n (pc := 30) hx hb dX7_fewest_30 rfl (lv_at hl 0 rfl) ?_
  obtain rfl := Option.some.inj hf
  exact cm_iret (pc := 31) hAe hQ hx hb hr hlocks hP hD hS [0, 1, 2] (by decide) rfl dX7_fewest_31
def fX10_trade (v1 : Int32) (v2 : Int32) (v3 : Int32) (v4 : Int32) (digits_ro : SRO) (trades_td : STD) : Option (Int32 × SRO × STD) := Option.bind (fX5_read v1 v2 digits_ro) (fun u6 => (if u6.1 = 0 then some ((-2), u6.2, trades_td) else cm_let (fX10_isWithin v3 0 9) (fun u16 => (if u16 = 0 then some ((-2), u6.2, trades_td) else cm_let (fX10_isWithin v4 0 1) (fun u26 => (if u26 = 0 then some ((-2), u6.2, trades_td) else Option.bind (fX7_run v3 trades_td u6.2) (fun u44 => (if v4 = 0 then Option.bind (fX7_most v3 u44) (fun u57 => some (u57, u6.2, u44)) else Option.bind (fX7_fewest v3 u44) (fun u68 => some (u68, u6.2, u44))))))))))
def rmX10_trade : Room := { frames := 3, cells := 0, slots := 0, locals := 67 }
set_option maxRecDepth 100000 in
set_option maxHeartbeats 4000000 in
theorem c_X10_trade (l : Launch) (D : va_G) (cI cJ cZ : ClassId) (a a_now a_pad a_trial a_sights a_im0 a_im1 a_digits a_voters a_trades a_bells a_digits_digits a_trades_empty a_trades_holding : Nat) (digits_ro : SRO) (trades_td : STD) (v1 : Int32) (v2 : Int32) (v3 : Int32) (v4 : Int32) (res : Int32 × SRO × STD) (hf : fX10_trade v1 v2 v3 v4 digits_ro trades_td = some res) : Ct l yX10_trade (cm_ws yX10_trade cX10_trade 5 (some .int)) rmX10_trade D (cm_T cI cJ cZ) [.ref a, .int v1, .int v2, .int v3, .int v4] [(a, .inr (10, [.ref a_now, .ref a_pad, .ref a_trial, .ref a_sights, .ref a_im0, .ref a_im1, .ref a_digits, .ref a_voters, .ref a_trades, .ref a_bells])), (a_digits, .inr (5, [.ref a_digits_digits, .int digits_ro.2])), cm_kI cI a_digits_digits 9 digits_ro.1, (a_trades, .inr (7, [.ref a_trades_empty, .ref a_trades_holding])), cm_kI cI a_trades_empty 10 trades_td.1, cm_kI cI a_trades_holding 10 trades_td.2] (some (.int res.1)) [(a, .inr (10, [.ref a_now, .ref a_pad, .ref a_trial, .ref a_sights, .ref a_im0, .ref a_im1, .ref a_digits, .ref a_voters, .ref a_trades, .ref a_bells])), (a_digits, .inr (5, [.ref a_digits_digits, .int res.2.1.2])), cm_kI cI a_digits_digits 9 res.2.1.1, (a_trades, .inr (7, [.ref a_trades_empty, .ref a_trades_holding])), cm_kI cI a_trades_empty 10 res.2.2.1, cm_kI cI a_trades_holding 10 res.2.2.2] := by
  refine Ct.of (cc := cX10_trade) (maxL := 5) (ret := (some .int)) (by decide) (Nat.le_of_ble_eq_true rfl) ?_
  intro p e s m below meth c ls args A Q hav hAe hQ hx hb hr hml hown hlocks hts hK hP hD hA hS hl
  have hKa := hK.1
  have hl : lv_has ls 5 [(0, .ref a), (1, .int v1), (2, .int v2), (3, .int v3), (4, .int v4)] := hl
  unfold fX10_trade at hf
  refine lv_aload_n (pc := 0) hx hb dX10_trade_0 rfl (lv_at hl 0 rfl) ?_
  refine va_get (pc := 1) (D := D) (ci := 10) (v := .ref a_digits) (C := RX10) (T := TX10) (N := 10) hx hb hts in_X10 hown hKa hP 0 rfl rfl 6 (by decide) (hts _ tw_275) (fun _ h9 => h9) rfl dX10_trade_1 ?_
  refine lv_iload_n (pc := 4) hx hb dX10_trade_4 rfl (lv_at hl 1 rfl) ?_
  refine lv_iload_n (pc := 5) hx hb dX10_trade_5 rfl (lv_at hl 2 rfl) ?_
  obtain ⟨u6, hu6, hf⟩ := cm_bd hf
  refine cm_callV (pc := 6) (As := [.int v1, .int v2]) (rest := []) (wr := [(a, .inr (10, [.ref a_now, .ref a_pad, .ref a_trial, .ref a_sights, .ref a_im0, .ref a_im1, .ref a_digits, .ref a_voters, .ref a_trades, .ref a_bells])), (a_trades, .inr (7, [.ref a_trades_empty, .ref a_trades_holding])), cm_kI cI a_trades_empty 10 trades_td.1, cm_kI cI a_trades_holding 10 trades_td.2]) (ci := 5) (q0 := 1) (n := 2) hx hb hml hown hts hK hP hD hS hA (c_X5_read l D cI cJ cZ a_digits a_digits_digits digits_ro v1 v2 u6 hu6) tw_508 tw_505 tw_506 tw_507 tw_52 rfl rfl (by decide +kernel) rfl ⟨Nat.le_of_ble_eq_true rfl, Nat.le_of_ble_eq_true rfl⟩ [1, 2] [0, 3, 4, 5] rfl (by decide) rfl (by decide) (by decide) rfl rfl rfl hl.1 rfl (Nat.le_of_ble_eq_true rfl) dX10_trade_6 ⟨Nat.zero_le _, Nat.zero_le _⟩ (fun H locs hP hD hS => ?_)
  have hP : va_P D vwCl [(a, .inr (10, [.ref a_now, .ref a_pad, .ref a_trial, .ref a_sights, .ref a_im0, .ref a_im1, .ref a_digits, .ref a_voters, .ref a_trades, .ref a_bells])), (a_trades, .inr (7, [.ref a_trades_empty, .ref a_trades_holding])), cm_kI cI a_trades_empty 10 trades_td.1, cm_kI cI a_trades_holding 10 trades_td.2, (a_digits, .inr (5, [.ref a_digits_digits, .int u6.2.2])), cm_kI cI a_digits_digits 9 u6.2.1] H := hP
  have hD : va_D A [(a, .inr (10, [.ref a_now, .ref a_pad, .ref a_trial, .ref a_sights, .ref a_im0, .ref a_im1, .ref a_digits, .ref a_voters, .ref a_trades, .ref a_bells])), (a_trades, .inr (7, [.ref a_trades_empty, .ref a_trades_holding])), cm_kI cI a_trades_empty 10 trades_td.1, cm_kI cI a_trades_holding 10 trades_td.2, (a_digits, .inr (5, [.ref a_digits_digits, .int u6.2.2])), cm_kI cI a_digits_digits 9 u6.2.1] := hD
  refine W.eq (g2 := F0 m 9 ls [.int u6.1]) rfl ?_
  refine lv_if_eq (pc := 9) (tgt := 32) hx hb dX10_trade_9 (by decide) (fun c_9 => ?_) (fun c_9 => ?_)
  · have hf := cm_ip c_9 hf
    refine lv_bipush (pc := 32) (v := (-2)) hx hb dX10_trade_32 (by decide) ?_
    obtain rfl := Option.some.inj hf
    exact cm_iret (pc := 34) hAe hQ hx hb hr hlocks hP hD hS [0, 4, 5, 1, 2, 3] (by decide) rfl dX10_trade_34
  · have hf := cm_in c_9 hf
    refine lv_iload_n (pc := 12) hx hb dX10_trade_12 rfl (lv_at hl 3 rfl) ?_
    refine lv_iconst (pc := 13) (v := 0) hx hb dX10_trade_13 (by decide) ?_
    refine lv_bipush (pc := 14) (v := 9) hx hb dX10_trade_14 (by decide) ?_
    obtain ⟨u16, hu16, hf⟩ := cm_lt hf
    refine cm_callS (pc := 16) (As := [.int v3, .int 0, .int 9]) (rest := []) (wr := [(a, .inr (10, [.ref a_now, .ref a_pad, .ref a_trial, .ref a_sights, .ref a_im0, .ref a_im1, .ref a_digits, .ref a_voters, .ref a_trades, .ref a_bells])), (a_trades, .inr (7, [.ref a_trades_empty, .ref a_trades_holding])), cm_kI cI a_trades_empty 10 trades_td.1, cm_kI cI a_trades_holding 10 trades_td.2, (a_digits, .inr (5, [.ref a_digits_digits, .int u6.2.2])), cm_kI cI a_digits_digits 9 u6.2.1]) (n := 3) hx hb hml hown hts hK hP hD hS hA (c_X10_isWithin l D cI cJ cZ v3 0 9 u16 hu16) tw_312 tw_310 tw_311 tw_45 rfl rfl (by decide +kernel) rfl ⟨Nat.le_of_ble_eq_true rfl, Nat.le_of_ble_eq_true rfl⟩ [] [0, 1, 2, 3, 4, 5] rfl (by decide) rfl (by decide) (by decide) hl.1 rfl (Nat.le_of_ble_eq_true rfl) dX10_trade_16 ⟨Nat.zero_le _, Nat.zero_le _⟩ (fun H locs hP hD hS => ?_)
    have hP : va_P D vwCl [(a, .inr (10, [.ref a_now, .ref a_pad, .ref a_trial, .ref a_sights, .ref a_im0, .ref a_im1, .ref a_digits, .ref a_voters, .ref a_trades, .ref a_bells])), (a_trades, .inr (7, [.ref a_trades_empty, .ref a_trades_holding])), cm_kI cI a_trades_empty 10 trades_td.1, cm_kI cI a_trades_holding 10 trades_td.2, (a_digits, .inr (5, [.ref a_digits_digits, .int u6.2.2])), cm_kI cI a_digits_digits 9 u6.2.1] H := hP
    have hD : va_D A [(a, .inr (10, [.ref a_now, .ref a_pad, .ref a_trial, .ref a_sights, .ref a_im0, .ref a_im1, .ref a_digits, .ref a_voters, .ref a_trades, .ref a_bells])), (a_trades, .inr (7, [.ref a_trades_empty, .ref a_trades_holding])), cm_kI cI a_trades_empty 10 trades_td.1, cm_kI cI a_trades_holding 10 trades_td.2, (a_digits, .inr (5, [.ref a_digits_digits, .int u6.2.2])), cm_kI cI a_digits_digits 9 u6.2.1] := hD
    refine W.eq (g2 := F0 m 19 ls [.int u16]) rfl ?_
    refine lv_if_eq (pc := 19) (tgt := 32) hx hb dX10_trade_19 (by decide) (fun c_19 => ?_) (fun c_19 => ?_)
    · have hf := cm_ip c_19 hf
      refine lv_bipush (pc := 32) (v := (-2)) hx hb dX10_trade_32 (by decide) ?_
      obtain rfl := Option.some.inj hf
      exact cm_iret (pc := 34) hAe hQ hx hb hr hlocks hP hD hS [0, 4, 5, 1, 2, 3] (by decide) rfl dX10_trade_34
    · have hf := cm_in c_19 hf
      refine lv_iload (pc := 22) hx hb dX10_trade_22 (lv_at hl 4 rfl) ?_
      refine lv_iconst (pc := 24) (v := 0) hx hb dX10_trade_24 (by decide) ?_
      refine lv_iconst (pc := 25) (v := 1) hx hb dX10_trade_25 (by decide) ?_
      obtain ⟨u26, hu26, hf⟩ := cm_lt hf
      refine cm_callS (pc := 26) (As := [.int v4, .int 0, .int 1]) (rest := []) (wr := [(a, .inr (10, [.ref a_now, .ref a_pad, .ref a_trial, .ref a_sights, .ref a_im0, .ref a_im1, .ref a_digits, .ref a_voters, .ref a_trades, .ref a_bells])), (a_trades, .inr (7, [.ref a_trades_empty, .ref a_trades_holding])), cm_kI cI a_trades_empty 10 trades_td.1, cm_kI cI a_trades_holding 10 trades_td.2, (a_digits, .inr (5, [.ref a_digits_digits, .int u6.2.2])), cm_kI cI a_digits_digits 9 u6.2.1]) (n := 3) hx hb hml hown hts hK hP hD hS hA (c_X10_isWithin l D cI cJ cZ v4 0 1 u26 hu26) tw_312 tw_310 tw_311 tw_45 rfl rfl (by decide +kernel) rfl ⟨Nat.le_of_ble_eq_true rfl, Nat.le_of_ble_eq_true rfl⟩ [] [0, 1, 2, 3, 4, 5] rfl (by decide) rfl (by decide) (by decide) hl.1 rfl (Nat.le_of_ble_eq_true rfl) dX10_trade_26 ⟨Nat.zero_le _, Nat.zero_le _⟩ (fun H locs hP hD hS => ?_)
      have hP : va_P D vwCl [(a, .inr (10, [.ref a_now, .ref a_pad, .ref a_trial, .ref a_sights, .ref a_im0, .ref a_im1, .ref a_digits, .ref a_voters, .ref a_trades, .ref a_bells])), (a_trades, .inr (7, [.ref a_trades_empty, .ref a_trades_holding])), cm_kI cI a_trades_empty 10 trades_td.1, cm_kI cI a_trades_holding 10 trades_td.2, (a_digits, .inr (5, [.ref a_digits_digits, .int u6.2.2])), cm_kI cI a_digits_digits 9 u6.2.1] H := hP
      have hD : va_D A [(a, .inr (10, [.ref a_now, .ref a_pad, .ref a_trial, .ref a_sights, .ref a_im0, .ref a_im1, .ref a_digits, .ref a_voters, .ref a_trades, .ref a_bells])), (a_trades, .inr (7, [.ref a_trades_empty, .ref a_trades_holding])), cm_kI cI a_trades_empty 10 trades_td.1, cm_kI cI a_trades_holding 10 trades_td.2, (a_digits, .inr (5, [.ref a_digits_digits, .int u6.2.2])), cm_kI cI a_digits_digits 9 u6.2.1] := hD
      refine W.eq (g2 := F0 m 29 ls [.int u26]) rfl ?_
      refine lv_if_ne (pc := 29) (tgt := 35) hx hb dX10_trade_29 (by decide) (fun c_29 => ?_) (fun c_29 => ?_)
      · have hf := cm_in c_29 hf
        refine lv_aload_n (pc := 35) hx hb dX10_trade_35 rfl (lv_at hl 0 rfl) ?_
        refine va_get (pc := 36) (D := D) (ci := 10) (v := .ref a_trades) (C := RX10) (T := TX10) (N := 10) hx hb hts in_X10 hown hKa hP 0 rfl rfl 8 (by decide) (hts _ tw_277) (fun _ h9 => h9) rfl dX10_trade_36 ?_
        refine lv_aload_n (pc := 39) hx hb dX10_trade_39 rfl (lv_at hl 0 rfl) ?_
        refine va_get (pc := 40) (D := D) (ci := 10) (v := .ref a_digits) (C := RX10) (T := TX10) (N := 10) hx hb hts in_X10 hown hKa hP 0 rfl rfl 6 (by decide) (hts _ tw_275) (fun _ h9 => h9) rfl dX10_trade_40 ?_
        refine lv_iload_n (pc := 43) hx hb dX10_trade_43 rfl (lv_at hl 3 rfl) ?_
        obtain ⟨u44, hu44, hf⟩ := cm_bd hf
        refine cm_callV (pc := 44) (As := [.ref a_digits, .int v3]) (rest := []) (wr := [(a, .inr (10, [.ref a_now, .ref a_pad, .ref a_trial, .ref a_sights, .ref a_im0, .ref a_im1, .ref a_digits, .ref a_voters, .ref a_trades, .ref a_bells]))]) (ci := 7) (q0 := 1) (n := 2) hx hb hml hown hts hK hP hD hS hA (c_X7_run l D cI cJ cZ a_trades a_trades_empty a_trades_holding a_digits a_digits_digits trades_td u6.2 v3 u44 hu44) tw_542 tw_539 tw_540 tw_541 tw_54 rfl rfl (by decide +kernel) rfl ⟨Nat.le_of_ble_eq_true rfl, Nat.le_of_ble_eq_true rfl⟩ [1, 2, 3, 4, 5] [0] rfl (by decide) rfl (by decide) (by decide) rfl rfl rfl hl.1 rfl (Nat.le_of_ble_eq_true rfl) dX10_trade_44 ⟨Nat.zero_le _, Nat.zero_le _⟩ (fun H locs hP hD hS => ?_)
        have hP : va_P D vwCl [(a, .inr (10, [.ref a_now, .ref a_pad, .ref a_trial, .ref a_sights, .ref a_im0, .ref a_im1, .ref a_digits, .ref a_voters, .ref a_trades, .ref a_bells])), (a_trades, .inr (7, [.ref a_trades_empty, .ref a_trades_holding])), cm_kI cI a_trades_empty 10 u44.1, cm_kI cI a_trades_holding 10 u44.2, (a_digits, .inr (5, [.ref a_digits_digits, .int u6.2.2])), cm_kI cI a_digits_digits 9 u6.2.1] H := hP
        have hD : va_D A [(a, .inr (10, [.ref a_now, .ref a_pad, .ref a_trial, .ref a_sights, .ref a_im0, .ref a_im1, .ref a_digits, .ref a_voters, .ref a_trades, .ref a_bells])), (a_trades, .inr (7, [.ref a_trades_empty, .ref a_trades_holding])), cm_kI cI a_trades_empty 10 u44.1, cm_kI cI a_trades_holding 10 u44.2, (a_digits, .inr (5, [.ref a_digits_digits, .int u6.2.2])), cm_kI cI a_digits_digits 9 u6.2.1] := hD
        refine W.eq (g2 := F0 m 47 ls []) rfl ?_
        refine lv_iload (pc := 47) hx hb dX10_trade_47 (lv_at hl 4 rfl) ?_
        refine lv_if_ne (pc := 49) (tgt := 63) hx hb dX10_trade_49 (by decide) (fun c_49 => ?_) (fun c_49 => ?_)
        · have hf := cm_in c_49 hf
          refine lv_aload_n (pc := 63) hx hb dX10_trade_63 rfl (lv_at hl 0 rfl) ?_
          refine va_get (pc := 64) (D := D) (ci := 10) (v := .ref a_trades) (C := RX10) (T := TX10) (N := 10) hx hb hts in_X10 hown hKa hP 0 rfl rfl 8 (by decide) (hts _ tw_277) (fun _ h9 => h9) rfl dX10_trade_64 ?_
          refine lv_iload_n (pc := 67) hx hb dX10_trade_67 rfl (lv_at hl 3 rfl) ?_
          obtain ⟨u68, hu68, hf⟩ := cm_bd hf
          refine cm_callV (pc := 68) (As := [.int v3]) (rest := []) (wr := [(a, .inr (10, [.ref a_now, .ref a_pad, .ref a_trial, .ref a_sights, .ref a_im0, .ref a_im1, .ref a_digits, .ref a_voters, .ref a_trades, .ref a_bells])), (a_digits, .inr (5, [.ref a_digits_digits, .int u6.2.2])), cm_kI cI a_digits_digits 9 u6.2.1]) (ci := 7) (q0 := 1) (n := 1) hx hb hml hown hts hK hP hD hS hA (c_X7_fewest l D cI cJ cZ a_trades a_trades_empty a_trades_holding u44 v3 u68 hu68) tw_557 tw_554 tw_555 tw_556 tw_54 rfl rfl (by decide +kernel) rfl ⟨Nat.le_of_ble_eq_true rfl, Nat.le_of_ble_eq_true rfl⟩ [1, 2, 3] [0, 4, 5] rfl (by decide) rfl (by decide) (by decide) rfl rfl rfl hl.1 rfl (Nat.le_of_ble_eq_true rfl) dX10_trade_68 ⟨Nat.zero_le _, Nat.zero_le _⟩ (fun H locs hP hD hS => ?_)
          have hP : va_P D vwCl [(a, .inr (10, [.ref a_now, .ref a_pad, .ref a_trial, .ref a_sights, .ref a_im0, .ref a_im1, .ref a_digits, .ref a_voters, .ref a_trades, .ref a_bells])), (a_digits, .inr (5, [.ref a_digits_digits, .int u6.2.2])), cm_kI cI a_digits_digits 9 u6.2.1, (a_trades, .inr (7, [.ref a_trades_empty, .ref a_trades_holding])), cm_kI cI a_trades_empty 10 u44.1, cm_kI cI a_trades_holding 10 u44.2] H := hP
          have hD : va_D A [(a, .inr (10, [.ref a_now, .ref a_pad, .ref a_trial, .ref a_sights, .ref a_im0, .ref a_im1, .ref a_digits, .ref a_voters, .ref a_trades, .ref a_bells])), (a_digits, .inr (5, [.ref a_digits_digits, .int u6.2.2])), cm_kI cI a_digits_digits 9 u6.2.1, (a_trades, .inr (7, [.ref a_trades_empty, .ref a_trades_holding])), cm_kI cI a_trades_empty 10 u44.1, cm_kI cI a_trades_holding 10 u44.2] := hD
          refine W.eq (g2 := F0 m 71 ls [.int u68]) rfl ?_
          obtain rfl := Option.some.inj hf
          exact cm_iret (pc := 71) hAe hQ hx hb hr hlocks hP hD hS [0, 1, 2, 3, 4, 5] (by decide) rfl dX10_trade_71
        · have hf := cm_ip c_49 hf
          refine lv_aload_n (pc := 52) hx hb dX10_trade_52 rfl (lv_at hl 0 rfl) ?_
          refine va_get (pc := 53) (D := D) (ci := 10) (v := .ref a_trades) (C := RX10) (T := TX10) (N := 10) hx hb hts in_X10 hown hKa hP 0 rfl rfl 8 (by decide) (hts _ tw_277) (fun _ h9 => h9) rfl dX10_trade_53 ?_
          refine lv_iload_n (pc := 56) hx hb dX10_trade_56 rfl (lv_at hl 3 rfl) ?_
          obtain ⟨u57, hu57, hf⟩ := cm_bd hf
          refine cm_callV (pc := 57) (As := [.int v3]) (rest := []) (wr := [(a, .inr (10, [.ref a_now, .ref a_pad, .ref a_trial, .ref a_sights, .ref a_im0, .ref a_im1, .ref a_digits, .ref a_voters, .ref a_trades, .ref a_bells])), (a_digits, .inr (5, [.ref a_digits_digits, .int u6.2.2])), cm_kI cI a_digits_digits 9 u6.2.1]) (ci := 7) (q0 := 1) (n := 1) hx hb hml hown hts hK hP hD hS hA (c_X7_most l D cI cJ cZ a_trades a_trades_empty a_trades_holding u44 v3 u57 hu57) tw_552 tw_549 tw_550 tw_551 tw_54 rfl rfl (by decide +kernel) rfl ⟨Nat.le_of_ble_eq_true rfl, Nat.le_of_ble_eq_true rfl⟩ [1, 2, 3] [0, 4, 5] rfl (by decide) rfl (by decide) (by decide) rfl rfl rfl hl.1 rfl (Nat.le_of_ble_eq_true rfl) dX10_trade_57 ⟨Nat.zero_le _, Nat.zero_le _⟩ (fun H locs hP hD hS => ?_)
          have hP : va_P D vwCl [(a, .inr (10, [.ref a_now, .ref a_pad, .ref a_trial, .ref a_sights, .ref a_im0, .ref a_im1, .ref a_digits, .ref a_voters, .ref a_trades, .ref a_bells])), (a_digits, .inr (5, [.ref a_digits_digits, .int u6.2.2])), cm_kI cI a_digits_digits 9 u6.2.1, (a_trades, .inr (7, [.ref a_trades_empty, .ref a_trades_holding])), cm_kI cI a_trades_empty 10 u44.1, cm_kI cI a_trades_holding 10 u44.2] H := hP
          have hD : va_D A [(a, .inr (10, [.ref a_now, .ref a_pad, .ref a_trial, .ref a_sights, .ref a_im0, .ref a_im1, .ref a_digits, .ref a_voters, .ref a_trades, .ref a_bells])), (a_digits, .inr (5, [.ref a_digits_digits, .int u6.2.2])), cm_kI cI a_digits_digits 9 u6.2.1, (a_trades, .inr (7, [.ref a_trades_empty, .ref a_trades_holding])), cm_kI cI a_trades_empty 10 u44.1, cm_kI cI a_trades_holding 10 u44.2] := hD
          refine W.eq (g2 := F0 m 60 ls [.int u57]) rfl ?_
          refine lv_goto (pc := 60) (tgt := 71) hx hb dX10_trade_60 (by decide) ?_
          obtain rfl := Option.some.inj hf
          exact cm_iret (pc := 71) hAe hQ hx hb hr hlocks hP hD hS [0, 1, 2, 3, 4, 5] (by decide) rfl dX10_trade_71
      · have hf := cm_ip c_29 hf
        refine lv_bipush (pc := 32) (v := (-2)) hx hb dX10_trade_32 (by decide) ?_
        obtain rfl := Option.some.inj hf
        exact cm_iret (pc := 34) hAe hQ hx hb hr hlocks hP hD hS [0, 4, 5, 1, 2, 3] (by decide) rfl dX10_trade_34
def fX6_add (v1 : Int32) (v2 : Int32) (si : SSI) : Option (Int32 × SSI) := (if si.2.2.2 < 8 then if si.2.2.2 < 0 ∨ 8 ≤ si.2.2.2.toNatClampNeg then none else if si.2.2.2 < 0 ∨ 8 ≤ si.2.2.2.toNatClampNeg then none else some (1, ((upd si.1 si.2.2.2.toNatClampNeg v1), (upd si.2.1 si.2.2.2.toNatClampNeg v2), si.2.2.1, (si.2.2.2 + 1))) else some (0, si))
def rmX6_add : Room := { frames := 0, cells := 0, slots := 0, locals := 0 }
set_option maxRecDepth 100000 in
set_option maxHeartbeats 4000000 in
theorem c_X6_add (l : Launch) (D : va_G) (cI cJ cZ : ClassId) (a a_leads a_answers a_slatesByGap : Nat) (si : SSI) (v1 : Int32) (v2 : Int32) (res : Int32 × SSI) (hf : fX6_add v1 v2 si = some res) : Ct l yX6_add (cm_ws yX6_add cX6_add 3 (some .boolean)) rmX6_add D (cm_T cI cJ cZ) [.ref a, .int v1, .int v2] [(a, .inr (6, [.ref a_leads, .ref a_answers, .ref a_slatesByGap, .int si.2.2.2])), cm_kI cI a_leads 8 si.1, cm_kI cI a_answers 8 si.2.1, cm_kI cI a_slatesByGap 17 si.2.2.1] (some (.int res.1)) [(a, .inr (6, [.ref a_leads, .ref a_answers, .ref a_slatesByGap, .int res.2.2.2.2])), cm_kI cI a_leads 8 res.2.1, cm_kI cI a_answers 8 res.2.2.1, cm_kI cI a_slatesByGap 17 res.2.2.2.1] := by
  refine Ct.of (cc := cX6_add) (maxL := 3) (ret := (some .boolean)) (by decide) (Nat.le_of_ble_eq_true rfl) ?_
  intro p e s m below meth c ls args A Q hav hAe hQ hx hb hr hml hown hlocks hts hK hP hD hA hS hl
  have hKa := hK.1
  have hl : lv_has ls 3 [(0, .ref a), (1, .int v1), (2, .int v2)] := hl
  unfold fX6_add at hf
  refine lv_aload_n (pc := 0) hx hb dX6_add_0 rfl (lv_at hl 0 rfl) ?_
  refine va_get (pc := 1) (D := D) (ci := 6) (v := .int si.2.2.2) (C := RX6) (T := TX6) (N := 4) hx hb hts in_X6 hown hKa hP 0 rfl rfl 3 (by decide) (hts _ tw_189) (fun _ h9 => h9) rfl dX6_add_1 ?_
  refine lv_bipush (pc := 4) (v := 8) hx hb dX6_add_4 (by decide) ?_
  refine lv_icmp_lt (pc := 6) (tgt := 11) hx hb dX6_add_6 (by decide) (fun c_6 => ?_) (fun c_6 => ?_)
  · have hf := cm_ip c_6 hf
    refine lv_aload_n (pc := 11) hx hb dX6_add_11 rfl (lv_at hl 0 rfl) ?_
    refine va_get (pc := 12) (D := D) (ci := 6) (v := .ref a_leads) (C := RX6) (T := TX6) (N := 4) hx hb hts in_X6 hown hKa hP 0 rfl rfl 0 (by decide) (hts _ tw_186) (fun _ h9 => h9) rfl dX6_add_12 ?_
    refine lv_aload_n (pc := 15) hx hb dX6_add_15 rfl (lv_at hl 0 rfl) ?_
    refine va_get (pc := 16) (D := D) (ci := 6) (v := .int si.2.2.2) (C := RX6) (T := TX6) (N := 4) hx hb hts in_X6 hown hKa hP 0 rfl rfl 3 (by decide) (hts _ tw_189) (fun _ h9 => h9) rfl dX6_add_16 ?_
    refine lv_iload_n (pc := 19) hx hb dX6_add_19 rfl (lv_at hl 1 rfl) ?_
    obtain ⟨b_20, hf⟩ := cm_ob hf
    refine va_iast (pc := 20) hx hb hKa hP hD hS 1 0 rfl rfl b_20 dX6_add_20 (fun H locs hP hD hS => ?_)
    have hP : va_P D vwCl [(a, .inr (6, [.ref a_leads, .ref a_answers, .ref a_slatesByGap, .int si.2.2.2])), cm_kI cI a_leads 8 (upd si.1 si.2.2.2.toNatClampNeg v1), cm_kI cI a_answers 8 si.2.1, cm_kI cI a_slatesByGap 17 si.2.2.1] H := hP
    have hD : va_D A [(a, .inr (6, [.ref a_leads, .ref a_answers, .ref a_slatesByGap, .int si.2.2.2])), cm_kI cI a_leads 8 (upd si.1 si.2.2.2.toNatClampNeg v1), cm_kI cI a_answers 8 si.2.1, cm_kI cI a_slatesByGap 17 si.2.2.1] := hD
    refine lv_aload_n (pc := 21) hx hb dX6_add_21 rfl (lv_at hl 0 rfl) ?_
    refine va_get (pc := 22) (D := D) (ci := 6) (v := .ref a_answers) (C := RX6) (T := TX6) (N := 4) hx hb hts in_X6 hown hKa hP 0 rfl rfl 1 (by decide) (hts _ tw_187) (fun _ h9 => h9) rfl dX6_add_22 ?_
    refine lv_aload_n (pc := 25) hx hb dX6_add_25 rfl (lv_at hl 0 rfl) ?_
    refine va_get (pc := 26) (D := D) (ci := 6) (v := .int si.2.2.2) (C := RX6) (T := TX6) (N := 4) hx hb hts in_X6 hown hKa hP 0 rfl rfl 3 (by decide) (hts _ tw_189) (fun _ h9 => h9) rfl dX6_add_26 ?_
    refine lv_iload_n (pc := 29) hx hb dX6_add_29 rfl (lv_at hl 2 rfl) ?_
    obtain ⟨b_30, hf⟩ := cm_ob hf
    refine va_iast (pc := 30) hx hb hKa hP hD hS 2 0 rfl rfl b_30 dX6_add_30 (fun H locs hP hD hS => ?_)
    have hP : va_P D vwCl [(a, .inr (6, [.ref a_leads, .ref a_answers, .ref a_slatesByGap, .int si.2.2.2])), cm_kI cI a_leads 8 (upd si.1 si.2.2.2.toNatClampNeg v1), cm_kI cI a_answers 8 (upd si.2.1 si.2.2.2.toNatClampNeg v2), cm_kI cI a_slatesByGap 17 si.2.2.1] H := hP
    have hD : va_D A [(a, .inr (6, [.ref a_leads, .ref a_answers, .ref a_slatesByGap, .int si.2.2.2])), cm_kI cI a_leads 8 (upd si.1 si.2.2.2.toNatClampNeg v1), cm_kI cI a_answers 8 (upd si.2.1 si.2.2.2.toNatClampNeg v2), cm_kI cI a_slatesByGap 17 si.2.2.1] := hD
    refine lv_aload_n (pc := 31) hx hb dX6_add_31 rfl (lv_at hl 0 rfl) ?_
    refine lv_dup (pc := 32) hx hb dX6_add_32 rfl ?_
    refine va_get (pc := 33) (D := D) (ci := 6) (v := .int si.2.2.2) (C := RX6) (T := TX6) (N := 4) hx hb hts in_X6 hown hKa hP 0 rfl rfl 3 (by decide) (hts _ tw_189) (fun _ h9 => h9) rfl dX6_add_33 ?_
    refine lv_iconst (pc := 36) (v := 1) hx hb dX6_add_36 (by decide) ?_
    refine lv_iadd (pc := 37) hx hb dX6_add_37 ?_
    refine va_put (pc := 38) (D := D) (ci := 6) (v := .int (si.2.2.2 + 1)) (ty := .int) (C := RX6) (T := TX6) (N := 4) hx hb hts in_X6 tyX6 tyX6_ok nmX6 hown hKa hP hD hS 0 rfl rfl 3 (by decide) (hts _ tw_189) (fun _ h9 => h9) rfl (by decide +kernel) rfl rfl (Nat.le_of_ble_eq_true rfl) dX6_add_38 (fun H locs hP hD hS => ?_)
    have hP : va_P D vwCl [(a, .inr (6, [.ref a_leads, .ref a_answers, .ref a_slatesByGap, .int (si.2.2.2 + 1)])), cm_kI cI a_leads 8 (upd si.1 si.2.2.2.toNatClampNeg v1), cm_kI cI a_answers 8 (upd si.2.1 si.2.2.2.toNatClampNeg v2), cm_kI cI a_slatesByGap 17 si.2.2.1] H := hP
    have hD : va_D A [(a, .inr (6, [.ref a_leads, .ref a_answers, .ref a_slatesByGap, .int (si.2.2.2 + 1)])), cm_kI cI a_leads 8 (upd si.1 si.2.2.2.toNatClampNeg v1), cm_kI cI a_answers 8 (upd si.2.1 si.2.2.2.toNatClampNeg v2), cm_kI cI a_slatesByGap 17 si.2.2.1] := hD
    refine lv_iconst (pc := 41) (v := 1) hx hb dX6_add_41 (by decide) ?_
    obtain rfl := Option.some.inj hf
    exact cm_zret (Or.inr rfl) (pc := 42) hAe hQ hx hb hr hlocks hP hD hS [0, 1, 2, 3] (by decide) rfl dX6_add_42
  · have hf := cm_in c_6 hf
    refine lv_iconst (pc := 9) (v := 0) hx hb dX6_add_9 (by decide) ?_
    obtain rfl := Option.some.inj hf
    exact cm_zret (Or.inl rfl) (pc := 10) hAe hQ hx hb hr hlocks hP hD hS [0, 1, 2, 3] (by decide) rfl dX6_add_10
