def fX11_needed_L67 (v2 : Int32) (v8_53 : Int32) (m_digits_53 : (Nat → Int32)) (kx : Int32 → Int32 → Option (Int32 × (Nat → Int32))) : Nat → Int32 → Int32 → Option (Int32 × (Nat → Int32))
  | 0, _, _ => none
  | n + 1, v9_67, v10_67 => (if v2 ≤ v10_67 then kx v9_67 v10_67 else cm_let (fX11_has v8_53 v10_67) (fun u79 => Option.bind ((if u79 = 0 then some 0 else if v10_67 < 0 ∨ 9 ≤ v10_67.toNatClampNeg then none else some (m_digits_53 v10_67.toNatClampNeg)) : Option (Int32)) (fun j82 => fX11_needed_L67 v2 v8_53 m_digits_53 kx n (v9_67 + j82) (v10_67 + 1))))
def fX11_needed_L53 (v2 : Int32) (v3 : Int32) (v4 : Int32) (m_digits_53 : (Nat → Int32)) (kx : Int32 → Int32 → Int32 → Option (Int32 × (Nat → Int32))) : Nat → Int32 → Int32 → Int32 → Option (Int32 × (Nat → Int32))
  | 0, _, _, _ => none
  | n + 1, v6_53, v7_53, v8_53 => (if (1 <<< (v2 &&& 31)) ≤ v8_53 then kx v6_53 v7_53 v8_53 else fX11_needed_L67 v2 v8_53 m_digits_53 (fun v9_67 v10_67 => cm_let ((if v9_67 < v3 then 0 else 1) : Int32) (fun j110 => cm_let (fX11_has v8_53 v4) (fun u127 => Option.bind ((if u127 = 0 then some 0 else (if v9_67 < v3 then some 0 else if v4 < 0 ∨ 9 ≤ v4.toNatClampNeg then none else (if v3 ≤ (v9_67 - (m_digits_53 v4.toNatClampNeg)) then some 0 else some 1))) : Option (Int32)) (fun j130 => fX11_needed_L53 v2 v3 v4 m_digits_53 kx n (v6_53 + j130) (v7_53 + j110) (v8_53 + 1))))) 5000 0 0)
def fX11_needed (v1 : Int32) (v2 : Int32) (v3 : Int32) (v4 : Int32) (v5 : Int32) (m_digits : (Nat → Int32)) : Option (Int32 × (Nat → Int32)) := Option.bind (fX11_layRow v1 v2 m_digits) (fun u3 => (if u3.1 = 0 then some ((-2), u3.2) else cm_let (fX11_in v3 1 81) (fun u13 => (if u13 = 0 then some ((-2), u3.2) else cm_let (fX11_in v4 0 (v2 - 1)) (fun u25 => (if u25 = 0 then some ((-2), u3.2) else cm_let (fX11_in v5 0 1) (fun u35 => (if u35 = 0 then some ((-2), u3.2) else fX11_needed_L53 v2 v3 v4 u3.2 (fun v6_53 v7_53 v8_53 => (if v5 = 0 then some (v6_53, u3.2) else some (v7_53, u3.2))) 5000 0 0 0))))))))
def rmX11_needed : Room := { frames := 2, cells := 0, slots := 0, locals := 46 }
set_option maxRecDepth 100000 in
set_option maxHeartbeats 4000000 in
theorem c_X11_needed (l : Launch) (D : va_G) (cI cJ cZ : ClassId) (a a_book a_now a_sight a_pad a_digits a_without a_with a_counts a_fewest a_ways a_more a_chooses a_image a_isKept : Nat) (m_sights : Int32) (m_signs : Int32) (m_sold : Int32) (m_markets : Int32) (m_marketAt : Int32) (m_reason : Int32) (m_acts : Int32) (m_digits : (Nat → Int32)) (v1 : Int32) (v2 : Int32) (v3 : Int32) (v4 : Int32) (v5 : Int32) (res : Int32 × (Nat → Int32)) (hf : fX11_needed v1 v2 v3 v4 v5 m_digits = some res) : Ct l yX11_needed (cm_ws yX11_needed cX11_needed 11 (some .int)) rmX11_needed D (cm_T cI cJ cZ) [.ref a, .int v1, .int v2, .int v3, .int v4, .int v5] [(a, .inr (11, [.ref a_book, .ref a_now, .int m_sights, .ref a_sight, .int m_signs, .ref a_pad, .int m_sold, .int m_markets, .int m_marketAt, .int m_reason, .int m_acts, .ref a_digits, .ref a_without, .ref a_with, .ref a_counts, .ref a_fewest, .ref a_ways, .ref a_more, .ref a_chooses, .ref a_image, .ref a_isKept])), cm_kI cI a_digits 9 m_digits] (some (.int res.1)) [(a, .inr (11, [.ref a_book, .ref a_now, .int m_sights, .ref a_sight, .int m_signs, .ref a_pad, .int m_sold, .int m_markets, .int m_marketAt, .int m_reason, .int m_acts, .ref a_digits, .ref a_without, .ref a_with, .ref a_counts, .ref a_fewest, .ref a_ways, .ref a_more, .ref a_chooses, .ref a_image, .ref a_isKept])), cm_kI cI a_digits 9 res.2] := by
  refine Ct.of (cc := cX11_needed) (maxL := 11) (ret := (some .int)) (by decide) (Nat.le_of_ble_eq_true rfl) ?_
  intro p e s m below meth c ls args A Q hav hAe hQ hx hb hr hml hown hlocks hts hK hP hD hA hS hl
  have hKa := hK.1
  have hl : lv_has ls 11 [(0, .ref a), (1, .int v1), (2, .int v2), (3, .int v3), (4, .int v4), (5, .int v5)] := hl
  unfold fX11_needed at hf
  refine lv_aload_n (pc := 0) hx hb dX11_needed_0 rfl (lv_at hl 0 rfl) ?_
  refine lv_iload_n (pc := 1) hx hb dX11_needed_1 rfl (lv_at hl 1 rfl) ?_
  refine lv_iload_n (pc := 2) hx hb dX11_needed_2 rfl (lv_at hl 2 rfl) ?_
  obtain ⟨u3, hu3, hf⟩ := cm_bd hf
  refine cm_callV (pc := 3) (As := [.int v1, .int v2]) (rest := []) (wr := []) (ci := 11) (q0 := 0) (n := 2) hx hb hml hown hts hK hP hD hS hA (c_X11_layRow l D cI cJ cZ a a_book a_now a_sight a_pad a_digits a_without a_with a_counts a_fewest a_ways a_more a_chooses a_image a_isKept m_sights m_signs m_sold m_markets m_marketAt m_reason m_acts m_digits v1 v2 u3 hu3) tw_895 tw_892 tw_894 tw_41 tw_56 rfl rfl (by decide +kernel) rfl ⟨Nat.le_of_ble_eq_true rfl, Nat.le_of_ble_eq_true rfl⟩ [0, 1] [] rfl (by decide) rfl (by decide) (by decide) rfl rfl rfl hl.1 rfl (Nat.le_of_ble_eq_true rfl) dX11_needed_3 ⟨Nat.zero_le _, Nat.zero_le _⟩ (fun H locs hP hD hS => ?_)
  have hP : va_P D vwCl [(a, .inr (11, [.ref a_book, .ref a_now, .int m_sights, .ref a_sight, .int m_signs, .ref a_pad, .int m_sold, .int m_markets, .int m_marketAt, .int m_reason, .int m_acts, .ref a_digits, .ref a_without, .ref a_with, .ref a_counts, .ref a_fewest, .ref a_ways, .ref a_more, .ref a_chooses, .ref a_image, .ref a_isKept])), cm_kI cI a_digits 9 u3.2] H := hP
  have hD : va_D A [(a, .inr (11, [.ref a_book, .ref a_now, .int m_sights, .ref a_sight, .int m_signs, .ref a_pad, .int m_sold, .int m_markets, .int m_marketAt, .int m_reason, .int m_acts, .ref a_digits, .ref a_without, .ref a_with, .ref a_counts, .ref a_fewest, .ref a_ways, .ref a_more, .ref a_chooses, .ref a_image, .ref a_isKept])), cm_kI cI a_digits 9 u3.2] := hD
  refine W.eq (g2 := F0 m 6 ls [.int u3.1]) rfl ?_
  refine lv_if_eq (pc := 6) (tgt := 41) hx hb dX11_needed_6 (by decide) (fun c_6 => ?_) (fun c_6 => ?_)
  · have hf := cm_ip c_6 hf
    refine lv_bipush (pc := 41) (v := (-2)) hx hb dX11_needed_41 (by decide) ?_
    obtain rfl := Option.some.inj hf
    exact cm_iret (pc := 43) hAe hQ hx hb hr hlocks hP hD hS [0, 1] (by decide) rfl dX11_needed_43
  · have hf := cm_in c_6 hf
    refine lv_iload_n (pc := 9) hx hb dX11_needed_9 rfl (lv_at hl 3 rfl) ?_
    refine lv_iconst (pc := 10) (v := 1) hx hb dX11_needed_10 (by decide) ?_
    refine lv_bipush (pc := 11) (v := 81) hx hb dX11_needed_11 (by decide) ?_
    obtain ⟨u13, hu13, hf⟩ := cm_lt hf
    refine cm_callS (pc := 13) (As := [.int v3, .int 1, .int 81]) (rest := []) (wr := [(a, .inr (11, [.ref a_book, .ref a_now, .int m_sights, .ref a_sight, .int m_signs, .ref a_pad, .int m_sold, .int m_markets, .int m_marketAt, .int m_reason, .int m_acts, .ref a_digits, .ref a_without, .ref a_with, .ref a_counts, .ref a_fewest, .ref a_ways, .ref a_more, .ref a_chooses, .ref a_image, .ref a_isKept])), cm_kI cI a_digits 9 u3.2]) (n := 3) hx hb hml hown hts hK hP hD hS hA (c_X11_in l D cI cJ cZ v3 1 81 u13 hu13) tw_783 tw_781 tw_782 tw_56 rfl rfl (by decide +kernel) rfl ⟨Nat.le_of_ble_eq_true rfl, Nat.le_of_ble_eq_true rfl⟩ [] [0, 1] rfl (by decide) rfl (by decide) (by decide) hl.1 rfl (Nat.le_of_ble_eq_true rfl) dX11_needed_13 ⟨Nat.zero_le _, Nat.zero_le _⟩ (fun H locs hP hD hS => ?_)
    have hP : va_P D vwCl [(a, .inr (11, [.ref a_book, .ref a_now, .int m_sights, .ref a_sight, .int m_signs, .ref a_pad, .int m_sold, .int m_markets, .int m_marketAt, .int m_reason, .int m_acts, .ref a_digits, .ref a_without, .ref a_with, .ref a_counts, .ref a_fewest, .ref a_ways, .ref a_more, .ref a_chooses, .ref a_image, .ref a_isKept])), cm_kI cI a_digits 9 u3.2] H := hP
    have hD : va_D A [(a, .inr (11, [.ref a_book, .ref a_now, .int m_sights, .ref a_sight, .int m_signs, .ref a_pad, .int m_sold, .int m_markets, .int m_marketAt, .int m_reason, .int m_acts, .ref a_digits, .ref a_without, .ref a_with, .ref a_counts, .ref a_fewest, .ref a_ways, .ref a_more, .ref a_chooses, .ref a_image, .ref a_isKept])), cm_kI cI a_digits 9 u3.2] := hD
    refine W.eq (g2 := F0 m 16 ls [.int u13]) rfl ?_
    refine lv_if_eq (pc := 16) (tgt := 41) hx hb dX11_needed_16 (by decide) (fun c_16 => ?_) (fun c_16 => ?_)
    · have hf := cm_ip c_16 hf
      refine lv_bipush (pc := 41) (v := (-2)) hx hb dX11_needed_41 (by decide) ?_
      obtain rfl := Option.some.inj hf
      exact cm_iret (pc := 43) hAe hQ hx hb hr hlocks hP hD hS [0, 1] (by decide) rfl dX11_needed_43
    · have hf := cm_in c_16 hf
      refine lv_iload (pc := 19) hx hb dX11_needed_19 (lv_at hl 4 rfl) ?_
      refine lv_iconst (pc := 21) (v := 0) hx hb dX11_needed_21 (by decide) ?_
      refine lv_iload_n (pc := 22) hx hb dX11_needed_22 rfl (lv_at hl 2 rfl) ?_
      refine lv_iconst (pc := 23) (v := 1) hx hb dX11_needed_23 (by decide) ?_
      refine lv_isub (pc := 24) hx hb dX11_needed_24 ?_
      obtain ⟨u25, hu25, hf⟩ := cm_lt hf
      refine cm_callS (pc := 25) (As := [.int v4, .int 0, .int (v2 - 1)]) (rest := []) (wr := [(a, .inr (11, [.ref a_book, .ref a_now, .int m_sights, .ref a_sight, .int m_signs, .ref a_pad, .int m_sold, .int m_markets, .int m_marketAt, .int m_reason, .int m_acts, .ref a_digits, .ref a_without, .ref a_with, .ref a_counts, .ref a_fewest, .ref a_ways, .ref a_more, .ref a_chooses, .ref a_image, .ref a_isKept])), cm_kI cI a_digits 9 u3.2]) (n := 3) hx hb hml hown hts hK hP hD hS hA (c_X11_in l D cI cJ cZ v4 0 (v2 - 1) u25 hu25) tw_783 tw_781 tw_782 tw_56 rfl rfl (by decide +kernel) rfl ⟨Nat.le_of_ble_eq_true rfl, Nat.le_of_ble_eq_true rfl⟩ [] [0, 1] rfl (by decide) rfl (by decide) (by decide) hl.1 rfl (Nat.le_of_ble_eq_true rfl) dX11_needed_25 ⟨Nat.zero_le _, Nat.zero_le _⟩ (fun H locs hP hD hS => ?_)
      have hP : va_P D vwCl [(a, .inr (11, [.ref a_book, .ref a_now, .int m_sights, .ref a_sight, .int m_signs, .ref a_pad, .int m_sold, .int m_markets, .int m_marketAt, .int m_reason, .int m_acts, .ref a_digits, .ref a_without, .ref a_with, .ref a_counts, .ref a_fewest, .ref a_ways, .ref a_more, .ref a_chooses, .ref a_image, .ref a_isKept])), cm_kI cI a_digits 9 u3.2] H := hP
      have hD : va_D A [(a, .inr (11, [.ref a_book, .ref a_now, .int m_sights, .ref a_sight, .int m_signs, .ref a_pad, .int m_sold, .int m_markets, .int m_marketAt, .int m_reason, .int m_acts, .ref a_digits, .ref a_without, .ref a_with, .ref a_counts, .ref a_fewest, .ref a_ways, .ref a_more, .ref a_chooses, .ref a_image, .ref a_isKept])), cm_kI cI a_digits 9 u3.2] := hD
      refine W.eq (g2 := F0 m 28 ls [.int u25]) rfl ?_
      refine lv_if_eq (pc := 28) (tgt := 41) hx hb dX11_needed_28 (by decide) (fun c_28 => ?_) (fun c_28 => ?_)
      · have hf := cm_ip c_28 hf
        refine lv_bipush (pc := 41) (v := (-2)) hx hb dX11_needed_41 (by decide) ?_
        obtain rfl := Option.some.inj hf
        exact cm_iret (pc := 43) hAe hQ hx hb hr hlocks hP hD hS [0, 1] (by decide) rfl dX11_needed_43
      · have hf := cm_in c_28 hf
        refine lv_iload (pc := 31) hx hb dX11_needed_31 (lv_at hl 5 rfl) ?_
        refine lv_iconst (pc := 33) (v := 0) hx hb dX11_needed_33 (by decide) ?_
        refine lv_iconst (pc := 34) (v := 1) hx hb dX11_needed_34 (by decide) ?_
        obtain ⟨u35, hu35, hf⟩ := cm_lt hf
        refine cm_callS (pc := 35) (As := [.int v5, .int 0, .int 1]) (rest := []) (wr := [(a, .inr (11, [.ref a_book, .ref a_now, .int m_sights, .ref a_sight, .int m_signs, .ref a_pad, .int m_sold, .int m_markets, .int m_marketAt, .int m_reason, .int m_acts, .ref a_digits, .ref a_without, .ref a_with, .ref a_counts, .ref a_fewest, .ref a_ways, .ref a_more, .ref a_chooses, .ref a_image, .ref a_isKept])), cm_kI cI a_digits 9 u3.2]) (n := 3) hx hb hml hown hts hK hP hD hS hA (c_X11_in l D cI cJ cZ v5 0 1 u35 hu35) tw_783 tw_781 tw_782 tw_56 rfl rfl (by decide +kernel) rfl ⟨Nat.le_of_ble_eq_true rfl, Nat.le_of_ble_eq_true rfl⟩ [] [0, 1] rfl (by decide) rfl (by decide) (by decide) hl.1 rfl (Nat.le_of_ble_eq_true rfl) dX11_needed_35 ⟨Nat.zero_le _, Nat.zero_le _⟩ (fun H locs hP hD hS => ?_)
        have hP : va_P D vwCl [(a, .inr (11, [.ref a_book, .ref a_now, .int m_sights, .ref a_sight, .int m_signs, .ref a_pad, .int m_sold, .int m_markets, .int m_marketAt, .int m_reason, .int m_acts, .ref a_digits, .ref a_without, .ref a_with, .ref a_counts, .ref a_fewest, .ref a_ways, .ref a_more, .ref a_chooses, .ref a_image, .ref a_isKept])), cm_kI cI a_digits 9 u3.2] H := hP
        have hD : va_D A [(a, .inr (11, [.ref a_book, .ref a_now, .int m_sights, .ref a_sight, .int m_signs, .ref a_pad, .int m_sold, .int m_markets, .int m_marketAt, .int m_reason, .int m_acts, .ref a_digits, .ref a_without, .ref a_with, .ref a_counts, .ref a_fewest, .ref a_ways, .ref a_more, .ref a_chooses, .ref a_image, .ref a_isKept])), cm_kI cI a_digits 9 u3.2] := hD
        refine W.eq (g2 := F0 m 38 ls [.int u35]) rfl ?_
        refine lv_if_ne (pc := 38) (tgt := 44) hx hb dX11_needed_38 (by decide) (fun c_38 => ?_) (fun c_38 => ?_)
        · have hf := cm_in c_38 hf
          refine lv_iconst (pc := 44) (v := 0) hx hb dX11_needed_44 (by decide) ?_
          refine lv_istore (pc := 45) (lv' := [(6, .int 0), (0, .ref a), (1, .int v1), (2, .int v2), (3, .int v3), (4, .int v4), (5, .int v5)]) hx hb dX11_needed_45 hl (by decide) rfl (fun ls hl => ?_)
          refine lv_iconst (pc := 47) (v := 0) hx hb dX11_needed_47 (by decide) ?_
          refine lv_istore (pc := 48) (lv' := [(7, .int 0), (6, .int 0), (0, .ref a), (1, .int v1), (2, .int v2), (3, .int v3), (4, .int v4), (5, .int v5)]) hx hb dX11_needed_48 hl (by decide) rfl (fun ls hl => ?_)
          refine lv_iconst (pc := 50) (v := 0) hx hb dX11_needed_50 (by decide) ?_
          refine lv_istore (pc := 51) (lv' := [(8, .int 0), (7, .int 0), (6, .int 0), (0, .ref a), (1, .int v1), (2, .int v2), (3, .int v3), (4, .int v4), (5, .int v5)]) hx hb dX11_needed_51 hl (by decide) rfl (fun ls hl => ?_)
          have L53 : ∀ (m_digits_53 : (Nat → Int32)) (kx : Int32 → Int32 → Int32 → Option (Int32 × (Nat → Int32))), (∀ (v6_53 : Int32) (v7_53 : Int32) (v8_53 : Int32) (H : Heap) (locs : List Loc) (ls : Array Slot), va_P D vwCl [(a, .inr (11, [.ref a_book, .ref a_now, .int m_sights, .ref a_sight, .int m_signs, .ref a_pad, .int m_sold, .int m_markets, .int m_marketAt, .int m_reason, .int m_acts, .ref a_digits, .ref a_without, .ref a_with, .ref a_counts, .ref a_fewest, .ref a_ways, .ref a_more, .ref a_chooses, .ref a_image, .ref a_isKept])), cm_kI cI a_digits 9 m_digits_53] H → va_D A [(a, .inr (11, [.ref a_book, .ref a_now, .int m_sights, .ref a_sight, .int m_signs, .ref a_pad, .int m_sold, .int m_markets, .int m_marketAt, .int m_reason, .int m_acts, .ref a_digits, .ref a_without, .ref a_with, .ref a_counts, .ref a_fewest, .ref a_ways, .ref a_more, .ref a_chooses, .ref a_image, .ref a_isKept])), cm_kI cI a_digits 9 m_digits_53] → va_S A s.heap H locs → lv_has ls 11 [(7, .int v7_53), (6, .int v6_53), (5, .int v5)] → kx v6_53 v7_53 v8_53 = some res → W p l e rmX11_needed s m args below meth c H locs 0 0 Q (F0 m 167 ls [])) → ∀ (n : Nat) (v6_53 : Int32) (v7_53 : Int32) (v8_53 : Int32) (H : Heap) (locs : List Loc) (ls : Array Slot), va_P D vwCl [(a, .inr (11, [.ref a_book, .ref a_now, .int m_sights, .ref a_sight, .int m_signs, .ref a_pad, .int m_sold, .int m_markets, .int m_marketAt, .int m_reason, .int m_acts, .ref a_digits, .ref a_without, .ref a_with, .ref a_counts, .ref a_fewest, .ref a_ways, .ref a_more, .ref a_chooses, .ref a_image, .ref a_isKept])), cm_kI cI a_digits 9 m_digits_53] H → va_D A [(a, .inr (11, [.ref a_book, .ref a_now, .int m_sights, .ref a_sight, .int m_signs, .ref a_pad, .int m_sold, .int m_markets, .int m_marketAt, .int m_reason, .int m_acts, .ref a_digits, .ref a_without, .ref a_with, .ref a_counts, .ref a_fewest, .ref a_ways, .ref a_more, .ref a_chooses, .ref a_image, .ref a_isKept])), cm_kI cI a_digits 9 m_digits_53] → va_S A s.heap H locs → lv_has ls 11 [(8, .int v8_53), (7, .int v7_53), (6, .int v6_53), (0, .ref a), (2, .int v2), (3, .int v3), (4, .int v4), (5, .int v5)] → fX11_needed_L53 v2 v3 v4 m_digits_53 kx n v6_53 v7_53 v8_53 = some res → W p l e rmX11_needed s m args below meth c H locs 0 0 Q (F0 m 53 ls []) := by
            intro m_digits_53 kx hkx n
            induction n with
            | zero => intro v6_53 v7_53 v8_53 H locs ls hP hD hS hl hf; cases hf
            | succ n ih =>
              intro v6_53 v7_53 v8_53 H locs ls hP hD hS hl hf
              rw [fX11_needed_L53] at hf
              refine lv_iload (pc := 53) hx hb dX11_needed_53 (lv_at hl 0 rfl) ?_
              refine lv_iconst (pc := 55) (v := 1) hx hb dX11_needed_55 (by decide) ?_
              refine lv_iload_n (pc := 56) hx hb dX11_needed_56 rfl (lv_at hl 4 rfl) ?_
              refine lv_ishl (pc := 57) hx hb dX11_needed_57 ?_
              refine lv_icmp_ge (pc := 58) (tgt := 167) hx hb dX11_needed_58 (by decide) (fun c_58 => ?_) (fun c_58 => ?_)
              · have hf := cm_ip c_58 hf
                exact hkx v6_53 v7_53 v8_53 _ _ _ hP hD hS (lv_sub hl [1, 2, 7] rfl) hf
              · have hf := cm_in c_58 hf
                refine lv_iconst (pc := 61) (v := 0) hx hb dX11_needed_61 (by decide) ?_
                refine lv_istore (pc := 62) (lv' := [(9, .int 0), (8, .int v8_53), (7, .int v7_53), (6, .int v6_53), (0, .ref a), (2, .int v2), (3, .int v3), (4, .int v4), (5, .int v5)]) hx hb dX11_needed_62 hl (by decide) rfl (fun ls hl => ?_)
                refine lv_iconst (pc := 64) (v := 0) hx hb dX11_needed_64 (by decide) ?_
                refine lv_istore (pc := 65) (lv' := [(10, .int 0), (9, .int 0), (8, .int v8_53), (7, .int v7_53), (6, .int v6_53), (0, .ref a), (2, .int v2), (3, .int v3), (4, .int v4), (5, .int v5)]) hx hb dX11_needed_65 hl (by decide) rfl (fun ls hl => ?_)
                have L67 : ∀ (kx : Int32 → Int32 → Option (Int32 × (Nat → Int32))), (∀ (v9_67 : Int32) (v10_67 : Int32) (H : Heap) (locs : List Loc) (ls : Array Slot), va_P D vwCl [(a, .inr (11, [.ref a_book, .ref a_now, .int m_sights, .ref a_sight, .int m_signs, .ref a_pad, .int m_sold, .int m_markets, .int m_marketAt, .int m_reason, .int m_acts, .ref a_digits, .ref a_without, .ref a_with, .ref a_counts, .ref a_fewest, .ref a_ways, .ref a_more, .ref a_chooses, .ref a_image, .ref a_isKept])), cm_kI cI a_digits 9 m_digits_53] H → va_D A [(a, .inr (11, [.ref a_book, .ref a_now, .int m_sights, .ref a_sight, .int m_signs, .ref a_pad, .int m_sold, .int m_markets, .int m_marketAt, .int m_reason, .int m_acts, .ref a_digits, .ref a_without, .ref a_with, .ref a_counts, .ref a_fewest, .ref a_ways, .ref a_more, .ref a_chooses, .ref a_image, .ref a_isKept])), cm_kI cI a_digits 9 m_digits_53] → va_S A s.heap H locs → lv_has ls 11 [(9, .int v9_67), (8, .int v8_53), (7, .int v7_53), (6, .int v6_53), (0, .ref a), (2, .int v2), (3, .int v3), (4, .int v4), (5, .int v5)] → kx v9_67 v10_67 = some res → W p l e rmX11_needed s m args below meth c H locs 0 0 Q (F0 m 105 ls [])) → ∀ (n : Nat) (v9_67 : Int32) (v10_67 : Int32) (H : Heap) (locs : List Loc) (ls : Array Slot), va_P D vwCl [(a, .inr (11, [.ref a_book, .ref a_now, .int m_sights, .ref a_sight, .int m_signs, .ref a_pad, .int m_sold, .int m_markets, .int m_marketAt, .int m_reason, .int m_acts, .ref a_digits, .ref a_without, .ref a_with, .ref a_counts, .ref a_fewest, .ref a_ways, .ref a_more, .ref a_chooses, .ref a_image, .ref a_isKept])), cm_kI cI a_digits 9 m_digits_53] H → va_D A [(a, .inr (11, [.ref a_book, .ref a_now, .int m_sights, .ref a_sight, .int m_signs, .ref a_pad, .int m_sold, .int m_markets, .int m_marketAt, .int m_reason, .int m_acts, .ref a_digits, .ref a_without, .ref a_with, .ref a_counts, .ref a_fewest, .ref a_ways, .ref a_more, .ref a_chooses, .ref a_image, .ref a_isKept])), cm_kI cI a_digits 9 m_digits_53] → va_S A s.heap H locs → lv_has ls 11 [(10, .int v10_67), (9, .int v9_67), (8, .int v8_53), (7, .int v7_53), (6, .int v6_53), (0, .ref a), (2, .int v2), (3, .int v3), (4, .int v4), (5, .int v5)] → fX11_needed_L67 v2 v8_53 m_digits_53 kx n v9_67 v10_67 = some res → W p l e rmX11_needed s m args below meth c H locs 0 0 Q (F0 m 67 ls []) := by
                  intro kx hkx n
                  induction n with
                  | zero => intro v9_67 v10_67 H locs ls hP hD hS hl hf; cases hf
                  | succ n ih =>
                    intro v9_67 v10_67 H locs ls hP hD hS hl hf
                    rw [fX11_needed_L67] at hf
                    refine lv_iload (pc := 67) hx hb dX11_needed_67 (lv_at hl 0 rfl) ?_
                    refine lv_iload_n (pc := 69) hx hb dX11_needed_69 rfl (lv_at hl 6 rfl) ?_
                    refine lv_icmp_ge (pc := 70) (tgt := 105) hx hb dX11_needed_70 (by decide) (fun c_70 => ?_) (fun c_70 => ?_)
                    · have hf := cm_ip c_70 hf
                      exact hkx v9_67 v10_67 _ _ _ hP hD hS (lv_sub hl [1, 2, 3, 4, 5, 6, 7, 8, 9] rfl) hf
                    · have hf := cm_in c_70 hf
                      refine lv_iload (pc := 73) hx hb dX11_needed_73 (lv_at hl 1 rfl) ?_
                      refine lv_iload (pc := 75) hx hb dX11_needed_75 (lv_at hl 2 rfl) ?_
                      refine lv_iload (pc := 77) hx hb dX11_needed_77 (lv_at hl 0 rfl) ?_
                      obtain ⟨u79, hu79, hf⟩ := cm_lt hf
                      refine cm_callS (pc := 79) (As := [.int v8_53, .int v10_67]) (rest := [.int v9_67]) (wr := [(a, .inr (11, [.ref a_book, .ref a_now, .int m_sights, .ref a_sight, .int m_signs, .ref a_pad, .int m_sold, .int m_markets, .int m_marketAt, .int m_reason, .int m_acts, .ref a_digits, .ref a_without, .ref a_with, .ref a_counts, .ref a_fewest, .ref a_ways, .ref a_more, .ref a_chooses, .ref a_image, .ref a_isKept])), cm_kI cI a_digits 9 m_digits_53]) (n := 2) hx hb hml hown hts hK hP hD hS hA (c_X11_has l D cI cJ cZ v8_53 v10_67 u79 hu79) tw_898 tw_896 tw_897 tw_56 rfl rfl (by decide +kernel) rfl ⟨Nat.le_of_ble_eq_true rfl, Nat.le_of_ble_eq_true rfl⟩ [] [0, 1] rfl (by decide) rfl (by decide) (by decide) hl.1 rfl (Nat.le_of_ble_eq_true rfl) dX11_needed_79 ⟨Nat.zero_le _, Nat.zero_le _⟩ (fun H locs hP hD hS => ?_)
                      have hP : va_P D vwCl [(a, .inr (11, [.ref a_book, .ref a_now, .int m_sights, .ref a_sight, .int m_signs, .ref a_pad, .int m_sold, .int m_markets, .int m_marketAt, .int m_reason, .int m_acts, .ref a_digits, .ref a_without, .ref a_with, .ref a_counts, .ref a_fewest, .ref a_ways, .ref a_more, .ref a_chooses, .ref a_image, .ref a_isKept])), cm_kI cI a_digits 9 m_digits_53] H := hP
                      have hD : va_D A [(a, .inr (11, [.ref a_book, .ref a_now, .int m_sights, .ref a_sight, .int m_signs, .ref a_pad, .int m_sold, .int m_markets, .int m_marketAt, .int m_reason, .int m_acts, .ref a_digits, .ref a_without, .ref a_with, .ref a_counts, .ref a_fewest, .ref a_ways, .ref a_more, .ref a_chooses, .ref a_image, .ref a_isKept])), cm_kI cI a_digits 9 m_digits_53] := hD
                      refine W.eq (g2 := F0 m 82 ls [.int u79, .int v9_67]) rfl ?_
                      obtain ⟨j82, hj82, hf⟩ := cm_bd hf
                      have J82 : ∀ (H : Heap) (locs : List Loc) (ls : Array Slot), va_P D vwCl [(a, .inr (11, [.ref a_book, .ref a_now, .int m_sights, .ref a_sight, .int m_signs, .ref a_pad, .int m_sold, .int m_markets, .int m_marketAt, .int m_reason, .int m_acts, .ref a_digits, .ref a_without, .ref a_with, .ref a_counts, .ref a_fewest, .ref a_ways, .ref a_more, .ref a_chooses, .ref a_image, .ref a_isKept])), cm_kI cI a_digits 9 m_digits_53] H → va_D A [(a, .inr (11, [.ref a_book, .ref a_now, .int m_sights, .ref a_sight, .int m_signs, .ref a_pad, .int m_sold, .int m_markets, .int m_marketAt, .int m_reason, .int m_acts, .ref a_digits, .ref a_without, .ref a_with, .ref a_counts, .ref a_fewest, .ref a_ways, .ref a_more, .ref a_chooses, .ref a_image, .ref a_isKept])), cm_kI cI a_digits 9 m_digits_53] → va_S A s.heap H locs → lv_has ls 11 [(10, .int v10_67), (8, .int v8_53), (7, .int v7_53), (6, .int v6_53), (0, .ref a), (2, .int v2), (3, .int v3), (4, .int v4), (5, .int v5)] → W p l e rmX11_needed s m args below meth c H locs 0 0 Q (F0 m 96 ls [.int j82, .int v9_67]) := by
                        intro H locs ls hP hD hS hl
                        refine lv_iadd (pc := 96) hx hb dX11_needed_96 ?_
                        refine lv_istore (pc := 97) (lv' := [(9, .int (v9_67 + j82)), (10, .int v10_67), (8, .int v8_53), (7, .int v7_53), (6, .int v6_53), (0, .ref a), (2, .int v2), (3, .int v3), (4, .int v4), (5, .int v5)]) hx hb dX11_needed_97 hl (by decide) rfl (fun ls hl => ?_)
                        refine lv_iinc (pc := 99) (v := (v10_67 + 1)) (lv' := [(10, .int (v10_67 + 1)), (9, .int (v9_67 + j82)), (8, .int v8_53), (7, .int v7_53), (6, .int v6_53), (0, .ref a), (2, .int v2), (3, .int v3), (4, .int v4), (5, .int v5)]) hx hb dX11_needed_99 hl (k := 1) rfl rfl (by decide) rfl (fun ls hl => ?_)
                        refine lv_goto (pc := 102) (tgt := 67) hx hb dX11_needed_102 (by decide) ?_
                        exact ih (v9_67 + j82) (v10_67 + 1) _ _ _ hP hD hS (lv_sub hl [0, 1, 2, 3, 4, 5, 6, 7, 8, 9] rfl) hf
                      clear hf
                      have hf := hj82
                      refine lv_if_eq (pc := 82) (tgt := 95) hx hb dX11_needed_82 (by decide) (fun c_82 => ?_) (fun c_82 => ?_)
                      · have hf := cm_ip c_82 hf
                        refine lv_iconst (pc := 95) (v := 0) hx hb dX11_needed_95 (by decide) ?_
                        obtain rfl := Option.some.inj hf
                        exact J82 _ _ _ hP hD hS (lv_sub hl [0, 2, 3, 4, 5, 6, 7, 8, 9] rfl)
                      · have hf := cm_in c_82 hf
                        refine lv_aload_n (pc := 85) hx hb dX11_needed_85 rfl (lv_at hl 5 rfl) ?_
                        refine va_get (pc := 86) (D := D) (ci := 11) (v := .ref a_digits) (C := RX11) (T := TX11) (N := 21) hx hb hts in_X11 hown hKa hP 0 rfl rfl 11 (by decide) (hts _ tw_723) (fun _ h9 => h9) rfl dX11_needed_86 ?_
                        refine lv_iload (pc := 89) hx hb dX11_needed_89 (lv_at hl 0 rfl) ?_
                        obtain ⟨b_91, hf⟩ := cm_ob hf
                        refine va_iald (pc := 91) hx hb hKa hP 1 0 rfl rfl b_91 dX11_needed_91 ?_
                        refine lv_goto (pc := 92) (tgt := 96) hx hb dX11_needed_92 (by decide) ?_
                        obtain rfl := Option.some.inj hf
                        exact J82 _ _ _ hP hD hS (lv_sub hl [0, 2, 3, 4, 5, 6, 7, 8, 9] rfl)
                refine L67 _ (fun v9_67 v10_67 H locs ls hP hD hS hl hf => ?_) 5000 0 0 _ _ _ hP hD hS (lv_sub hl [0, 1, 2, 3, 4, 5, 6, 7, 8, 9] rfl) hf
                refine lv_iload (pc := 105) hx hb dX11_needed_105 (lv_at hl 2 rfl) ?_
                refine lv_iload (pc := 107) hx hb dX11_needed_107 (lv_at hl 0 rfl) ?_
                refine lv_iload_n (pc := 109) hx hb dX11_needed_109 rfl (lv_at hl 6 rfl) ?_
                obtain ⟨j110, hj110, hf⟩ := cm_lt hf
                have J110 : ∀ (H : Heap) (locs : List Loc) (ls : Array Slot), va_P D vwCl [(a, .inr (11, [.ref a_book, .ref a_now, .int m_sights, .ref a_sight, .int m_signs, .ref a_pad, .int m_sold, .int m_markets, .int m_marketAt, .int m_reason, .int m_acts, .ref a_digits, .ref a_without, .ref a_with, .ref a_counts, .ref a_fewest, .ref a_ways, .ref a_more, .ref a_chooses, .ref a_image, .ref a_isKept])), cm_kI cI a_digits 9 m_digits_53] H → va_D A [(a, .inr (11, [.ref a_book, .ref a_now, .int m_sights, .ref a_sight, .int m_signs, .ref a_pad, .int m_sold, .int m_markets, .int m_marketAt, .int m_reason, .int m_acts, .ref a_digits, .ref a_without, .ref a_with, .ref a_counts, .ref a_fewest, .ref a_ways, .ref a_more, .ref a_chooses, .ref a_image, .ref a_isKept])), cm_kI cI a_digits 9 m_digits_53] → va_S A s.heap H locs → lv_has ls 11 [(9, .int v9_67), (8, .int v8_53), (6, .int v6_53), (0, .ref a), (2, .int v2), (3, .int v3), (4, .int v4), (5, .int v5)] → W p l e rmX11_needed s m args below meth c H locs 0 0 Q (F0 m 118 ls [.int j110, .int v7_53]) := by
                  intro H locs ls hP hD hS hl
                  refine lv_iadd (pc := 118) hx hb dX11_needed_118 ?_
                  refine lv_istore (pc := 119) (lv' := [(7, .int (v7_53 + j110)), (9, .int v9_67), (8, .int v8_53), (6, .int v6_53), (0, .ref a), (2, .int v2), (3, .int v3), (4, .int v4), (5, .int v5)]) hx hb dX11_needed_119 hl (by decide) rfl (fun ls hl => ?_)
                  refine lv_iload (pc := 121) hx hb dX11_needed_121 (lv_at hl 3 rfl) ?_
                  refine lv_iload (pc := 123) hx hb dX11_needed_123 (lv_at hl 2 rfl) ?_
                  refine lv_iload (pc := 125) hx hb dX11_needed_125 (lv_at hl 7 rfl) ?_
                  obtain ⟨u127, hu127, hf⟩ := cm_lt hf
                  refine cm_callS (pc := 127) (As := [.int v8_53, .int v4]) (rest := [.int v6_53]) (wr := [(a, .inr (11, [.ref a_book, .ref a_now, .int m_sights, .ref a_sight, .int m_signs, .ref a_pad, .int m_sold, .int m_markets, .int m_marketAt, .int m_reason, .int m_acts, .ref a_digits, .ref a_without, .ref a_with, .ref a_counts, .ref a_fewest, .ref a_ways, .ref a_more, .ref a_chooses, .ref a_image, .ref a_isKept])), cm_kI cI a_digits 9 m_digits_53]) (n := 2) hx hb hml hown hts hK hP hD hS hA (c_X11_has l D cI cJ cZ v8_53 v4 u127 hu127) tw_898 tw_896 tw_897 tw_56 rfl rfl (by decide +kernel) rfl ⟨Nat.le_of_ble_eq_true rfl, Nat.le_of_ble_eq_true rfl⟩ [] [0, 1] rfl (by decide) rfl (by decide) (by decide) hl.1 rfl (Nat.le_of_ble_eq_true rfl) dX11_needed_127 ⟨Nat.zero_le _, Nat.zero_le _⟩ (fun H locs hP hD hS => ?_)
                  have hP : va_P D vwCl [(a, .inr (11, [.ref a_book, .ref a_now, .int m_sights, .ref a_sight, .int m_signs, .ref a_pad, .int m_sold, .int m_markets, .int m_marketAt, .int m_reason, .int m_acts, .ref a_digits, .ref a_without, .ref a_with, .ref a_counts, .ref a_fewest, .ref a_ways, .ref a_more, .ref a_chooses, .ref a_image, .ref a_isKept])), cm_kI cI a_digits 9 m_digits_53] H := hP
                  have hD : va_D A [(a, .inr (11, [.ref a_book, .ref a_now, .int m_sights, .ref a_sight, .int m_signs, .ref a_pad, .int m_sold, .int m_markets, .int m_marketAt, .int m_reason, .int m_acts, .ref a_digits, .ref a_without, .ref a_with, .ref a_counts, .ref a_fewest, .ref a_ways, .ref a_more, .ref a_chooses, .ref a_image, .ref a_isKept])), cm_kI cI a_digits 9 m_digits_53] := hD
                  refine W.eq (g2 := F0 m 130 ls [.int u127, .int v6_53]) rfl ?_
                  obtain ⟨j130, hj130, hf⟩ := cm_bd hf
                  have J130 : ∀ (H : Heap) (locs : List Loc) (ls : Array Slot), va_P D vwCl [(a, .inr (11, [.ref a_book, .ref a_now, .int m_sights, .ref a_sight, .int m_signs, .ref a_pad, .int m_sold, .int m_markets, .int m_marketAt, .int m_reason, .int m_acts, .ref a_digits, .ref a_without, .ref a_with, .ref a_counts, .ref a_fewest, .ref a_ways, .ref a_more, .ref a_chooses, .ref a_image, .ref a_isKept])), cm_kI cI a_digits 9 m_digits_53] H → va_D A [(a, .inr (11, [.ref a_book, .ref a_now, .int m_sights, .ref a_sight, .int m_signs, .ref a_pad, .int m_sold, .int m_markets, .int m_marketAt, .int m_reason, .int m_acts, .ref a_digits, .ref a_without, .ref a_with, .ref a_counts, .ref a_fewest, .ref a_ways, .ref a_more, .ref a_chooses, .ref a_image, .ref a_isKept])), cm_kI cI a_digits 9 m_digits_53] → va_S A s.heap H locs → lv_has ls 11 [(7, .int (v7_53 + j110)), (8, .int v8_53), (0, .ref a), (2, .int v2), (3, .int v3), (4, .int v4), (5, .int v5)] → W p l e rmX11_needed s m args below meth c H locs 0 0 Q (F0 m 158 ls [.int j130, .int v6_53]) := by
                    intro H locs ls hP hD hS hl
                    refine lv_iadd (pc := 158) hx hb dX11_needed_158 ?_
                    refine lv_istore (pc := 159) (lv' := [(6, .int (v6_53 + j130)), (7, .int (v7_53 + j110)), (8, .int v8_53), (0, .ref a), (2, .int v2), (3, .int v3), (4, .int v4), (5, .int v5)]) hx hb dX11_needed_159 hl (by decide) rfl (fun ls hl => ?_)
                    refine lv_iinc (pc := 161) (v := (v8_53 + 1)) (lv' := [(8, .int (v8_53 + 1)), (6, .int (v6_53 + j130)), (7, .int (v7_53 + j110)), (0, .ref a), (2, .int v2), (3, .int v3), (4, .int v4), (5, .int v5)]) hx hb dX11_needed_161 hl (k := 2) rfl rfl (by decide) rfl (fun ls hl => ?_)
                    refine lv_goto (pc := 164) (tgt := 53) hx hb dX11_needed_164 (by decide) ?_
                    exact ih (v6_53 + j130) (v7_53 + j110) (v8_53 + 1) _ _ _ hP hD hS (lv_sub hl [0, 2, 1, 3, 4, 5, 6, 7] rfl) hf
                  clear hf
                  have hf := hj130
                  refine lv_if_eq (pc := 130) (tgt := 157) hx hb dX11_needed_130 (by decide) (fun c_130 => ?_) (fun c_130 => ?_)
                  · have hf := cm_ip c_130 hf
                    refine lv_iconst (pc := 157) (v := 0) hx hb dX11_needed_157 (by decide) ?_
                    obtain rfl := Option.some.inj hf
                    exact J130 _ _ _ hP hD hS (lv_sub hl [0, 2, 4, 5, 6, 7, 8] rfl)
                  · have hf := cm_in c_130 hf
                    refine lv_iload (pc := 133) hx hb dX11_needed_133 (lv_at hl 1 rfl) ?_
                    refine lv_iload_n (pc := 135) hx hb dX11_needed_135 rfl (lv_at hl 6 rfl) ?_
                    refine lv_icmp_lt (pc := 136) (tgt := 157) hx hb dX11_needed_136 (by decide) (fun c_136 => ?_) (fun c_136 => ?_)
                    · have hf := cm_ip c_136 hf
                      refine lv_iconst (pc := 157) (v := 0) hx hb dX11_needed_157 (by decide) ?_
                      obtain rfl := Option.some.inj hf
                      exact J130 _ _ _ hP hD hS (lv_sub hl [0, 2, 4, 5, 6, 7, 8] rfl)
                    · have hf := cm_in c_136 hf
                      refine lv_iload (pc := 139) hx hb dX11_needed_139 (lv_at hl 1 rfl) ?_
                      refine lv_aload_n (pc := 141) hx hb dX11_needed_141 rfl (lv_at hl 4 rfl) ?_
                      refine va_get (pc := 142) (D := D) (ci := 11) (v := .ref a_digits) (C := RX11) (T := TX11) (N := 21) hx hb hts in_X11 hown hKa hP 0 rfl rfl 11 (by decide) (hts _ tw_723) (fun _ h9 => h9) rfl dX11_needed_142 ?_
                      refine lv_iload (pc := 145) hx hb dX11_needed_145 (lv_at hl 7 rfl) ?_
                      obtain ⟨b_147, hf⟩ := cm_ob hf
                      refine va_iald (pc := 147) hx hb hKa hP 1 0 rfl rfl b_147 dX11_needed_147 ?_
                      refine lv_isub (pc := 148) hx hb dX11_needed_148 ?_
                      refine lv_iload_n (pc := 149) hx hb dX11_needed_149 rfl (lv_at hl 6 rfl) ?_
                      refine lv_icmp_ge (pc := 150) (tgt := 157) hx hb dX11_needed_150 (by decide) (fun c_150 => ?_) (fun c_150 => ?_)
                      · have hf := cm_ip c_150 hf
                        refine lv_iconst (pc := 157) (v := 0) hx hb dX11_needed_157 (by decide) ?_
                        obtain rfl := Option.some.inj hf
                        exact J130 _ _ _ hP hD hS (lv_sub hl [0, 2, 4, 5, 6, 7, 8] rfl)
                      · have hf := cm_in c_150 hf
                        refine lv_iconst (pc := 153) (v := 1) hx hb dX11_needed_153 (by decide) ?_
                        refine lv_goto (pc := 154) (tgt := 158) hx hb dX11_needed_154 (by decide) ?_
                        obtain rfl := Option.some.inj hf
                        exact J130 _ _ _ hP hD hS (lv_sub hl [0, 2, 4, 5, 6, 7, 8] rfl)
                clear hf
                have hf := hj110
                refine lv_icmp_lt (pc := 110) (tgt := 117) hx hb dX11_needed_110 (by decide) (fun c_110 => ?_) (fun c_110 => ?_)
                · have hf := cm_ip c_110 hf
                  refine lv_iconst (pc := 117) (v := 0) hx hb dX11_needed_117 (by decide) ?_
                  obtain rfl := hf
                  exact J110 _ _ _ hP hD hS (lv_sub hl [0, 1, 3, 4, 5, 6, 7, 8] rfl)
                · have hf := cm_in c_110 hf
                  refine lv_iconst (pc := 113) (v := 1) hx hb dX11_needed_113 (by decide) ?_
                  refine lv_goto (pc := 114) (tgt := 118) hx hb dX11_needed_114 (by decide) ?_
                  obtain rfl := hf
                  exact J110 _ _ _ hP hD hS (lv_sub hl [0, 1, 3, 4, 5, 6, 7, 8] rfl)
          refine L53 u3.2 _ (fun v6_53 v7_53 v8_53 H locs ls hP hD hS hl hf => ?_) 5000 0 0 0 _ _ _ hP hD hS (lv_sub hl [0, 1, 2, 3, 5, 6, 7, 8] rfl) hf
          refine lv_iload (pc := 167) hx hb dX11_needed_167 (lv_at hl 2 rfl) ?_
          refine lv_if_ne (pc := 169) (tgt := 177) hx hb dX11_needed_169 (by decide) (fun c_169 => ?_) (fun c_169 => ?_)
          · have hf := cm_in c_169 hf
            refine lv_iload (pc := 177) hx hb dX11_needed_177 (lv_at hl 0 rfl) ?_
            obtain rfl := Option.some.inj hf
            exact cm_iret (pc := 179) hAe hQ hx hb hr hlocks hP hD hS [0, 1] (by decide) rfl dX11_needed_179
          · have hf := cm_ip c_169 hf
            refine lv_iload (pc := 172) hx hb dX11_needed_172 (lv_at hl 1 rfl) ?_
            refine lv_goto (pc := 174) (tgt := 179) hx hb dX11_needed_174 (by decide) ?_
            obtain rfl := Option.some.inj hf
            exact cm_iret (pc := 179) hAe hQ hx hb hr hlocks hP hD hS [0, 1] (by decide) rfl dX11_needed_179
        · have hf := cm_ip c_38 hf
          refine lv_bipush (pc := 41) (v := (-2)) hx hb dX11_needed_41 (by decide) ?_
          obtain rfl := Option.some.inj hf
          exact cm_iret (pc := 43) hAe hQ hx hb hr hlocks hP hD hS [0, 1] (by decide) rfl dX11_needed_43
def fX11_trade_L35 (kx : Int32 → (Nat → Int32) → (Nat → Int32) → Option (Int32 × (Nat → Int32) × (Nat → Int32) × (Nat → Int32))) : Nat → Int32 → (Nat → Int32) → (Nat → Int32) → Option (Int32 × (Nat → Int32) × (Nat → Int32) × (Nat → Int32))
  | 0, _, _, _ => none
  | n + 1, v5_35, m_without_35, m_with_35 => (if 11 ≤ v5_35 then kx v5_35 m_without_35 m_with_35 else if v5_35 < 0 ∨ 11 ≤ v5_35.toNatClampNeg then none else if v5_35 < 0 ∨ 11 ≤ v5_35.toNatClampNeg then none else fX11_trade_L35 kx n (v5_35 + 1) (upd m_without_35 v5_35.toNatClampNeg 0) (upd m_with_35 v5_35.toNatClampNeg (-1000000)))
def fX11_trade_L77 (v3 : Int32) (v5_68 : Int32) (m_digits_68 : (Nat → Int32)) (kx : Int32 → (Nat → Int32) → (Nat → Int32) → Option (Int32 × (Nat → Int32) × (Nat → Int32) × (Nat → Int32))) : Nat → Int32 → (Nat → Int32) → (Nat → Int32) → Option (Int32 × (Nat → Int32) × (Nat → Int32) × (Nat → Int32))
  | 0, _, _, _ => none
  | n + 1, v6_77, m_without_77, m_with_77 => (if v3 < v6_77 then kx v6_77 m_without_77 m_with_77 else if v6_77 < 0 ∨ 11 ≤ v6_77.toNatClampNeg then none else if v5_68 < 0 ∨ 9 ≤ v5_68.toNatClampNeg then none else if v6_77 < 0 ∨ 11 ≤ v6_77.toNatClampNeg then none else Option.bind ((if ((m_with_77 v6_77.toNatClampNeg) + (m_digits_68 v5_68.toNatClampNeg)) ≤ (m_without_77 v6_77.toNatClampNeg) then if v6_77 < 0 ∨ 11 ≤ v6_77.toNatClampNeg then none else some (m_without_77 v6_77.toNatClampNeg) else some ((m_with_77 v6_77.toNatClampNeg) + (m_digits_68 v5_68.toNatClampNeg))) : Option (Int32)) (fun j115 => if v6_77 < 0 ∨ 11 ≤ v6_77.toNatClampNeg then none else if (v6_77 - 1) < 0 ∨ 11 ≤ (v6_77 - 1).toNatClampNeg then none else if v5_68 < 0 ∨ 9 ≤ v5_68.toNatClampNeg then none else if v6_77 < 0 ∨ 11 ≤ v6_77.toNatClampNeg then none else (if (((upd m_without_77 v6_77.toNatClampNeg j115) (v6_77 - 1).toNatClampNeg) - (m_digits_68 v5_68.toNatClampNeg)) ≤ (m_with_77 v6_77.toNatClampNeg) then if v6_77 < 0 ∨ 11 ≤ v6_77.toNatClampNeg then none else if v6_77 < 0 ∨ 11 ≤ v6_77.toNatClampNeg then none else fX11_trade_L77 v3 v5_68 m_digits_68 kx n (v6_77 + 1) (upd m_without_77 v6_77.toNatClampNeg j115) (upd m_with_77 v6_77.toNatClampNeg (m_with_77 v6_77.toNatClampNeg)) else if v6_77 < 0 ∨ 11 ≤ v6_77.toNatClampNeg then none else fX11_trade_L77 v3 v5_68 m_digits_68 kx n (v6_77 + 1) (upd m_without_77 v6_77.toNatClampNeg j115) (upd m_with_77 v6_77.toNatClampNeg (((upd m_without_77 v6_77.toNatClampNeg j115) (v6_77 - 1).toNatClampNeg) - (m_digits_68 v5_68.toNatClampNeg))))))
def fX11_trade_L68 (v2 : Int32) (v3 : Int32) (m_digits_68 : (Nat → Int32)) (kx : Int32 → (Nat → Int32) → (Nat → Int32) → Option (Int32 × (Nat → Int32) × (Nat → Int32) × (Nat → Int32))) : Nat → Int32 → (Nat → Int32) → (Nat → Int32) → Option (Int32 × (Nat → Int32) × (Nat → Int32) × (Nat → Int32))
  | 0, _, _, _ => none
  | n + 1, v5_68, m_without_68, m_with_68 => (if v2 ≤ v5_68 then kx v5_68 m_without_68 m_with_68 else fX11_trade_L77 v3 v5_68 m_digits_68 (fun v6_77 m_without_77 m_with_77 => fX11_trade_L68 v2 v3 m_digits_68 kx n (v5_68 + 1) m_without_77 m_with_77) 5000 1 m_without_68 m_with_68)
def fX11_trade_L199 (v3 : Int32) (m_without_68 : (Nat → Int32)) (kx : Int32 → Int32 → Option (Int32 × (Nat → Int32) × (Nat → Int32) × (Nat → Int32))) : Nat → Int32 → Int32 → Option (Int32 × (Nat → Int32) × (Nat → Int32) × (Nat → Int32))
  | 0, _, _ => none
  | n + 1, v5_199, v6_199 => (if v3 < v6_199 then kx v5_199 v6_199 else if v6_199 < 0 ∨ 11 ≤ v6_199.toNatClampNeg then none else if v5_199 < 0 ∨ 11 ≤ v5_199.toNatClampNeg then none else (if (m_without_68 v6_199.toNatClampNeg) ≤ (m_without_68 v5_199.toNatClampNeg) then fX11_trade_L199 v3 m_without_68 kx n v5_199 (v6_199 + 1) else fX11_trade_L199 v3 m_without_68 kx n v6_199 (v6_199 + 1)))
def fX11_trade (v1 : Int32) (v2 : Int32) (v3 : Int32) (v4 : Int32) (m_digits : (Nat → Int32)) (m_without : (Nat → Int32)) (m_with : (Nat → Int32)) : Option (Int32 × (Nat → Int32) × (Nat → Int32) × (Nat → Int32)) := Option.bind (fX11_layRow v1 v2 m_digits) (fun u3 => (if u3.1 = 0 then some ((-2), u3.2, m_without, m_with) else cm_let (fX11_in v3 0 9) (fun u13 => (if u13 = 0 then some ((-2), u3.2, m_without, m_with) else cm_let (fX11_in v4 0 1) (fun u23 => (if u23 = 0 then some ((-2), u3.2, m_without, m_with) else fX11_trade_L35 (fun v5_35 m_without_35 m_with_35 => fX11_trade_L68 v2 v3 u3.2 (fun v5_68 m_without_68 m_with_68 => fX11_trade_L199 v3 m_without_68 (fun v5_199 v6_199 => (if v4 = 0 then if v5_199 < 0 ∨ 11 ≤ v5_199.toNatClampNeg then none else some ((m_without_68 v5_199.toNatClampNeg), u3.2, m_without_68, m_with_68) else some (v5_199, u3.2, m_without_68, m_with_68))) 5000 0 1) 5000 0 m_without_35 m_with_35) 5000 0 m_without m_with))))))
def rmX11_trade : Room := { frames := 2, cells := 0, slots := 0, locals := 46 }
set_option maxRecDepth 100000 in
set_option maxHeartbeats 4000000 in
theorem c_X11_trade (l : Launch) (D : va_G) (cI cJ cZ : ClassId) (a a_book a_now a_sight a_pad a_digits a_without a_with a_counts a_fewest a_ways a_more a_chooses a_image a_isKept : Nat) (m_sights : Int32) (m_signs : Int32) (m_sold : Int32) (m_markets : Int32) (m_marketAt : Int32) (m_reason : Int32) (m_acts : Int32) (m_digits : (Nat → Int32)) (m_without : (Nat → Int32)) (m_with : (Nat → Int32)) (v1 : Int32) (v2 : Int32) (v3 : Int32) (v4 : Int32) (res : Int32 × (Nat → Int32) × (Nat → Int32) × (Nat → Int32)) (hf : fX11_trade v1 v2 v3 v4 m_digits m_without m_with = some res) : Ct l yX11_trade (cm_ws yX11_trade cX11_trade 9 (some .int)) rmX11_trade D (cm_T cI cJ cZ) [.ref a, .int v1, .int v2, .int v3, .int v4] [(a, .inr (11, [.ref a_book, .ref a_now, .int m_sights, .ref a_sight, .int m_signs, .ref a_pad, .int m_sold, .int m_markets, .int m_marketAt, .int m_reason, .int m_acts, .ref a_digits, .ref a_without, .ref a_with, .ref a_counts, .ref a_fewest, .ref a_ways, .ref a_more, .ref a_chooses, .ref a_image, .ref a_isKept])), cm_kI cI a_digits 9 m_digits, cm_kI cI a_without 11 m_without, cm_kI cI a_with 11 m_with] (some (.int res.1)) [(a, .inr (11, [.ref a_book, .ref a_now, .int m_sights, .ref a_sight, .int m_signs, .ref a_pad, .int m_sold, .int m_markets, .int m_marketAt, .int m_reason, .int m_acts, .ref a_digits, .ref a_without, .ref a_with, .ref a_counts, .ref a_fewest, .ref a_ways, .ref a_more, .ref a_chooses, .ref a_image, .ref a_isKept])), cm_kI cI a_digits 9 res.2.1, cm_kI cI a_without 11 res.2.2.1, cm_kI cI a_with 11 res.2.2.2] := by
  refine Ct.of (cc := cX11_trade) (maxL := 9) (ret := (some .int)) (by decide) (Nat.le_of_ble_eq_true rfl) ?_
  intro p e s m below meth c ls args A Q hav hAe hQ hx hb hr hml hown hlocks hts hK hP hD hA hS hl
  have hKa := hK.1
  have hl : lv_has ls 9 [(0, .ref a), (1, .int v1), (2, .int v2), (3, .int v3), (4, .int v4)] := hl
  unfold fX11_trade at hf
  refine lv_aload_n (pc := 0) hx hb dX11_trade_0 rfl (lv_at hl 0 rfl) ?_
  refine lv_iload_n (pc := 1) hx hb dX11_trade_1 rfl (lv_at hl 1 rfl) ?_
  refine lv_iload_n (pc := 2) hx hb dX11_trade_2 rfl (lv_at hl 2 rfl) ?_
  obtain ⟨u3, hu3, hf⟩ := cm_bd hf
  refine cm_callV (pc := 3) (As := [.int v1, .int v2]) (rest := []) (wr := [cm_kI cI a_without 11 m_without, cm_kI cI a_with 11 m_with]) (ci := 11) (q0 := 0) (n := 2) hx hb hml hown hts hK hP hD hS hA (c_X11_layRow l D cI cJ cZ a a_book a_now a_sight a_pad a_digits a_without a_with a_counts a_fewest a_ways a_more a_chooses a_image a_isKept m_sights m_signs m_sold m_markets m_marketAt m_reason m_acts m_digits v1 v2 u3 hu3) tw_895 tw_892 tw_894 tw_41 tw_56 rfl rfl (by decide +kernel) rfl ⟨Nat.le_of_ble_eq_true rfl, Nat.le_of_ble_eq_true rfl⟩ [0, 1] [2, 3] rfl (by decide) rfl (by decide) (by decide) rfl rfl rfl hl.1 rfl (Nat.le_of_ble_eq_true rfl) dX11_trade_3 ⟨Nat.zero_le _, Nat.zero_le _⟩ (fun H locs hP hD hS => ?_)
  have hP : va_P D vwCl [cm_kI cI a_without 11 m_without, cm_kI cI a_with 11 m_with, (a, .inr (11, [.ref a_book, .ref a_now, .int m_sights, .ref a_sight, .int m_signs, .ref a_pad, .int m_sold, .int m_markets, .int m_marketAt, .int m_reason, .int m_acts, .ref a_digits, .ref a_without, .ref a_with, .ref a_counts, .ref a_fewest, .ref a_ways, .ref a_more, .ref a_chooses, .ref a_image, .ref a_isKept])), cm_kI cI a_digits 9 u3.2] H := hP
  have hD : va_D A [cm_kI cI a_without 11 m_without, cm_kI cI a_with 11 m_with, (a, .inr (11, [.ref a_book, .ref a_now, .int m_sights, .ref a_sight, .int m_signs, .ref a_pad, .int m_sold, .int m_markets, .int m_marketAt, .int m_reason, .int m_acts, .ref a_digits, .ref a_without, .ref a_with, .ref a_counts, .ref a_fewest, .ref a_ways, .ref a_more, .ref a_chooses, .ref a_image, .ref a_isKept])), cm_kI cI a_digits 9 u3.2] := hD
  refine W.eq (g2 := F0 m 6 ls [.int u3.1]) rfl ?_
  refine lv_if_eq (pc := 6) (tgt := 29) hx hb dX11_trade_6 (by decide) (fun c_6 => ?_) (fun c_6 => ?_)
  · have hf := cm_ip c_6 hf
    refine lv_bipush (pc := 29) (v := (-2)) hx hb dX11_trade_29 (by decide) ?_
    obtain rfl := Option.some.inj hf
    exact cm_iret (pc := 31) hAe hQ hx hb hr hlocks hP hD hS [2, 3, 0, 1] (by decide) rfl dX11_trade_31
  · have hf := cm_in c_6 hf
    refine lv_iload_n (pc := 9) hx hb dX11_trade_9 rfl (lv_at hl 3 rfl) ?_
    refine lv_iconst (pc := 10) (v := 0) hx hb dX11_trade_10 (by decide) ?_
    refine lv_bipush (pc := 11) (v := 9) hx hb dX11_trade_11 (by decide) ?_
    obtain ⟨u13, hu13, hf⟩ := cm_lt hf
    refine cm_callS (pc := 13) (As := [.int v3, .int 0, .int 9]) (rest := []) (wr := [cm_kI cI a_without 11 m_without, cm_kI cI a_with 11 m_with, (a, .inr (11, [.ref a_book, .ref a_now, .int m_sights, .ref a_sight, .int m_signs, .ref a_pad, .int m_sold, .int m_markets, .int m_marketAt, .int m_reason, .int m_acts, .ref a_digits, .ref a_without, .ref a_with, .ref a_counts, .ref a_fewest, .ref a_ways, .ref a_more, .ref a_chooses, .ref a_image, .ref a_isKept])), cm_kI cI a_digits 9 u3.2]) (n := 3) hx hb hml hown hts hK hP hD hS hA (c_X11_in l D cI cJ cZ v3 0 9 u13 hu13) tw_783 tw_781 tw_782 tw_56 rfl rfl (by decide +kernel) rfl ⟨Nat.le_of_ble_eq_true rfl, Nat.le_of_ble_eq_true rfl⟩ [] [0, 1, 2, 3] rfl (by decide) rfl (by decide) (by decide) hl.1 rfl (Nat.le_of_ble_eq_true rfl) dX11_trade_13 ⟨Nat.zero_le _, Nat.zero_le _⟩ (fun H locs hP hD hS => ?_)
    have hP : va_P D vwCl [cm_kI cI a_without 11 m_without, cm_kI cI a_with 11 m_with, (a, .inr (11, [.ref a_book, .ref a_now, .int m_sights, .ref a_sight, .int m_signs, .ref a_pad, .int m_sold, .int m_markets, .int m_marketAt, .int m_reason, .int m_acts, .ref a_digits, .ref a_without, .ref a_with, .ref a_counts, .ref a_fewest, .ref a_ways, .ref a_more, .ref a_chooses, .ref a_image, .ref a_isKept])), cm_kI cI a_digits 9 u3.2] H := hP
    have hD : va_D A [cm_kI cI a_without 11 m_without, cm_kI cI a_with 11 m_with, (a, .inr (11, [.ref a_book, .ref a_now, .int m_sights, .ref a_sight, .int m_signs, .ref a_pad, .int m_sold, .int m_markets, .int m_marketAt, .int m_reason, .int m_acts, .ref a_digits, .ref a_without, .ref a_with, .ref a_counts, .ref a_fewest, .ref a_ways, .ref a_more, .ref a_chooses, .ref a_image, .ref a_isKept])), cm_kI cI a_digits 9 u3.2] := hD
    refine W.eq (g2 := F0 m 16 ls [.int u13]) rfl ?_
    refine lv_if_eq (pc := 16) (tgt := 29) hx hb dX11_trade_16 (by decide) (fun c_16 => ?_) (fun c_16 => ?_)
    · have hf := cm_ip c_16 hf
      refine lv_bipush (pc := 29) (v := (-2)) hx hb dX11_trade_29 (by decide) ?_
      obtain rfl := Option.some.inj hf
      exact cm_iret (pc := 31) hAe hQ hx hb hr hlocks hP hD hS [2, 3, 0, 1] (by decide) rfl dX11_trade_31
    · have hf := cm_in c_16 hf
      refine lv_iload (pc := 19) hx hb dX11_trade_19 (lv_at hl 4 rfl) ?_
      refine lv_iconst (pc := 21) (v := 0) hx hb dX11_trade_21 (by decide) ?_
      refine lv_iconst (pc := 22) (v := 1) hx hb dX11_trade_22 (by decide) ?_
      obtain ⟨u23, hu23, hf⟩ := cm_lt hf
      refine cm_callS (pc := 23) (As := [.int v4, .int 0, .int 1]) (rest := []) (wr := [cm_kI cI a_without 11 m_without, cm_kI cI a_with 11 m_with, (a, .inr (11, [.ref a_book, .ref a_now, .int m_sights, .ref a_sight, .int m_signs, .ref a_pad, .int m_sold, .int m_markets, .int m_marketAt, .int m_reason, .int m_acts, .ref a_digits, .ref a_without, .ref a_with, .ref a_counts, .ref a_fewest, .ref a_ways, .ref a_more, .ref a_chooses, .ref a_image, .ref a_isKept])), cm_kI cI a_digits 9 u3.2]) (n := 3) hx hb hml hown hts hK hP hD hS hA (c_X11_in l D cI cJ cZ v4 0 1 u23 hu23) tw_783 tw_781 tw_782 tw_56 rfl rfl (by decide +kernel) rfl ⟨Nat.le_of_ble_eq_true rfl, Nat.le_of_ble_eq_true rfl⟩ [] [0, 1, 2, 3] rfl (by decide) rfl (by decide) (by decide) hl.1 rfl (Nat.le_of_ble_eq_true rfl) dX11_trade_23 ⟨Nat.zero_le _, Nat.zero_le _⟩ (fun H locs hP hD hS => ?_)
      have hP : va_P D vwCl [cm_kI cI a_without 11 m_without, cm_kI cI a_with 11 m_with, (a, .inr (11, [.ref a_book, .ref a_now, .int m_sights, .ref a_sight, .int m_signs, .ref a_pad, .int m_sold, .int m_markets, .int m_marketAt, .int m_reason, .int m_acts, .ref a_digits, .ref a_without, .ref a_with, .ref a_counts, .ref a_fewest, .ref a_ways, .ref a_more, .ref a_chooses, .ref a_image, .ref a_isKept])), cm_kI cI a_digits 9 u3.2] H := hP
      have hD : va_D A [cm_kI cI a_without 11 m_without, cm_kI cI a_with 11 m_with, (a, .inr (11, [.ref a_book, .ref a_now, .int m_sights, .ref a_sight, .int m_signs, .ref a_pad, .int m_sold, .int m_markets, .int m_marketAt, .int m_reason, .int m_acts, .ref a_digits, .ref a_without, .ref a_with, .ref a_counts, .ref a_fewest, .ref a_ways, .ref a_more, .ref a_chooses, .ref a_image, .ref a_isKept])), cm_kI cI a_digits 9 u3.2] := hD
      refine W.eq (g2 := F0 m 26 ls [.int u23]) rfl ?_
      refine lv_if_ne (pc := 26) (tgt := 32) hx hb dX11_trade_26 (by decide) (fun c_26 => ?_) (fun c_26 => ?_)
      · have hf := cm_in c_26 hf
        refine lv_iconst (pc := 32) (v := 0) hx hb dX11_trade_32 (by decide) ?_
        refine lv_istore (pc := 33) (lv' := [(5, .int 0), (0, .ref a), (1, .int v1), (2, .int v2), (3, .int v3), (4, .int v4)]) hx hb dX11_trade_33 hl (by decide) rfl (fun ls hl => ?_)
        have L35 : ∀ (kx : Int32 → (Nat → Int32) → (Nat → Int32) → Option (Int32 × (Nat → Int32) × (Nat → Int32) × (Nat → Int32))), (∀ (v5_35 : Int32) (m_without_35 : (Nat → Int32)) (m_with_35 : (Nat → Int32)) (H : Heap) (locs : List Loc) (ls : Array Slot), va_P D vwCl [cm_kI cI a_without 11 m_without_35, cm_kI cI a_with 11 m_with_35, (a, .inr (11, [.ref a_book, .ref a_now, .int m_sights, .ref a_sight, .int m_signs, .ref a_pad, .int m_sold, .int m_markets, .int m_marketAt, .int m_reason, .int m_acts, .ref a_digits, .ref a_without, .ref a_with, .ref a_counts, .ref a_fewest, .ref a_ways, .ref a_more, .ref a_chooses, .ref a_image, .ref a_isKept])), cm_kI cI a_digits 9 u3.2] H → va_D A [cm_kI cI a_without 11 m_without_35, cm_kI cI a_with 11 m_with_35, (a, .inr (11, [.ref a_book, .ref a_now, .int m_sights, .ref a_sight, .int m_signs, .ref a_pad, .int m_sold, .int m_markets, .int m_marketAt, .int m_reason, .int m_acts, .ref a_digits, .ref a_without, .ref a_with, .ref a_counts, .ref a_fewest, .ref a_ways, .ref a_more, .ref a_chooses, .ref a_image, .ref a_isKept])), cm_kI cI a_digits 9 u3.2] → va_S A s.heap H locs → lv_has ls 9 [(0, .ref a), (2, .int v2), (3, .int v3), (4, .int v4)] → kx v5_35 m_without_35 m_with_35 = some res → W p l e rmX11_trade s m args below meth c H locs 0 0 Q (F0 m 65 ls [])) → ∀ (n : Nat) (v5_35 : Int32) (m_without_35 : (Nat → Int32)) (m_with_35 : (Nat → Int32)) (H : Heap) (locs : List Loc) (ls : Array Slot), va_P D vwCl [cm_kI cI a_without 11 m_without_35, cm_kI cI a_with 11 m_with_35, (a, .inr (11, [.ref a_book, .ref a_now, .int m_sights, .ref a_sight, .int m_signs, .ref a_pad, .int m_sold, .int m_markets, .int m_marketAt, .int m_reason, .int m_acts, .ref a_digits, .ref a_without, .ref a_with, .ref a_counts, .ref a_fewest, .ref a_ways, .ref a_more, .ref a_chooses, .ref a_image, .ref a_isKept])), cm_kI cI a_digits 9 u3.2] H → va_D A [cm_kI cI a_without 11 m_without_35, cm_kI cI a_with 11 m_with_35, (a, .inr (11, [.ref a_book, .ref a_now, .int m_sights, .ref a_sight, .int m_signs, .ref a_pad, .int m_sold, .int m_markets, .int m_marketAt, .int m_reason, .int m_acts, .ref a_digits, .ref a_without, .ref a_with, .ref a_counts, .ref a_fewest, .ref a_ways, .ref a_more, .ref a_chooses, .ref a_image, .ref a_isKept])), cm_kI cI a_digits 9 u3.2] → va_S A s.heap H locs → lv_has ls 9 [(5, .int v5_35), (0, .ref a), (2, .int v2), (3, .int v3), (4, .int v4)] → fX11_trade_L35 kx n v5_35 m_without_35 m_with_35 = some res → W p l e rmX11_trade s m args below meth c H locs 0 0 Q (F0 m 35 ls []) := by
          intro kx hkx n
          induction n with
          | zero => intro v5_35 m_without_35 m_with_35 H locs ls hP hD hS hl hf; cases hf
          | succ n ih =>
            intro v5_35 m_without_35 m_with_35 H locs ls hP hD hS hl hf
            rw [fX11_trade_L35] at hf
            refine lv_iload (pc := 35) hx hb dX11_trade_35 (lv_at hl 0 rfl) ?_
            refine lv_bipush (pc := 37) (v := 11) hx hb dX11_trade_37 (by decide) ?_
            refine lv_icmp_ge (pc := 39) (tgt := 65) hx hb dX11_trade_39 (by decide) (fun c_39 => ?_) (fun c_39 => ?_)
            · have hf := cm_ip c_39 hf
              exact hkx v5_35 m_without_35 m_with_35 _ _ _ hP hD hS (lv_sub hl [1, 2, 3, 4] rfl) hf
            · have hf := cm_in c_39 hf
              refine lv_aload_n (pc := 42) hx hb dX11_trade_42 rfl (lv_at hl 1 rfl) ?_
              refine va_get (pc := 43) (D := D) (ci := 11) (v := .ref a_without) (C := RX11) (T := TX11) (N := 21) hx hb hts in_X11 hown hKa hP 2 rfl rfl 12 (by decide) (hts _ tw_724) (fun _ h9 => h9) rfl dX11_trade_43 ?_
              refine lv_iload (pc := 46) hx hb dX11_trade_46 (lv_at hl 0 rfl) ?_
              refine lv_iconst (pc := 48) (v := 0) hx hb dX11_trade_48 (by decide) ?_
              obtain ⟨b_49, hf⟩ := cm_ob hf
              refine va_iast (pc := 49) hx hb hKa hP hD hS 0 0 rfl rfl b_49 dX11_trade_49 (fun H locs hP hD hS => ?_)
              have hP : va_P D vwCl [cm_kI cI a_without 11 (upd m_without_35 v5_35.toNatClampNeg 0), cm_kI cI a_with 11 m_with_35, (a, .inr (11, [.ref a_book, .ref a_now, .int m_sights, .ref a_sight, .int m_signs, .ref a_pad, .int m_sold, .int m_markets, .int m_marketAt, .int m_reason, .int m_acts, .ref a_digits, .ref a_without, .ref a_with, .ref a_counts, .ref a_fewest, .ref a_ways, .ref a_more, .ref a_chooses, .ref a_image, .ref a_isKept])), cm_kI cI a_digits 9 u3.2] H := hP
              have hD : va_D A [cm_kI cI a_without 11 (upd m_without_35 v5_35.toNatClampNeg 0), cm_kI cI a_with 11 m_with_35, (a, .inr (11, [.ref a_book, .ref a_now, .int m_sights, .ref a_sight, .int m_signs, .ref a_pad, .int m_sold, .int m_markets, .int m_marketAt, .int m_reason, .int m_acts, .ref a_digits, .ref a_without, .ref a_with, .ref a_counts, .ref a_fewest, .ref a_ways, .ref a_more, .ref a_chooses, .ref a_image, .ref a_isKept])), cm_kI cI a_digits 9 u3.2] := hD
              refine lv_aload_n (pc := 50) hx hb dX11_trade_50 rfl (lv_at hl 1 rfl) ?_
              refine va_get (pc := 51) (D := D) (ci := 11) (v := .ref a_with) (C := RX11) (T := TX11) (N := 21) hx hb hts in_X11 hown hKa hP 2 rfl rfl 13 (by decide) (hts _ tw_725) (fun _ h9 => h9) rfl dX11_trade_51 ?_
              refine lv_iload (pc := 54) hx hb dX11_trade_54 (lv_at hl 0 rfl) ?_
              refine lv_ldc (pc := 56) (v := (-1000000)) hx hb hown (hts _ tw_903) dX11_trade_56 ?_
              obtain ⟨b_58, hf⟩ := cm_ob hf
              refine va_iast (pc := 58) hx hb hKa hP hD hS 1 0 rfl rfl b_58 dX11_trade_58 (fun H locs hP hD hS => ?_)
              have hP : va_P D vwCl [cm_kI cI a_without 11 (upd m_without_35 v5_35.toNatClampNeg 0), cm_kI cI a_with 11 (upd m_with_35 v5_35.toNatClampNeg (-1000000)), (a, .inr (11, [.ref a_book, .ref a_now, .int m_sights, .ref a_sight, .int m_signs, .ref a_pad, .int m_sold, .int m_markets, .int m_marketAt, .int m_reason, .int m_acts, .ref a_digits, .ref a_without, .ref a_with, .ref a_counts, .ref a_fewest, .ref a_ways, .ref a_more, .ref a_chooses, .ref a_image, .ref a_isKept])), cm_kI cI a_digits 9 u3.2] H := hP
              have hD : va_D A [cm_kI cI a_without 11 (upd m_without_35 v5_35.toNatClampNeg 0), cm_kI cI a_with 11 (upd m_with_35 v5_35.toNatClampNeg (-1000000)), (a, .inr (11, [.ref a_book, .ref a_now, .int m_sights, .ref a_sight, .int m_signs, .ref a_pad, .int m_sold, .int m_markets, .int m_marketAt, .int m_reason, .int m_acts, .ref a_digits, .ref a_without, .ref a_with, .ref a_counts, .ref a_fewest, .ref a_ways, .ref a_more, .ref a_chooses, .ref a_image, .ref a_isKept])), cm_kI cI a_digits 9 u3.2] := hD
              refine lv_iinc (pc := 59) (v := (v5_35 + 1)) (lv' := [(5, .int (v5_35 + 1)), (0, .ref a), (2, .int v2), (3, .int v3), (4, .int v4)]) hx hb dX11_trade_59 hl (k := 0) rfl rfl (by decide) rfl (fun ls hl => ?_)
              refine lv_goto (pc := 62) (tgt := 35) hx hb dX11_trade_62 (by decide) ?_
              exact ih (v5_35 + 1) (upd m_without_35 v5_35.toNatClampNeg 0) (upd m_with_35 v5_35.toNatClampNeg (-1000000)) _ _ _ hP hD hS (lv_sub hl [0, 1, 2, 3, 4] rfl) hf
        refine L35 _ (fun v5_35 m_without_35 m_with_35 H locs ls hP hD hS hl hf => ?_) 5000 0 m_without m_with _ _ _ hP hD hS (lv_sub hl [0, 1, 3, 4, 5] rfl) hf
        refine lv_iconst (pc := 65) (v := 0) hx hb dX11_trade_65 (by decide) ?_
        refine lv_istore (pc := 66) (lv' := [(5, .int 0), (0, .ref a), (2, .int v2), (3, .int v3), (4, .int v4)]) hx hb dX11_trade_66 hl (by decide) rfl (fun ls hl => ?_)
        have L68 : ∀ (m_digits_68 : (Nat → Int32)) (kx : Int32 → (Nat → Int32) → (Nat → Int32) → Option (Int32 × (Nat → Int32) × (Nat → Int32) × (Nat → Int32))), (∀ (v5_68 : Int32) (m_without_68 : (Nat → Int32)) (m_with_68 : (Nat → Int32)) (H : Heap) (locs : List Loc) (ls : Array Slot), va_P D vwCl [cm_kI cI a_without 11 m_without_68, cm_kI cI a_with 11 m_with_68, (a, .inr (11, [.ref a_book, .ref a_now, .int m_sights, .ref a_sight, .int m_signs, .ref a_pad, .int m_sold, .int m_markets, .int m_marketAt, .int m_reason, .int m_acts, .ref a_digits, .ref a_without, .ref a_with, .ref a_counts, .ref a_fewest, .ref a_ways, .ref a_more, .ref a_chooses, .ref a_image, .ref a_isKept])), cm_kI cI a_digits 9 m_digits_68] H → va_D A [cm_kI cI a_without 11 m_without_68, cm_kI cI a_with 11 m_with_68, (a, .inr (11, [.ref a_book, .ref a_now, .int m_sights, .ref a_sight, .int m_signs, .ref a_pad, .int m_sold, .int m_markets, .int m_marketAt, .int m_reason, .int m_acts, .ref a_digits, .ref a_without, .ref a_with, .ref a_counts, .ref a_fewest, .ref a_ways, .ref a_more, .ref a_chooses, .ref a_image, .ref a_isKept])), cm_kI cI a_digits 9 m_digits_68] → va_S A s.heap H locs → lv_has ls 9 [(0, .ref a), (3, .int v3), (4, .int v4)] → kx v5_68 m_without_68 m_with_68 = some res → W p l e rmX11_trade s m args below meth c H locs 0 0 Q (F0 m 193 ls [])) → ∀ (n : Nat) (v5_68 : Int32) (m_without_68 : (Nat → Int32)) (m_with_68 : (Nat → Int32)) (H : Heap) (locs : List Loc) (ls : Array Slot), va_P D vwCl [cm_kI cI a_without 11 m_without_68, cm_kI cI a_with 11 m_with_68, (a, .inr (11, [.ref a_book, .ref a_now, .int m_sights, .ref a_sight, .int m_signs, .ref a_pad, .int m_sold, .int m_markets, .int m_marketAt, .int m_reason, .int m_acts, .ref a_digits, .ref a_without, .ref a_with, .ref a_counts, .ref a_fewest, .ref a_ways, .ref a_more, .ref a_chooses, .ref a_image, .ref a_isKept])), cm_kI cI a_digits 9 m_digits_68] H → va_D A [cm_kI cI a_without 11 m_without_68, cm_kI cI a_with 11 m_with_68, (a, .inr (11, [.ref a_book, .ref a_now, .int m_sights, .ref a_sight, .int m_signs, .ref a_pad, .int m_sold, .int m_markets, .int m_marketAt, .int m_reason, .int m_acts, .ref a_digits, .ref a_without, .ref a_with, .ref a_counts, .ref a_fewest, .ref a_ways, .ref a_more, .ref a_chooses, .ref a_image, .ref a_isKept])), cm_kI cI a_digits 9 m_digits_68] → va_S A s.heap H locs → lv_has ls 9 [(5, .int v5_68), (0, .ref a), (2, .int v2), (3, .int v3), (4, .int v4)] → fX11_trade_L68 v2 v3 m_digits_68 kx n v5_68 m_without_68 m_with_68 = some res → W p l e rmX11_trade s m args below meth c H locs 0 0 Q (F0 m 68 ls []) := by
          intro m_digits_68 kx hkx n
          induction n with
          | zero => intro v5_68 m_without_68 m_with_68 H locs ls hP hD hS hl hf; cases hf
          | succ n ih =>
            intro v5_68 m_without_68 m_with_68 H locs ls hP hD hS hl hf
            rw [fX11_trade_L68] at hf
            refine lv_iload (pc := 68) hx hb dX11_trade_68 (lv_at hl 0 rfl) ?_
            refine lv_iload_n (pc := 70) hx hb dX11_trade_70 rfl (lv_at hl 2 rfl) ?_
            refine lv_icmp_ge (pc := 71) (tgt := 193) hx hb dX11_trade_71 (by decide) (fun c_71 => ?_) (fun c_71 => ?_)
            · have hf := cm_ip c_71 hf
              exact hkx v5_68 m_without_68 m_with_68 _ _ _ hP hD hS (lv_sub hl [1, 3, 4] rfl) hf
            · have hf := cm_in c_71 hf
              refine lv_iconst (pc := 74) (v := 1) hx hb dX11_trade_74 (by decide) ?_
              refine lv_istore (pc := 75) (lv' := [(6, .int 1), (5, .int v5_68), (0, .ref a), (2, .int v2), (3, .int v3), (4, .int v4)]) hx hb dX11_trade_75 hl (by decide) rfl (fun ls hl => ?_)
              have L77 : ∀ (kx : Int32 → (Nat → Int32) → (Nat → Int32) → Option (Int32 × (Nat → Int32) × (Nat → Int32) × (Nat → Int32))), (∀ (v6_77 : Int32) (m_without_77 : (Nat → Int32)) (m_with_77 : (Nat → Int32)) (H : Heap) (locs : List Loc) (ls : Array Slot), va_P D vwCl [cm_kI cI a_without 11 m_without_77, cm_kI cI a_with 11 m_with_77, (a, .inr (11, [.ref a_book, .ref a_now, .int m_sights, .ref a_sight, .int m_signs, .ref a_pad, .int m_sold, .int m_markets, .int m_marketAt, .int m_reason, .int m_acts, .ref a_digits, .ref a_without, .ref a_with, .ref a_counts, .ref a_fewest, .ref a_ways, .ref a_more, .ref a_chooses, .ref a_image, .ref a_isKept])), cm_kI cI a_digits 9 m_digits_68] H → va_D A [cm_kI cI a_without 11 m_without_77, cm_kI cI a_with 11 m_with_77, (a, .inr (11, [.ref a_book, .ref a_now, .int m_sights, .ref a_sight, .int m_signs, .ref a_pad, .int m_sold, .int m_markets, .int m_marketAt, .int m_reason, .int m_acts, .ref a_digits, .ref a_without, .ref a_with, .ref a_counts, .ref a_fewest, .ref a_ways, .ref a_more, .ref a_chooses, .ref a_image, .ref a_isKept])), cm_kI cI a_digits 9 m_digits_68] → va_S A s.heap H locs → lv_has ls 9 [(5, .int v5_68), (0, .ref a), (2, .int v2), (3, .int v3), (4, .int v4)] → kx v6_77 m_without_77 m_with_77 = some res → W p l e rmX11_trade s m args below meth c H locs 0 0 Q (F0 m 187 ls [])) → ∀ (n : Nat) (v6_77 : Int32) (m_without_77 : (Nat → Int32)) (m_with_77 : (Nat → Int32)) (H : Heap) (locs : List Loc) (ls : Array Slot), va_P D vwCl [cm_kI cI a_without 11 m_without_77, cm_kI cI a_with 11 m_with_77, (a, .inr (11, [.ref a_book, .ref a_now, .int m_sights, .ref a_sight, .int m_signs, .ref a_pad, .int m_sold, .int m_markets, .int m_marketAt, .int m_reason, .int m_acts, .ref a_digits, .ref a_without, .ref a_with, .ref a_counts, .ref a_fewest, .ref a_ways, .ref a_more, .ref a_chooses, .ref a_image, .ref a_isKept])), cm_kI cI a_digits 9 m_digits_68] H → va_D A [cm_kI cI a_without 11 m_without_77, cm_kI cI a_with 11 m_with_77, (a, .inr (11, [.ref a_book, .ref a_now, .int m_sights, .ref a_sight, .int m_signs, .ref a_pad, .int m_sold, .int m_markets, .int m_marketAt, .int m_reason, .int m_acts, .ref a_digits, .ref a_without, .ref a_with, .ref a_counts, .ref a_fewest, .ref a_ways, .ref a_more, .ref a_chooses, .ref a_image, .ref a_isKept])), cm_kI cI a_digits 9 m_digits_68] → va_S A s.heap H locs → lv_has ls 9 [(6, .int v6_77), (5, .int v5_68), (0, .ref a), (2, .int v2), (3, .int v3), (4, .int v4)] → fX11_trade_L77 v3 v5_68 m_digits_68 kx n v6_77 m_without_77 m_with_77 = some res → W p l e rmX11_trade s m args below meth c H locs 0 0 Q (F0 m 77 ls []) := by
                intro kx hkx n
                induction n with
                | zero => intro v6_77 m_without_77 m_with_77 H locs ls hP hD hS hl hf; cases hf
                | succ n ih =>
                  intro v6_77 m_without_77 m_with_77 H locs ls hP hD hS hl hf
                  rw [fX11_trade_L77] at hf
                  refine lv_iload (pc := 77) hx hb dX11_trade_77 (lv_at hl 0 rfl) ?_
                  refine lv_iload_n (pc := 79) hx hb dX11_trade_79 rfl (lv_at hl 4 rfl) ?_
                  refine lv_icmp_gt (pc := 80) (tgt := 187) hx hb dX11_trade_80 (by decide) (fun c_80 => ?_) (fun c_80 => ?_)
                  · have hf := cm_ip c_80 hf
                    exact hkx v6_77 m_without_77 m_with_77 _ _ _ hP hD hS (lv_sub hl [1, 2, 3, 4, 5] rfl) hf
                  · have hf := cm_in c_80 hf
                    refine lv_aload_n (pc := 83) hx hb dX11_trade_83 rfl (lv_at hl 2 rfl) ?_
                    refine va_get (pc := 84) (D := D) (ci := 11) (v := .ref a_with) (C := RX11) (T := TX11) (N := 21) hx hb hts in_X11 hown hKa hP 2 rfl rfl 13 (by decide) (hts _ tw_725) (fun _ h9 => h9) rfl dX11_trade_84 ?_
                    refine lv_iload (pc := 87) hx hb dX11_trade_87 (lv_at hl 0 rfl) ?_
                    obtain ⟨b_89, hf⟩ := cm_ob hf
                    refine va_iald (pc := 89) hx hb hKa hP 1 0 rfl rfl b_89 dX11_trade_89 ?_
                    refine lv_aload_n (pc := 90) hx hb dX11_trade_90 rfl (lv_at hl 2 rfl) ?_
                    refine va_get (pc := 91) (D := D) (ci := 11) (v := .ref a_digits) (C := RX11) (T := TX11) (N := 21) hx hb hts in_X11 hown hKa hP 2 rfl rfl 11 (by decide) (hts _ tw_723) (fun _ h9 => h9) rfl dX11_trade_91 ?_
                    refine lv_iload (pc := 94) hx hb dX11_trade_94 (lv_at hl 1 rfl) ?_
                    obtain ⟨b_96, hf⟩ := cm_ob hf
                    refine va_iald (pc := 96) hx hb hKa hP 3 0 rfl rfl b_96 dX11_trade_96 ?_
                    refine lv_iadd (pc := 97) hx hb dX11_trade_97 ?_
                    refine lv_istore (pc := 98) (lv' := [(7, .int ((m_with_77 v6_77.toNatClampNeg) + (m_digits_68 v5_68.toNatClampNeg))), (6, .int v6_77), (5, .int v5_68), (0, .ref a), (2, .int v2), (3, .int v3), (4, .int v4)]) hx hb dX11_trade_98 hl (by decide) rfl (fun ls hl => ?_)
                    refine lv_aload_n (pc := 100) hx hb dX11_trade_100 rfl (lv_at hl 3 rfl) ?_
                    refine va_get (pc := 101) (D := D) (ci := 11) (v := .ref a_without) (C := RX11) (T := TX11) (N := 21) hx hb hts in_X11 hown hKa hP 2 rfl rfl 12 (by decide) (hts _ tw_724) (fun _ h9 => h9) rfl dX11_trade_101 ?_
                    refine lv_iload (pc := 104) hx hb dX11_trade_104 (lv_at hl 1 rfl) ?_
                    refine lv_iload (pc := 106) hx hb dX11_trade_106 (lv_at hl 0 rfl) ?_
                    refine lv_aload_n (pc := 108) hx hb dX11_trade_108 rfl (lv_at hl 3 rfl) ?_
                    refine va_get (pc := 109) (D := D) (ci := 11) (v := .ref a_without) (C := RX11) (T := TX11) (N := 21) hx hb hts in_X11 hown hKa hP 2 rfl rfl 12 (by decide) (hts _ tw_724) (fun _ h9 => h9) rfl dX11_trade_109 ?_
                    refine lv_iload (pc := 112) hx hb dX11_trade_112 (lv_at hl 1 rfl) ?_
                    obtain ⟨b_114, hf⟩ := cm_ob hf
                    refine va_iald (pc := 114) hx hb hKa hP 0 0 rfl rfl b_114 dX11_trade_114 ?_
                    obtain ⟨j115, hj115, hf⟩ := cm_bd hf
                    have J115 : ∀ (H : Heap) (locs : List Loc) (ls : Array Slot), va_P D vwCl [cm_kI cI a_without 11 m_without_77, cm_kI cI a_with 11 m_with_77, (a, .inr (11, [.ref a_book, .ref a_now, .int m_sights, .ref a_sight, .int m_signs, .ref a_pad, .int m_sold, .int m_markets, .int m_marketAt, .int m_reason, .int m_acts, .ref a_digits, .ref a_without, .ref a_with, .ref a_counts, .ref a_fewest, .ref a_ways, .ref a_more, .ref a_chooses, .ref a_image, .ref a_isKept])), cm_kI cI a_digits 9 m_digits_68] H → va_D A [cm_kI cI a_without 11 m_without_77, cm_kI cI a_with 11 m_with_77, (a, .inr (11, [.ref a_book, .ref a_now, .int m_sights, .ref a_sight, .int m_signs, .ref a_pad, .int m_sold, .int m_markets, .int m_marketAt, .int m_reason, .int m_acts, .ref a_digits, .ref a_without, .ref a_with, .ref a_counts, .ref a_fewest, .ref a_ways, .ref a_more, .ref a_chooses, .ref a_image, .ref a_isKept])), cm_kI cI a_digits 9 m_digits_68] → va_S A s.heap H locs → lv_has ls 9 [(6, .int v6_77), (5, .int v5_68), (0, .ref a), (2, .int v2), (3, .int v3), (4, .int v4)] → W p l e rmX11_trade s m args below meth c H locs 0 0 Q (F0 m 130 ls [.int j115, .int v6_77, .ref a_without]) := by
                      intro H locs ls hP hD hS hl
                      obtain ⟨b_130, hf⟩ := cm_ob hf
                      refine va_iast (pc := 130) hx hb hKa hP hD hS 0 0 rfl rfl b_130 dX11_trade_130 (fun H locs hP hD hS => ?_)
                      have hP : va_P D vwCl [cm_kI cI a_without 11 (upd m_without_77 v6_77.toNatClampNeg j115), cm_kI cI a_with 11 m_with_77, (a, .inr (11, [.ref a_book, .ref a_now, .int m_sights, .ref a_sight, .int m_signs, .ref a_pad, .int m_sold, .int m_markets, .int m_marketAt, .int m_reason, .int m_acts, .ref a_digits, .ref a_without, .ref a_with, .ref a_counts, .ref a_fewest, .ref a_ways, .ref a_more, .ref a_chooses, .ref a_image, .ref a_isKept])), cm_kI cI a_digits 9 m_digits_68] H := hP
                      have hD : va_D A [cm_kI cI a_without 11 (upd m_without_77 v6_77.toNatClampNeg j115), cm_kI cI a_with 11 m_with_77, (a, .inr (11, [.ref a_book, .ref a_now, .int m_sights, .ref a_sight, .int m_signs, .ref a_pad, .int m_sold, .int m_markets, .int m_marketAt, .int m_reason, .int m_acts, .ref a_digits, .ref a_without, .ref a_with, .ref a_counts, .ref a_fewest, .ref a_ways, .ref a_more, .ref a_chooses, .ref a_image, .ref a_isKept])), cm_kI cI a_digits 9 m_digits_68] := hD
                      refine lv_aload_n (pc := 131) hx hb dX11_trade_131 rfl (lv_at hl 2 rfl) ?_
                      refine va_get (pc := 132) (D := D) (ci := 11) (v := .ref a_without) (C := RX11) (T := TX11) (N := 21) hx hb hts in_X11 hown hKa hP 2 rfl rfl 12 (by decide) (hts _ tw_724) (fun _ h9 => h9) rfl dX11_trade_132 ?_
                      refine lv_iload (pc := 135) hx hb dX11_trade_135 (lv_at hl 0 rfl) ?_
                      refine lv_iconst (pc := 137) (v := 1) hx hb dX11_trade_137 (by decide) ?_
                      refine lv_isub (pc := 138) hx hb dX11_trade_138 ?_
                      obtain ⟨b_139, hf⟩ := cm_ob hf
                      refine va_iald (pc := 139) hx hb hKa hP 0 0 rfl rfl b_139 dX11_trade_139 ?_
                      refine lv_aload_n (pc := 140) hx hb dX11_trade_140 rfl (lv_at hl 2 rfl) ?_
                      refine va_get (pc := 141) (D := D) (ci := 11) (v := .ref a_digits) (C := RX11) (T := TX11) (N := 21) hx hb hts in_X11 hown hKa hP 2 rfl rfl 11 (by decide) (hts _ tw_723) (fun _ h9 => h9) rfl dX11_trade_141 ?_
                      refine lv_iload (pc := 144) hx hb dX11_trade_144 (lv_at hl 1 rfl) ?_
                      obtain ⟨b_146, hf⟩ := cm_ob hf
                      refine va_iald (pc := 146) hx hb hKa hP 3 0 rfl rfl b_146 dX11_trade_146 ?_
                      refine lv_isub (pc := 147) hx hb dX11_trade_147 ?_
                      refine lv_istore (pc := 148) (lv' := [(8, .int (((upd m_without_77 v6_77.toNatClampNeg j115) (v6_77 - 1).toNatClampNeg) - (m_digits_68 v5_68.toNatClampNeg))), (6, .int v6_77), (5, .int v5_68), (0, .ref a), (2, .int v2), (3, .int v3), (4, .int v4)]) hx hb dX11_trade_148 hl (by decide) rfl (fun ls hl => ?_)
                      refine lv_aload_n (pc := 150) hx hb dX11_trade_150 rfl (lv_at hl 3 rfl) ?_
                      refine va_get (pc := 151) (D := D) (ci := 11) (v := .ref a_with) (C := RX11) (T := TX11) (N := 21) hx hb hts in_X11 hown hKa hP 2 rfl rfl 13 (by decide) (hts _ tw_725) (fun _ h9 => h9) rfl dX11_trade_151 ?_
                      refine lv_iload (pc := 154) hx hb dX11_trade_154 (lv_at hl 1 rfl) ?_
                      refine lv_iload (pc := 156) hx hb dX11_trade_156 (lv_at hl 0 rfl) ?_
                      refine lv_aload_n (pc := 158) hx hb dX11_trade_158 rfl (lv_at hl 3 rfl) ?_
                      refine va_get (pc := 159) (D := D) (ci := 11) (v := .ref a_with) (C := RX11) (T := TX11) (N := 21) hx hb hts in_X11 hown hKa hP 2 rfl rfl 13 (by decide) (hts _ tw_725) (fun _ h9 => h9) rfl dX11_trade_159 ?_
                      refine lv_iload (pc := 162) hx hb dX11_trade_162 (lv_at hl 1 rfl) ?_
                      obtain ⟨b_164, hf⟩ := cm_ob hf
                      refine va_iald (pc := 164) hx hb hKa hP 1 0 rfl rfl b_164 dX11_trade_164 ?_
                      refine lv_icmp_le (pc := 165) (tgt := 173) hx hb dX11_trade_165 (by decide) (fun c_165 => ?_) (fun c_165 => ?_)
                      · have hf := cm_ip c_165 hf
                        refine lv_aload_n (pc := 173) hx hb dX11_trade_173 rfl (lv_at hl 3 rfl) ?_
                        refine va_get (pc := 174) (D := D) (ci := 11) (v := .ref a_with) (C := RX11) (T := TX11) (N := 21) hx hb hts in_X11 hown hKa hP 2 rfl rfl 13 (by decide) (hts _ tw_725) (fun _ h9 => h9) rfl dX11_trade_174 ?_
                        refine lv_iload (pc := 177) hx hb dX11_trade_177 (lv_at hl 1 rfl) ?_
                        obtain ⟨b_179, hf⟩ := cm_ob hf
                        refine va_iald (pc := 179) hx hb hKa hP 1 0 rfl rfl b_179 dX11_trade_179 ?_
                        obtain ⟨b_180, hf⟩ := cm_ob hf
                        refine va_iast (pc := 180) hx hb hKa hP hD hS 1 0 rfl rfl b_180 dX11_trade_180 (fun H locs hP hD hS => ?_)
                        have hP : va_P D vwCl [cm_kI cI a_without 11 (upd m_without_77 v6_77.toNatClampNeg j115), cm_kI cI a_with 11 (upd m_with_77 v6_77.toNatClampNeg (m_with_77 v6_77.toNatClampNeg)), (a, .inr (11, [.ref a_book, .ref a_now, .int m_sights, .ref a_sight, .int m_signs, .ref a_pad, .int m_sold, .int m_markets, .int m_marketAt, .int m_reason, .int m_acts, .ref a_digits, .ref a_without, .ref a_with, .ref a_counts, .ref a_fewest, .ref a_ways, .ref a_more, .ref a_chooses, .ref a_image, .ref a_isKept])), cm_kI cI a_digits 9 m_digits_68] H := hP
                        have hD : va_D A [cm_kI cI a_without 11 (upd m_without_77 v6_77.toNatClampNeg j115), cm_kI cI a_with 11 (upd m_with_77 v6_77.toNatClampNeg (m_with_77 v6_77.toNatClampNeg)), (a, .inr (11, [.ref a_book, .ref a_now, .int m_sights, .ref a_sight, .int m_signs, .ref a_pad, .int m_sold, .int m_markets, .int m_marketAt, .int m_reason, .int m_acts, .ref a_digits, .ref a_without, .ref a_with, .ref a_counts, .ref a_fewest, .ref a_ways, .ref a_more, .ref a_chooses, .ref a_image, .ref a_isKept])), cm_kI cI a_digits 9 m_digits_68] := hD
                        refine lv_iinc (pc := 181) (v := (v6_77 + 1)) (lv' := [(6, .int (v6_77 + 1)), (8, .int (((upd m_without_77 v6_77.toNatClampNeg j115) (v6_77 - 1).toNatClampNeg) - (m_digits_68 v5_68.toNatClampNeg))), (5, .int v5_68), (0, .ref a), (2, .int v2), (3, .int v3), (4, .int v4)]) hx hb dX11_trade_181 hl (k := 1) rfl rfl (by decide) rfl (fun ls hl => ?_)
                        refine lv_goto (pc := 184) (tgt := 77) hx hb dX11_trade_184 (by decide) ?_
                        exact ih (v6_77 + 1) (upd m_without_77 v6_77.toNatClampNeg j115) (upd m_with_77 v6_77.toNatClampNeg (m_with_77 v6_77.toNatClampNeg)) _ _ _ hP hD hS (lv_sub hl [0, 2, 3, 4, 5, 6] rfl) hf
                      · have hf := cm_in c_165 hf
                        refine lv_iload (pc := 168) hx hb dX11_trade_168 (lv_at hl 0 rfl) ?_
                        refine lv_goto (pc := 170) (tgt := 180) hx hb dX11_trade_170 (by decide) ?_
                        obtain ⟨b_180, hf⟩ := cm_ob hf
                        refine va_iast (pc := 180) hx hb hKa hP hD hS 1 0 rfl rfl b_180 dX11_trade_180 (fun H locs hP hD hS => ?_)
                        have hP : va_P D vwCl [cm_kI cI a_without 11 (upd m_without_77 v6_77.toNatClampNeg j115), cm_kI cI a_with 11 (upd m_with_77 v6_77.toNatClampNeg (((upd m_without_77 v6_77.toNatClampNeg j115) (v6_77 - 1).toNatClampNeg) - (m_digits_68 v5_68.toNatClampNeg))), (a, .inr (11, [.ref a_book, .ref a_now, .int m_sights, .ref a_sight, .int m_signs, .ref a_pad, .int m_sold, .int m_markets, .int m_marketAt, .int m_reason, .int m_acts, .ref a_digits, .ref a_without, .ref a_with, .ref a_counts, .ref a_fewest, .ref a_ways, .ref a_more, .ref a_chooses, .ref a_image, .ref a_isKept])), cm_kI cI a_digits 9 m_digits_68] H := hP
                        have hD : va_D A [cm_kI cI a_without 11 (upd m_without_77 v6_77.toNatClampNeg j115), cm_kI cI a_with 11 (upd m_with_77 v6_77.toNatClampNeg (((upd m_without_77 v6_77.toNatClampNeg j115) (v6_77 - 1).toNatClampNeg) - (m_digits_68 v5_68.toNatClampNeg))), (a, .inr (11, [.ref a_book, .ref a_now, .int m_sights, .ref a_sight, .int m_signs, .ref a_pad, .int m_sold, .int m_markets, .int m_marketAt, .int m_reason, .int m_acts, .ref a_digits, .ref a_without, .ref a_with, .ref a_counts, .ref a_fewest, .ref a_ways, .ref a_more, .ref a_chooses, .ref a_image, .ref a_isKept])), cm_kI cI a_digits 9 m_digits_68] := hD
                        refine lv_iinc (pc := 181) (v := (v6_77 + 1)) (lv' := [(6, .int (v6_77 + 1)), (8, .int (((upd m_without_77 v6_77.toNatClampNeg j115) (v6_77 - 1).toNatClampNeg) - (m_digits_68 v5_68.toNatClampNeg))), (5, .int v5_68), (0, .ref a), (2, .int v2), (3, .int v3), (4, .int v4)]) hx hb dX11_trade_181 hl (k := 1) rfl rfl (by decide) rfl (fun ls hl => ?_)
                        refine lv_goto (pc := 184) (tgt := 77) hx hb dX11_trade_184 (by decide) ?_
                        exact ih (v6_77 + 1) (upd m_without_77 v6_77.toNatClampNeg j115) (upd m_with_77 v6_77.toNatClampNeg (((upd m_without_77 v6_77.toNatClampNeg j115) (v6_77 - 1).toNatClampNeg) - (m_digits_68 v5_68.toNatClampNeg))) _ _ _ hP hD hS (lv_sub hl [0, 2, 3, 4, 5, 6] rfl) hf
                    clear hf
                    have hf := hj115
                    refine lv_icmp_le (pc := 115) (tgt := 123) hx hb dX11_trade_115 (by decide) (fun c_115 => ?_) (fun c_115 => ?_)
                    · have hf := cm_ip c_115 hf
                      refine lv_aload_n (pc := 123) hx hb dX11_trade_123 rfl (lv_at hl 3 rfl) ?_
                      refine va_get (pc := 124) (D := D) (ci := 11) (v := .ref a_without) (C := RX11) (T := TX11) (N := 21) hx hb hts in_X11 hown hKa hP 2 rfl rfl 12 (by decide) (hts _ tw_724) (fun _ h9 => h9) rfl dX11_trade_124 ?_
                      refine lv_iload (pc := 127) hx hb dX11_trade_127 (lv_at hl 1 rfl) ?_
                      obtain ⟨b_129, hf⟩ := cm_ob hf
                      refine va_iald (pc := 129) hx hb hKa hP 0 0 rfl rfl b_129 dX11_trade_129 ?_
                      obtain rfl := Option.some.inj hf
                      exact J115 _ _ _ hP hD hS (lv_sub hl [1, 2, 3, 4, 5, 6] rfl)
                    · have hf := cm_in c_115 hf
                      refine lv_iload (pc := 118) hx hb dX11_trade_118 (lv_at hl 0 rfl) ?_
                      refine lv_goto (pc := 120) (tgt := 130) hx hb dX11_trade_120 (by decide) ?_
                      obtain rfl := Option.some.inj hf
                      exact J115 _ _ _ hP hD hS (lv_sub hl [1, 2, 3, 4, 5, 6] rfl)
              refine L77 _ (fun v6_77 m_without_77 m_with_77 H locs ls hP hD hS hl hf => ?_) 5000 1 m_without_68 m_with_68 _ _ _ hP hD hS (lv_sub hl [0, 1, 2, 3, 4, 5] rfl) hf
              refine lv_iinc (pc := 187) (v := (v5_68 + 1)) (lv' := [(5, .int (v5_68 + 1)), (0, .ref a), (2, .int v2), (3, .int v3), (4, .int v4)]) hx hb dX11_trade_187 hl (k := 0) rfl rfl (by decide) rfl (fun ls hl => ?_)
              refine lv_goto (pc := 190) (tgt := 68) hx hb dX11_trade_190 (by decide) ?_
              exact ih (v5_68 + 1) m_without_77 m_with_77 _ _ _ hP hD hS (lv_sub hl [0, 1, 2, 3, 4] rfl) hf
        refine L68 u3.2 _ (fun v5_68 m_without_68 m_with_68 H locs ls hP hD hS hl hf => ?_) 5000 0 m_without_35 m_with_35 _ _ _ hP hD hS (lv_sub hl [0, 1, 2, 3, 4] rfl) hf
        refine lv_iconst (pc := 193) (v := 0) hx hb dX11_trade_193 (by decide) ?_
        refine lv_istore (pc := 194) (lv' := [(5, .int 0), (0, .ref a), (3, .int v3), (4, .int v4)]) hx hb dX11_trade_194 hl (by decide) rfl (fun ls hl => ?_)
        refine lv_iconst (pc := 196) (v := 1) hx hb dX11_trade_196 (by decide) ?_
        refine lv_istore (pc := 197) (lv' := [(6, .int 1), (5, .int 0), (0, .ref a), (3, .int v3), (4, .int v4)]) hx hb dX11_trade_197 hl (by decide) rfl (fun ls hl => ?_)
        have L199 : ∀ (kx : Int32 → Int32 → Option (Int32 × (Nat → Int32) × (Nat → Int32) × (Nat → Int32))), (∀ (v5_199 : Int32) (v6_199 : Int32) (H : Heap) (locs : List Loc) (ls : Array Slot), va_P D vwCl [cm_kI cI a_without 11 m_without_68, cm_kI cI a_with 11 m_with_68, (a, .inr (11, [.ref a_book, .ref a_now, .int m_sights, .ref a_sight, .int m_signs, .ref a_pad, .int m_sold, .int m_markets, .int m_marketAt, .int m_reason, .int m_acts, .ref a_digits, .ref a_without, .ref a_with, .ref a_counts, .ref a_fewest, .ref a_ways, .ref a_more, .ref a_chooses, .ref a_image, .ref a_isKept])), cm_kI cI a_digits 9 u3.2] H → va_D A [cm_kI cI a_without 11 m_without_68, cm_kI cI a_with 11 m_with_68, (a, .inr (11, [.ref a_book, .ref a_now, .int m_sights, .ref a_sight, .int m_signs, .ref a_pad, .int m_sold, .int m_markets, .int m_marketAt, .int m_reason, .int m_acts, .ref a_digits, .ref a_without, .ref a_with, .ref a_counts, .ref a_fewest, .ref a_ways, .ref a_more, .ref a_chooses, .ref a_image, .ref a_isKept])), cm_kI cI a_digits 9 u3.2] → va_S A s.heap H locs → lv_has ls 9 [(5, .int v5_199), (0, .ref a), (4, .int v4)] → kx v5_199 v6_199 = some res → W p l e rmX11_trade s m args below meth c H locs 0 0 Q (F0 m 237 ls [])) → ∀ (n : Nat) (v5_199 : Int32) (v6_199 : Int32) (H : Heap) (locs : List Loc) (ls : Array Slot), va_P D vwCl [cm_kI cI a_without 11 m_without_68, cm_kI cI a_with 11 m_with_68, (a, .inr (11, [.ref a_book, .ref a_now, .int m_sights, .ref a_sight, .int m_signs, .ref a_pad, .int m_sold, .int m_markets, .int m_marketAt, .int m_reason, .int m_acts, .ref a_digits, .ref a_without, .ref a_with, .ref a_counts, .ref a_fewest, .ref a_ways, .ref a_more, .ref a_chooses, .ref a_image, .ref a_isKept])), cm_kI cI a_digits 9 u3.2] H → va_D A [cm_kI cI a_without 11 m_without_68, cm_kI cI a_with 11 m_with_68, (a, .inr (11, [.ref a_book, .ref a_now, .int m_sights, .ref a_sight, .int m_signs, .ref a_pad, .int m_sold, .int m_markets, .int m_marketAt, .int m_reason, .int m_acts, .ref a_digits, .ref a_without, .ref a_with, .ref a_counts, .ref a_fewest, .ref a_ways, .ref a_more, .ref a_chooses, .ref a_image, .ref a_isKept])), cm_kI cI a_digits 9 u3.2] → va_S A s.heap H locs → lv_has ls 9 [(6, .int v6_199), (5, .int v5_199), (0, .ref a), (3, .int v3), (4, .int v4)] → fX11_trade_L199 v3 m_without_68 kx n v5_199 v6_199 = some res → W p l e rmX11_trade s m args below meth c H locs 0 0 Q (F0 m 199 ls []) := by
          intro kx hkx n
          induction n with
          | zero => intro v5_199 v6_199 H locs ls hP hD hS hl hf; cases hf
          | succ n ih =>
            intro v5_199 v6_199 H locs ls hP hD hS hl hf
            rw [fX11_trade_L199] at hf
            refine lv_iload (pc := 199) hx hb dX11_trade_199 (lv_at hl 0 rfl) ?_
            refine lv_iload_n (pc := 201) hx hb dX11_trade_201 rfl (lv_at hl 3 rfl) ?_
            refine lv_icmp_gt (pc := 202) (tgt := 237) hx hb dX11_trade_202 (by decide) (fun c_202 => ?_) (fun c_202 => ?_)
            · have hf := cm_ip c_202 hf
              exact hkx v5_199 v6_199 _ _ _ hP hD hS (lv_sub hl [1, 2, 4] rfl) hf
            · have hf := cm_in c_202 hf
              refine lv_aload_n (pc := 205) hx hb dX11_trade_205 rfl (lv_at hl 2 rfl) ?_
              refine va_get (pc := 206) (D := D) (ci := 11) (v := .ref a_without) (C := RX11) (T := TX11) (N := 21) hx hb hts in_X11 hown hKa hP 2 rfl rfl 12 (by decide) (hts _ tw_724) (fun _ h9 => h9) rfl dX11_trade_206 ?_
              refine lv_iload (pc := 209) hx hb dX11_trade_209 (lv_at hl 0 rfl) ?_
              obtain ⟨b_211, hf⟩ := cm_ob hf
              refine va_iald (pc := 211) hx hb hKa hP 0 0 rfl rfl b_211 dX11_trade_211 ?_
              refine lv_aload_n (pc := 212) hx hb dX11_trade_212 rfl (lv_at hl 2 rfl) ?_
              refine va_get (pc := 213) (D := D) (ci := 11) (v := .ref a_without) (C := RX11) (T := TX11) (N := 21) hx hb hts in_X11 hown hKa hP 2 rfl rfl 12 (by decide) (hts _ tw_724) (fun _ h9 => h9) rfl dX11_trade_213 ?_
              refine lv_iload (pc := 216) hx hb dX11_trade_216 (lv_at hl 1 rfl) ?_
              obtain ⟨b_218, hf⟩ := cm_ob hf
              refine va_iald (pc := 218) hx hb hKa hP 0 0 rfl rfl b_218 dX11_trade_218 ?_
              refine lv_icmp_le (pc := 219) (tgt := 227) hx hb dX11_trade_219 (by decide) (fun c_219 => ?_) (fun c_219 => ?_)
              · have hf := cm_ip c_219 hf
                refine lv_iload (pc := 227) hx hb dX11_trade_227 (lv_at hl 1 rfl) ?_
                refine lv_istore (pc := 229) (lv' := [(5, .int v5_199), (6, .int v6_199), (0, .ref a), (3, .int v3), (4, .int v4)]) hx hb dX11_trade_229 hl (by decide) rfl (fun ls hl => ?_)
                refine lv_iinc (pc := 231) (v := (v6_199 + 1)) (lv' := [(6, .int (v6_199 + 1)), (5, .int v5_199), (0, .ref a), (3, .int v3), (4, .int v4)]) hx hb dX11_trade_231 hl (k := 1) rfl rfl (by decide) rfl (fun ls hl => ?_)
                refine lv_goto (pc := 234) (tgt := 199) hx hb dX11_trade_234 (by decide) ?_
                exact ih v5_199 (v6_199 + 1) _ _ _ hP hD hS (lv_sub hl [0, 1, 2, 3, 4] rfl) hf
              · have hf := cm_in c_219 hf
                refine lv_iload (pc := 222) hx hb dX11_trade_222 (lv_at hl 0 rfl) ?_
                refine lv_goto (pc := 224) (tgt := 229) hx hb dX11_trade_224 (by decide) ?_
                refine lv_istore (pc := 229) (lv' := [(5, .int v6_199), (6, .int v6_199), (0, .ref a), (3, .int v3), (4, .int v4)]) hx hb dX11_trade_229 hl (by decide) rfl (fun ls hl => ?_)
                refine lv_iinc (pc := 231) (v := (v6_199 + 1)) (lv' := [(6, .int (v6_199 + 1)), (5, .int v6_199), (0, .ref a), (3, .int v3), (4, .int v4)]) hx hb dX11_trade_231 hl (k := 1) rfl rfl (by decide) rfl (fun ls hl => ?_)
                refine lv_goto (pc := 234) (tgt := 199) hx hb dX11_trade_234 (by decide) ?_
                exact ih v6_199 (v6_199 + 1) _ _ _ hP hD hS (lv_sub hl [0, 1, 2, 3, 4] rfl) hf
        refine L199 _ (fun v5_199 v6_199 H locs ls hP hD hS hl hf => ?_) 5000 0 1 _ _ _ hP hD hS (lv_sub hl [0, 1, 2, 3, 4] rfl) hf
        refine lv_iload (pc := 237) hx hb dX11_trade_237 (lv_at hl 2 rfl) ?_
        refine lv_if_ne (pc := 239) (tgt := 252) hx hb dX11_trade_239 (by decide) (fun c_239 => ?_) (fun c_239 => ?_)
        · have hf := cm_in c_239 hf
          refine lv_iload (pc := 252) hx hb dX11_trade_252 (lv_at hl 0 rfl) ?_
          obtain rfl := Option.some.inj hf
          exact cm_iret (pc := 254) hAe hQ hx hb hr hlocks hP hD hS [2, 3, 0, 1] (by decide) rfl dX11_trade_254
        · have hf := cm_ip c_239 hf
          refine lv_aload_n (pc := 242) hx hb dX11_trade_242 rfl (lv_at hl 1 rfl) ?_
          refine va_get (pc := 243) (D := D) (ci := 11) (v := .ref a_without) (C := RX11) (T := TX11) (N := 21) hx hb hts in_X11 hown hKa hP 2 rfl rfl 12 (by decide) (hts _ tw_724) (fun _ h9 => h9) rfl dX11_trade_243 ?_
          refine lv_iload (pc := 246) hx hb dX11_trade_246 (lv_at hl 0 rfl) ?_
          obtain ⟨b_248, hf⟩ := cm_ob hf
          refine va_iald (pc := 248) hx hb hKa hP 0 0 rfl rfl b_248 dX11_trade_248 ?_
          refine lv_goto (pc := 249) (tgt := 254) hx hb dX11_trade_249 (by decide) ?_
          obtain rfl := Option.some.inj hf
          exact cm_iret (pc := 254) hAe hQ hx hb hr hlocks hP hD hS [2, 3, 0, 1] (by decide) rfl dX11_trade_254
      · have hf := cm_ip c_26 hf
        refine lv_bipush (pc := 29) (v := (-2)) hx hb dX11_trade_29 (by decide) ?_
        obtain rfl := Option.some.inj hf
        exact cm_iret (pc := 31) hAe hQ hx hb hr hlocks hP hD hS [2, 3, 0, 1] (by decide) rfl dX11_trade_31
def fX11_seen (v1 : Int32) (v2 : Int32) (v3 : Int32) (m_sights : Int32) (m_sight : (Nat → Int32)) : Option (Int32 × Int32 × (Nat → Int32)) := cm_let (fX11_in v1 0 9) (fun u4 => (if u4 = 0 then some ((-2), m_sights, m_sight) else cm_let (fX11_in v2 0 9) (fun u14 => (if u14 = 0 then some ((-2), m_sights, m_sight) else cm_let (fX11_in v3 0 2) (fun u23 => (if u23 = 0 then some ((-2), m_sights, m_sight) else (if m_sights = 8 then some ((-4), m_sights, m_sight) else if (3 * m_sights) < 0 ∨ 24 ≤ (3 * m_sights).toNatClampNeg then none else if ((3 * m_sights) + 1) < 0 ∨ 24 ≤ ((3 * m_sights) + 1).toNatClampNeg then none else if ((3 * m_sights) + 2) < 0 ∨ 24 ≤ ((3 * m_sights) + 2).toNatClampNeg then none else some ((m_sights + 1), (m_sights + 1), (upd (upd (upd m_sight (3 * m_sights).toNatClampNeg v1) ((3 * m_sights) + 1).toNatClampNeg v2) ((3 * m_sights) + 2).toNatClampNeg v3)))))))))
def rmX11_seen : Room := { frames := 1, cells := 0, slots := 0, locals := 22 }
set_option maxRecDepth 100000 in
set_option maxHeartbeats 4000000 in
theorem c_X11_seen (l : Launch) (D : va_G) (cI cJ cZ : ClassId) (a a_book a_now a_sight a_pad a_digits a_without a_with a_counts a_fewest a_ways a_more a_chooses a_image a_isKept : Nat) (m_sights : Int32) (m_signs : Int32) (m_sold : Int32) (m_markets : Int32) (m_marketAt : Int32) (m_reason : Int32) (m_acts : Int32) (m_sight : (Nat → Int32)) (v1 : Int32) (v2 : Int32) (v3 : Int32) (res : Int32 × Int32 × (Nat → Int32)) (hf : fX11_seen v1 v2 v3 m_sights m_sight = some res) : Ct l yX11_seen (cm_ws yX11_seen cX11_seen 4 (some .int)) rmX11_seen D (cm_T cI cJ cZ) [.ref a, .int v1, .int v2, .int v3] [(a, .inr (11, [.ref a_book, .ref a_now, .int m_sights, .ref a_sight, .int m_signs, .ref a_pad, .int m_sold, .int m_markets, .int m_marketAt, .int m_reason, .int m_acts, .ref a_digits, .ref a_without, .ref a_with, .ref a_counts, .ref a_fewest, .ref a_ways, .ref a_more, .ref a_chooses, .ref a_image, .ref a_isKept])), cm_kI cI a_sight 24 m_sight] (some (.int res.1)) [(a, .inr (11, [.ref a_book, .ref a_now, .int res.2.1, .ref a_sight, .int m_signs, .ref a_pad, .int m_sold, .int m_markets, .int m_marketAt, .int m_reason, .int m_acts, .ref a_digits, .ref a_without, .ref a_with, .ref a_counts, .ref a_fewest, .ref a_ways, .ref a_more, .ref a_chooses, .ref a_image, .ref a_isKept])), cm_kI cI a_sight 24 res.2.2] := by
  refine Ct.of (cc := cX11_seen) (maxL := 4) (ret := (some .int)) (by decide) (Nat.le_of_ble_eq_true rfl) ?_
  intro p e s m below meth c ls args A Q hav hAe hQ hx hb hr hml hown hlocks hts hK hP hD hA hS hl
  have hKa := hK.1
  have hl : lv_has ls 4 [(0, .ref a), (1, .int v1), (2, .int v2), (3, .int v3)] := hl
  unfold fX11_seen at hf
  refine lv_iload_n (pc := 0) hx hb dX11_seen_0 rfl (lv_at hl 1 rfl) ?_
  refine lv_iconst (pc := 1) (v := 0) hx hb dX11_seen_1 (by decide) ?_
  refine lv_bipush (pc := 2) (v := 9) hx hb dX11_seen_2 (by decide) ?_
  obtain ⟨u4, hu4, hf⟩ := cm_lt hf
  refine cm_callS (pc := 4) (As := [.int v1, .int 0, .int 9]) (rest := []) (wr := [(a, .inr (11, [.ref a_book, .ref a_now, .int m_sights, .ref a_sight, .int m_signs, .ref a_pad, .int m_sold, .int m_markets, .int m_marketAt, .int m_reason, .int m_acts, .ref a_digits, .ref a_without, .ref a_with, .ref a_counts, .ref a_fewest, .ref a_ways, .ref a_more, .ref a_chooses, .ref a_image, .ref a_isKept])), cm_kI cI a_sight 24 m_sight]) (n := 3) hx hb hml hown hts hK hP hD hS hA (c_X11_in l D cI cJ cZ v1 0 9 u4 hu4) tw_783 tw_781 tw_782 tw_56 rfl rfl (by decide +kernel) rfl ⟨Nat.le_of_ble_eq_true rfl, Nat.le_of_ble_eq_true rfl⟩ [] [0, 1] rfl (by decide) rfl (by decide) (by decide) hl.1 rfl (Nat.le_of_ble_eq_true rfl) dX11_seen_4 ⟨Nat.zero_le _, Nat.zero_le _⟩ (fun H locs hP hD hS => ?_)
  have hP : va_P D vwCl [(a, .inr (11, [.ref a_book, .ref a_now, .int m_sights, .ref a_sight, .int m_signs, .ref a_pad, .int m_sold, .int m_markets, .int m_marketAt, .int m_reason, .int m_acts, .ref a_digits, .ref a_without, .ref a_with, .ref a_counts, .ref a_fewest, .ref a_ways, .ref a_more, .ref a_chooses, .ref a_image, .ref a_isKept])), cm_kI cI a_sight 24 m_sight] H := hP
  have hD : va_D A [(a, .inr (11, [.ref a_book, .ref a_now, .int m_sights, .ref a_sight, .int m_signs, .ref a_pad, .int m_sold, .int m_markets, .int m_marketAt, .int m_reason, .int m_acts, .ref a_digits, .ref a_without, .ref a_with, .ref a_counts, .ref a_fewest, .ref a_ways, .ref a_more, .ref a_chooses, .ref a_image, .ref a_isKept])), cm_kI cI a_sight 24 m_sight] := hD
  refine W.eq (g2 := F0 m 7 ls [.int u4]) rfl ?_
  refine lv_if_eq (pc := 7) (tgt := 29) hx hb dX11_seen_7 (by decide) (fun c_7 => ?_) (fun c_7 => ?_)
  · have hf := cm_ip c_7 hf
    refine lv_bipush (pc := 29) (v := (-2)) hx hb dX11_seen_29 (by decide) ?_
    obtain rfl := Option.some.inj hf
    exact cm_iret (pc := 31) hAe hQ hx hb hr hlocks hP hD hS [0, 1] (by decide) rfl dX11_seen_31
  · have hf := cm_in c_7 hf
    refine lv_iload_n (pc := 10) hx hb dX11_seen_10 rfl (lv_at hl 2 rfl) ?_
    refine lv_iconst (pc := 11) (v := 0) hx hb dX11_seen_11 (by decide) ?_
    refine lv_bipush (pc := 12) (v := 9) hx hb dX11_seen_12 (by decide) ?_
    obtain ⟨u14, hu14, hf⟩ := cm_lt hf
    refine cm_callS (pc := 14) (As := [.int v2, .int 0, .int 9]) (rest := []) (wr := [(a, .inr (11, [.ref a_book, .ref a_now, .int m_sights, .ref a_sight, .int m_signs, .ref a_pad, .int m_sold, .int m_markets, .int m_marketAt, .int m_reason, .int m_acts, .ref a_digits, .ref a_without, .ref a_with, .ref a_counts, .ref a_fewest, .ref a_ways, .ref a_more, .ref a_chooses, .ref a_image, .ref a_isKept])), cm_kI cI a_sight 24 m_sight]) (n := 3) hx hb hml hown hts hK hP hD hS hA (c_X11_in l D cI cJ cZ v2 0 9 u14 hu14) tw_783 tw_781 tw_782 tw_56 rfl rfl (by decide +kernel) rfl ⟨Nat.le_of_ble_eq_true rfl, Nat.le_of_ble_eq_true rfl⟩ [] [0, 1] rfl (by decide) rfl (by decide) (by decide) hl.1 rfl (Nat.le_of_ble_eq_true rfl) dX11_seen_14 ⟨Nat.zero_le _, Nat.zero_le _⟩ (fun H locs hP hD hS => ?_)
    have hP : va_P D vwCl [(a, .inr (11, [.ref a_book, .ref a_now, .int m_sights, .ref a_sight, .int m_signs, .ref a_pad, .int m_sold, .int m_markets, .int m_marketAt, .int m_reason, .int m_acts, .ref a_digits, .ref a_without, .ref a_with, .ref a_counts, .ref a_fewest, .ref a_ways, .ref a_more, .ref a_chooses, .ref a_image, .ref a_isKept])), cm_kI cI a_sight 24 m_sight] H := hP
    have hD : va_D A [(a, .inr (11, [.ref a_book, .ref a_now, .int m_sights, .ref a_sight, .int m_signs, .ref a_pad, .int m_sold, .int m_markets, .int m_marketAt, .int m_reason, .int m_acts, .ref a_digits, .ref a_without, .ref a_with, .ref a_counts, .ref a_fewest, .ref a_ways, .ref a_more, .ref a_chooses, .ref a_image, .ref a_isKept])), cm_kI cI a_sight 24 m_sight] := hD
    refine W.eq (g2 := F0 m 17 ls [.int u14]) rfl ?_
    refine lv_if_eq (pc := 17) (tgt := 29) hx hb dX11_seen_17 (by decide) (fun c_17 => ?_) (fun c_17 => ?_)
    · have hf := cm_ip c_17 hf
      refine lv_bipush (pc := 29) (v := (-2)) hx hb dX11_seen_29 (by decide) ?_
      obtain rfl := Option.some.inj hf
      exact cm_iret (pc := 31) hAe hQ hx hb hr hlocks hP hD hS [0, 1] (by decide) rfl dX11_seen_31
    · have hf := cm_in c_17 hf
      refine lv_iload_n (pc := 20) hx hb dX11_seen_20 rfl (lv_at hl 3 rfl) ?_
      refine lv_iconst (pc := 21) (v := 0) hx hb dX11_seen_21 (by decide) ?_
      refine lv_iconst (pc := 22) (v := 2) hx hb dX11_seen_22 (by decide) ?_
      obtain ⟨u23, hu23, hf⟩ := cm_lt hf
      refine cm_callS (pc := 23) (As := [.int v3, .int 0, .int 2]) (rest := []) (wr := [(a, .inr (11, [.ref a_book, .ref a_now, .int m_sights, .ref a_sight, .int m_signs, .ref a_pad, .int m_sold, .int m_markets, .int m_marketAt, .int m_reason, .int m_acts, .ref a_digits, .ref a_without, .ref a_with, .ref a_counts, .ref a_fewest, .ref a_ways, .ref a_more, .ref a_chooses, .ref a_image, .ref a_isKept])), cm_kI cI a_sight 24 m_sight]) (n := 3) hx hb hml hown hts hK hP hD hS hA (c_X11_in l D cI cJ cZ v3 0 2 u23 hu23) tw_783 tw_781 tw_782 tw_56 rfl rfl (by decide +kernel) rfl ⟨Nat.le_of_ble_eq_true rfl, Nat.le_of_ble_eq_true rfl⟩ [] [0, 1] rfl (by decide) rfl (by decide) (by decide) hl.1 rfl (Nat.le_of_ble_eq_true rfl) dX11_seen_23 ⟨Nat.zero_le _, Nat.zero_le _⟩ (fun H locs hP hD hS => ?_)
      have hP : va_P D vwCl [(a, .inr (11, [.ref a_book, .ref a_now, .int m_sights, .ref a_sight, .int m_signs, .ref a_pad, .int m_sold, .int m_markets, .int m_marketAt, .int m_reason, .int m_acts, .ref a_digits, .ref a_without, .ref a_with, .ref a_counts, .ref a_fewest, .ref a_ways, .ref a_more, .ref a_chooses, .ref a_image, .ref a_isKept])), cm_kI cI a_sight 24 m_sight] H := hP
      have hD : va_D A [(a, .inr (11, [.ref a_book, .ref a_now, .int m_sights, .ref a_sight, .int m_signs, .ref a_pad, .int m_sold, .int m_markets, .int m_marketAt, .int m_reason, .int m_acts, .ref a_digits, .ref a_without, .ref a_with, .ref a_counts, .ref a_fewest, .ref a_ways, .ref a_more, .ref a_chooses, .ref a_image, .ref a_isKept])), cm_kI cI a_sight 24 m_sight] := hD
      refine W.eq (g2 := F0 m 26 ls [.int u23]) rfl ?_
      refine lv_if_ne (pc := 26) (tgt := 32) hx hb dX11_seen_26 (by decide) (fun c_26 => ?_) (fun c_26 => ?_)
      · have hf := cm_in c_26 hf
        refine lv_aload_n (pc := 32) hx hb dX11_seen_32 rfl (lv_at hl 0 rfl) ?_
        refine va_get (pc := 33) (D := D) (ci := 11) (v := .int m_sights) (C := RX11) (T := TX11) (N := 21) hx hb hts in_X11 hown hKa hP 0 rfl rfl 2 (by decide) (hts _ tw_714) (fun _ h9 => h9) rfl dX11_seen_33 ?_
        refine lv_bipush (pc := 36) (v := 8) hx hb dX11_seen_36 (by decide) ?_
        refine lv_icmp_ne (pc := 38) (tgt := 44) hx hb dX11_seen_38 (by decide) (fun c_38 => ?_) (fun c_38 => ?_)
        · have hf := cm_in c_38 hf
          refine lv_aload_n (pc := 44) hx hb dX11_seen_44 rfl (lv_at hl 0 rfl) ?_
          refine va_get (pc := 45) (D := D) (ci := 11) (v := .ref a_sight) (C := RX11) (T := TX11) (N := 21) hx hb hts in_X11 hown hKa hP 0 rfl rfl 3 (by decide) (hts _ tw_715) (fun _ h9 => h9) rfl dX11_seen_45 ?_
          refine lv_iconst (pc := 48) (v := 3) hx hb dX11_seen_48 (by decide) ?_
          refine lv_aload_n (pc := 49) hx hb dX11_seen_49 rfl (lv_at hl 0 rfl) ?_
          refine va_get (pc := 50) (D := D) (ci := 11) (v := .int m_sights) (C := RX11) (T := TX11) (N := 21) hx hb hts in_X11 hown hKa hP 0 rfl rfl 2 (by decide) (hts _ tw_714) (fun _ h9 => h9) rfl dX11_seen_50 ?_
          refine lv_imul (pc := 53) hx hb dX11_seen_53 ?_
          refine lv_iload_n (pc := 54) hx hb dX11_seen_54 rfl (lv_at hl 1 rfl) ?_
          obtain ⟨b_55, hf⟩ := cm_ob hf
          refine va_iast (pc := 55) hx hb hKa hP hD hS 1 0 rfl rfl b_55 dX11_seen_55 (fun H locs hP hD hS => ?_)
          have hP : va_P D vwCl [(a, .inr (11, [.ref a_book, .ref a_now, .int m_sights, .ref a_sight, .int m_signs, .ref a_pad, .int m_sold, .int m_markets, .int m_marketAt, .int m_reason, .int m_acts, .ref a_digits, .ref a_without, .ref a_with, .ref a_counts, .ref a_fewest, .ref a_ways, .ref a_more, .ref a_chooses, .ref a_image, .ref a_isKept])), cm_kI cI a_sight 24 (upd m_sight (3 * m_sights).toNatClampNeg v1)] H := hP
          have hD : va_D A [(a, .inr (11, [.ref a_book, .ref a_now, .int m_sights, .ref a_sight, .int m_signs, .ref a_pad, .int m_sold, .int m_markets, .int m_marketAt, .int m_reason, .int m_acts, .ref a_digits, .ref a_without, .ref a_with, .ref a_counts, .ref a_fewest, .ref a_ways, .ref a_more, .ref a_chooses, .ref a_image, .ref a_isKept])), cm_kI cI a_sight 24 (upd m_sight (3 * m_sights).toNatClampNeg v1)] := hD
          refine lv_aload_n (pc := 56) hx hb dX11_seen_56 rfl (lv_at hl 0 rfl) ?_
          refine va_get (pc := 57) (D := D) (ci := 11) (v := .ref a_sight) (C := RX11) (T := TX11) (N := 21) hx hb hts in_X11 hown hKa hP 0 rfl rfl 3 (by decide) (hts _ tw_715) (fun _ h9 => h9) rfl dX11_seen_57 ?_
          refine lv_iconst (pc := 60) (v := 3) hx hb dX11_seen_60 (by decide) ?_
          refine lv_aload_n (pc := 61) hx hb dX11_seen_61 rfl (lv_at hl 0 rfl) ?_
          refine va_get (pc := 62) (D := D) (ci := 11) (v := .int m_sights) (C := RX11) (T := TX11) (N := 21) hx hb hts in_X11 hown hKa hP 0 rfl rfl 2 (by decide) (hts _ tw_714) (fun _ h9 => h9) rfl dX11_seen_62 ?_
          refine lv_imul (pc := 65) hx hb dX11_seen_65 ?_
          refine lv_iconst (pc := 66) (v := 1) hx hb dX11_seen_66 (by decide) ?_
          refine lv_iadd (pc := 67) hx hb dX11_seen_67 ?_
          refine lv_iload_n (pc := 68) hx hb dX11_seen_68 rfl (lv_at hl 2 rfl) ?_
          obtain ⟨b_69, hf⟩ := cm_ob hf
          refine va_iast (pc := 69) hx hb hKa hP hD hS 1 0 rfl rfl b_69 dX11_seen_69 (fun H locs hP hD hS => ?_)
          have hP : va_P D vwCl [(a, .inr (11, [.ref a_book, .ref a_now, .int m_sights, .ref a_sight, .int m_signs, .ref a_pad, .int m_sold, .int m_markets, .int m_marketAt, .int m_reason, .int m_acts, .ref a_digits, .ref a_without, .ref a_with, .ref a_counts, .ref a_fewest, .ref a_ways, .ref a_more, .ref a_chooses, .ref a_image, .ref a_isKept])), cm_kI cI a_sight 24 (upd (upd m_sight (3 * m_sights).toNatClampNeg v1) ((3 * m_sights) + 1).toNatClampNeg v2)] H := hP
          have hD : va_D A [(a, .inr (11, [.ref a_book, .ref a_now, .int m_sights, .ref a_sight, .int m_signs, .ref a_pad, .int m_sold, .int m_markets, .int m_marketAt, .int m_reason, .int m_acts, .ref a_digits, .ref a_without, .ref a_with, .ref a_counts, .ref a_fewest, .ref a_ways, .ref a_more, .ref a_chooses, .ref a_image, .ref a_isKept])), cm_kI cI a_sight 24 (upd (upd m_sight (3 * m_sights).toNatClampNeg v1) ((3 * m_sights) + 1).toNatClampNeg v2)] := hD
          refine lv_aload_n (pc := 70) hx hb dX11_seen_70 rfl (lv_at hl 0 rfl) ?_
          refine va_get (pc := 71) (D := D) (ci := 11) (v := .ref a_sight) (C := RX11) (T := TX11) (N := 21) hx hb hts in_X11 hown hKa hP 0 rfl rfl 3 (by decide) (hts _ tw_715) (fun _ h9 => h9) rfl dX11_seen_71 ?_
          refine lv_iconst (pc := 74) (v := 3) hx hb dX11_seen_74 (by decide) ?_
          refine lv_aload_n (pc := 75) hx hb dX11_seen_75 rfl (lv_at hl 0 rfl) ?_
          refine va_get (pc := 76) (D := D) (ci := 11) (v := .int m_sights) (C := RX11) (T := TX11) (N := 21) hx hb hts in_X11 hown hKa hP 0 rfl rfl 2 (by decide) (hts _ tw_714) (fun _ h9 => h9) rfl dX11_seen_76 ?_
          refine lv_imul (pc := 79) hx hb dX11_seen_79 ?_
          refine lv_iconst (pc := 80) (v := 2) hx hb dX11_seen_80 (by decide) ?_
          refine lv_iadd (pc := 81) hx hb dX11_seen_81 ?_
          refine lv_iload_n (pc := 82) hx hb dX11_seen_82 rfl (lv_at hl 3 rfl) ?_
          obtain ⟨b_83, hf⟩ := cm_ob hf
          refine va_iast (pc := 83) hx hb hKa hP hD hS 1 0 rfl rfl b_83 dX11_seen_83 (fun H locs hP hD hS => ?_)
          have hP : va_P D vwCl [(a, .inr (11, [.ref a_book, .ref a_now, .int m_sights, .ref a_sight, .int m_signs, .ref a_pad, .int m_sold, .int m_markets, .int m_marketAt, .int m_reason, .int m_acts, .ref a_digits, .ref a_without, .ref a_with, .ref a_counts, .ref a_fewest, .ref a_ways, .ref a_more, .ref a_chooses, .ref a_image, .ref a_isKept])), cm_kI cI a_sight 24 (upd (upd (upd m_sight (3 * m_sights).toNatClampNeg v1) ((3 * m_sights) + 1).toNatClampNeg v2) ((3 * m_sights) + 2).toNatClampNeg v3)] H := hP
          have hD : va_D A [(a, .inr (11, [.ref a_book, .ref a_now, .int m_sights, .ref a_sight, .int m_signs, .ref a_pad, .int m_sold, .int m_markets, .int m_marketAt, .int m_reason, .int m_acts, .ref a_digits, .ref a_without, .ref a_with, .ref a_counts, .ref a_fewest, .ref a_ways, .ref a_more, .ref a_chooses, .ref a_image, .ref a_isKept])), cm_kI cI a_sight 24 (upd (upd (upd m_sight (3 * m_sights).toNatClampNeg v1) ((3 * m_sights) + 1).toNatClampNeg v2) ((3 * m_sights) + 2).toNatClampNeg v3)] := hD
          refine lv_aload_n (pc := 84) hx hb dX11_seen_84 rfl (lv_at hl 0 rfl) ?_
          refine lv_dup (pc := 85) hx hb dX11_seen_85 rfl ?_
          refine va_get (pc := 86) (D := D) (ci := 11) (v := .int m_sights) (C := RX11) (T := TX11) (N := 21) hx hb hts in_X11 hown hKa hP 0 rfl rfl 2 (by decide) (hts _ tw_714) (fun _ h9 => h9) rfl dX11_seen_86 ?_
          refine lv_iconst (pc := 89) (v := 1) hx hb dX11_seen_89 (by decide) ?_
          refine lv_iadd (pc := 90) hx hb dX11_seen_90 ?_
          refine va_put (pc := 91) (D := D) (ci := 11) (v := .int (m_sights + 1)) (ty := .int) (C := RX11) (T := TX11) (N := 21) hx hb hts in_X11 tyX11 tyX11_ok nmX11 hown hKa hP hD hS 0 rfl rfl 2 (by decide) (hts _ tw_714) (fun _ h9 => h9) rfl (by decide +kernel) rfl rfl (Nat.le_of_ble_eq_true rfl) dX11_seen_91 (fun H locs hP hD hS => ?_)
          have hP : va_P D vwCl [(a, .inr (11, [.ref a_book, .ref a_now, .int (m_sights + 1), .ref a_sight, .int m_signs, .ref a_pad, .int m_sold, .int m_markets, .int m_marketAt, .int m_reason, .int m_acts, .ref a_digits, .ref a_without, .ref a_with, .ref a_counts, .ref a_fewest, .ref a_ways, .ref a_more, .ref a_chooses, .ref a_image, .ref a_isKept])), cm_kI cI a_sight 24 (upd (upd (upd m_sight (3 * m_sights).toNatClampNeg v1) ((3 * m_sights) + 1).toNatClampNeg v2) ((3 * m_sights) + 2).toNatClampNeg v3)] H := hP
          have hD : va_D A [(a, .inr (11, [.ref a_book, .ref a_now, .int (m_sights + 1), .ref a_sight, .int m_signs, .ref a_pad, .int m_sold, .int m_markets, .int m_marketAt, .int m_reason, .int m_acts, .ref a_digits, .ref a_without, .ref a_with, .ref a_counts, .ref a_fewest, .ref a_ways, .ref a_more, .ref a_chooses, .ref a_image, .ref a_isKept])), cm_kI cI a_sight 24 (upd (upd (upd m_sight (3 * m_sights).toNatClampNeg v1) ((3 * m_sights) + 1).toNatClampNeg v2) ((3 * m_sights) + 2).toNatClampNeg v3)] := hD
          refine lv_aload_n (pc := 94) hx hb dX11_seen_94 rfl (lv_at hl 0 rfl) ?_
          refine va_get (pc := 95) (D := D) (ci := 11) (v := .int (m_sights + 1)) (C := RX11) (T := TX11) (N := 21) hx hb hts in_X11 hown hKa hP 0 rfl rfl 2 (by decide) (hts _ tw_714) (fun _ h9 => h9) rfl dX11_seen_95 ?_
          obtain rfl := Option.some.inj hf
          exact cm_iret (pc := 98) hAe hQ hx hb hr hlocks hP hD hS [0, 1] (by decide) rfl dX11_seen_98
        · have hf := cm_ip c_38 hf
          refine lv_bipush (pc := 41) (v := (-4)) hx hb dX11_seen_41 (by decide) ?_
          obtain rfl := Option.some.inj hf
          exact cm_iret (pc := 43) hAe hQ hx hb hr hlocks hP hD hS [0, 1] (by decide) rfl dX11_seen_43
      · have hf := cm_ip c_26 hf
        refine lv_bipush (pc := 29) (v := (-2)) hx hb dX11_seen_29 (by decide) ?_
        obtain rfl := Option.some.inj hf
        exact cm_iret (pc := 31) hAe hQ hx hb hr hlocks hP hD hS [0, 1] (by decide) rfl dX11_seen_31
def fX11_forget (m_sights : Int32) : Int32 × Int32 := (m_sights, 0)
def rmX11_forget : Room := { frames := 0, cells := 0, slots := 0, locals := 0 }
set_option maxRecDepth 100000 in
set_option maxHeartbeats 4000000 in
theorem c_X11_forget (l : Launch) (D : va_G) (cI cJ cZ : ClassId) (a a_book a_now a_sight a_pad a_digits a_without a_with a_counts a_fewest a_ways a_more a_chooses a_image a_isKept : Nat) (m_sights : Int32) (m_signs : Int32) (m_sold : Int32) (m_markets : Int32) (m_marketAt : Int32) (m_reason : Int32) (m_acts : Int32) (res : Int32 × Int32) (hf : fX11_forget m_sights = res) : Ct l yX11_forget (cm_ws yX11_forget cX11_forget 2 (some .int)) rmX11_forget D (cm_T cI cJ cZ) [.ref a] [(a, .inr (11, [.ref a_book, .ref a_now, .int m_sights, .ref a_sight, .int m_signs, .ref a_pad, .int m_sold, .int m_markets, .int m_marketAt, .int m_reason, .int m_acts, .ref a_digits, .ref a_without, .ref a_with, .ref a_counts, .ref a_fewest, .ref a_ways, .ref a_more, .ref a_chooses, .ref a_image, .ref a_isKept]))] (some (.int res.1)) [(a, .inr (11, [.ref a_book, .ref a_now, .int res.2, .ref a_sight, .int m_signs, .ref a_pad, .int m_sold, .int m_markets, .int m_marketAt, .int m_reason, .int m_acts, .ref a_digits, .ref a_without, .ref a_with, .ref a_counts, .ref a_fewest, .ref a_ways, .ref a_more, .ref a_chooses, .ref a_image, .ref a_isKept]))] := by
  refine Ct.of (cc := cX11_forget) (maxL := 2) (ret := (some .int)) (by decide) (Nat.le_of_ble_eq_true rfl) ?_
  intro p e s m below meth c ls args A Q hav hAe hQ hx hb hr hml hown hlocks hts hK hP hD hA hS hl
  have hKa := hK.1
  have hl : lv_has ls 2 [(0, .ref a)] := hl
  unfold fX11_forget at hf
  refine lv_aload_n (pc := 0) hx hb dX11_forget_0 rfl (lv_at hl 0 rfl) ?_
  refine va_get (pc := 1) (D := D) (ci := 11) (v := .int m_sights) (C := RX11) (T := TX11) (N := 21) hx hb hts in_X11 hown hKa hP 0 rfl rfl 2 (by decide) (hts _ tw_714) (fun _ h9 => h9) rfl dX11_forget_1 ?_
  refine lv_istore_n (pc := 4) (lv' := [(1, .int m_sights), (0, .ref a)]) hx hb dX11_forget_4 rfl hl (by decide) rfl (fun ls hl => ?_)
  refine lv_aload_n (pc := 5) hx hb dX11_forget_5 rfl (lv_at hl 1 rfl) ?_
  refine lv_iconst (pc := 6) (v := 0) hx hb dX11_forget_6 (by decide) ?_
  refine va_put (pc := 7) (D := D) (ci := 11) (v := .int 0) (ty := .int) (C := RX11) (T := TX11) (N := 21) hx hb hts in_X11 tyX11 tyX11_ok nmX11 hown hKa hP hD hS 0 rfl rfl 2 (by decide) (hts _ tw_714) (fun _ h9 => h9) rfl (by decide +kernel) rfl rfl (Nat.le_of_ble_eq_true rfl) dX11_forget_7 (fun H locs hP hD hS => ?_)
  have hP : va_P D vwCl [(a, .inr (11, [.ref a_book, .ref a_now, .int 0, .ref a_sight, .int m_signs, .ref a_pad, .int m_sold, .int m_markets, .int m_marketAt, .int m_reason, .int m_acts, .ref a_digits, .ref a_without, .ref a_with, .ref a_counts, .ref a_fewest, .ref a_ways, .ref a_more, .ref a_chooses, .ref a_image, .ref a_isKept]))] H := hP
  have hD : va_D A [(a, .inr (11, [.ref a_book, .ref a_now, .int 0, .ref a_sight, .int m_signs, .ref a_pad, .int m_sold, .int m_markets, .int m_marketAt, .int m_reason, .int m_acts, .ref a_digits, .ref a_without, .ref a_with, .ref a_counts, .ref a_fewest, .ref a_ways, .ref a_more, .ref a_chooses, .ref a_image, .ref a_isKept]))] := hD
  refine lv_iload_n (pc := 10) hx hb dX11_forget_10 rfl (lv_at hl 0 rfl) ?_
  obtain rfl := hf
  exact cm_iret (pc := 11) hAe hQ hx hb hr hlocks hP hD hS [0] (by decide) rfl dX11_forget_11
def fX11_saidOf (v0 : Int32) (v1 : Int32) (v2 : Int32) : Int32 := (if ((((v0 / 10) + v1) - (irm v0 10)) - v2) ≤ 0 then (if 0 ≤ ((((v0 / 10) + v1) - (irm v0 10)) - v2) then 2 else 1) else 0)
def rmX11_saidOf : Room := { frames := 0, cells := 0, slots := 0, locals := 0 }
set_option maxRecDepth 100000 in
set_option maxHeartbeats 4000000 in
theorem c_X11_saidOf (l : Launch) (D : va_G) (cI cJ cZ : ClassId) (v0 : Int32) (v1 : Int32) (v2 : Int32) (res : Int32) (hf : fX11_saidOf v0 v1 v2 = res) : Ct l yX11_saidOf (cm_ws yX11_saidOf cX11_saidOf 4 (some .int)) rmX11_saidOf D (cm_T cI cJ cZ) [.int v0, .int v1, .int v2] [] (some (.int res)) [] := by
  refine Ct.of (cc := cX11_saidOf) (maxL := 4) (ret := (some .int)) (by decide) (Nat.le_of_ble_eq_true rfl) ?_
  intro p e s m below meth c ls args A Q hav hAe hQ hx hb hr hml hown hlocks hts hK hP hD hA hS hl
  have hKa := hK.1
  have hl : lv_has ls 4 [(0, .int v0), (1, .int v1), (2, .int v2)] := hl
  unfold fX11_saidOf at hf
  refine lv_iload_n (pc := 0) hx hb dX11_saidOf_0 rfl (lv_at hl 0 rfl) ?_
  refine lv_bipush (pc := 1) (v := 10) hx hb dX11_saidOf_1 (by decide) ?_
  refine lv_idiv (pc := 3) hx hb dX11_saidOf_3 (by decide) ?_
  refine lv_iload_n (pc := 4) hx hb dX11_saidOf_4 rfl (lv_at hl 1 rfl) ?_
  refine lv_iadd (pc := 5) hx hb dX11_saidOf_5 ?_
  refine lv_iload_n (pc := 6) hx hb dX11_saidOf_6 rfl (lv_at hl 0 rfl) ?_
  refine lv_bipush (pc := 7) (v := 10) hx hb dX11_saidOf_7 (by decide) ?_
  refine cm_irem (pc := 9) hx hb dX11_saidOf_9 (by decide) ?_
  refine lv_isub (pc := 10) hx hb dX11_saidOf_10 ?_
  refine lv_iload_n (pc := 11) hx hb dX11_saidOf_11 rfl (lv_at hl 2 rfl) ?_
  refine lv_isub (pc := 12) hx hb dX11_saidOf_12 ?_
  refine lv_istore_n (pc := 13) (lv' := [(3, .int ((((v0 / 10) + v1) - (irm v0 10)) - v2)), (0, .int v0), (1, .int v1), (2, .int v2)]) hx hb dX11_saidOf_13 rfl hl (by decide) rfl (fun ls hl => ?_)
  refine lv_iload_n (pc := 14) hx hb dX11_saidOf_14 rfl (lv_at hl 0 rfl) ?_
  refine lv_if_le (pc := 15) (tgt := 22) hx hb dX11_saidOf_15 (by decide) (fun c_15 => ?_) (fun c_15 => ?_)
  · have hf := cm_ip c_15 hf
    refine lv_iload_n (pc := 22) hx hb dX11_saidOf_22 rfl (lv_at hl 0 rfl) ?_
    refine lv_if_ge (pc := 23) (tgt := 30) hx hb dX11_saidOf_23 (by decide) (fun c_23 => ?_) (fun c_23 => ?_)
    · have hf := cm_ip c_23 hf
      refine lv_iconst (pc := 30) (v := 2) hx hb dX11_saidOf_30 (by decide) ?_
      obtain rfl := hf
      exact cm_iret (pc := 31) hAe hQ hx hb hr hlocks hP hD hS [] (by decide) rfl dX11_saidOf_31
    · have hf := cm_in c_23 hf
      refine lv_iconst (pc := 26) (v := 1) hx hb dX11_saidOf_26 (by decide) ?_
      refine lv_goto (pc := 27) (tgt := 31) hx hb dX11_saidOf_27 (by decide) ?_
      obtain rfl := hf
      exact cm_iret (pc := 31) hAe hQ hx hb hr hlocks hP hD hS [] (by decide) rfl dX11_saidOf_31
  · have hf := cm_in c_15 hf
    refine lv_iconst (pc := 18) (v := 0) hx hb dX11_saidOf_18 (by decide) ?_
    refine lv_goto (pc := 19) (tgt := 31) hx hb dX11_saidOf_19 (by decide) ?_
    obtain rfl := hf
    exact cm_iret (pc := 31) hAe hQ hx hb hr hlocks hP hD hS [] (by decide) rfl dX11_saidOf_31
def fX11_isFit_L22 (v1 : Int32) (m_sights : Int32) (m_sight : (Nat → Int32)) (kx : Int32 → Int32 → Option (Int32)) : Nat → Int32 → Int32 → Option (Int32)
  | 0, _, _ => none
  | n + 1, v2_22, v3_22 => (if m_sights ≤ v3_22 then kx v2_22 v3_22 else (if v2_22 = 0 then kx v2_22 v3_22 else if (3 * v3_22) < 0 ∨ 24 ≤ (3 * v3_22).toNatClampNeg then none else if ((3 * v3_22) + 1) < 0 ∨ 24 ≤ ((3 * v3_22) + 1).toNatClampNeg then none else cm_let (fX11_saidOf v1 (m_sight (3 * v3_22).toNatClampNeg) (m_sight ((3 * v3_22) + 1).toNatClampNeg)) (fun u53 => if ((3 * v3_22) + 2) < 0 ∨ 24 ≤ ((3 * v3_22) + 2).toNatClampNeg then none else (if u53 = (m_sight ((3 * v3_22) + 2).toNatClampNeg) then fX11_isFit_L22 v1 m_sights m_sight kx n 1 (v3_22 + 1) else fX11_isFit_L22 v1 m_sights m_sight kx n 0 (v3_22 + 1)))))
def fX11_isFit (v1 : Int32) (m_sights : Int32) (m_sight : (Nat → Int32)) : Option (Int32) := cm_let ((if 9 ≤ ((v1 / 10) + (irm v1 10)) then 0 else 1) : Int32) (fun j11 => fX11_isFit_L22 v1 m_sights m_sight (fun v2_22 v3_22 => if v2_22 = 0 ∨ v2_22 = 1 then some v2_22 else none) 5000 j11 0)
def rmX11_isFit : Room := { frames := 1, cells := 0, slots := 0, locals := 23 }
set_option maxRecDepth 100000 in
set_option maxHeartbeats 4000000 in
theorem c_X11_isFit (l : Launch) (D : va_G) (cI cJ cZ : ClassId) (a a_book a_now a_sight a_pad a_digits a_without a_with a_counts a_fewest a_ways a_more a_chooses a_image a_isKept : Nat) (m_sights : Int32) (m_signs : Int32) (m_sold : Int32) (m_markets : Int32) (m_marketAt : Int32) (m_reason : Int32) (m_acts : Int32) (m_sight : (Nat → Int32)) (v1 : Int32) (res : Int32) (hf : fX11_isFit v1 m_sights m_sight = some res) : Ct l yX11_isFit (cm_ws yX11_isFit cX11_isFit 4 (some .boolean)) rmX11_isFit D (cm_T cI cJ cZ) [.ref a, .int v1] [(a, .inr (11, [.ref a_book, .ref a_now, .int m_sights, .ref a_sight, .int m_signs, .ref a_pad, .int m_sold, .int m_markets, .int m_marketAt, .int m_reason, .int m_acts, .ref a_digits, .ref a_without, .ref a_with, .ref a_counts, .ref a_fewest, .ref a_ways, .ref a_more, .ref a_chooses, .ref a_image, .ref a_isKept])), cm_kI cI a_sight 24 m_sight] (some (.int res)) [(a, .inr (11, [.ref a_book, .ref a_now, .int m_sights, .ref a_sight, .int m_signs, .ref a_pad, .int m_sold, .int m_markets, .int m_marketAt, .int m_reason, .int m_acts, .ref a_digits, .ref a_without, .ref a_with, .ref a_counts, .ref a_fewest, .ref a_ways, .ref a_more, .ref a_chooses, .ref a_image, .ref a_isKept])), cm_kI cI a_sight 24 m_sight] := by
  refine Ct.of (cc := cX11_isFit) (maxL := 4) (ret := (some .boolean)) (by decide) (Nat.le_of_ble_eq_true rfl) ?_
  intro p e s m below meth c ls args A Q hav hAe hQ hx hb hr hml hown hlocks hts hK hP hD hA hS hl
  have hKa := hK.1
  have hl : lv_has ls 4 [(0, .ref a), (1, .int v1)] := hl
  unfold fX11_isFit at hf
  refine lv_iload_n (pc := 0) hx hb dX11_isFit_0 rfl (lv_at hl 1 rfl) ?_
  refine lv_bipush (pc := 1) (v := 10) hx hb dX11_isFit_1 (by decide) ?_
  refine lv_idiv (pc := 3) hx hb dX11_isFit_3 (by decide) ?_
  refine lv_iload_n (pc := 4) hx hb dX11_isFit_4 rfl (lv_at hl 1 rfl) ?_
  refine lv_bipush (pc := 5) (v := 10) hx hb dX11_isFit_5 (by decide) ?_
  refine cm_irem (pc := 7) hx hb dX11_isFit_7 (by decide) ?_
  refine lv_iadd (pc := 8) hx hb dX11_isFit_8 ?_
  refine lv_bipush (pc := 9) (v := 9) hx hb dX11_isFit_9 (by decide) ?_
  obtain ⟨j11, hj11, hf⟩ := cm_lt hf
  have J11 : ∀ (H : Heap) (locs : List Loc) (ls : Array Slot), va_P D vwCl [(a, .inr (11, [.ref a_book, .ref a_now, .int m_sights, .ref a_sight, .int m_signs, .ref a_pad, .int m_sold, .int m_markets, .int m_marketAt, .int m_reason, .int m_acts, .ref a_digits, .ref a_without, .ref a_with, .ref a_counts, .ref a_fewest, .ref a_ways, .ref a_more, .ref a_chooses, .ref a_image, .ref a_isKept])), cm_kI cI a_sight 24 m_sight] H → va_D A [(a, .inr (11, [.ref a_book, .ref a_now, .int m_sights, .ref a_sight, .int m_signs, .ref a_pad, .int m_sold, .int m_markets, .int m_marketAt, .int m_reason, .int m_acts, .ref a_digits, .ref a_without, .ref a_with, .ref a_counts, .ref a_fewest, .ref a_ways, .ref a_more, .ref a_chooses, .ref a_image, .ref a_isKept])), cm_kI cI a_sight 24 m_sight] → va_S A s.heap H locs → lv_has ls 4 [(0, .ref a), (1, .int v1)] → W p l e rmX11_isFit s m args below meth c H locs 0 0 Q (F0 m 19 ls [.int j11]) := by
    intro H locs ls hP hD hS hl
    refine lv_istore_n (pc := 19) (lv' := [(2, .int j11), (0, .ref a), (1, .int v1)]) hx hb dX11_isFit_19 rfl hl (by decide) rfl (fun ls hl => ?_)
    refine lv_iconst (pc := 20) (v := 0) hx hb dX11_isFit_20 (by decide) ?_
    refine lv_istore_n (pc := 21) (lv' := [(3, .int 0), (2, .int j11), (0, .ref a), (1, .int v1)]) hx hb dX11_isFit_21 rfl hl (by decide) rfl (fun ls hl => ?_)
    have L22 : ∀ (kx : Int32 → Int32 → Option (Int32)), (∀ (v2_22 : Int32) (v3_22 : Int32) (H : Heap) (locs : List Loc) (ls : Array Slot), va_P D vwCl [(a, .inr (11, [.ref a_book, .ref a_now, .int m_sights, .ref a_sight, .int m_signs, .ref a_pad, .int m_sold, .int m_markets, .int m_marketAt, .int m_reason, .int m_acts, .ref a_digits, .ref a_without, .ref a_with, .ref a_counts, .ref a_fewest, .ref a_ways, .ref a_more, .ref a_chooses, .ref a_image, .ref a_isKept])), cm_kI cI a_sight 24 m_sight] H → va_D A [(a, .inr (11, [.ref a_book, .ref a_now, .int m_sights, .ref a_sight, .int m_signs, .ref a_pad, .int m_sold, .int m_markets, .int m_marketAt, .int m_reason, .int m_acts, .ref a_digits, .ref a_without, .ref a_with, .ref a_counts, .ref a_fewest, .ref a_ways, .ref a_more, .ref a_chooses, .ref a_image, .ref a_isKept])), cm_kI cI a_sight 24 m_sight] → va_S A s.heap H locs → lv_has ls 4 [(2, .int v2_22)] → kx v2_22 v3_22 = some res → W p l e rmX11_isFit s m args below meth c H locs 0 0 Q (F0 m 81 ls [])) → ∀ (n : Nat) (v2_22 : Int32) (v3_22 : Int32) (H : Heap) (locs : List Loc) (ls : Array Slot), va_P D vwCl [(a, .inr (11, [.ref a_book, .ref a_now, .int m_sights, .ref a_sight, .int m_signs, .ref a_pad, .int m_sold, .int m_markets, .int m_marketAt, .int m_reason, .int m_acts, .ref a_digits, .ref a_without, .ref a_with, .ref a_counts, .ref a_fewest, .ref a_ways, .ref a_more, .ref a_chooses, .ref a_image, .ref a_isKept])), cm_kI cI a_sight 24 m_sight] H → va_D A [(a, .inr (11, [.ref a_book, .ref a_now, .int m_sights, .ref a_sight, .int m_signs, .ref a_pad, .int m_sold, .int m_markets, .int m_marketAt, .int m_reason, .int m_acts, .ref a_digits, .ref a_without, .ref a_with, .ref a_counts, .ref a_fewest, .ref a_ways, .ref a_more, .ref a_chooses, .ref a_image, .ref a_isKept])), cm_kI cI a_sight 24 m_sight] → va_S A s.heap H locs → lv_has ls 4 [(3, .int v3_22), (2, .int v2_22), (0, .ref a), (1, .int v1)] → fX11_isFit_L22 v1 m_sights m_sight kx n v2_22 v3_22 = some res → W p l e rmX11_isFit s m args below meth c H locs 0 0 Q (F0 m 22 ls []) := by
      intro kx hkx n
      induction n with
      | zero => intro v2_22 v3_22 H locs ls hP hD hS hl hf; cases hf
      | succ n ih =>
        intro v2_22 v3_22 H locs ls hP hD hS hl hf
        rw [fX11_isFit_L22] at hf
        refine lv_iload_n (pc := 22) hx hb dX11_isFit_22 rfl (lv_at hl 0 rfl) ?_
        refine lv_aload_n (pc := 23) hx hb dX11_isFit_23 rfl (lv_at hl 2 rfl) ?_
        refine va_get (pc := 24) (D := D) (ci := 11) (v := .int m_sights) (C := RX11) (T := TX11) (N := 21) hx hb hts in_X11 hown hKa hP 0 rfl rfl 2 (by decide) (hts _ tw_714) (fun _ h9 => h9) rfl dX11_isFit_24 ?_
        refine lv_icmp_ge (pc := 27) (tgt := 81) hx hb dX11_isFit_27 (by decide) (fun c_27 => ?_) (fun c_27 => ?_)
        · have hf := cm_ip c_27 hf
          exact hkx v2_22 v3_22 _ _ _ hP hD hS (lv_sub hl [1] rfl) hf
        · have hf := cm_in c_27 hf
          refine lv_iload_n (pc := 30) hx hb dX11_isFit_30 rfl (lv_at hl 1 rfl) ?_
          refine lv_if_eq (pc := 31) (tgt := 81) hx hb dX11_isFit_31 (by decide) (fun c_31 => ?_) (fun c_31 => ?_)
          · have hf := cm_ip c_31 hf
            exact hkx v2_22 v3_22 _ _ _ hP hD hS (lv_sub hl [1] rfl) hf
          · have hf := cm_in c_31 hf
            refine lv_iload_n (pc := 34) hx hb dX11_isFit_34 rfl (lv_at hl 3 rfl) ?_
            refine lv_aload_n (pc := 35) hx hb dX11_isFit_35 rfl (lv_at hl 2 rfl) ?_
            refine va_get (pc := 36) (D := D) (ci := 11) (v := .ref a_sight) (C := RX11) (T := TX11) (N := 21) hx hb hts in_X11 hown hKa hP 0 rfl rfl 3 (by decide) (hts _ tw_715) (fun _ h9 => h9) rfl dX11_isFit_36 ?_
            refine lv_iconst (pc := 39) (v := 3) hx hb dX11_isFit_39 (by decide) ?_
            refine lv_iload_n (pc := 40) hx hb dX11_isFit_40 rfl (lv_at hl 0 rfl) ?_
            refine lv_imul (pc := 41) hx hb dX11_isFit_41 ?_
            obtain ⟨b_42, hf⟩ := cm_ob hf
            refine va_iald (pc := 42) hx hb hKa hP 1 0 rfl rfl b_42 dX11_isFit_42 ?_
            refine lv_aload_n (pc := 43) hx hb dX11_isFit_43 rfl (lv_at hl 2 rfl) ?_
            refine va_get (pc := 44) (D := D) (ci := 11) (v := .ref a_sight) (C := RX11) (T := TX11) (N := 21) hx hb hts in_X11 hown hKa hP 0 rfl rfl 3 (by decide) (hts _ tw_715) (fun _ h9 => h9) rfl dX11_isFit_44 ?_
            refine lv_iconst (pc := 47) (v := 3) hx hb dX11_isFit_47 (by decide) ?_
            refine lv_iload_n (pc := 48) hx hb dX11_isFit_48 rfl (lv_at hl 0 rfl) ?_
            refine lv_imul (pc := 49) hx hb dX11_isFit_49 ?_
            refine lv_iconst (pc := 50) (v := 1) hx hb dX11_isFit_50 (by decide) ?_
            refine lv_iadd (pc := 51) hx hb dX11_isFit_51 ?_
            obtain ⟨b_52, hf⟩ := cm_ob hf
            refine va_iald (pc := 52) hx hb hKa hP 1 0 rfl rfl b_52 dX11_isFit_52 ?_
            obtain ⟨u53, hu53, hf⟩ := cm_lt hf
            refine cm_callS (pc := 53) (As := [.int v1, .int (m_sight (3 * v3_22).toNatClampNeg), .int (m_sight ((3 * v3_22) + 1).toNatClampNeg)]) (rest := []) (wr := [(a, .inr (11, [.ref a_book, .ref a_now, .int m_sights, .ref a_sight, .int m_signs, .ref a_pad, .int m_sold, .int m_markets, .int m_marketAt, .int m_reason, .int m_acts, .ref a_digits, .ref a_without, .ref a_with, .ref a_counts, .ref a_fewest, .ref a_ways, .ref a_more, .ref a_chooses, .ref a_image, .ref a_isKept])), cm_kI cI a_sight 24 m_sight]) (n := 3) hx hb hml hown hts hK hP hD hS hA (c_X11_saidOf l D cI cJ cZ v1 (m_sight (3 * v3_22).toNatClampNeg) (m_sight ((3 * v3_22) + 1).toNatClampNeg) u53 hu53) tw_922 tw_920 tw_921 tw_56 rfl rfl (by decide +kernel) rfl ⟨Nat.le_of_ble_eq_true rfl, Nat.le_of_ble_eq_true rfl⟩ [] [0, 1] rfl (by decide) rfl (by decide) (by decide) hl.1 rfl (Nat.le_of_ble_eq_true rfl) dX11_isFit_53 ⟨Nat.zero_le _, Nat.zero_le _⟩ (fun H locs hP hD hS => ?_)
            have hP : va_P D vwCl [(a, .inr (11, [.ref a_book, .ref a_now, .int m_sights, .ref a_sight, .int m_signs, .ref a_pad, .int m_sold, .int m_markets, .int m_marketAt, .int m_reason, .int m_acts, .ref a_digits, .ref a_without, .ref a_with, .ref a_counts, .ref a_fewest, .ref a_ways, .ref a_more, .ref a_chooses, .ref a_image, .ref a_isKept])), cm_kI cI a_sight 24 m_sight] H := hP
            have hD : va_D A [(a, .inr (11, [.ref a_book, .ref a_now, .int m_sights, .ref a_sight, .int m_signs, .ref a_pad, .int m_sold, .int m_markets, .int m_marketAt, .int m_reason, .int m_acts, .ref a_digits, .ref a_without, .ref a_with, .ref a_counts, .ref a_fewest, .ref a_ways, .ref a_more, .ref a_chooses, .ref a_image, .ref a_isKept])), cm_kI cI a_sight 24 m_sight] := hD
            refine W.eq (g2 := F0 m 56 ls [.int u53]) rfl ?_
            refine lv_aload_n (pc := 56) hx hb dX11_isFit_56 rfl (lv_at hl 2 rfl) ?_
            refine va_get (pc := 57) (D := D) (ci := 11) (v := .ref a_sight) (C := RX11) (T := TX11) (N := 21) hx hb hts in_X11 hown hKa hP 0 rfl rfl 3 (by decide) (hts _ tw_715) (fun _ h9 => h9) rfl dX11_isFit_57 ?_
            refine lv_iconst (pc := 60) (v := 3) hx hb dX11_isFit_60 (by decide) ?_
            refine lv_iload_n (pc := 61) hx hb dX11_isFit_61 rfl (lv_at hl 0 rfl) ?_
            refine lv_imul (pc := 62) hx hb dX11_isFit_62 ?_
            refine lv_iconst (pc := 63) (v := 2) hx hb dX11_isFit_63 (by decide) ?_
            refine lv_iadd (pc := 64) hx hb dX11_isFit_64 ?_
            obtain ⟨b_65, hf⟩ := cm_ob hf
            refine va_iald (pc := 65) hx hb hKa hP 1 0 rfl rfl b_65 dX11_isFit_65 ?_
            refine lv_icmp_ne (pc := 66) (tgt := 73) hx hb dX11_isFit_66 (by decide) (fun c_66 => ?_) (fun c_66 => ?_)
            · have hf := cm_in c_66 hf
              refine lv_iconst (pc := 73) (v := 0) hx hb dX11_isFit_73 (by decide) ?_
              refine lv_istore_n (pc := 74) (lv' := [(2, .int 0), (3, .int v3_22), (0, .ref a), (1, .int v1)]) hx hb dX11_isFit_74 rfl hl (by decide) rfl (fun ls hl => ?_)
              refine lv_iinc (pc := 75) (v := (v3_22 + 1)) (lv' := [(3, .int (v3_22 + 1)), (2, .int 0), (0, .ref a), (1, .int v1)]) hx hb dX11_isFit_75 hl (k := 1) rfl rfl (by decide) rfl (fun ls hl => ?_)
              refine lv_goto (pc := 78) (tgt := 22) hx hb dX11_isFit_78 (by decide) ?_
              exact ih 0 (v3_22 + 1) _ _ _ hP hD hS (lv_sub hl [0, 1, 2, 3] rfl) hf
            · have hf := cm_ip c_66 hf
              refine lv_iconst (pc := 69) (v := 1) hx hb dX11_isFit_69 (by decide) ?_
              refine lv_goto (pc := 70) (tgt := 74) hx hb dX11_isFit_70 (by decide) ?_
              refine lv_istore_n (pc := 74) (lv' := [(2, .int 1), (3, .int v3_22), (0, .ref a), (1, .int v1)]) hx hb dX11_isFit_74 rfl hl (by decide) rfl (fun ls hl => ?_)
              refine lv_iinc (pc := 75) (v := (v3_22 + 1)) (lv' := [(3, .int (v3_22 + 1)), (2, .int 1), (0, .ref a), (1, .int v1)]) hx hb dX11_isFit_75 hl (k := 1) rfl rfl (by decide) rfl (fun ls hl => ?_)
              refine lv_goto (pc := 78) (tgt := 22) hx hb dX11_isFit_78 (by decide) ?_
              exact ih 1 (v3_22 + 1) _ _ _ hP hD hS (lv_sub hl [0, 1, 2, 3] rfl) hf
    refine L22 _ (fun v2_22 v3_22 H locs ls hP hD hS hl hf => ?_) 5000 j11 0 _ _ _ hP hD hS (lv_sub hl [0, 1, 2, 3] rfl) hf
    refine lv_iload_n (pc := 81) hx hb dX11_isFit_81 rfl (lv_at hl 0 rfl) ?_
    obtain ⟨z_82, hf⟩ := cm_zo hf
    obtain rfl := Option.some.inj hf
    exact cm_zret z_82 (pc := 82) hAe hQ hx hb hr hlocks hP hD hS [0, 1] (by decide) rfl dX11_isFit_82
  clear hf
  have hf := hj11
  refine lv_icmp_ge (pc := 11) (tgt := 18) hx hb dX11_isFit_11 (by decide) (fun c_11 => ?_) (fun c_11 => ?_)
  · have hf := cm_ip c_11 hf
    refine lv_iconst (pc := 18) (v := 0) hx hb dX11_isFit_18 (by decide) ?_
    obtain rfl := hf
    exact J11 _ _ _ hP hD hS (lv_sub hl [0, 1] rfl)
  · have hf := cm_in c_11 hf
    refine lv_iconst (pc := 14) (v := 1) hx hb dX11_isFit_14 (by decide) ?_
    refine lv_goto (pc := 15) (tgt := 19) hx hb dX11_isFit_15 (by decide) ?_
    obtain rfl := hf
    exact J11 _ _ _ hP hD hS (lv_sub hl [0, 1] rfl)
def fX11_slates_L4 (v1 : Int32) (m_sights : Int32) (m_sight : (Nat → Int32)) (kx : Int32 → Int32 → Option (Int32)) : Nat → Int32 → Int32 → Option (Int32)
  | 0, _, _ => none
  | n + 1, v2_4, v3_4 => (if 81 ≤ v3_4 then kx v2_4 v3_4 else Option.bind (fX11_isFit v3_4 m_sights m_sight) (fun u12 => (if u12 = 0 then fX11_slates_L4 v1 m_sights m_sight kx n v2_4 (v3_4 + 1) else (if v2_4 = v1 then some v3_4 else fX11_slates_L4 v1 m_sights m_sight kx n (v2_4 + 1) (v3_4 + 1)))))
def fX11_slates (v1 : Int32) (m_sights : Int32) (m_sight : (Nat → Int32)) : Option (Int32) := fX11_slates_L4 v1 m_sights m_sight (fun v2_4 v3_4 => (if v1 = (-1) then some v2_4 else some (-6))) 5000 0 0
def rmX11_slates : Room := { frames := 2, cells := 0, slots := 0, locals := 46 }
set_option maxRecDepth 100000 in
set_option maxHeartbeats 4000000 in
theorem c_X11_slates (l : Launch) (D : va_G) (cI cJ cZ : ClassId) (a a_book a_now a_sight a_pad a_digits a_without a_with a_counts a_fewest a_ways a_more a_chooses a_image a_isKept : Nat) (m_sights : Int32) (m_signs : Int32) (m_sold : Int32) (m_markets : Int32) (m_marketAt : Int32) (m_reason : Int32) (m_acts : Int32) (m_sight : (Nat → Int32)) (v1 : Int32) (res : Int32) (hf : fX11_slates v1 m_sights m_sight = some res) : Ct l yX11_slates (cm_ws yX11_slates cX11_slates 4 (some .int)) rmX11_slates D (cm_T cI cJ cZ) [.ref a, .int v1] [(a, .inr (11, [.ref a_book, .ref a_now, .int m_sights, .ref a_sight, .int m_signs, .ref a_pad, .int m_sold, .int m_markets, .int m_marketAt, .int m_reason, .int m_acts, .ref a_digits, .ref a_without, .ref a_with, .ref a_counts, .ref a_fewest, .ref a_ways, .ref a_more, .ref a_chooses, .ref a_image, .ref a_isKept])), cm_kI cI a_sight 24 m_sight] (some (.int res)) [(a, .inr (11, [.ref a_book, .ref a_now, .int m_sights, .ref a_sight, .int m_signs, .ref a_pad, .int m_sold, .int m_markets, .int m_marketAt, .int m_reason, .int m_acts, .ref a_digits, .ref a_without, .ref a_with, .ref a_counts, .ref a_fewest, .ref a_ways, .ref a_more, .ref a_chooses, .ref a_image, .ref a_isKept])), cm_kI cI a_sight 24 m_sight] := by
  refine Ct.of (cc := cX11_slates) (maxL := 4) (ret := (some .int)) (by decide) (Nat.le_of_ble_eq_true rfl) ?_
  intro p e s m below meth c ls args A Q hav hAe hQ hx hb hr hml hown hlocks hts hK hP hD hA hS hl
  have hKa := hK.1
  have hl : lv_has ls 4 [(0, .ref a), (1, .int v1)] := hl
  unfold fX11_slates at hf
  refine lv_iconst (pc := 0) (v := 0) hx hb dX11_slates_0 (by decide) ?_
  refine lv_istore_n (pc := 1) (lv' := [(2, .int 0), (0, .ref a), (1, .int v1)]) hx hb dX11_slates_1 rfl hl (by decide) rfl (fun ls hl => ?_)
  refine lv_iconst (pc := 2) (v := 0) hx hb dX11_slates_2 (by decide) ?_
  refine lv_istore_n (pc := 3) (lv' := [(3, .int 0), (2, .int 0), (0, .ref a), (1, .int v1)]) hx hb dX11_slates_3 rfl hl (by decide) rfl (fun ls hl => ?_)
  have L4 : ∀ (kx : Int32 → Int32 → Option (Int32)), (∀ (v2_4 : Int32) (v3_4 : Int32) (H : Heap) (locs : List Loc) (ls : Array Slot), va_P D vwCl [(a, .inr (11, [.ref a_book, .ref a_now, .int m_sights, .ref a_sight, .int m_signs, .ref a_pad, .int m_sold, .int m_markets, .int m_marketAt, .int m_reason, .int m_acts, .ref a_digits, .ref a_without, .ref a_with, .ref a_counts, .ref a_fewest, .ref a_ways, .ref a_more, .ref a_chooses, .ref a_image, .ref a_isKept])), cm_kI cI a_sight 24 m_sight] H → va_D A [(a, .inr (11, [.ref a_book, .ref a_now, .int m_sights, .ref a_sight, .int m_signs, .ref a_pad, .int m_sold, .int m_markets, .int m_marketAt, .int m_reason, .int m_acts, .ref a_digits, .ref a_without, .ref a_with, .ref a_counts, .ref a_fewest, .ref a_ways, .ref a_more, .ref a_chooses, .ref a_image, .ref a_isKept])), cm_kI cI a_sight 24 m_sight] → va_S A s.heap H locs → lv_has ls 4 [(2, .int v2_4), (1, .int v1)] → kx v2_4 v3_4 = some res → W p l e rmX11_slates s m args below meth c H locs 0 0 Q (F0 m 34 ls [])) → ∀ (n : Nat) (v2_4 : Int32) (v3_4 : Int32) (H : Heap) (locs : List Loc) (ls : Array Slot), va_P D vwCl [(a, .inr (11, [.ref a_book, .ref a_now, .int m_sights, .ref a_sight, .int m_signs, .ref a_pad, .int m_sold, .int m_markets, .int m_marketAt, .int m_reason, .int m_acts, .ref a_digits, .ref a_without, .ref a_with, .ref a_counts, .ref a_fewest, .ref a_ways, .ref a_more, .ref a_chooses, .ref a_image, .ref a_isKept])), cm_kI cI a_sight 24 m_sight] H → va_D A [(a, .inr (11, [.ref a_book, .ref a_now, .int m_sights, .ref a_sight, .int m_signs, .ref a_pad, .int m_sold, .int m_markets, .int m_marketAt, .int m_reason, .int m_acts, .ref a_digits, .ref a_without, .ref a_with, .ref a_counts, .ref a_fewest, .ref a_ways, .ref a_more, .ref a_chooses, .ref a_image, .ref a_isKept])), cm_kI cI a_sight 24 m_sight] → va_S A s.heap H locs → lv_has ls 4 [(3, .int v3_4), (2, .int v2_4), (0, .ref a), (1, .int v1)] → fX11_slates_L4 v1 m_sights m_sight kx n v2_4 v3_4 = some res → W p l e rmX11_slates s m args below meth c H locs 0 0 Q (F0 m 4 ls []) := by
    intro kx hkx n
    induction n with
    | zero => intro v2_4 v3_4 H locs ls hP hD hS hl hf; cases hf
    | succ n ih =>
      intro v2_4 v3_4 H locs ls hP hD hS hl hf
      rw [fX11_slates_L4] at hf
      refine lv_iload_n (pc := 4) hx hb dX11_slates_4 rfl (lv_at hl 0 rfl) ?_
      refine lv_bipush (pc := 5) (v := 81) hx hb dX11_slates_5 (by decide) ?_
      refine lv_icmp_ge (pc := 7) (tgt := 34) hx hb dX11_slates_7 (by decide) (fun c_7 => ?_) (fun c_7 => ?_)
      · have hf := cm_ip c_7 hf
        exact hkx v2_4 v3_4 _ _ _ hP hD hS (lv_sub hl [1, 3] rfl) hf
      · have hf := cm_in c_7 hf
        refine lv_aload_n (pc := 10) hx hb dX11_slates_10 rfl (lv_at hl 2 rfl) ?_
        refine lv_iload_n (pc := 11) hx hb dX11_slates_11 rfl (lv_at hl 0 rfl) ?_
        obtain ⟨u12, hu12, hf⟩ := cm_bd hf
        refine cm_callV (pc := 12) (As := [.int v3_4]) (rest := []) (wr := []) (ci := 11) (q0 := 0) (n := 1) hx hb hml hown hts hK hP hD hS hA (c_X11_isFit l D cI cJ cZ a a_book a_now a_sight a_pad a_digits a_without a_with a_counts a_fewest a_ways a_more a_chooses a_image a_isKept m_sights m_signs m_sold m_markets m_marketAt m_reason m_acts m_sight v3_4 u12 hu12) tw_919 tw_916 tw_918 tw_42 tw_56 rfl rfl (by decide +kernel) rfl ⟨Nat.le_of_ble_eq_true rfl, Nat.le_of_ble_eq_true rfl⟩ [0, 1] [] rfl (by decide) rfl (by decide) (by decide) rfl rfl rfl hl.1 rfl (Nat.le_of_ble_eq_true rfl) dX11_slates_12 ⟨Nat.zero_le _, Nat.zero_le _⟩ (fun H locs hP hD hS => ?_)
        have hP : va_P D vwCl [(a, .inr (11, [.ref a_book, .ref a_now, .int m_sights, .ref a_sight, .int m_signs, .ref a_pad, .int m_sold, .int m_markets, .int m_marketAt, .int m_reason, .int m_acts, .ref a_digits, .ref a_without, .ref a_with, .ref a_counts, .ref a_fewest, .ref a_ways, .ref a_more, .ref a_chooses, .ref a_image, .ref a_isKept])), cm_kI cI a_sight 24 m_sight] H := hP
        have hD : va_D A [(a, .inr (11, [.ref a_book, .ref a_now, .int m_sights, .ref a_sight, .int m_signs, .ref a_pad, .int m_sold, .int m_markets, .int m_marketAt, .int m_reason, .int m_acts, .ref a_digits, .ref a_without, .ref a_with, .ref a_counts, .ref a_fewest, .ref a_ways, .ref a_more, .ref a_chooses, .ref a_image, .ref a_isKept])), cm_kI cI a_sight 24 m_sight] := hD
        refine W.eq (g2 := F0 m 15 ls [.int u12]) rfl ?_
        refine lv_if_eq (pc := 15) (tgt := 28) hx hb dX11_slates_15 (by decide) (fun c_15 => ?_) (fun c_15 => ?_)
        · have hf := cm_ip c_15 hf
          refine lv_iinc (pc := 28) (v := (v3_4 + 1)) (lv' := [(3, .int (v3_4 + 1)), (2, .int v2_4), (0, .ref a), (1, .int v1)]) hx hb dX11_slates_28 hl (k := 0) rfl rfl (by decide) rfl (fun ls hl => ?_)
          refine lv_goto (pc := 31) (tgt := 4) hx hb dX11_slates_31 (by decide) ?_
          exact ih v2_4 (v3_4 + 1) _ _ _ hP hD hS (lv_sub hl [0, 1, 2, 3] rfl) hf
        · have hf := cm_in c_15 hf
          refine lv_iload_n (pc := 18) hx hb dX11_slates_18 rfl (lv_at hl 1 rfl) ?_
          refine lv_iload_n (pc := 19) hx hb dX11_slates_19 rfl (lv_at hl 3 rfl) ?_
          refine lv_icmp_ne (pc := 20) (tgt := 25) hx hb dX11_slates_20 (by decide) (fun c_20 => ?_) (fun c_20 => ?_)
          · have hf := cm_in c_20 hf
            refine lv_iinc (pc := 25) (v := (v2_4 + 1)) (lv' := [(2, .int (v2_4 + 1)), (3, .int v3_4), (0, .ref a), (1, .int v1)]) hx hb dX11_slates_25 hl (k := 1) rfl rfl (by decide) rfl (fun ls hl => ?_)
            refine lv_iinc (pc := 28) (v := (v3_4 + 1)) (lv' := [(3, .int (v3_4 + 1)), (2, .int (v2_4 + 1)), (0, .ref a), (1, .int v1)]) hx hb dX11_slates_28 hl (k := 1) rfl rfl (by decide) rfl (fun ls hl => ?_)
            refine lv_goto (pc := 31) (tgt := 4) hx hb dX11_slates_31 (by decide) ?_
            exact ih (v2_4 + 1) (v3_4 + 1) _ _ _ hP hD hS (lv_sub hl [0, 1, 2, 3] rfl) hf
          · have hf := cm_ip c_20 hf
            refine lv_iload_n (pc := 23) hx hb dX11_slates_23 rfl (lv_at hl 0 rfl) ?_
            obtain rfl := Option.some.inj hf
            exact cm_iret (pc := 24) hAe hQ hx hb hr hlocks hP hD hS [0, 1] (by decide) rfl dX11_slates_24
  refine L4 _ (fun v2_4 v3_4 H locs ls hP hD hS hl hf => ?_) 5000 0 0 _ _ _ hP hD hS (lv_sub hl [0, 1, 2, 3] rfl) hf
  refine lv_iload_n (pc := 34) hx hb dX11_slates_34 rfl (lv_at hl 1 rfl) ?_
  refine lv_iconst (pc := 35) (v := (-1)) hx hb dX11_slates_35 (by decide) ?_
  refine lv_icmp_ne (pc := 36) (tgt := 43) hx hb dX11_slates_36 (by decide) (fun c_36 => ?_) (fun c_36 => ?_)
  · have hf := cm_in c_36 hf
    refine lv_bipush (pc := 43) (v := (-6)) hx hb dX11_slates_43 (by decide) ?_
    obtain rfl := Option.some.inj hf
    exact cm_iret (pc := 45) hAe hQ hx hb hr hlocks hP hD hS [0, 1] (by decide) rfl dX11_slates_45
  · have hf := cm_ip c_36 hf
    refine lv_iload_n (pc := 39) hx hb dX11_slates_39 rfl (lv_at hl 0 rfl) ?_
    refine lv_goto (pc := 40) (tgt := 45) hx hb dX11_slates_40 (by decide) ?_
    obtain rfl := Option.some.inj hf
    exact cm_iret (pc := 45) hAe hQ hx hb hr hlocks hP hD hS [0, 1] (by decide) rfl dX11_slates_45
