def fX11_year_L43 (v2 : Int32) (kx : Int32 → Int32 → Int32 → Int32 → Int32 → (Nat → Int32) → Option (Int32 × Int32 × Int32 × Int32 × Int32 × (Nat → Int32))) : Nat → Int32 → Int32 → Int32 → Int32 → Int32 → (Nat → Int32) → Option (Int32 × Int32 × Int32 × Int32 × Int32 × (Nat → Int32))
  | 0, _, _, _, _, _, _ => none
  | n + 1, v4_43, v5_43, m_sold_43, m_markets_43, m_reason_43, m_now_43 => (if v2 ≤ v5_43 then kx v4_43 v5_43 m_sold_43 m_markets_43 m_reason_43 m_now_43 else (if (irm ((irm ((75 * v4_43) + 74) 65537) / 8) 8) = 0 then Option.bind (fX11_think (irm (irm ((75 * v4_43) + 74) 65537) 8) (irm ((irm ((75 * v4_43) + 74) 65537) / 64) 7) m_now_43) (fun u133 => fX11_year_L43 v2 kx n (irm ((75 * v4_43) + 74) 65537) (v5_43 + 1) m_sold_43 m_markets_43 u133.1 u133.2) else (if (irm ((irm ((75 * v4_43) + 74) 65537) / 8) 8) = 1 then Option.bind (fX11_think (irm (irm ((75 * v4_43) + 74) 65537) 8) (irm ((irm ((75 * v4_43) + 74) 65537) / 64) 7) m_now_43) (fun u133 => fX11_year_L43 v2 kx n (irm ((75 * v4_43) + 74) 65537) (v5_43 + 1) m_sold_43 m_markets_43 u133.1 u133.2) else (if (irm ((irm ((75 * v4_43) + 74) 65537) / 8) 8) = 2 then Option.bind (fX11_think (irm (irm ((75 * v4_43) + 74) 65537) 8) (-6) m_now_43) (fun u148 => fX11_year_L43 v2 kx n (irm ((75 * v4_43) + 74) 65537) (v5_43 + 1) m_sold_43 m_markets_43 u148.1 u148.2) else (if (irm ((irm ((75 * v4_43) + 74) 65537) / 8) 8) = 3 then Option.bind (fX11_talk (irm (irm ((75 * v4_43) + 74) 65537) 8) (irm ((irm ((75 * v4_43) + 74) 65537) / 64) 8) m_now_43) (fun u166 => fX11_year_L43 v2 kx n (irm ((75 * v4_43) + 74) 65537) (v5_43 + 1) m_sold_43 m_markets_43 u166.1 u166.2) else (if (irm ((irm ((75 * v4_43) + 74) 65537) / 8) 8) = 4 then Option.bind (fX11_pay (irm (irm ((75 * v4_43) + 74) 65537) 8) (irm ((irm ((75 * v4_43) + 74) 65537) / 64) 8) m_now_43) (fun u184 => fX11_year_L43 v2 kx n (irm ((75 * v4_43) + 74) 65537) (v5_43 + 1) m_sold_43 m_markets_43 u184.1 u184.2) else (if (irm ((irm ((75 * v4_43) + 74) 65537) / 8) 8) = 5 then Option.bind ((if (irm ((irm ((75 * v4_43) + 74) 65537) / 64) 2) = 0 then Option.bind (fX11_grow (irm (irm ((75 * v4_43) + 74) 65537) 8) m_now_43) (fun u204 => some (u204.1, u204.2)) else Option.bind (fX11_drive (irm ((irm ((75 * v4_43) + 74) 65537) / 64) 4) m_now_43) (fun u215 => some (u215.1, u215.2))) : Option (Int32 × (Nat → Int32))) (fun j198 => fX11_year_L43 v2 kx n (irm ((75 * v4_43) + 74) 65537) (v5_43 + 1) m_sold_43 m_markets_43 j198.1 j198.2) else Option.bind (fX11_endNight m_sold_43 m_markets_43 m_now_43) (fun u226 => fX11_year_L43 v2 kx n (irm ((75 * v4_43) + 74) 65537) (v5_43 + 1) u226.2.1 u226.2.2.1 u226.1 u226.2.2.2))))))))
def fX11_year (v1 : Int32) (v2 : Int32) (v3 : Int32) (m_sold : Int32) (m_markets : Int32) (m_marketAt : Int32) (m_reason : Int32) (m_book : (Nat → Int32)) (m_now : (Nat → Int32)) : Option (Int32 × Int32 × Int32 × Int32 × Int32 × (Nat → Int32)) := cm_let (fX11_in v1 0 9999) (fun u5 => (if u5 = 0 then some ((-2), m_sold, m_markets, m_marketAt, m_reason, m_now) else cm_let (fX11_in v2 1 99) (fun u15 => (if u15 = 0 then some ((-2), m_sold, m_markets, m_marketAt, m_reason, m_now) else cm_let (fX11_in v3 0 2) (fun u24 => (if u24 = 0 then some ((-2), m_sold, m_markets, m_marketAt, m_reason, m_now) else Option.bind (fX11_asNow m_sold m_markets m_marketAt m_book m_now) (fun u34 => fX11_year_L43 v2 (fun v4_43 v5_43 m_sold_43 m_markets_43 m_reason_43 m_now_43 => (if v3 = 0 then some (m_sold_43, m_sold_43, m_markets_43, u34.2.2.1, m_reason_43, m_now_43) else (if v3 = 1 then some ((m_now_43 16), m_sold_43, m_markets_43, u34.2.2.1, m_reason_43, m_now_43) else some (m_markets_43, m_sold_43, m_markets_43, u34.2.2.1, m_reason_43, m_now_43)))) 5000 v1 0 u34.1 u34.2.1 m_reason u34.2.2.2)))))))
def rmX11_year : Room := { frames := 3, cells := 0, slots := 0, locals := 67 }
set_option maxRecDepth 100000 in
set_option maxHeartbeats 4000000 in
theorem c_X11_year (l : Launch) (D : va_G) (cI cJ cZ : ClassId) (a a_book a_now a_sight a_pad a_digits a_without a_with a_counts a_fewest a_ways a_more a_chooses a_image a_isKept : Nat) (m_sights : Int32) (m_signs : Int32) (m_sold : Int32) (m_markets : Int32) (m_marketAt : Int32) (m_reason : Int32) (m_acts : Int32) (m_book : (Nat → Int32)) (m_now : (Nat → Int32)) (v1 : Int32) (v2 : Int32) (v3 : Int32) (res : Int32 × Int32 × Int32 × Int32 × Int32 × (Nat → Int32)) (hf : fX11_year v1 v2 v3 m_sold m_markets m_marketAt m_reason m_book m_now = some res) : Ct l yX11_year (cm_ws yX11_year cX11_year 8 (some .int)) rmX11_year D (cm_T cI cJ cZ) [.ref a, .int v1, .int v2, .int v3] [(a, .inr (11, [.ref a_book, .ref a_now, .int m_sights, .ref a_sight, .int m_signs, .ref a_pad, .int m_sold, .int m_markets, .int m_marketAt, .int m_reason, .int m_acts, .ref a_digits, .ref a_without, .ref a_with, .ref a_counts, .ref a_fewest, .ref a_ways, .ref a_more, .ref a_chooses, .ref a_image, .ref a_isKept])), cm_kI cI a_book 31 m_book, cm_kI cI a_now 31 m_now] (some (.int res.1)) [(a, .inr (11, [.ref a_book, .ref a_now, .int m_sights, .ref a_sight, .int m_signs, .ref a_pad, .int res.2.1, .int res.2.2.1, .int res.2.2.2.1, .int res.2.2.2.2.1, .int m_acts, .ref a_digits, .ref a_without, .ref a_with, .ref a_counts, .ref a_fewest, .ref a_ways, .ref a_more, .ref a_chooses, .ref a_image, .ref a_isKept])), cm_kI cI a_book 31 m_book, cm_kI cI a_now 31 res.2.2.2.2.2] := by
  refine Ct.of (cc := cX11_year) (maxL := 8) (ret := (some .int)) (by decide) (Nat.le_of_ble_eq_true rfl) ?_
  intro p e s m below meth c ls args A Q hav hAe hQ hx hb hr hml hown hlocks hts hK hP hD hA hS hl
  have hKa := hK.1
  have hl : lv_has ls 8 [(0, .ref a), (1, .int v1), (2, .int v2), (3, .int v3)] := hl
  unfold fX11_year at hf
  refine lv_iload_n (pc := 0) hx hb dX11_year_0 rfl (lv_at hl 1 rfl) ?_
  refine lv_iconst (pc := 1) (v := 0) hx hb dX11_year_1 (by decide) ?_
  refine lv_sipush (pc := 2) (v := 9999) hx hb dX11_year_2 (by decide) ?_
  obtain ⟨u5, hu5, hf⟩ := cm_lt hf
  refine cm_callS (pc := 5) (As := [.int v1, .int 0, .int 9999]) (rest := []) (wr := [(a, .inr (11, [.ref a_book, .ref a_now, .int m_sights, .ref a_sight, .int m_signs, .ref a_pad, .int m_sold, .int m_markets, .int m_marketAt, .int m_reason, .int m_acts, .ref a_digits, .ref a_without, .ref a_with, .ref a_counts, .ref a_fewest, .ref a_ways, .ref a_more, .ref a_chooses, .ref a_image, .ref a_isKept])), cm_kI cI a_book 31 m_book, cm_kI cI a_now 31 m_now]) (n := 3) hx hb hml hown hts hK hP hD hS hA (c_X11_in l D cI cJ cZ v1 0 9999 u5 hu5) tw_783 tw_781 tw_782 tw_56 rfl rfl (by decide +kernel) rfl ⟨Nat.le_of_ble_eq_true rfl, Nat.le_of_ble_eq_true rfl⟩ [] [0, 1, 2] rfl (by decide) rfl (by decide) (by decide) hl.1 rfl (Nat.le_of_ble_eq_true rfl) dX11_year_5 ⟨Nat.zero_le _, Nat.zero_le _⟩ (fun H locs hP hD hS => ?_)
  have hP : va_P D vwCl [(a, .inr (11, [.ref a_book, .ref a_now, .int m_sights, .ref a_sight, .int m_signs, .ref a_pad, .int m_sold, .int m_markets, .int m_marketAt, .int m_reason, .int m_acts, .ref a_digits, .ref a_without, .ref a_with, .ref a_counts, .ref a_fewest, .ref a_ways, .ref a_more, .ref a_chooses, .ref a_image, .ref a_isKept])), cm_kI cI a_book 31 m_book, cm_kI cI a_now 31 m_now] H := hP
  have hD : va_D A [(a, .inr (11, [.ref a_book, .ref a_now, .int m_sights, .ref a_sight, .int m_signs, .ref a_pad, .int m_sold, .int m_markets, .int m_marketAt, .int m_reason, .int m_acts, .ref a_digits, .ref a_without, .ref a_with, .ref a_counts, .ref a_fewest, .ref a_ways, .ref a_more, .ref a_chooses, .ref a_image, .ref a_isKept])), cm_kI cI a_book 31 m_book, cm_kI cI a_now 31 m_now] := hD
  refine W.eq (g2 := F0 m 8 ls [.int u5]) rfl ?_
  refine lv_if_eq (pc := 8) (tgt := 30) hx hb dX11_year_8 (by decide) (fun c_8 => ?_) (fun c_8 => ?_)
  · have hf := cm_ip c_8 hf
    refine lv_bipush (pc := 30) (v := (-2)) hx hb dX11_year_30 (by decide) ?_
    obtain rfl := Option.some.inj hf
    exact cm_iret (pc := 32) hAe hQ hx hb hr hlocks hP hD hS [0, 1, 2] (by decide) rfl dX11_year_32
  · have hf := cm_in c_8 hf
    refine lv_iload_n (pc := 11) hx hb dX11_year_11 rfl (lv_at hl 2 rfl) ?_
    refine lv_iconst (pc := 12) (v := 1) hx hb dX11_year_12 (by decide) ?_
    refine lv_bipush (pc := 13) (v := 99) hx hb dX11_year_13 (by decide) ?_
    obtain ⟨u15, hu15, hf⟩ := cm_lt hf
    refine cm_callS (pc := 15) (As := [.int v2, .int 1, .int 99]) (rest := []) (wr := [(a, .inr (11, [.ref a_book, .ref a_now, .int m_sights, .ref a_sight, .int m_signs, .ref a_pad, .int m_sold, .int m_markets, .int m_marketAt, .int m_reason, .int m_acts, .ref a_digits, .ref a_without, .ref a_with, .ref a_counts, .ref a_fewest, .ref a_ways, .ref a_more, .ref a_chooses, .ref a_image, .ref a_isKept])), cm_kI cI a_book 31 m_book, cm_kI cI a_now 31 m_now]) (n := 3) hx hb hml hown hts hK hP hD hS hA (c_X11_in l D cI cJ cZ v2 1 99 u15 hu15) tw_783 tw_781 tw_782 tw_56 rfl rfl (by decide +kernel) rfl ⟨Nat.le_of_ble_eq_true rfl, Nat.le_of_ble_eq_true rfl⟩ [] [0, 1, 2] rfl (by decide) rfl (by decide) (by decide) hl.1 rfl (Nat.le_of_ble_eq_true rfl) dX11_year_15 ⟨Nat.zero_le _, Nat.zero_le _⟩ (fun H locs hP hD hS => ?_)
    have hP : va_P D vwCl [(a, .inr (11, [.ref a_book, .ref a_now, .int m_sights, .ref a_sight, .int m_signs, .ref a_pad, .int m_sold, .int m_markets, .int m_marketAt, .int m_reason, .int m_acts, .ref a_digits, .ref a_without, .ref a_with, .ref a_counts, .ref a_fewest, .ref a_ways, .ref a_more, .ref a_chooses, .ref a_image, .ref a_isKept])), cm_kI cI a_book 31 m_book, cm_kI cI a_now 31 m_now] H := hP
    have hD : va_D A [(a, .inr (11, [.ref a_book, .ref a_now, .int m_sights, .ref a_sight, .int m_signs, .ref a_pad, .int m_sold, .int m_markets, .int m_marketAt, .int m_reason, .int m_acts, .ref a_digits, .ref a_without, .ref a_with, .ref a_counts, .ref a_fewest, .ref a_ways, .ref a_more, .ref a_chooses, .ref a_image, .ref a_isKept])), cm_kI cI a_book 31 m_book, cm_kI cI a_now 31 m_now] := hD
    refine W.eq (g2 := F0 m 18 ls [.int u15]) rfl ?_
    refine lv_if_eq (pc := 18) (tgt := 30) hx hb dX11_year_18 (by decide) (fun c_18 => ?_) (fun c_18 => ?_)
    · have hf := cm_ip c_18 hf
      refine lv_bipush (pc := 30) (v := (-2)) hx hb dX11_year_30 (by decide) ?_
      obtain rfl := Option.some.inj hf
      exact cm_iret (pc := 32) hAe hQ hx hb hr hlocks hP hD hS [0, 1, 2] (by decide) rfl dX11_year_32
    · have hf := cm_in c_18 hf
      refine lv_iload_n (pc := 21) hx hb dX11_year_21 rfl (lv_at hl 3 rfl) ?_
      refine lv_iconst (pc := 22) (v := 0) hx hb dX11_year_22 (by decide) ?_
      refine lv_iconst (pc := 23) (v := 2) hx hb dX11_year_23 (by decide) ?_
      obtain ⟨u24, hu24, hf⟩ := cm_lt hf
      refine cm_callS (pc := 24) (As := [.int v3, .int 0, .int 2]) (rest := []) (wr := [(a, .inr (11, [.ref a_book, .ref a_now, .int m_sights, .ref a_sight, .int m_signs, .ref a_pad, .int m_sold, .int m_markets, .int m_marketAt, .int m_reason, .int m_acts, .ref a_digits, .ref a_without, .ref a_with, .ref a_counts, .ref a_fewest, .ref a_ways, .ref a_more, .ref a_chooses, .ref a_image, .ref a_isKept])), cm_kI cI a_book 31 m_book, cm_kI cI a_now 31 m_now]) (n := 3) hx hb hml hown hts hK hP hD hS hA (c_X11_in l D cI cJ cZ v3 0 2 u24 hu24) tw_783 tw_781 tw_782 tw_56 rfl rfl (by decide +kernel) rfl ⟨Nat.le_of_ble_eq_true rfl, Nat.le_of_ble_eq_true rfl⟩ [] [0, 1, 2] rfl (by decide) rfl (by decide) (by decide) hl.1 rfl (Nat.le_of_ble_eq_true rfl) dX11_year_24 ⟨Nat.zero_le _, Nat.zero_le _⟩ (fun H locs hP hD hS => ?_)
      have hP : va_P D vwCl [(a, .inr (11, [.ref a_book, .ref a_now, .int m_sights, .ref a_sight, .int m_signs, .ref a_pad, .int m_sold, .int m_markets, .int m_marketAt, .int m_reason, .int m_acts, .ref a_digits, .ref a_without, .ref a_with, .ref a_counts, .ref a_fewest, .ref a_ways, .ref a_more, .ref a_chooses, .ref a_image, .ref a_isKept])), cm_kI cI a_book 31 m_book, cm_kI cI a_now 31 m_now] H := hP
      have hD : va_D A [(a, .inr (11, [.ref a_book, .ref a_now, .int m_sights, .ref a_sight, .int m_signs, .ref a_pad, .int m_sold, .int m_markets, .int m_marketAt, .int m_reason, .int m_acts, .ref a_digits, .ref a_without, .ref a_with, .ref a_counts, .ref a_fewest, .ref a_ways, .ref a_more, .ref a_chooses, .ref a_image, .ref a_isKept])), cm_kI cI a_book 31 m_book, cm_kI cI a_now 31 m_now] := hD
      refine W.eq (g2 := F0 m 27 ls [.int u24]) rfl ?_
      refine lv_if_ne (pc := 27) (tgt := 33) hx hb dX11_year_27 (by decide) (fun c_27 => ?_) (fun c_27 => ?_)
      · have hf := cm_in c_27 hf
        refine lv_aload_n (pc := 33) hx hb dX11_year_33 rfl (lv_at hl 0 rfl) ?_
        obtain ⟨u34, hu34, hf⟩ := cm_bd hf
        refine cm_callV (pc := 34) (As := []) (rest := []) (wr := []) (ci := 11) (q0 := 0) (n := 0) hx hb hml hown hts hK hP hD hS hA (c_X11_asNow l D cI cJ cZ a a_book a_now a_sight a_pad a_digits a_without a_with a_counts a_fewest a_ways a_more a_chooses a_image a_isKept m_sights m_signs m_sold m_markets m_marketAt m_reason m_acts m_book m_now u34 hu34) tw_822 tw_819 tw_821 tw_30 tw_56 rfl rfl (by decide +kernel) rfl ⟨Nat.le_of_ble_eq_true rfl, Nat.le_of_ble_eq_true rfl⟩ [0, 1, 2] [] rfl (by decide) rfl (by decide) (by decide) rfl rfl rfl hl.1 rfl (Nat.le_of_ble_eq_true rfl) dX11_year_34 ⟨Nat.zero_le _, Nat.zero_le _⟩ (fun H locs hP hD hS => ?_)
        have hP : va_P D vwCl [(a, .inr (11, [.ref a_book, .ref a_now, .int m_sights, .ref a_sight, .int m_signs, .ref a_pad, .int u34.1, .int u34.2.1, .int u34.2.2.1, .int m_reason, .int m_acts, .ref a_digits, .ref a_without, .ref a_with, .ref a_counts, .ref a_fewest, .ref a_ways, .ref a_more, .ref a_chooses, .ref a_image, .ref a_isKept])), cm_kI cI a_book 31 m_book, cm_kI cI a_now 31 u34.2.2.2] H := hP
        have hD : va_D A [(a, .inr (11, [.ref a_book, .ref a_now, .int m_sights, .ref a_sight, .int m_signs, .ref a_pad, .int u34.1, .int u34.2.1, .int u34.2.2.1, .int m_reason, .int m_acts, .ref a_digits, .ref a_without, .ref a_with, .ref a_counts, .ref a_fewest, .ref a_ways, .ref a_more, .ref a_chooses, .ref a_image, .ref a_isKept])), cm_kI cI a_book 31 m_book, cm_kI cI a_now 31 u34.2.2.2] := hD
        refine W.eq (g2 := F0 m 37 ls []) rfl ?_
        refine lv_iload_n (pc := 37) hx hb dX11_year_37 rfl (lv_at hl 1 rfl) ?_
        refine lv_istore (pc := 38) (lv' := [(4, .int v1), (0, .ref a), (1, .int v1), (2, .int v2), (3, .int v3)]) hx hb dX11_year_38 hl (by decide) rfl (fun ls hl => ?_)
        refine lv_iconst (pc := 40) (v := 0) hx hb dX11_year_40 (by decide) ?_
        refine lv_istore (pc := 41) (lv' := [(5, .int 0), (4, .int v1), (0, .ref a), (1, .int v1), (2, .int v2), (3, .int v3)]) hx hb dX11_year_41 hl (by decide) rfl (fun ls hl => ?_)
        have L43 : ∀ (kx : Int32 → Int32 → Int32 → Int32 → Int32 → (Nat → Int32) → Option (Int32 × Int32 × Int32 × Int32 × Int32 × (Nat → Int32))), (∀ (v4_43 : Int32) (v5_43 : Int32) (m_sold_43 : Int32) (m_markets_43 : Int32) (m_reason_43 : Int32) (m_now_43 : (Nat → Int32)) (H : Heap) (locs : List Loc) (ls : Array Slot), va_P D vwCl [(a, .inr (11, [.ref a_book, .ref a_now, .int m_sights, .ref a_sight, .int m_signs, .ref a_pad, .int m_sold_43, .int m_markets_43, .int u34.2.2.1, .int m_reason_43, .int m_acts, .ref a_digits, .ref a_without, .ref a_with, .ref a_counts, .ref a_fewest, .ref a_ways, .ref a_more, .ref a_chooses, .ref a_image, .ref a_isKept])), cm_kI cI a_book 31 m_book, cm_kI cI a_now 31 m_now_43] H → va_D A [(a, .inr (11, [.ref a_book, .ref a_now, .int m_sights, .ref a_sight, .int m_signs, .ref a_pad, .int m_sold_43, .int m_markets_43, .int u34.2.2.1, .int m_reason_43, .int m_acts, .ref a_digits, .ref a_without, .ref a_with, .ref a_counts, .ref a_fewest, .ref a_ways, .ref a_more, .ref a_chooses, .ref a_image, .ref a_isKept])), cm_kI cI a_book 31 m_book, cm_kI cI a_now 31 m_now_43] → va_S A s.heap H locs → lv_has ls 8 [(0, .ref a), (3, .int v3)] → kx v4_43 v5_43 m_sold_43 m_markets_43 m_reason_43 m_now_43 = some res → W p l e rmX11_year s m args below meth c H locs 0 0 Q (F0 m 238 ls [])) → ∀ (n : Nat) (v4_43 : Int32) (v5_43 : Int32) (m_sold_43 : Int32) (m_markets_43 : Int32) (m_reason_43 : Int32) (m_now_43 : (Nat → Int32)) (H : Heap) (locs : List Loc) (ls : Array Slot), va_P D vwCl [(a, .inr (11, [.ref a_book, .ref a_now, .int m_sights, .ref a_sight, .int m_signs, .ref a_pad, .int m_sold_43, .int m_markets_43, .int u34.2.2.1, .int m_reason_43, .int m_acts, .ref a_digits, .ref a_without, .ref a_with, .ref a_counts, .ref a_fewest, .ref a_ways, .ref a_more, .ref a_chooses, .ref a_image, .ref a_isKept])), cm_kI cI a_book 31 m_book, cm_kI cI a_now 31 m_now_43] H → va_D A [(a, .inr (11, [.ref a_book, .ref a_now, .int m_sights, .ref a_sight, .int m_signs, .ref a_pad, .int m_sold_43, .int m_markets_43, .int u34.2.2.1, .int m_reason_43, .int m_acts, .ref a_digits, .ref a_without, .ref a_with, .ref a_counts, .ref a_fewest, .ref a_ways, .ref a_more, .ref a_chooses, .ref a_image, .ref a_isKept])), cm_kI cI a_book 31 m_book, cm_kI cI a_now 31 m_now_43] → va_S A s.heap H locs → lv_has ls 8 [(5, .int v5_43), (4, .int v4_43), (0, .ref a), (2, .int v2), (3, .int v3)] → fX11_year_L43 v2 kx n v4_43 v5_43 m_sold_43 m_markets_43 m_reason_43 m_now_43 = some res → W p l e rmX11_year s m args below meth c H locs 0 0 Q (F0 m 43 ls []) := by
          intro kx hkx n
          induction n with
          | zero => intro v4_43 v5_43 m_sold_43 m_markets_43 m_reason_43 m_now_43 H locs ls hP hD hS hl hf; cases hf
          | succ n ih =>
            intro v4_43 v5_43 m_sold_43 m_markets_43 m_reason_43 m_now_43 H locs ls hP hD hS hl hf
            rw [fX11_year_L43] at hf
            refine lv_iload (pc := 43) hx hb dX11_year_43 (lv_at hl 0 rfl) ?_
            refine lv_iload_n (pc := 45) hx hb dX11_year_45 rfl (lv_at hl 3 rfl) ?_
            refine lv_icmp_ge (pc := 46) (tgt := 238) hx hb dX11_year_46 (by decide) (fun c_46 => ?_) (fun c_46 => ?_)
            · have hf := cm_ip c_46 hf
              exact hkx v4_43 v5_43 m_sold_43 m_markets_43 m_reason_43 m_now_43 _ _ _ hP hD hS (lv_sub hl [2, 4] rfl) hf
            · have hf := cm_in c_46 hf
              refine lv_bipush (pc := 49) (v := 75) hx hb dX11_year_49 (by decide) ?_
              refine lv_iload (pc := 51) hx hb dX11_year_51 (lv_at hl 1 rfl) ?_
              refine lv_imul (pc := 53) hx hb dX11_year_53 ?_
              refine lv_bipush (pc := 54) (v := 74) hx hb dX11_year_54 (by decide) ?_
              refine lv_iadd (pc := 56) hx hb dX11_year_56 ?_
              refine lv_ldc (pc := 57) (v := 65537) hx hb hown (hts _ tw_947) dX11_year_57 ?_
              refine cm_irem (pc := 59) hx hb dX11_year_59 (by decide) ?_
              refine lv_istore (pc := 60) (lv' := [(4, .int (irm ((75 * v4_43) + 74) 65537)), (5, .int v5_43), (0, .ref a), (2, .int v2), (3, .int v3)]) hx hb dX11_year_60 hl (by decide) rfl (fun ls hl => ?_)
              refine lv_iload (pc := 62) hx hb dX11_year_62 (lv_at hl 0 rfl) ?_
              refine lv_bipush (pc := 64) (v := 8) hx hb dX11_year_64 (by decide) ?_
              refine cm_irem (pc := 66) hx hb dX11_year_66 (by decide) ?_
              refine lv_istore (pc := 67) (lv' := [(6, .int (irm (irm ((75 * v4_43) + 74) 65537) 8)), (4, .int (irm ((75 * v4_43) + 74) 65537)), (5, .int v5_43), (0, .ref a), (2, .int v2), (3, .int v3)]) hx hb dX11_year_67 hl (by decide) rfl (fun ls hl => ?_)
              refine lv_iload (pc := 69) hx hb dX11_year_69 (lv_at hl 1 rfl) ?_
              refine lv_bipush (pc := 71) (v := 64) hx hb dX11_year_71 (by decide) ?_
              refine lv_idiv (pc := 73) hx hb dX11_year_73 (by decide) ?_
              refine lv_istore (pc := 74) (lv' := [(7, .int ((irm ((75 * v4_43) + 74) 65537) / 64)), (6, .int (irm (irm ((75 * v4_43) + 74) 65537) 8)), (4, .int (irm ((75 * v4_43) + 74) 65537)), (5, .int v5_43), (0, .ref a), (2, .int v2), (3, .int v3)]) hx hb dX11_year_74 hl (by decide) rfl (fun ls hl => ?_)
              refine lv_iload (pc := 76) hx hb dX11_year_76 (lv_at hl 2 rfl) ?_
              refine lv_bipush (pc := 78) (v := 8) hx hb dX11_year_78 (by decide) ?_
              refine lv_idiv (pc := 80) hx hb dX11_year_80 (by decide) ?_
              refine lv_bipush (pc := 81) (v := 8) hx hb dX11_year_81 (by decide) ?_
              refine cm_irem (pc := 83) hx hb dX11_year_83 (by decide) ?_
              refine cm_em ((irm ((irm ((75 * v4_43) + 74) 65537) / 8) 8) = 0) (fun c_84_0 => ?_) (fun c_84_0 => ?_)
              · have hf := cm_ip c_84_0 hf
                refine lv_tableIn (pc := 84) (off := 40) (tgt := 124) hx hb dX11_year_84 (by rw [c_84_0]; decide) (by rw [c_84_0]; decide) (by rw [c_84_0]; rfl) (by decide) ?_
                refine lv_aload_n (pc := 124) hx hb dX11_year_124 rfl (lv_at hl 4 rfl) ?_
                refine lv_aload_n (pc := 125) hx hb dX11_year_125 rfl (lv_at hl 4 rfl) ?_
                refine lv_iload (pc := 126) hx hb dX11_year_126 (lv_at hl 1 rfl) ?_
                refine lv_iload (pc := 128) hx hb dX11_year_128 (lv_at hl 0 rfl) ?_
                refine lv_bipush (pc := 130) (v := 7) hx hb dX11_year_130 (by decide) ?_
                refine cm_irem (pc := 132) hx hb dX11_year_132 (by decide) ?_
                obtain ⟨u133, hu133, hf⟩ := cm_bd hf
                refine cm_callV (pc := 133) (As := [.int (irm (irm ((75 * v4_43) + 74) 65537) 8), .int (irm ((irm ((75 * v4_43) + 74) 65537) / 64) 7)]) (rest := [.ref a]) (wr := [cm_kI cI a_book 31 m_book]) (ci := 11) (q0 := 0) (n := 2) hx hb hml hown hts hK hP hD hS hA (c_X11_think l D cI cJ cZ a a_book a_now a_sight a_pad a_digits a_without a_with a_counts a_fewest a_ways a_more a_chooses a_image a_isKept m_sights m_signs m_sold_43 m_markets_43 u34.2.2.1 m_reason_43 m_acts m_now_43 (irm (irm ((75 * v4_43) + 74) 65537) 8) (irm ((irm ((75 * v4_43) + 74) 65537) / 64) 7) u133 hu133) tw_858 tw_855 tw_857 tw_39 tw_56 rfl rfl (by decide +kernel) rfl ⟨Nat.le_of_ble_eq_true rfl, Nat.le_of_ble_eq_true rfl⟩ [0, 2] [1] rfl (by decide) rfl (by decide) (by decide) rfl rfl rfl hl.1 rfl (Nat.le_of_ble_eq_true rfl) dX11_year_133 ⟨Nat.zero_le _, Nat.zero_le _⟩ (fun H locs hP hD hS => ?_)
                have hP : va_P D vwCl [cm_kI cI a_book 31 m_book, (a, .inr (11, [.ref a_book, .ref a_now, .int m_sights, .ref a_sight, .int m_signs, .ref a_pad, .int m_sold_43, .int m_markets_43, .int u34.2.2.1, .int m_reason_43, .int m_acts, .ref a_digits, .ref a_without, .ref a_with, .ref a_counts, .ref a_fewest, .ref a_ways, .ref a_more, .ref a_chooses, .ref a_image, .ref a_isKept])), cm_kI cI a_now 31 u133.2] H := hP
                have hD : va_D A [cm_kI cI a_book 31 m_book, (a, .inr (11, [.ref a_book, .ref a_now, .int m_sights, .ref a_sight, .int m_signs, .ref a_pad, .int m_sold_43, .int m_markets_43, .int u34.2.2.1, .int m_reason_43, .int m_acts, .ref a_digits, .ref a_without, .ref a_with, .ref a_counts, .ref a_fewest, .ref a_ways, .ref a_more, .ref a_chooses, .ref a_image, .ref a_isKept])), cm_kI cI a_now 31 u133.2] := hD
                refine W.eq (g2 := F0 m 136 ls [.int u133.1, .ref a]) rfl ?_
                refine va_put (pc := 136) (D := D) (ci := 11) (v := .int u133.1) (ty := .int) (C := RX11) (T := TX11) (N := 21) hx hb hts in_X11 tyX11 tyX11_ok nmX11 hown hKa hP hD hS 1 rfl rfl 9 (by decide) (hts _ tw_721) (fun _ h9 => h9) rfl (by decide +kernel) rfl rfl (Nat.le_of_ble_eq_true rfl) dX11_year_136 (fun H locs hP hD hS => ?_)
                have hP : va_P D vwCl [cm_kI cI a_book 31 m_book, (a, .inr (11, [.ref a_book, .ref a_now, .int m_sights, .ref a_sight, .int m_signs, .ref a_pad, .int m_sold_43, .int m_markets_43, .int u34.2.2.1, .int u133.1, .int m_acts, .ref a_digits, .ref a_without, .ref a_with, .ref a_counts, .ref a_fewest, .ref a_ways, .ref a_more, .ref a_chooses, .ref a_image, .ref a_isKept])), cm_kI cI a_now 31 u133.2] H := hP
                have hD : va_D A [cm_kI cI a_book 31 m_book, (a, .inr (11, [.ref a_book, .ref a_now, .int m_sights, .ref a_sight, .int m_signs, .ref a_pad, .int m_sold_43, .int m_markets_43, .int u34.2.2.1, .int u133.1, .int m_acts, .ref a_digits, .ref a_without, .ref a_with, .ref a_counts, .ref a_fewest, .ref a_ways, .ref a_more, .ref a_chooses, .ref a_image, .ref a_isKept])), cm_kI cI a_now 31 u133.2] := hD
                refine lv_goto (pc := 139) (tgt := 232) hx hb dX11_year_139 (by decide) ?_
                refine lv_iinc (pc := 232) (v := (v5_43 + 1)) (lv' := [(5, .int (v5_43 + 1)), (7, .int ((irm ((75 * v4_43) + 74) 65537) / 64)), (6, .int (irm (irm ((75 * v4_43) + 74) 65537) 8)), (4, .int (irm ((75 * v4_43) + 74) 65537)), (0, .ref a), (2, .int v2), (3, .int v3)]) hx hb dX11_year_232 hl (k := 3) rfl rfl (by decide) rfl (fun ls hl => ?_)
                refine lv_goto (pc := 235) (tgt := 43) hx hb dX11_year_235 (by decide) ?_
                have hP := hP.sub (ws' := [(a, .inr (11, [.ref a_book, .ref a_now, .int m_sights, .ref a_sight, .int m_signs, .ref a_pad, .int m_sold_43, .int m_markets_43, .int u34.2.2.1, .int u133.1, .int m_acts, .ref a_digits, .ref a_without, .ref a_with, .ref a_counts, .ref a_fewest, .ref a_ways, .ref a_more, .ref a_chooses, .ref a_image, .ref a_isKept])), cm_kI cI a_book 31 m_book, cm_kI cI a_now 31 u133.2]) [1, 0, 2] rfl
                have hD := hD.sub (ws' := [(a, .inr (11, [.ref a_book, .ref a_now, .int m_sights, .ref a_sight, .int m_signs, .ref a_pad, .int m_sold_43, .int m_markets_43, .int u34.2.2.1, .int u133.1, .int m_acts, .ref a_digits, .ref a_without, .ref a_with, .ref a_counts, .ref a_fewest, .ref a_ways, .ref a_more, .ref a_chooses, .ref a_image, .ref a_isKept])), cm_kI cI a_book 31 m_book, cm_kI cI a_now 31 u133.2]) [1, 0, 2] (by decide) rfl
                exact ih (irm ((75 * v4_43) + 74) 65537) (v5_43 + 1) m_sold_43 m_markets_43 u133.1 u133.2 _ _ _ hP hD hS (lv_sub hl [0, 3, 4, 5, 6] rfl) hf
              · have hf := cm_in c_84_0 hf
                refine cm_em ((irm ((irm ((75 * v4_43) + 74) 65537) / 8) 8) = 1) (fun c_84_1 => ?_) (fun c_84_1 => ?_)
                · have hf := cm_ip c_84_1 hf
                  refine lv_tableIn (pc := 84) (off := 40) (tgt := 124) hx hb dX11_year_84 (by rw [c_84_1]; decide) (by rw [c_84_1]; decide) (by rw [c_84_1]; rfl) (by decide) ?_
                  refine lv_aload_n (pc := 124) hx hb dX11_year_124 rfl (lv_at hl 4 rfl) ?_
                  refine lv_aload_n (pc := 125) hx hb dX11_year_125 rfl (lv_at hl 4 rfl) ?_
                  refine lv_iload (pc := 126) hx hb dX11_year_126 (lv_at hl 1 rfl) ?_
                  refine lv_iload (pc := 128) hx hb dX11_year_128 (lv_at hl 0 rfl) ?_
                  refine lv_bipush (pc := 130) (v := 7) hx hb dX11_year_130 (by decide) ?_
                  refine cm_irem (pc := 132) hx hb dX11_year_132 (by decide) ?_
                  obtain ⟨u133, hu133, hf⟩ := cm_bd hf
                  refine cm_callV (pc := 133) (As := [.int (irm (irm ((75 * v4_43) + 74) 65537) 8), .int (irm ((irm ((75 * v4_43) + 74) 65537) / 64) 7)]) (rest := [.ref a]) (wr := [cm_kI cI a_book 31 m_book]) (ci := 11) (q0 := 0) (n := 2) hx hb hml hown hts hK hP hD hS hA (c_X11_think l D cI cJ cZ a a_book a_now a_sight a_pad a_digits a_without a_with a_counts a_fewest a_ways a_more a_chooses a_image a_isKept m_sights m_signs m_sold_43 m_markets_43 u34.2.2.1 m_reason_43 m_acts m_now_43 (irm (irm ((75 * v4_43) + 74) 65537) 8) (irm ((irm ((75 * v4_43) + 74) 65537) / 64) 7) u133 hu133) tw_858 tw_855 tw_857 tw_39 tw_56 rfl rfl (by decide +kernel) rfl ⟨Nat.le_of_ble_eq_true rfl, Nat.le_of_ble_eq_true rfl⟩ [0, 2] [1] rfl (by decide) rfl (by decide) (by decide) rfl rfl rfl hl.1 rfl (Nat.le_of_ble_eq_true rfl) dX11_year_133 ⟨Nat.zero_le _, Nat.zero_le _⟩ (fun H locs hP hD hS => ?_)
                  have hP : va_P D vwCl [cm_kI cI a_book 31 m_book, (a, .inr (11, [.ref a_book, .ref a_now, .int m_sights, .ref a_sight, .int m_signs, .ref a_pad, .int m_sold_43, .int m_markets_43, .int u34.2.2.1, .int m_reason_43, .int m_acts, .ref a_digits, .ref a_without, .ref a_with, .ref a_counts, .ref a_fewest, .ref a_ways, .ref a_more, .ref a_chooses, .ref a_image, .ref a_isKept])), cm_kI cI a_now 31 u133.2] H := hP
                  have hD : va_D A [cm_kI cI a_book 31 m_book, (a, .inr (11, [.ref a_book, .ref a_now, .int m_sights, .ref a_sight, .int m_signs, .ref a_pad, .int m_sold_43, .int m_markets_43, .int u34.2.2.1, .int m_reason_43, .int m_acts, .ref a_digits, .ref a_without, .ref a_with, .ref a_counts, .ref a_fewest, .ref a_ways, .ref a_more, .ref a_chooses, .ref a_image, .ref a_isKept])), cm_kI cI a_now 31 u133.2] := hD
                  refine W.eq (g2 := F0 m 136 ls [.int u133.1, .ref a]) rfl ?_
                  refine va_put (pc := 136) (D := D) (ci := 11) (v := .int u133.1) (ty := .int) (C := RX11) (T := TX11) (N := 21) hx hb hts in_X11 tyX11 tyX11_ok nmX11 hown hKa hP hD hS 1 rfl rfl 9 (by decide) (hts _ tw_721) (fun _ h9 => h9) rfl (by decide +kernel) rfl rfl (Nat.le_of_ble_eq_true rfl) dX11_year_136 (fun H locs hP hD hS => ?_)
                  have hP : va_P D vwCl [cm_kI cI a_book 31 m_book, (a, .inr (11, [.ref a_book, .ref a_now, .int m_sights, .ref a_sight, .int m_signs, .ref a_pad, .int m_sold_43, .int m_markets_43, .int u34.2.2.1, .int u133.1, .int m_acts, .ref a_digits, .ref a_without, .ref a_with, .ref a_counts, .ref a_fewest, .ref a_ways, .ref a_more, .ref a_chooses, .ref a_image, .ref a_isKept])), cm_kI cI a_now 31 u133.2] H := hP
                  have hD : va_D A [cm_kI cI a_book 31 m_book, (a, .inr (11, [.ref a_book, .ref a_now, .int m_sights, .ref a_sight, .int m_signs, .ref a_pad, .int m_sold_43, .int m_markets_43, .int u34.2.2.1, .int u133.1, .int m_acts, .ref a_digits, .ref a_without, .ref a_with, .ref a_counts, .ref a_fewest, .ref a_ways, .ref a_more, .ref a_chooses, .ref a_image, .ref a_isKept])), cm_kI cI a_now 31 u133.2] := hD
                  refine lv_goto (pc := 139) (tgt := 232) hx hb dX11_year_139 (by decide) ?_
                  refine lv_iinc (pc := 232) (v := (v5_43 + 1)) (lv' := [(5, .int (v5_43 + 1)), (7, .int ((irm ((75 * v4_43) + 74) 65537) / 64)), (6, .int (irm (irm ((75 * v4_43) + 74) 65537) 8)), (4, .int (irm ((75 * v4_43) + 74) 65537)), (0, .ref a), (2, .int v2), (3, .int v3)]) hx hb dX11_year_232 hl (k := 3) rfl rfl (by decide) rfl (fun ls hl => ?_)
                  refine lv_goto (pc := 235) (tgt := 43) hx hb dX11_year_235 (by decide) ?_
                  have hP := hP.sub (ws' := [(a, .inr (11, [.ref a_book, .ref a_now, .int m_sights, .ref a_sight, .int m_signs, .ref a_pad, .int m_sold_43, .int m_markets_43, .int u34.2.2.1, .int u133.1, .int m_acts, .ref a_digits, .ref a_without, .ref a_with, .ref a_counts, .ref a_fewest, .ref a_ways, .ref a_more, .ref a_chooses, .ref a_image, .ref a_isKept])), cm_kI cI a_book 31 m_book, cm_kI cI a_now 31 u133.2]) [1, 0, 2] rfl
                  have hD := hD.sub (ws' := [(a, .inr (11, [.ref a_book, .ref a_now, .int m_sights, .ref a_sight, .int m_signs, .ref a_pad, .int m_sold_43, .int m_markets_43, .int u34.2.2.1, .int u133.1, .int m_acts, .ref a_digits, .ref a_without, .ref a_with, .ref a_counts, .ref a_fewest, .ref a_ways, .ref a_more, .ref a_chooses, .ref a_image, .ref a_isKept])), cm_kI cI a_book 31 m_book, cm_kI cI a_now 31 u133.2]) [1, 0, 2] (by decide) rfl
                  exact ih (irm ((75 * v4_43) + 74) 65537) (v5_43 + 1) m_sold_43 m_markets_43 u133.1 u133.2 _ _ _ hP hD hS (lv_sub hl [0, 3, 4, 5, 6] rfl) hf
                · have hf := cm_in c_84_1 hf
                  refine cm_em ((irm ((irm ((75 * v4_43) + 74) 65537) / 8) 8) = 2) (fun c_84_2 => ?_) (fun c_84_2 => ?_)
                  · have hf := cm_ip c_84_2 hf
                    refine lv_tableIn (pc := 84) (off := 58) (tgt := 142) hx hb dX11_year_84 (by rw [c_84_2]; decide) (by rw [c_84_2]; decide) (by rw [c_84_2]; rfl) (by decide) ?_
                    refine lv_aload_n (pc := 142) hx hb dX11_year_142 rfl (lv_at hl 4 rfl) ?_
                    refine lv_aload_n (pc := 143) hx hb dX11_year_143 rfl (lv_at hl 4 rfl) ?_
                    refine lv_iload (pc := 144) hx hb dX11_year_144 (lv_at hl 1 rfl) ?_
                    refine lv_bipush (pc := 146) (v := (-6)) hx hb dX11_year_146 (by decide) ?_
                    obtain ⟨u148, hu148, hf⟩ := cm_bd hf
                    refine cm_callV (pc := 148) (As := [.int (irm (irm ((75 * v4_43) + 74) 65537) 8), .int (-6)]) (rest := [.ref a]) (wr := [cm_kI cI a_book 31 m_book]) (ci := 11) (q0 := 0) (n := 2) hx hb hml hown hts hK hP hD hS hA (c_X11_think l D cI cJ cZ a a_book a_now a_sight a_pad a_digits a_without a_with a_counts a_fewest a_ways a_more a_chooses a_image a_isKept m_sights m_signs m_sold_43 m_markets_43 u34.2.2.1 m_reason_43 m_acts m_now_43 (irm (irm ((75 * v4_43) + 74) 65537) 8) (-6) u148 hu148) tw_858 tw_855 tw_857 tw_39 tw_56 rfl rfl (by decide +kernel) rfl ⟨Nat.le_of_ble_eq_true rfl, Nat.le_of_ble_eq_true rfl⟩ [0, 2] [1] rfl (by decide) rfl (by decide) (by decide) rfl rfl rfl hl.1 rfl (Nat.le_of_ble_eq_true rfl) dX11_year_148 ⟨Nat.zero_le _, Nat.zero_le _⟩ (fun H locs hP hD hS => ?_)
                    have hP : va_P D vwCl [cm_kI cI a_book 31 m_book, (a, .inr (11, [.ref a_book, .ref a_now, .int m_sights, .ref a_sight, .int m_signs, .ref a_pad, .int m_sold_43, .int m_markets_43, .int u34.2.2.1, .int m_reason_43, .int m_acts, .ref a_digits, .ref a_without, .ref a_with, .ref a_counts, .ref a_fewest, .ref a_ways, .ref a_more, .ref a_chooses, .ref a_image, .ref a_isKept])), cm_kI cI a_now 31 u148.2] H := hP
                    have hD : va_D A [cm_kI cI a_book 31 m_book, (a, .inr (11, [.ref a_book, .ref a_now, .int m_sights, .ref a_sight, .int m_signs, .ref a_pad, .int m_sold_43, .int m_markets_43, .int u34.2.2.1, .int m_reason_43, .int m_acts, .ref a_digits, .ref a_without, .ref a_with, .ref a_counts, .ref a_fewest, .ref a_ways, .ref a_more, .ref a_chooses, .ref a_image, .ref a_isKept])), cm_kI cI a_now 31 u148.2] := hD
                    refine W.eq (g2 := F0 m 151 ls [.int u148.1, .ref a]) rfl ?_
                    refine va_put (pc := 151) (D := D) (ci := 11) (v := .int u148.1) (ty := .int) (C := RX11) (T := TX11) (N := 21) hx hb hts in_X11 tyX11 tyX11_ok nmX11 hown hKa hP hD hS 1 rfl rfl 9 (by decide) (hts _ tw_721) (fun _ h9 => h9) rfl (by decide +kernel) rfl rfl (Nat.le_of_ble_eq_true rfl) dX11_year_151 (fun H locs hP hD hS => ?_)
                    have hP : va_P D vwCl [cm_kI cI a_book 31 m_book, (a, .inr (11, [.ref a_book, .ref a_now, .int m_sights, .ref a_sight, .int m_signs, .ref a_pad, .int m_sold_43, .int m_markets_43, .int u34.2.2.1, .int u148.1, .int m_acts, .ref a_digits, .ref a_without, .ref a_with, .ref a_counts, .ref a_fewest, .ref a_ways, .ref a_more, .ref a_chooses, .ref a_image, .ref a_isKept])), cm_kI cI a_now 31 u148.2] H := hP
                    have hD : va_D A [cm_kI cI a_book 31 m_book, (a, .inr (11, [.ref a_book, .ref a_now, .int m_sights, .ref a_sight, .int m_signs, .ref a_pad, .int m_sold_43, .int m_markets_43, .int u34.2.2.1, .int u148.1, .int m_acts, .ref a_digits, .ref a_without, .ref a_with, .ref a_counts, .ref a_fewest, .ref a_ways, .ref a_more, .ref a_chooses, .ref a_image, .ref a_isKept])), cm_kI cI a_now 31 u148.2] := hD
                    refine lv_goto (pc := 154) (tgt := 232) hx hb dX11_year_154 (by decide) ?_
                    refine lv_iinc (pc := 232) (v := (v5_43 + 1)) (lv' := [(5, .int (v5_43 + 1)), (7, .int ((irm ((75 * v4_43) + 74) 65537) / 64)), (6, .int (irm (irm ((75 * v4_43) + 74) 65537) 8)), (4, .int (irm ((75 * v4_43) + 74) 65537)), (0, .ref a), (2, .int v2), (3, .int v3)]) hx hb dX11_year_232 hl (k := 3) rfl rfl (by decide) rfl (fun ls hl => ?_)
                    refine lv_goto (pc := 235) (tgt := 43) hx hb dX11_year_235 (by decide) ?_
                    have hP := hP.sub (ws' := [(a, .inr (11, [.ref a_book, .ref a_now, .int m_sights, .ref a_sight, .int m_signs, .ref a_pad, .int m_sold_43, .int m_markets_43, .int u34.2.2.1, .int u148.1, .int m_acts, .ref a_digits, .ref a_without, .ref a_with, .ref a_counts, .ref a_fewest, .ref a_ways, .ref a_more, .ref a_chooses, .ref a_image, .ref a_isKept])), cm_kI cI a_book 31 m_book, cm_kI cI a_now 31 u148.2]) [1, 0, 2] rfl
                    have hD := hD.sub (ws' := [(a, .inr (11, [.ref a_book, .ref a_now, .int m_sights, .ref a_sight, .int m_signs, .ref a_pad, .int m_sold_43, .int m_markets_43, .int u34.2.2.1, .int u148.1, .int m_acts, .ref a_digits, .ref a_without, .ref a_with, .ref a_counts, .ref a_fewest, .ref a_ways, .ref a_more, .ref a_chooses, .ref a_image, .ref a_isKept])), cm_kI cI a_book 31 m_book, cm_kI cI a_now 31 u148.2]) [1, 0, 2] (by decide) rfl
                    exact ih (irm ((75 * v4_43) + 74) 65537) (v5_43 + 1) m_sold_43 m_markets_43 u148.1 u148.2 _ _ _ hP hD hS (lv_sub hl [0, 3, 4, 5, 6] rfl) hf
                  · have hf := cm_in c_84_2 hf
                    refine cm_em ((irm ((irm ((75 * v4_43) + 74) 65537) / 8) 8) = 3) (fun c_84_3 => ?_) (fun c_84_3 => ?_)
                    · have hf := cm_ip c_84_3 hf
                      refine lv_tableIn (pc := 84) (off := 73) (tgt := 157) hx hb dX11_year_84 (by rw [c_84_3]; decide) (by rw [c_84_3]; decide) (by rw [c_84_3]; rfl) (by decide) ?_
                      refine lv_aload_n (pc := 157) hx hb dX11_year_157 rfl (lv_at hl 4 rfl) ?_
                      refine lv_aload_n (pc := 158) hx hb dX11_year_158 rfl (lv_at hl 4 rfl) ?_
                      refine lv_iload (pc := 159) hx hb dX11_year_159 (lv_at hl 1 rfl) ?_
                      refine lv_iload (pc := 161) hx hb dX11_year_161 (lv_at hl 0 rfl) ?_
                      refine lv_bipush (pc := 163) (v := 8) hx hb dX11_year_163 (by decide) ?_
                      refine cm_irem (pc := 165) hx hb dX11_year_165 (by decide) ?_
                      obtain ⟨u166, hu166, hf⟩ := cm_bd hf
                      refine cm_callV (pc := 166) (As := [.int (irm (irm ((75 * v4_43) + 74) 65537) 8), .int (irm ((irm ((75 * v4_43) + 74) 65537) / 64) 8)]) (rest := [.ref a]) (wr := [cm_kI cI a_book 31 m_book]) (ci := 11) (q0 := 0) (n := 2) hx hb hml hown hts hK hP hD hS hA (c_X11_talk l D cI cJ cZ a a_book a_now a_sight a_pad a_digits a_without a_with a_counts a_fewest a_ways a_more a_chooses a_image a_isKept m_sights m_signs m_sold_43 m_markets_43 u34.2.2.1 m_reason_43 m_acts m_now_43 (irm (irm ((75 * v4_43) + 74) 65537) 8) (irm ((irm ((75 * v4_43) + 74) 65537) / 64) 8) u166 hu166) tw_846 tw_843 tw_845 tw_36 tw_56 rfl rfl (by decide +kernel) rfl ⟨Nat.le_of_ble_eq_true rfl, Nat.le_of_ble_eq_true rfl⟩ [0, 2] [1] rfl (by decide) rfl (by decide) (by decide) rfl rfl rfl hl.1 rfl (Nat.le_of_ble_eq_true rfl) dX11_year_166 ⟨Nat.zero_le _, Nat.zero_le _⟩ (fun H locs hP hD hS => ?_)
                      have hP : va_P D vwCl [cm_kI cI a_book 31 m_book, (a, .inr (11, [.ref a_book, .ref a_now, .int m_sights, .ref a_sight, .int m_signs, .ref a_pad, .int m_sold_43, .int m_markets_43, .int u34.2.2.1, .int m_reason_43, .int m_acts, .ref a_digits, .ref a_without, .ref a_with, .ref a_counts, .ref a_fewest, .ref a_ways, .ref a_more, .ref a_chooses, .ref a_image, .ref a_isKept])), cm_kI cI a_now 31 u166.2] H := hP
                      have hD : va_D A [cm_kI cI a_book 31 m_book, (a, .inr (11, [.ref a_book, .ref a_now, .int m_sights, .ref a_sight, .int m_signs, .ref a_pad, .int m_sold_43, .int m_markets_43, .int u34.2.2.1, .int m_reason_43, .int m_acts, .ref a_digits, .ref a_without, .ref a_with, .ref a_counts, .ref a_fewest, .ref a_ways, .ref a_more, .ref a_chooses, .ref a_image, .ref a_isKept])), cm_kI cI a_now 31 u166.2] := hD
                      refine W.eq (g2 := F0 m 169 ls [.int u166.1, .ref a]) rfl ?_
                      refine va_put (pc := 169) (D := D) (ci := 11) (v := .int u166.1) (ty := .int) (C := RX11) (T := TX11) (N := 21) hx hb hts in_X11 tyX11 tyX11_ok nmX11 hown hKa hP hD hS 1 rfl rfl 9 (by decide) (hts _ tw_721) (fun _ h9 => h9) rfl (by decide +kernel) rfl rfl (Nat.le_of_ble_eq_true rfl) dX11_year_169 (fun H locs hP hD hS => ?_)
                      have hP : va_P D vwCl [cm_kI cI a_book 31 m_book, (a, .inr (11, [.ref a_book, .ref a_now, .int m_sights, .ref a_sight, .int m_signs, .ref a_pad, .int m_sold_43, .int m_markets_43, .int u34.2.2.1, .int u166.1, .int m_acts, .ref a_digits, .ref a_without, .ref a_with, .ref a_counts, .ref a_fewest, .ref a_ways, .ref a_more, .ref a_chooses, .ref a_image, .ref a_isKept])), cm_kI cI a_now 31 u166.2] H := hP
                      have hD : va_D A [cm_kI cI a_book 31 m_book, (a, .inr (11, [.ref a_book, .ref a_now, .int m_sights, .ref a_sight, .int m_signs, .ref a_pad, .int m_sold_43, .int m_markets_43, .int u34.2.2.1, .int u166.1, .int m_acts, .ref a_digits, .ref a_without, .ref a_with, .ref a_counts, .ref a_fewest, .ref a_ways, .ref a_more, .ref a_chooses, .ref a_image, .ref a_isKept])), cm_kI cI a_now 31 u166.2] := hD
                      refine lv_goto (pc := 172) (tgt := 232) hx hb dX11_year_172 (by decide) ?_
                      refine lv_iinc (pc := 232) (v := (v5_43 + 1)) (lv' := [(5, .int (v5_43 + 1)), (7, .int ((irm ((75 * v4_43) + 74) 65537) / 64)), (6, .int (irm (irm ((75 * v4_43) + 74) 65537) 8)), (4, .int (irm ((75 * v4_43) + 74) 65537)), (0, .ref a), (2, .int v2), (3, .int v3)]) hx hb dX11_year_232 hl (k := 3) rfl rfl (by decide) rfl (fun ls hl => ?_)
                      refine lv_goto (pc := 235) (tgt := 43) hx hb dX11_year_235 (by decide) ?_
                      have hP := hP.sub (ws' := [(a, .inr (11, [.ref a_book, .ref a_now, .int m_sights, .ref a_sight, .int m_signs, .ref a_pad, .int m_sold_43, .int m_markets_43, .int u34.2.2.1, .int u166.1, .int m_acts, .ref a_digits, .ref a_without, .ref a_with, .ref a_counts, .ref a_fewest, .ref a_ways, .ref a_more, .ref a_chooses, .ref a_image, .ref a_isKept])), cm_kI cI a_book 31 m_book, cm_kI cI a_now 31 u166.2]) [1, 0, 2] rfl
                      have hD := hD.sub (ws' := [(a, .inr (11, [.ref a_book, .ref a_now, .int m_sights, .ref a_sight, .int m_signs, .ref a_pad, .int m_sold_43, .int m_markets_43, .int u34.2.2.1, .int u166.1, .int m_acts, .ref a_digits, .ref a_without, .ref a_with, .ref a_counts, .ref a_fewest, .ref a_ways, .ref a_more, .ref a_chooses, .ref a_image, .ref a_isKept])), cm_kI cI a_book 31 m_book, cm_kI cI a_now 31 u166.2]) [1, 0, 2] (by decide) rfl
                      exact ih (irm ((75 * v4_43) + 74) 65537) (v5_43 + 1) m_sold_43 m_markets_43 u166.1 u166.2 _ _ _ hP hD hS (lv_sub hl [0, 3, 4, 5, 6] rfl) hf
                    · have hf := cm_in c_84_3 hf
                      refine cm_em ((irm ((irm ((75 * v4_43) + 74) 65537) / 8) 8) = 4) (fun c_84_4 => ?_) (fun c_84_4 => ?_)
                      · have hf := cm_ip c_84_4 hf
                        refine lv_tableIn (pc := 84) (off := 91) (tgt := 175) hx hb dX11_year_84 (by rw [c_84_4]; decide) (by rw [c_84_4]; decide) (by rw [c_84_4]; rfl) (by decide) ?_
                        refine lv_aload_n (pc := 175) hx hb dX11_year_175 rfl (lv_at hl 4 rfl) ?_
                        refine lv_aload_n (pc := 176) hx hb dX11_year_176 rfl (lv_at hl 4 rfl) ?_
                        refine lv_iload (pc := 177) hx hb dX11_year_177 (lv_at hl 1 rfl) ?_
                        refine lv_iload (pc := 179) hx hb dX11_year_179 (lv_at hl 0 rfl) ?_
                        refine lv_bipush (pc := 181) (v := 8) hx hb dX11_year_181 (by decide) ?_
                        refine cm_irem (pc := 183) hx hb dX11_year_183 (by decide) ?_
                        obtain ⟨u184, hu184, hf⟩ := cm_bd hf
                        refine cm_callV (pc := 184) (As := [.int (irm (irm ((75 * v4_43) + 74) 65537) 8), .int (irm ((irm ((75 * v4_43) + 74) 65537) / 64) 8)]) (rest := [.ref a]) (wr := [cm_kI cI a_book 31 m_book]) (ci := 11) (q0 := 0) (n := 2) hx hb hml hown hts hK hP hD hS hA (c_X11_pay l D cI cJ cZ a a_book a_now a_sight a_pad a_digits a_without a_with a_counts a_fewest a_ways a_more a_chooses a_image a_isKept m_sights m_signs m_sold_43 m_markets_43 u34.2.2.1 m_reason_43 m_acts m_now_43 (irm (irm ((75 * v4_43) + 74) 65537) 8) (irm ((irm ((75 * v4_43) + 74) 65537) / 64) 8) u184 hu184) tw_850 tw_847 tw_849 tw_37 tw_56 rfl rfl (by decide +kernel) rfl ⟨Nat.le_of_ble_eq_true rfl, Nat.le_of_ble_eq_true rfl⟩ [0, 2] [1] rfl (by decide) rfl (by decide) (by decide) rfl rfl rfl hl.1 rfl (Nat.le_of_ble_eq_true rfl) dX11_year_184 ⟨Nat.zero_le _, Nat.zero_le _⟩ (fun H locs hP hD hS => ?_)
                        have hP : va_P D vwCl [cm_kI cI a_book 31 m_book, (a, .inr (11, [.ref a_book, .ref a_now, .int m_sights, .ref a_sight, .int m_signs, .ref a_pad, .int m_sold_43, .int m_markets_43, .int u34.2.2.1, .int m_reason_43, .int m_acts, .ref a_digits, .ref a_without, .ref a_with, .ref a_counts, .ref a_fewest, .ref a_ways, .ref a_more, .ref a_chooses, .ref a_image, .ref a_isKept])), cm_kI cI a_now 31 u184.2] H := hP
                        have hD : va_D A [cm_kI cI a_book 31 m_book, (a, .inr (11, [.ref a_book, .ref a_now, .int m_sights, .ref a_sight, .int m_signs, .ref a_pad, .int m_sold_43, .int m_markets_43, .int u34.2.2.1, .int m_reason_43, .int m_acts, .ref a_digits, .ref a_without, .ref a_with, .ref a_counts, .ref a_fewest, .ref a_ways, .ref a_more, .ref a_chooses, .ref a_image, .ref a_isKept])), cm_kI cI a_now 31 u184.2] := hD
                        refine W.eq (g2 := F0 m 187 ls [.int u184.1, .ref a]) rfl ?_
                        refine va_put (pc := 187) (D := D) (ci := 11) (v := .int u184.1) (ty := .int) (C := RX11) (T := TX11) (N := 21) hx hb hts in_X11 tyX11 tyX11_ok nmX11 hown hKa hP hD hS 1 rfl rfl 9 (by decide) (hts _ tw_721) (fun _ h9 => h9) rfl (by decide +kernel) rfl rfl (Nat.le_of_ble_eq_true rfl) dX11_year_187 (fun H locs hP hD hS => ?_)
                        have hP : va_P D vwCl [cm_kI cI a_book 31 m_book, (a, .inr (11, [.ref a_book, .ref a_now, .int m_sights, .ref a_sight, .int m_signs, .ref a_pad, .int m_sold_43, .int m_markets_43, .int u34.2.2.1, .int u184.1, .int m_acts, .ref a_digits, .ref a_without, .ref a_with, .ref a_counts, .ref a_fewest, .ref a_ways, .ref a_more, .ref a_chooses, .ref a_image, .ref a_isKept])), cm_kI cI a_now 31 u184.2] H := hP
                        have hD : va_D A [cm_kI cI a_book 31 m_book, (a, .inr (11, [.ref a_book, .ref a_now, .int m_sights, .ref a_sight, .int m_signs, .ref a_pad, .int m_sold_43, .int m_markets_43, .int u34.2.2.1, .int u184.1, .int m_acts, .ref a_digits, .ref a_without, .ref a_with, .ref a_counts, .ref a_fewest, .ref a_ways, .ref a_more, .ref a_chooses, .ref a_image, .ref a_isKept])), cm_kI cI a_now 31 u184.2] := hD
                        refine lv_goto (pc := 190) (tgt := 232) hx hb dX11_year_190 (by decide) ?_
                        refine lv_iinc (pc := 232) (v := (v5_43 + 1)) (lv' := [(5, .int (v5_43 + 1)), (7, .int ((irm ((75 * v4_43) + 74) 65537) / 64)), (6, .int (irm (irm ((75 * v4_43) + 74) 65537) 8)), (4, .int (irm ((75 * v4_43) + 74) 65537)), (0, .ref a), (2, .int v2), (3, .int v3)]) hx hb dX11_year_232 hl (k := 3) rfl rfl (by decide) rfl (fun ls hl => ?_)
                        refine lv_goto (pc := 235) (tgt := 43) hx hb dX11_year_235 (by decide) ?_
                        have hP := hP.sub (ws' := [(a, .inr (11, [.ref a_book, .ref a_now, .int m_sights, .ref a_sight, .int m_signs, .ref a_pad, .int m_sold_43, .int m_markets_43, .int u34.2.2.1, .int u184.1, .int m_acts, .ref a_digits, .ref a_without, .ref a_with, .ref a_counts, .ref a_fewest, .ref a_ways, .ref a_more, .ref a_chooses, .ref a_image, .ref a_isKept])), cm_kI cI a_book 31 m_book, cm_kI cI a_now 31 u184.2]) [1, 0, 2] rfl
                        have hD := hD.sub (ws' := [(a, .inr (11, [.ref a_book, .ref a_now, .int m_sights, .ref a_sight, .int m_signs, .ref a_pad, .int m_sold_43, .int m_markets_43, .int u34.2.2.1, .int u184.1, .int m_acts, .ref a_digits, .ref a_without, .ref a_with, .ref a_counts, .ref a_fewest, .ref a_ways, .ref a_more, .ref a_chooses, .ref a_image, .ref a_isKept])), cm_kI cI a_book 31 m_book, cm_kI cI a_now 31 u184.2]) [1, 0, 2] (by decide) rfl
                        exact ih (irm ((75 * v4_43) + 74) 65537) (v5_43 + 1) m_sold_43 m_markets_43 u184.1 u184.2 _ _ _ hP hD hS (lv_sub hl [0, 3, 4, 5, 6] rfl) hf
                      · have hf := cm_in c_84_4 hf
                        refine cm_em ((irm ((irm ((75 * v4_43) + 74) 65537) / 8) 8) = 5) (fun c_84_5 => ?_) (fun c_84_5 => ?_)
                        · have hf := cm_ip c_84_5 hf
                          refine lv_tableIn (pc := 84) (off := 109) (tgt := 193) hx hb dX11_year_84 (by rw [c_84_5]; decide) (by rw [c_84_5]; decide) (by rw [c_84_5]; rfl) (by decide) ?_
                          refine lv_aload_n (pc := 193) hx hb dX11_year_193 rfl (lv_at hl 4 rfl) ?_
                          refine lv_iload (pc := 194) hx hb dX11_year_194 (lv_at hl 0 rfl) ?_
                          refine lv_iconst (pc := 196) (v := 2) hx hb dX11_year_196 (by decide) ?_
                          refine cm_irem (pc := 197) hx hb dX11_year_197 (by decide) ?_
                          obtain ⟨j198, hj198, hf⟩ := cm_bd hf
                          have J198 : ∀ (H : Heap) (locs : List Loc) (ls : Array Slot), va_P D vwCl [(a, .inr (11, [.ref a_book, .ref a_now, .int m_sights, .ref a_sight, .int m_signs, .ref a_pad, .int m_sold_43, .int m_markets_43, .int u34.2.2.1, .int m_reason_43, .int m_acts, .ref a_digits, .ref a_without, .ref a_with, .ref a_counts, .ref a_fewest, .ref a_ways, .ref a_more, .ref a_chooses, .ref a_image, .ref a_isKept])), cm_kI cI a_book 31 m_book, cm_kI cI a_now 31 j198.2] H → va_D A [(a, .inr (11, [.ref a_book, .ref a_now, .int m_sights, .ref a_sight, .int m_signs, .ref a_pad, .int m_sold_43, .int m_markets_43, .int u34.2.2.1, .int m_reason_43, .int m_acts, .ref a_digits, .ref a_without, .ref a_with, .ref a_counts, .ref a_fewest, .ref a_ways, .ref a_more, .ref a_chooses, .ref a_image, .ref a_isKept])), cm_kI cI a_book 31 m_book, cm_kI cI a_now 31 j198.2] → va_S A s.heap H locs → lv_has ls 8 [(4, .int (irm ((75 * v4_43) + 74) 65537)), (5, .int v5_43), (0, .ref a), (2, .int v2), (3, .int v3)] → W p l e rmX11_year s m args below meth c H locs 0 0 Q (F0 m 218 ls [.int j198.1, .ref a]) := by
                            intro H locs ls hP hD hS hl
                            refine va_put (pc := 218) (D := D) (ci := 11) (v := .int j198.1) (ty := .int) (C := RX11) (T := TX11) (N := 21) hx hb hts in_X11 tyX11 tyX11_ok nmX11 hown hKa hP hD hS 0 rfl rfl 9 (by decide) (hts _ tw_721) (fun _ h9 => h9) rfl (by decide +kernel) rfl rfl (Nat.le_of_ble_eq_true rfl) dX11_year_218 (fun H locs hP hD hS => ?_)
                            have hP : va_P D vwCl [(a, .inr (11, [.ref a_book, .ref a_now, .int m_sights, .ref a_sight, .int m_signs, .ref a_pad, .int m_sold_43, .int m_markets_43, .int u34.2.2.1, .int j198.1, .int m_acts, .ref a_digits, .ref a_without, .ref a_with, .ref a_counts, .ref a_fewest, .ref a_ways, .ref a_more, .ref a_chooses, .ref a_image, .ref a_isKept])), cm_kI cI a_book 31 m_book, cm_kI cI a_now 31 j198.2] H := hP
                            have hD : va_D A [(a, .inr (11, [.ref a_book, .ref a_now, .int m_sights, .ref a_sight, .int m_signs, .ref a_pad, .int m_sold_43, .int m_markets_43, .int u34.2.2.1, .int j198.1, .int m_acts, .ref a_digits, .ref a_without, .ref a_with, .ref a_counts, .ref a_fewest, .ref a_ways, .ref a_more, .ref a_chooses, .ref a_image, .ref a_isKept])), cm_kI cI a_book 31 m_book, cm_kI cI a_now 31 j198.2] := hD
                            refine lv_goto (pc := 221) (tgt := 232) hx hb dX11_year_221 (by decide) ?_
                            refine lv_iinc (pc := 232) (v := (v5_43 + 1)) (lv' := [(5, .int (v5_43 + 1)), (4, .int (irm ((75 * v4_43) + 74) 65537)), (0, .ref a), (2, .int v2), (3, .int v3)]) hx hb dX11_year_232 hl (k := 1) rfl rfl (by decide) rfl (fun ls hl => ?_)
                            refine lv_goto (pc := 235) (tgt := 43) hx hb dX11_year_235 (by decide) ?_
                            exact ih (irm ((75 * v4_43) + 74) 65537) (v5_43 + 1) m_sold_43 m_markets_43 j198.1 j198.2 _ _ _ hP hD hS (lv_sub hl [0, 1, 2, 3, 4] rfl) hf
                          clear hf
                          have hf := hj198
                          refine lv_if_ne (pc := 198) (tgt := 210) hx hb dX11_year_198 (by decide) (fun c_198 => ?_) (fun c_198 => ?_)
                          · have hf := cm_in c_198 hf
                            refine lv_aload_n (pc := 210) hx hb dX11_year_210 rfl (lv_at hl 4 rfl) ?_
                            refine lv_iload (pc := 211) hx hb dX11_year_211 (lv_at hl 0 rfl) ?_
                            refine lv_iconst (pc := 213) (v := 4) hx hb dX11_year_213 (by decide) ?_
                            refine cm_irem (pc := 214) hx hb dX11_year_214 (by decide) ?_
                            obtain ⟨u215, hu215, hf⟩ := cm_bd hf
                            refine cm_callV (pc := 215) (As := [.int (irm ((irm ((75 * v4_43) + 74) 65537) / 64) 4)]) (rest := [.ref a]) (wr := [cm_kI cI a_book 31 m_book]) (ci := 11) (q0 := 0) (n := 1) hx hb hml hown hts hK hP hD hS hA (c_X11_drive l D cI cJ cZ a a_book a_now a_sight a_pad a_digits a_without a_with a_counts a_fewest a_ways a_more a_chooses a_image a_isKept m_sights m_signs m_sold_43 m_markets_43 u34.2.2.1 m_reason_43 m_acts m_now_43 (irm ((irm ((75 * v4_43) + 74) 65537) / 64) 4) u215 hu215) tw_842 tw_839 tw_841 tw_35 tw_56 rfl rfl (by decide +kernel) rfl ⟨Nat.le_of_ble_eq_true rfl, Nat.le_of_ble_eq_true rfl⟩ [0, 2] [1] rfl (by decide) rfl (by decide) (by decide) rfl rfl rfl hl.1 rfl (Nat.le_of_ble_eq_true rfl) dX11_year_215 ⟨Nat.zero_le _, Nat.zero_le _⟩ (fun H locs hP hD hS => ?_)
                            have hP : va_P D vwCl [cm_kI cI a_book 31 m_book, (a, .inr (11, [.ref a_book, .ref a_now, .int m_sights, .ref a_sight, .int m_signs, .ref a_pad, .int m_sold_43, .int m_markets_43, .int u34.2.2.1, .int m_reason_43, .int m_acts, .ref a_digits, .ref a_without, .ref a_with, .ref a_counts, .ref a_fewest, .ref a_ways, .ref a_more, .ref a_chooses, .ref a_image, .ref a_isKept])), cm_kI cI a_now 31 u215.2] H := hP
                            have hD : va_D A [cm_kI cI a_book 31 m_book, (a, .inr (11, [.ref a_book, .ref a_now, .int m_sights, .ref a_sight, .int m_signs, .ref a_pad, .int m_sold_43, .int m_markets_43, .int u34.2.2.1, .int m_reason_43, .int m_acts, .ref a_digits, .ref a_without, .ref a_with, .ref a_counts, .ref a_fewest, .ref a_ways, .ref a_more, .ref a_chooses, .ref a_image, .ref a_isKept])), cm_kI cI a_now 31 u215.2] := hD
                            refine W.eq (g2 := F0 m 218 ls [.int u215.1, .ref a]) rfl ?_
                            obtain rfl := Option.some.inj hf
                            have hP := hP.sub (ws' := [(a, .inr (11, [.ref a_book, .ref a_now, .int m_sights, .ref a_sight, .int m_signs, .ref a_pad, .int m_sold_43, .int m_markets_43, .int u34.2.2.1, .int m_reason_43, .int m_acts, .ref a_digits, .ref a_without, .ref a_with, .ref a_counts, .ref a_fewest, .ref a_ways, .ref a_more, .ref a_chooses, .ref a_image, .ref a_isKept])), cm_kI cI a_book 31 m_book, cm_kI cI a_now 31 u215.2]) [1, 0, 2] rfl
                            have hD := hD.sub (ws' := [(a, .inr (11, [.ref a_book, .ref a_now, .int m_sights, .ref a_sight, .int m_signs, .ref a_pad, .int m_sold_43, .int m_markets_43, .int u34.2.2.1, .int m_reason_43, .int m_acts, .ref a_digits, .ref a_without, .ref a_with, .ref a_counts, .ref a_fewest, .ref a_ways, .ref a_more, .ref a_chooses, .ref a_image, .ref a_isKept])), cm_kI cI a_book 31 m_book, cm_kI cI a_now 31 u215.2]) [1, 0, 2] (by decide) rfl
                            exact J198 _ _ _ hP hD hS (lv_sub hl [2, 3, 4, 5, 6] rfl)
                          · have hf := cm_ip c_198 hf
                            refine lv_aload_n (pc := 201) hx hb dX11_year_201 rfl (lv_at hl 4 rfl) ?_
                            refine lv_iload (pc := 202) hx hb dX11_year_202 (lv_at hl 1 rfl) ?_
                            obtain ⟨u204, hu204, hf⟩ := cm_bd hf
                            refine cm_callV (pc := 204) (As := [.int (irm (irm ((75 * v4_43) + 74) 65537) 8)]) (rest := [.ref a]) (wr := [cm_kI cI a_book 31 m_book]) (ci := 11) (q0 := 0) (n := 1) hx hb hml hown hts hK hP hD hS hA (c_X11_grow l D cI cJ cZ a a_book a_now a_sight a_pad a_digits a_without a_with a_counts a_fewest a_ways a_more a_chooses a_image a_isKept m_sights m_signs m_sold_43 m_markets_43 u34.2.2.1 m_reason_43 m_acts m_now_43 (irm (irm ((75 * v4_43) + 74) 65537) 8) u204 hu204) tw_854 tw_851 tw_853 tw_38 tw_56 rfl rfl (by decide +kernel) rfl ⟨Nat.le_of_ble_eq_true rfl, Nat.le_of_ble_eq_true rfl⟩ [0, 2] [1] rfl (by decide) rfl (by decide) (by decide) rfl rfl rfl hl.1 rfl (Nat.le_of_ble_eq_true rfl) dX11_year_204 ⟨Nat.zero_le _, Nat.zero_le _⟩ (fun H locs hP hD hS => ?_)
                            have hP : va_P D vwCl [cm_kI cI a_book 31 m_book, (a, .inr (11, [.ref a_book, .ref a_now, .int m_sights, .ref a_sight, .int m_signs, .ref a_pad, .int m_sold_43, .int m_markets_43, .int u34.2.2.1, .int m_reason_43, .int m_acts, .ref a_digits, .ref a_without, .ref a_with, .ref a_counts, .ref a_fewest, .ref a_ways, .ref a_more, .ref a_chooses, .ref a_image, .ref a_isKept])), cm_kI cI a_now 31 u204.2] H := hP
                            have hD : va_D A [cm_kI cI a_book 31 m_book, (a, .inr (11, [.ref a_book, .ref a_now, .int m_sights, .ref a_sight, .int m_signs, .ref a_pad, .int m_sold_43, .int m_markets_43, .int u34.2.2.1, .int m_reason_43, .int m_acts, .ref a_digits, .ref a_without, .ref a_with, .ref a_counts, .ref a_fewest, .ref a_ways, .ref a_more, .ref a_chooses, .ref a_image, .ref a_isKept])), cm_kI cI a_now 31 u204.2] := hD
                            refine W.eq (g2 := F0 m 207 ls [.int u204.1, .ref a]) rfl ?_
                            refine lv_goto (pc := 207) (tgt := 218) hx hb dX11_year_207 (by decide) ?_
                            obtain rfl := Option.some.inj hf
                            have hP := hP.sub (ws' := [(a, .inr (11, [.ref a_book, .ref a_now, .int m_sights, .ref a_sight, .int m_signs, .ref a_pad, .int m_sold_43, .int m_markets_43, .int u34.2.2.1, .int m_reason_43, .int m_acts, .ref a_digits, .ref a_without, .ref a_with, .ref a_counts, .ref a_fewest, .ref a_ways, .ref a_more, .ref a_chooses, .ref a_image, .ref a_isKept])), cm_kI cI a_book 31 m_book, cm_kI cI a_now 31 u204.2]) [1, 0, 2] rfl
                            have hD := hD.sub (ws' := [(a, .inr (11, [.ref a_book, .ref a_now, .int m_sights, .ref a_sight, .int m_signs, .ref a_pad, .int m_sold_43, .int m_markets_43, .int u34.2.2.1, .int m_reason_43, .int m_acts, .ref a_digits, .ref a_without, .ref a_with, .ref a_counts, .ref a_fewest, .ref a_ways, .ref a_more, .ref a_chooses, .ref a_image, .ref a_isKept])), cm_kI cI a_book 31 m_book, cm_kI cI a_now 31 u204.2]) [1, 0, 2] (by decide) rfl
                            exact J198 _ _ _ hP hD hS (lv_sub hl [2, 3, 4, 5, 6] rfl)
                        · have hf := cm_in c_84_5 hf
                          refine lv_tableOut (pc := 84) (tgt := 224) hx hb dX11_year_84 (by have h0 := cm_nt (z := 0) (by decide) c_84_0; have h1 := cm_nt (z := 1) (by decide) c_84_1; have h2 := cm_nt (z := 2) (by decide) c_84_2; have h3 := cm_nt (z := 3) (by decide) c_84_3; have h4 := cm_nt (z := 4) (by decide) c_84_4; have h5 := cm_nt (z := 5) (by decide) c_84_5; omega) (by decide) ?_
                          refine lv_aload_n (pc := 224) hx hb dX11_year_224 rfl (lv_at hl 4 rfl) ?_
                          refine lv_aload_n (pc := 225) hx hb dX11_year_225 rfl (lv_at hl 4 rfl) ?_
                          obtain ⟨u226, hu226, hf⟩ := cm_bd hf
                          refine cm_callV (pc := 226) (As := []) (rest := [.ref a]) (wr := [cm_kI cI a_book 31 m_book]) (ci := 11) (q0 := 0) (n := 0) hx hb hml hown hts hK hP hD hS hA (c_X11_endNight l D cI cJ cZ a a_book a_now a_sight a_pad a_digits a_without a_with a_counts a_fewest a_ways a_more a_chooses a_image a_isKept m_sights m_signs m_sold_43 m_markets_43 u34.2.2.1 m_reason_43 m_acts m_now_43 u226 hu226) tw_826 tw_823 tw_825 tw_31 tw_56 rfl rfl (by decide +kernel) rfl ⟨Nat.le_of_ble_eq_true rfl, Nat.le_of_ble_eq_true rfl⟩ [0, 2] [1] rfl (by decide) rfl (by decide) (by decide) rfl rfl rfl hl.1 rfl (Nat.le_of_ble_eq_true rfl) dX11_year_226 ⟨Nat.zero_le _, Nat.zero_le _⟩ (fun H locs hP hD hS => ?_)
                          have hP : va_P D vwCl [cm_kI cI a_book 31 m_book, (a, .inr (11, [.ref a_book, .ref a_now, .int m_sights, .ref a_sight, .int m_signs, .ref a_pad, .int u226.2.1, .int u226.2.2.1, .int u34.2.2.1, .int m_reason_43, .int m_acts, .ref a_digits, .ref a_without, .ref a_with, .ref a_counts, .ref a_fewest, .ref a_ways, .ref a_more, .ref a_chooses, .ref a_image, .ref a_isKept])), cm_kI cI a_now 31 u226.2.2.2] H := hP
                          have hD : va_D A [cm_kI cI a_book 31 m_book, (a, .inr (11, [.ref a_book, .ref a_now, .int m_sights, .ref a_sight, .int m_signs, .ref a_pad, .int u226.2.1, .int u226.2.2.1, .int u34.2.2.1, .int m_reason_43, .int m_acts, .ref a_digits, .ref a_without, .ref a_with, .ref a_counts, .ref a_fewest, .ref a_ways, .ref a_more, .ref a_chooses, .ref a_image, .ref a_isKept])), cm_kI cI a_now 31 u226.2.2.2] := hD
                          refine W.eq (g2 := F0 m 229 ls [.int u226.1, .ref a]) rfl ?_
                          refine va_put (pc := 229) (D := D) (ci := 11) (v := .int u226.1) (ty := .int) (C := RX11) (T := TX11) (N := 21) hx hb hts in_X11 tyX11 tyX11_ok nmX11 hown hKa hP hD hS 1 rfl rfl 9 (by decide) (hts _ tw_721) (fun _ h9 => h9) rfl (by decide +kernel) rfl rfl (Nat.le_of_ble_eq_true rfl) dX11_year_229 (fun H locs hP hD hS => ?_)
                          have hP : va_P D vwCl [cm_kI cI a_book 31 m_book, (a, .inr (11, [.ref a_book, .ref a_now, .int m_sights, .ref a_sight, .int m_signs, .ref a_pad, .int u226.2.1, .int u226.2.2.1, .int u34.2.2.1, .int u226.1, .int m_acts, .ref a_digits, .ref a_without, .ref a_with, .ref a_counts, .ref a_fewest, .ref a_ways, .ref a_more, .ref a_chooses, .ref a_image, .ref a_isKept])), cm_kI cI a_now 31 u226.2.2.2] H := hP
                          have hD : va_D A [cm_kI cI a_book 31 m_book, (a, .inr (11, [.ref a_book, .ref a_now, .int m_sights, .ref a_sight, .int m_signs, .ref a_pad, .int u226.2.1, .int u226.2.2.1, .int u34.2.2.1, .int u226.1, .int m_acts, .ref a_digits, .ref a_without, .ref a_with, .ref a_counts, .ref a_fewest, .ref a_ways, .ref a_more, .ref a_chooses, .ref a_image, .ref a_isKept])), cm_kI cI a_now 31 u226.2.2.2] := hD
                          refine lv_iinc (pc := 232) (v := (v5_43 + 1)) (lv' := [(5, .int (v5_43 + 1)), (7, .int ((irm ((75 * v4_43) + 74) 65537) / 64)), (6, .int (irm (irm ((75 * v4_43) + 74) 65537) 8)), (4, .int (irm ((75 * v4_43) + 74) 65537)), (0, .ref a), (2, .int v2), (3, .int v3)]) hx hb dX11_year_232 hl (k := 3) rfl rfl (by decide) rfl (fun ls hl => ?_)
                          refine lv_goto (pc := 235) (tgt := 43) hx hb dX11_year_235 (by decide) ?_
                          have hP := hP.sub (ws' := [(a, .inr (11, [.ref a_book, .ref a_now, .int m_sights, .ref a_sight, .int m_signs, .ref a_pad, .int u226.2.1, .int u226.2.2.1, .int u34.2.2.1, .int u226.1, .int m_acts, .ref a_digits, .ref a_without, .ref a_with, .ref a_counts, .ref a_fewest, .ref a_ways, .ref a_more, .ref a_chooses, .ref a_image, .ref a_isKept])), cm_kI cI a_book 31 m_book, cm_kI cI a_now 31 u226.2.2.2]) [1, 0, 2] rfl
                          have hD := hD.sub (ws' := [(a, .inr (11, [.ref a_book, .ref a_now, .int m_sights, .ref a_sight, .int m_signs, .ref a_pad, .int u226.2.1, .int u226.2.2.1, .int u34.2.2.1, .int u226.1, .int m_acts, .ref a_digits, .ref a_without, .ref a_with, .ref a_counts, .ref a_fewest, .ref a_ways, .ref a_more, .ref a_chooses, .ref a_image, .ref a_isKept])), cm_kI cI a_book 31 m_book, cm_kI cI a_now 31 u226.2.2.2]) [1, 0, 2] (by decide) rfl
                          exact ih (irm ((75 * v4_43) + 74) 65537) (v5_43 + 1) u226.2.1 u226.2.2.1 u226.1 u226.2.2.2 _ _ _ hP hD hS (lv_sub hl [0, 3, 4, 5, 6] rfl) hf
        refine L43 _ (fun v4_43 v5_43 m_sold_43 m_markets_43 m_reason_43 m_now_43 H locs ls hP hD hS hl hf => ?_) 5000 v1 0 u34.1 u34.2.1 m_reason u34.2.2.2 _ _ _ hP hD hS (lv_sub hl [0, 1, 2, 4, 5] rfl) hf
        refine lv_iload_n (pc := 238) hx hb dX11_year_238 rfl (lv_at hl 1 rfl) ?_
        refine lv_if_ne (pc := 239) (tgt := 249) hx hb dX11_year_239 (by decide) (fun c_239 => ?_) (fun c_239 => ?_)
        · have hf := cm_in c_239 hf
          refine lv_iload_n (pc := 249) hx hb dX11_year_249 rfl (lv_at hl 1 rfl) ?_
          refine lv_iconst (pc := 250) (v := 1) hx hb dX11_year_250 (by decide) ?_
          refine lv_icmp_ne (pc := 251) (tgt := 264) hx hb dX11_year_251 (by decide) (fun c_251 => ?_) (fun c_251 => ?_)
          · have hf := cm_in c_251 hf
            refine lv_aload_n (pc := 264) hx hb dX11_year_264 rfl (lv_at hl 0 rfl) ?_
            refine va_get (pc := 265) (D := D) (ci := 11) (v := .int m_markets_43) (C := RX11) (T := TX11) (N := 21) hx hb hts in_X11 hown hKa hP 0 rfl rfl 7 (by decide) (hts _ tw_719) (fun _ h9 => h9) rfl dX11_year_265 ?_
            obtain rfl := Option.some.inj hf
            exact cm_iret (pc := 268) hAe hQ hx hb hr hlocks hP hD hS [0, 1, 2] (by decide) rfl dX11_year_268
          · have hf := cm_ip c_251 hf
            refine lv_aload_n (pc := 254) hx hb dX11_year_254 rfl (lv_at hl 0 rfl) ?_
            refine va_get (pc := 255) (D := D) (ci := 11) (v := .ref a_now) (C := RX11) (T := TX11) (N := 21) hx hb hts in_X11 hown hKa hP 0 rfl rfl 1 (by decide) (hts _ tw_713) (fun _ h9 => h9) rfl dX11_year_255 ?_
            refine lv_bipush (pc := 258) (v := 16) hx hb dX11_year_258 (by decide) ?_
            refine cm_iald (pc := 260) hx hb hKa hP 2 0 rfl rfl 16 rfl (by decide) dX11_year_260 ?_
            refine lv_goto (pc := 261) (tgt := 268) hx hb dX11_year_261 (by decide) ?_
            obtain rfl := Option.some.inj hf
            exact cm_iret (pc := 268) hAe hQ hx hb hr hlocks hP hD hS [0, 1, 2] (by decide) rfl dX11_year_268
        · have hf := cm_ip c_239 hf
          refine lv_aload_n (pc := 242) hx hb dX11_year_242 rfl (lv_at hl 0 rfl) ?_
          refine va_get (pc := 243) (D := D) (ci := 11) (v := .int m_sold_43) (C := RX11) (T := TX11) (N := 21) hx hb hts in_X11 hown hKa hP 0 rfl rfl 6 (by decide) (hts _ tw_718) (fun _ h9 => h9) rfl dX11_year_243 ?_
          refine lv_goto (pc := 246) (tgt := 268) hx hb dX11_year_246 (by decide) ?_
          obtain rfl := Option.some.inj hf
          exact cm_iret (pc := 268) hAe hQ hx hb hr hlocks hP hD hS [0, 1, 2] (by decide) rfl dX11_year_268
      · have hf := cm_ip c_27 hf
        refine lv_bipush (pc := 30) (v := (-2)) hx hb dX11_year_30 (by decide) ?_
        obtain rfl := Option.some.inj hf
        exact cm_iret (pc := 32) hAe hQ hx hb hr hlocks hP hD hS [0, 1, 2] (by decide) rfl dX11_year_32
def fX11_image_L19 (v2_19 : Int32) (m_book : (Nat → Int32)) (kx : Int32 → (Nat → Int32) → Option (Int32 × (Nat → Int32) × (Nat → Int32))) : Nat → Int32 → (Nat → Int32) → Option (Int32 × (Nat → Int32) × (Nat → Int32))
  | 0, _, _ => none
  | n + 1, v3_19, m_image_19 => (if 31 ≤ v3_19 then kx v3_19 m_image_19 else if v3_19 < 0 ∨ 31 ≤ v3_19.toNatClampNeg then none else if (v2_19 + v3_19) < 0 ∨ 120 ≤ (v2_19 + v3_19).toNatClampNeg then none else fX11_image_L19 v2_19 m_book kx n (v3_19 + 1) (upd m_image_19 (v2_19 + v3_19).toNatClampNeg (m_book v3_19.toNatClampNeg)))
def fX11_image_L47 (v2_47 : Int32) (m_sight : (Nat → Int32)) (kx : Int32 → (Nat → Int32) → Option (Int32 × (Nat → Int32) × (Nat → Int32))) : Nat → Int32 → (Nat → Int32) → Option (Int32 × (Nat → Int32) × (Nat → Int32))
  | 0, _, _ => none
  | n + 1, v3_47, m_image_47 => (if 24 ≤ v3_47 then kx v3_47 m_image_47 else if v3_47 < 0 ∨ 24 ≤ v3_47.toNatClampNeg then none else if ((v2_47 + 31) + v3_47) < 0 ∨ 120 ≤ ((v2_47 + 31) + v3_47).toNatClampNeg then none else fX11_image_L47 v2_47 m_sight kx n (v3_47 + 1) (upd m_image_47 ((v2_47 + 31) + v3_47).toNatClampNeg (m_sight v3_47.toNatClampNeg)))
def fX11_image (v1 : Int32) (m_sights : Int32) (m_book : (Nat → Int32)) (m_sight : (Nat → Int32)) (m_image : (Nat → Int32)) (m_isKept : (Nat → Int32)) : Option (Int32 × (Nat → Int32) × (Nat → Int32)) := cm_let (fX11_in v1 0 1) (fun u3 => (if u3 = 0 then some ((-2), m_image, m_isKept) else fX11_image_L19 (60 * v1) m_book (fun v3_19 m_image_19 => fX11_image_L47 (60 * v1) m_sight (fun v3_47 m_image_47 => if ((60 * v1) + 56) < 0 ∨ 120 ≤ ((60 * v1) + 56).toNatClampNeg then none else if v1 < 0 ∨ 2 ≤ v1.toNatClampNeg then none else some (1, (upd m_image_47 ((60 * v1) + 56).toNatClampNeg m_sights), (upd m_isKept v1.toNatClampNeg (vp_nar .boolean 1)))) 5000 0 m_image_19) 5000 0 m_image))
def rmX11_image : Room := { frames := 1, cells := 0, slots := 0, locals := 22 }
set_option maxRecDepth 100000 in
set_option maxHeartbeats 4000000 in
theorem c_X11_image (l : Launch) (D : va_G) (cI cJ cZ : ClassId) (a a_book a_now a_sight a_pad a_digits a_without a_with a_counts a_fewest a_ways a_more a_chooses a_image a_isKept : Nat) (m_sights : Int32) (m_signs : Int32) (m_sold : Int32) (m_markets : Int32) (m_marketAt : Int32) (m_reason : Int32) (m_acts : Int32) (m_book : (Nat → Int32)) (m_sight : (Nat → Int32)) (m_image : (Nat → Int32)) (m_isKept : (Nat → Int32)) (v1 : Int32) (res : Int32 × (Nat → Int32) × (Nat → Int32)) (hf : fX11_image v1 m_sights m_book m_sight m_image m_isKept = some res) : Ct l yX11_image (cm_ws yX11_image cX11_image 4 (some .int)) rmX11_image D (cm_T cI cJ cZ) [.ref a, .int v1] [(a, .inr (11, [.ref a_book, .ref a_now, .int m_sights, .ref a_sight, .int m_signs, .ref a_pad, .int m_sold, .int m_markets, .int m_marketAt, .int m_reason, .int m_acts, .ref a_digits, .ref a_without, .ref a_with, .ref a_counts, .ref a_fewest, .ref a_ways, .ref a_more, .ref a_chooses, .ref a_image, .ref a_isKept])), cm_kI cI a_book 31 m_book, cm_kI cI a_sight 24 m_sight, cm_kI cI a_image 120 m_image, cm_kI cZ a_isKept 2 m_isKept] (some (.int res.1)) [(a, .inr (11, [.ref a_book, .ref a_now, .int m_sights, .ref a_sight, .int m_signs, .ref a_pad, .int m_sold, .int m_markets, .int m_marketAt, .int m_reason, .int m_acts, .ref a_digits, .ref a_without, .ref a_with, .ref a_counts, .ref a_fewest, .ref a_ways, .ref a_more, .ref a_chooses, .ref a_image, .ref a_isKept])), cm_kI cI a_book 31 m_book, cm_kI cI a_sight 24 m_sight, cm_kI cI a_image 120 res.2.1, cm_kI cZ a_isKept 2 res.2.2] := by
  refine Ct.of (cc := cX11_image) (maxL := 4) (ret := (some .int)) (by decide) (Nat.le_of_ble_eq_true rfl) ?_
  intro p e s m below meth c ls args A Q hav hAe hQ hx hb hr hml hown hlocks hts hK hP hD hA hS hl
  have hKa := hK.1
  have hl : lv_has ls 4 [(0, .ref a), (1, .int v1)] := hl
  unfold fX11_image at hf
  refine lv_iload_n (pc := 0) hx hb dX11_image_0 rfl (lv_at hl 1 rfl) ?_
  refine lv_iconst (pc := 1) (v := 0) hx hb dX11_image_1 (by decide) ?_
  refine lv_iconst (pc := 2) (v := 1) hx hb dX11_image_2 (by decide) ?_
  obtain ⟨u3, hu3, hf⟩ := cm_lt hf
  refine cm_callS (pc := 3) (As := [.int v1, .int 0, .int 1]) (rest := []) (wr := [(a, .inr (11, [.ref a_book, .ref a_now, .int m_sights, .ref a_sight, .int m_signs, .ref a_pad, .int m_sold, .int m_markets, .int m_marketAt, .int m_reason, .int m_acts, .ref a_digits, .ref a_without, .ref a_with, .ref a_counts, .ref a_fewest, .ref a_ways, .ref a_more, .ref a_chooses, .ref a_image, .ref a_isKept])), cm_kI cI a_book 31 m_book, cm_kI cI a_sight 24 m_sight, cm_kI cI a_image 120 m_image, cm_kI cZ a_isKept 2 m_isKept]) (n := 3) hx hb hml hown hts hK hP hD hS hA (c_X11_in l D cI cJ cZ v1 0 1 u3 hu3) tw_783 tw_781 tw_782 tw_56 rfl rfl (by decide +kernel) rfl ⟨Nat.le_of_ble_eq_true rfl, Nat.le_of_ble_eq_true rfl⟩ [] [0, 1, 2, 3, 4] rfl (by decide) rfl (by decide) (by decide) hl.1 rfl (Nat.le_of_ble_eq_true rfl) dX11_image_3 ⟨Nat.zero_le _, Nat.zero_le _⟩ (fun H locs hP hD hS => ?_)
  have hP : va_P D vwCl [(a, .inr (11, [.ref a_book, .ref a_now, .int m_sights, .ref a_sight, .int m_signs, .ref a_pad, .int m_sold, .int m_markets, .int m_marketAt, .int m_reason, .int m_acts, .ref a_digits, .ref a_without, .ref a_with, .ref a_counts, .ref a_fewest, .ref a_ways, .ref a_more, .ref a_chooses, .ref a_image, .ref a_isKept])), cm_kI cI a_book 31 m_book, cm_kI cI a_sight 24 m_sight, cm_kI cI a_image 120 m_image, cm_kI cZ a_isKept 2 m_isKept] H := hP
  have hD : va_D A [(a, .inr (11, [.ref a_book, .ref a_now, .int m_sights, .ref a_sight, .int m_signs, .ref a_pad, .int m_sold, .int m_markets, .int m_marketAt, .int m_reason, .int m_acts, .ref a_digits, .ref a_without, .ref a_with, .ref a_counts, .ref a_fewest, .ref a_ways, .ref a_more, .ref a_chooses, .ref a_image, .ref a_isKept])), cm_kI cI a_book 31 m_book, cm_kI cI a_sight 24 m_sight, cm_kI cI a_image 120 m_image, cm_kI cZ a_isKept 2 m_isKept] := hD
  refine W.eq (g2 := F0 m 6 ls [.int u3]) rfl ?_
  refine lv_if_ne (pc := 6) (tgt := 12) hx hb dX11_image_6 (by decide) (fun c_6 => ?_) (fun c_6 => ?_)
  · have hf := cm_in c_6 hf
    refine lv_bipush (pc := 12) (v := 60) hx hb dX11_image_12 (by decide) ?_
    refine lv_iload_n (pc := 14) hx hb dX11_image_14 rfl (lv_at hl 1 rfl) ?_
    refine lv_imul (pc := 15) hx hb dX11_image_15 ?_
    refine lv_istore_n (pc := 16) (lv' := [(2, .int (60 * v1)), (0, .ref a), (1, .int v1)]) hx hb dX11_image_16 rfl hl (by decide) rfl (fun ls hl => ?_)
    refine lv_iconst (pc := 17) (v := 0) hx hb dX11_image_17 (by decide) ?_
    refine lv_istore_n (pc := 18) (lv' := [(3, .int 0), (2, .int (60 * v1)), (0, .ref a), (1, .int v1)]) hx hb dX11_image_18 rfl hl (by decide) rfl (fun ls hl => ?_)
    have L19 : ∀ (v2_19 : Int32) (kx : Int32 → (Nat → Int32) → Option (Int32 × (Nat → Int32) × (Nat → Int32))), (∀ (v3_19 : Int32) (m_image_19 : (Nat → Int32)) (H : Heap) (locs : List Loc) (ls : Array Slot), va_P D vwCl [(a, .inr (11, [.ref a_book, .ref a_now, .int m_sights, .ref a_sight, .int m_signs, .ref a_pad, .int m_sold, .int m_markets, .int m_marketAt, .int m_reason, .int m_acts, .ref a_digits, .ref a_without, .ref a_with, .ref a_counts, .ref a_fewest, .ref a_ways, .ref a_more, .ref a_chooses, .ref a_image, .ref a_isKept])), cm_kI cI a_book 31 m_book, cm_kI cI a_sight 24 m_sight, cm_kI cI a_image 120 m_image_19, cm_kI cZ a_isKept 2 m_isKept] H → va_D A [(a, .inr (11, [.ref a_book, .ref a_now, .int m_sights, .ref a_sight, .int m_signs, .ref a_pad, .int m_sold, .int m_markets, .int m_marketAt, .int m_reason, .int m_acts, .ref a_digits, .ref a_without, .ref a_with, .ref a_counts, .ref a_fewest, .ref a_ways, .ref a_more, .ref a_chooses, .ref a_image, .ref a_isKept])), cm_kI cI a_book 31 m_book, cm_kI cI a_sight 24 m_sight, cm_kI cI a_image 120 m_image_19, cm_kI cZ a_isKept 2 m_isKept] → va_S A s.heap H locs → lv_has ls 4 [(2, .int v2_19), (0, .ref a), (1, .int v1)] → kx v3_19 m_image_19 = some res → W p l e rmX11_image s m args below meth c H locs 0 0 Q (F0 m 45 ls [])) → ∀ (n : Nat) (v3_19 : Int32) (m_image_19 : (Nat → Int32)) (H : Heap) (locs : List Loc) (ls : Array Slot), va_P D vwCl [(a, .inr (11, [.ref a_book, .ref a_now, .int m_sights, .ref a_sight, .int m_signs, .ref a_pad, .int m_sold, .int m_markets, .int m_marketAt, .int m_reason, .int m_acts, .ref a_digits, .ref a_without, .ref a_with, .ref a_counts, .ref a_fewest, .ref a_ways, .ref a_more, .ref a_chooses, .ref a_image, .ref a_isKept])), cm_kI cI a_book 31 m_book, cm_kI cI a_sight 24 m_sight, cm_kI cI a_image 120 m_image_19, cm_kI cZ a_isKept 2 m_isKept] H → va_D A [(a, .inr (11, [.ref a_book, .ref a_now, .int m_sights, .ref a_sight, .int m_signs, .ref a_pad, .int m_sold, .int m_markets, .int m_marketAt, .int m_reason, .int m_acts, .ref a_digits, .ref a_without, .ref a_with, .ref a_counts, .ref a_fewest, .ref a_ways, .ref a_more, .ref a_chooses, .ref a_image, .ref a_isKept])), cm_kI cI a_book 31 m_book, cm_kI cI a_sight 24 m_sight, cm_kI cI a_image 120 m_image_19, cm_kI cZ a_isKept 2 m_isKept] → va_S A s.heap H locs → lv_has ls 4 [(3, .int v3_19), (2, .int v2_19), (0, .ref a), (1, .int v1)] → fX11_image_L19 v2_19 m_book kx n v3_19 m_image_19 = some res → W p l e rmX11_image s m args below meth c H locs 0 0 Q (F0 m 19 ls []) := by
      intro v2_19 kx hkx n
      induction n with
      | zero => intro v3_19 m_image_19 H locs ls hP hD hS hl hf; cases hf
      | succ n ih =>
        intro v3_19 m_image_19 H locs ls hP hD hS hl hf
        rw [fX11_image_L19] at hf
        refine lv_iload_n (pc := 19) hx hb dX11_image_19 rfl (lv_at hl 0 rfl) ?_
        refine lv_bipush (pc := 20) (v := 31) hx hb dX11_image_20 (by decide) ?_
        refine lv_icmp_ge (pc := 22) (tgt := 45) hx hb dX11_image_22 (by decide) (fun c_22 => ?_) (fun c_22 => ?_)
        · have hf := cm_ip c_22 hf
          exact hkx v3_19 m_image_19 _ _ _ hP hD hS (lv_sub hl [1, 2, 3] rfl) hf
        · have hf := cm_in c_22 hf
          refine lv_aload_n (pc := 25) hx hb dX11_image_25 rfl (lv_at hl 2 rfl) ?_
          refine va_get (pc := 26) (D := D) (ci := 11) (v := .ref a_image) (C := RX11) (T := TX11) (N := 21) hx hb hts in_X11 hown hKa hP 0 rfl rfl 19 (by decide) (hts _ tw_731) (fun _ h9 => h9) rfl dX11_image_26 ?_
          refine lv_iload_n (pc := 29) hx hb dX11_image_29 rfl (lv_at hl 1 rfl) ?_
          refine lv_iload_n (pc := 30) hx hb dX11_image_30 rfl (lv_at hl 0 rfl) ?_
          refine lv_iadd (pc := 31) hx hb dX11_image_31 ?_
          refine lv_aload_n (pc := 32) hx hb dX11_image_32 rfl (lv_at hl 2 rfl) ?_
          refine va_get (pc := 33) (D := D) (ci := 11) (v := .ref a_book) (C := RX11) (T := TX11) (N := 21) hx hb hts in_X11 hown hKa hP 0 rfl rfl 0 (by decide) (hts _ tw_712) (fun _ h9 => h9) rfl dX11_image_33 ?_
          refine lv_iload_n (pc := 36) hx hb dX11_image_36 rfl (lv_at hl 0 rfl) ?_
          obtain ⟨b_37, hf⟩ := cm_ob hf
          refine va_iald (pc := 37) hx hb hKa hP 1 0 rfl rfl b_37 dX11_image_37 ?_
          obtain ⟨b_38, hf⟩ := cm_ob hf
          refine va_iast (pc := 38) hx hb hKa hP hD hS 3 0 rfl rfl b_38 dX11_image_38 (fun H locs hP hD hS => ?_)
          have hP : va_P D vwCl [(a, .inr (11, [.ref a_book, .ref a_now, .int m_sights, .ref a_sight, .int m_signs, .ref a_pad, .int m_sold, .int m_markets, .int m_marketAt, .int m_reason, .int m_acts, .ref a_digits, .ref a_without, .ref a_with, .ref a_counts, .ref a_fewest, .ref a_ways, .ref a_more, .ref a_chooses, .ref a_image, .ref a_isKept])), cm_kI cI a_book 31 m_book, cm_kI cI a_sight 24 m_sight, cm_kI cI a_image 120 (upd m_image_19 (v2_19 + v3_19).toNatClampNeg (m_book v3_19.toNatClampNeg)), cm_kI cZ a_isKept 2 m_isKept] H := hP
          have hD : va_D A [(a, .inr (11, [.ref a_book, .ref a_now, .int m_sights, .ref a_sight, .int m_signs, .ref a_pad, .int m_sold, .int m_markets, .int m_marketAt, .int m_reason, .int m_acts, .ref a_digits, .ref a_without, .ref a_with, .ref a_counts, .ref a_fewest, .ref a_ways, .ref a_more, .ref a_chooses, .ref a_image, .ref a_isKept])), cm_kI cI a_book 31 m_book, cm_kI cI a_sight 24 m_sight, cm_kI cI a_image 120 (upd m_image_19 (v2_19 + v3_19).toNatClampNeg (m_book v3_19.toNatClampNeg)), cm_kI cZ a_isKept 2 m_isKept] := hD
          refine lv_iinc (pc := 39) (v := (v3_19 + 1)) (lv' := [(3, .int (v3_19 + 1)), (2, .int v2_19), (0, .ref a), (1, .int v1)]) hx hb dX11_image_39 hl (k := 0) rfl rfl (by decide) rfl (fun ls hl => ?_)
          refine lv_goto (pc := 42) (tgt := 19) hx hb dX11_image_42 (by decide) ?_
          exact ih (v3_19 + 1) (upd m_image_19 (v2_19 + v3_19).toNatClampNeg (m_book v3_19.toNatClampNeg)) _ _ _ hP hD hS (lv_sub hl [0, 1, 2, 3] rfl) hf
    refine L19 (60 * v1) _ (fun v3_19 m_image_19 H locs ls hP hD hS hl hf => ?_) 5000 0 m_image _ _ _ hP hD hS (lv_sub hl [0, 1, 2, 3] rfl) hf
    refine lv_iconst (pc := 45) (v := 0) hx hb dX11_image_45 (by decide) ?_
    refine lv_istore_n (pc := 46) (lv' := [(3, .int 0), (2, .int (60 * v1)), (0, .ref a), (1, .int v1)]) hx hb dX11_image_46 rfl hl (by decide) rfl (fun ls hl => ?_)
    have L47 : ∀ (v2_47 : Int32) (kx : Int32 → (Nat → Int32) → Option (Int32 × (Nat → Int32) × (Nat → Int32))), (∀ (v3_47 : Int32) (m_image_47 : (Nat → Int32)) (H : Heap) (locs : List Loc) (ls : Array Slot), va_P D vwCl [(a, .inr (11, [.ref a_book, .ref a_now, .int m_sights, .ref a_sight, .int m_signs, .ref a_pad, .int m_sold, .int m_markets, .int m_marketAt, .int m_reason, .int m_acts, .ref a_digits, .ref a_without, .ref a_with, .ref a_counts, .ref a_fewest, .ref a_ways, .ref a_more, .ref a_chooses, .ref a_image, .ref a_isKept])), cm_kI cI a_book 31 m_book, cm_kI cI a_sight 24 m_sight, cm_kI cI a_image 120 m_image_47, cm_kI cZ a_isKept 2 m_isKept] H → va_D A [(a, .inr (11, [.ref a_book, .ref a_now, .int m_sights, .ref a_sight, .int m_signs, .ref a_pad, .int m_sold, .int m_markets, .int m_marketAt, .int m_reason, .int m_acts, .ref a_digits, .ref a_without, .ref a_with, .ref a_counts, .ref a_fewest, .ref a_ways, .ref a_more, .ref a_chooses, .ref a_image, .ref a_isKept])), cm_kI cI a_book 31 m_book, cm_kI cI a_sight 24 m_sight, cm_kI cI a_image 120 m_image_47, cm_kI cZ a_isKept 2 m_isKept] → va_S A s.heap H locs → lv_has ls 4 [(2, .int v2_47), (0, .ref a), (1, .int v1)] → kx v3_47 m_image_47 = some res → W p l e rmX11_image s m args below meth c H locs 0 0 Q (F0 m 76 ls [])) → ∀ (n : Nat) (v3_47 : Int32) (m_image_47 : (Nat → Int32)) (H : Heap) (locs : List Loc) (ls : Array Slot), va_P D vwCl [(a, .inr (11, [.ref a_book, .ref a_now, .int m_sights, .ref a_sight, .int m_signs, .ref a_pad, .int m_sold, .int m_markets, .int m_marketAt, .int m_reason, .int m_acts, .ref a_digits, .ref a_without, .ref a_with, .ref a_counts, .ref a_fewest, .ref a_ways, .ref a_more, .ref a_chooses, .ref a_image, .ref a_isKept])), cm_kI cI a_book 31 m_book, cm_kI cI a_sight 24 m_sight, cm_kI cI a_image 120 m_image_47, cm_kI cZ a_isKept 2 m_isKept] H → va_D A [(a, .inr (11, [.ref a_book, .ref a_now, .int m_sights, .ref a_sight, .int m_signs, .ref a_pad, .int m_sold, .int m_markets, .int m_marketAt, .int m_reason, .int m_acts, .ref a_digits, .ref a_without, .ref a_with, .ref a_counts, .ref a_fewest, .ref a_ways, .ref a_more, .ref a_chooses, .ref a_image, .ref a_isKept])), cm_kI cI a_book 31 m_book, cm_kI cI a_sight 24 m_sight, cm_kI cI a_image 120 m_image_47, cm_kI cZ a_isKept 2 m_isKept] → va_S A s.heap H locs → lv_has ls 4 [(3, .int v3_47), (2, .int v2_47), (0, .ref a), (1, .int v1)] → fX11_image_L47 v2_47 m_sight kx n v3_47 m_image_47 = some res → W p l e rmX11_image s m args below meth c H locs 0 0 Q (F0 m 47 ls []) := by
      intro v2_47 kx hkx n
      induction n with
      | zero => intro v3_47 m_image_47 H locs ls hP hD hS hl hf; cases hf
      | succ n ih =>
        intro v3_47 m_image_47 H locs ls hP hD hS hl hf
        rw [fX11_image_L47] at hf
        refine lv_iload_n (pc := 47) hx hb dX11_image_47 rfl (lv_at hl 0 rfl) ?_
        refine lv_bipush (pc := 48) (v := 24) hx hb dX11_image_48 (by decide) ?_
        refine lv_icmp_ge (pc := 50) (tgt := 76) hx hb dX11_image_50 (by decide) (fun c_50 => ?_) (fun c_50 => ?_)
        · have hf := cm_ip c_50 hf
          exact hkx v3_47 m_image_47 _ _ _ hP hD hS (lv_sub hl [1, 2, 3] rfl) hf
        · have hf := cm_in c_50 hf
          refine lv_aload_n (pc := 53) hx hb dX11_image_53 rfl (lv_at hl 2 rfl) ?_
          refine va_get (pc := 54) (D := D) (ci := 11) (v := .ref a_image) (C := RX11) (T := TX11) (N := 21) hx hb hts in_X11 hown hKa hP 0 rfl rfl 19 (by decide) (hts _ tw_731) (fun _ h9 => h9) rfl dX11_image_54 ?_
          refine lv_iload_n (pc := 57) hx hb dX11_image_57 rfl (lv_at hl 1 rfl) ?_
          refine lv_bipush (pc := 58) (v := 31) hx hb dX11_image_58 (by decide) ?_
          refine lv_iadd (pc := 60) hx hb dX11_image_60 ?_
          refine lv_iload_n (pc := 61) hx hb dX11_image_61 rfl (lv_at hl 0 rfl) ?_
          refine lv_iadd (pc := 62) hx hb dX11_image_62 ?_
          refine lv_aload_n (pc := 63) hx hb dX11_image_63 rfl (lv_at hl 2 rfl) ?_
          refine va_get (pc := 64) (D := D) (ci := 11) (v := .ref a_sight) (C := RX11) (T := TX11) (N := 21) hx hb hts in_X11 hown hKa hP 0 rfl rfl 3 (by decide) (hts _ tw_715) (fun _ h9 => h9) rfl dX11_image_64 ?_
          refine lv_iload_n (pc := 67) hx hb dX11_image_67 rfl (lv_at hl 0 rfl) ?_
          obtain ⟨b_68, hf⟩ := cm_ob hf
          refine va_iald (pc := 68) hx hb hKa hP 2 0 rfl rfl b_68 dX11_image_68 ?_
          obtain ⟨b_69, hf⟩ := cm_ob hf
          refine va_iast (pc := 69) hx hb hKa hP hD hS 3 0 rfl rfl b_69 dX11_image_69 (fun H locs hP hD hS => ?_)
          have hP : va_P D vwCl [(a, .inr (11, [.ref a_book, .ref a_now, .int m_sights, .ref a_sight, .int m_signs, .ref a_pad, .int m_sold, .int m_markets, .int m_marketAt, .int m_reason, .int m_acts, .ref a_digits, .ref a_without, .ref a_with, .ref a_counts, .ref a_fewest, .ref a_ways, .ref a_more, .ref a_chooses, .ref a_image, .ref a_isKept])), cm_kI cI a_book 31 m_book, cm_kI cI a_sight 24 m_sight, cm_kI cI a_image 120 (upd m_image_47 ((v2_47 + 31) + v3_47).toNatClampNeg (m_sight v3_47.toNatClampNeg)), cm_kI cZ a_isKept 2 m_isKept] H := hP
          have hD : va_D A [(a, .inr (11, [.ref a_book, .ref a_now, .int m_sights, .ref a_sight, .int m_signs, .ref a_pad, .int m_sold, .int m_markets, .int m_marketAt, .int m_reason, .int m_acts, .ref a_digits, .ref a_without, .ref a_with, .ref a_counts, .ref a_fewest, .ref a_ways, .ref a_more, .ref a_chooses, .ref a_image, .ref a_isKept])), cm_kI cI a_book 31 m_book, cm_kI cI a_sight 24 m_sight, cm_kI cI a_image 120 (upd m_image_47 ((v2_47 + 31) + v3_47).toNatClampNeg (m_sight v3_47.toNatClampNeg)), cm_kI cZ a_isKept 2 m_isKept] := hD
          refine lv_iinc (pc := 70) (v := (v3_47 + 1)) (lv' := [(3, .int (v3_47 + 1)), (2, .int v2_47), (0, .ref a), (1, .int v1)]) hx hb dX11_image_70 hl (k := 0) rfl rfl (by decide) rfl (fun ls hl => ?_)
          refine lv_goto (pc := 73) (tgt := 47) hx hb dX11_image_73 (by decide) ?_
          exact ih (v3_47 + 1) (upd m_image_47 ((v2_47 + 31) + v3_47).toNatClampNeg (m_sight v3_47.toNatClampNeg)) _ _ _ hP hD hS (lv_sub hl [0, 1, 2, 3] rfl) hf
    refine L47 (60 * v1) _ (fun v3_47 m_image_47 H locs ls hP hD hS hl hf => ?_) 5000 0 m_image_19 _ _ _ hP hD hS (lv_sub hl [0, 1, 2, 3] rfl) hf
    refine lv_aload_n (pc := 76) hx hb dX11_image_76 rfl (lv_at hl 1 rfl) ?_
    refine va_get (pc := 77) (D := D) (ci := 11) (v := .ref a_image) (C := RX11) (T := TX11) (N := 21) hx hb hts in_X11 hown hKa hP 0 rfl rfl 19 (by decide) (hts _ tw_731) (fun _ h9 => h9) rfl dX11_image_77 ?_
    refine lv_iload_n (pc := 80) hx hb dX11_image_80 rfl (lv_at hl 0 rfl) ?_
    refine lv_bipush (pc := 81) (v := 56) hx hb dX11_image_81 (by decide) ?_
    refine lv_iadd (pc := 83) hx hb dX11_image_83 ?_
    refine lv_aload_n (pc := 84) hx hb dX11_image_84 rfl (lv_at hl 1 rfl) ?_
    refine va_get (pc := 85) (D := D) (ci := 11) (v := .int m_sights) (C := RX11) (T := TX11) (N := 21) hx hb hts in_X11 hown hKa hP 0 rfl rfl 2 (by decide) (hts _ tw_714) (fun _ h9 => h9) rfl dX11_image_85 ?_
    obtain ⟨b_88, hf⟩ := cm_ob hf
    refine va_iast (pc := 88) hx hb hKa hP hD hS 3 0 rfl rfl b_88 dX11_image_88 (fun H locs hP hD hS => ?_)
    have hP : va_P D vwCl [(a, .inr (11, [.ref a_book, .ref a_now, .int m_sights, .ref a_sight, .int m_signs, .ref a_pad, .int m_sold, .int m_markets, .int m_marketAt, .int m_reason, .int m_acts, .ref a_digits, .ref a_without, .ref a_with, .ref a_counts, .ref a_fewest, .ref a_ways, .ref a_more, .ref a_chooses, .ref a_image, .ref a_isKept])), cm_kI cI a_book 31 m_book, cm_kI cI a_sight 24 m_sight, cm_kI cI a_image 120 (upd m_image_47 ((60 * v1) + 56).toNatClampNeg m_sights), cm_kI cZ a_isKept 2 m_isKept] H := hP
    have hD : va_D A [(a, .inr (11, [.ref a_book, .ref a_now, .int m_sights, .ref a_sight, .int m_signs, .ref a_pad, .int m_sold, .int m_markets, .int m_marketAt, .int m_reason, .int m_acts, .ref a_digits, .ref a_without, .ref a_with, .ref a_counts, .ref a_fewest, .ref a_ways, .ref a_more, .ref a_chooses, .ref a_image, .ref a_isKept])), cm_kI cI a_book 31 m_book, cm_kI cI a_sight 24 m_sight, cm_kI cI a_image 120 (upd m_image_47 ((60 * v1) + 56).toNatClampNeg m_sights), cm_kI cZ a_isKept 2 m_isKept] := hD
    refine lv_aload_n (pc := 89) hx hb dX11_image_89 rfl (lv_at hl 1 rfl) ?_
    refine va_get (pc := 90) (D := D) (ci := 11) (v := .ref a_isKept) (C := RX11) (T := TX11) (N := 21) hx hb hts in_X11 hown hKa hP 0 rfl rfl 20 (by decide) (hts _ tw_732) (fun _ h9 => h9) rfl dX11_image_90 ?_
    refine lv_iload_n (pc := 93) hx hb dX11_image_93 rfl (lv_at hl 2 rfl) ?_
    refine lv_iconst (pc := 94) (v := 1) hx hb dX11_image_94 (by decide) ?_
    obtain ⟨b_95, hf⟩ := cm_ob hf
    refine va_zast (pc := 95) hx hb hKa hP hD hS 4 2 rfl rfl b_95 dX11_image_95 (fun H locs hP hD hS => ?_)
    have hP : va_P D vwCl [(a, .inr (11, [.ref a_book, .ref a_now, .int m_sights, .ref a_sight, .int m_signs, .ref a_pad, .int m_sold, .int m_markets, .int m_marketAt, .int m_reason, .int m_acts, .ref a_digits, .ref a_without, .ref a_with, .ref a_counts, .ref a_fewest, .ref a_ways, .ref a_more, .ref a_chooses, .ref a_image, .ref a_isKept])), cm_kI cI a_book 31 m_book, cm_kI cI a_sight 24 m_sight, cm_kI cI a_image 120 (upd m_image_47 ((60 * v1) + 56).toNatClampNeg m_sights), cm_kI cZ a_isKept 2 (upd m_isKept v1.toNatClampNeg (vp_nar .boolean 1))] H := hP
    have hD : va_D A [(a, .inr (11, [.ref a_book, .ref a_now, .int m_sights, .ref a_sight, .int m_signs, .ref a_pad, .int m_sold, .int m_markets, .int m_marketAt, .int m_reason, .int m_acts, .ref a_digits, .ref a_without, .ref a_with, .ref a_counts, .ref a_fewest, .ref a_ways, .ref a_more, .ref a_chooses, .ref a_image, .ref a_isKept])), cm_kI cI a_book 31 m_book, cm_kI cI a_sight 24 m_sight, cm_kI cI a_image 120 (upd m_image_47 ((60 * v1) + 56).toNatClampNeg m_sights), cm_kI cZ a_isKept 2 (upd m_isKept v1.toNatClampNeg (vp_nar .boolean 1))] := hD
    refine lv_iconst (pc := 96) (v := 1) hx hb dX11_image_96 (by decide) ?_
    obtain rfl := Option.some.inj hf
    exact cm_iret (pc := 97) hAe hQ hx hb hr hlocks hP hD hS [0, 1, 2, 3, 4] (by decide) rfl dX11_image_97
  · have hf := cm_ip c_6 hf
    refine lv_bipush (pc := 9) (v := (-2)) hx hb dX11_image_9 (by decide) ?_
    obtain rfl := Option.some.inj hf
    exact cm_iret (pc := 11) hAe hQ hx hb hr hlocks hP hD hS [0, 1, 2, 3, 4] (by decide) rfl dX11_image_11
def fX11_restore_L31 (v2_31 : Int32) (m_image : (Nat → Int32)) (kx : Int32 → (Nat → Int32) → Option (Int32 × Int32 × (Nat → Int32) × (Nat → Int32))) : Nat → Int32 → (Nat → Int32) → Option (Int32 × Int32 × (Nat → Int32) × (Nat → Int32))
  | 0, _, _ => none
  | n + 1, v3_31, m_book_31 => (if 31 ≤ v3_31 then kx v3_31 m_book_31 else if (v2_31 + v3_31) < 0 ∨ 120 ≤ (v2_31 + v3_31).toNatClampNeg then none else if v3_31 < 0 ∨ 31 ≤ v3_31.toNatClampNeg then none else fX11_restore_L31 v2_31 m_image kx n (v3_31 + 1) (upd m_book_31 v3_31.toNatClampNeg (m_image (v2_31 + v3_31).toNatClampNeg)))
def fX11_restore_L59 (v2_59 : Int32) (m_image : (Nat → Int32)) (kx : Int32 → (Nat → Int32) → Option (Int32 × Int32 × (Nat → Int32) × (Nat → Int32))) : Nat → Int32 → (Nat → Int32) → Option (Int32 × Int32 × (Nat → Int32) × (Nat → Int32))
  | 0, _, _ => none
  | n + 1, v3_59, m_sight_59 => (if 24 ≤ v3_59 then kx v3_59 m_sight_59 else if ((v2_59 + 31) + v3_59) < 0 ∨ 120 ≤ ((v2_59 + 31) + v3_59).toNatClampNeg then none else if v3_59 < 0 ∨ 24 ≤ v3_59.toNatClampNeg then none else fX11_restore_L59 v2_59 m_image kx n (v3_59 + 1) (upd m_sight_59 v3_59.toNatClampNeg (m_image ((v2_59 + 31) + v3_59).toNatClampNeg)))
def fX11_restore (v1 : Int32) (m_sights : Int32) (m_book : (Nat → Int32)) (m_sight : (Nat → Int32)) (m_image : (Nat → Int32)) (m_isKept : (Nat → Int32)) : Option (Int32 × Int32 × (Nat → Int32) × (Nat → Int32)) := cm_let (fX11_in v1 0 1) (fun u3 => (if u3 = 0 then some ((-2), m_sights, m_book, m_sight) else if v1 < 0 ∨ 2 ≤ v1.toNatClampNeg then none else (if (m_isKept v1.toNatClampNeg) = 0 then some ((-3), m_sights, m_book, m_sight) else fX11_restore_L31 (60 * v1) m_image (fun v3_31 m_book_31 => fX11_restore_L59 (60 * v1) m_image (fun v3_59 m_sight_59 => if ((60 * v1) + 56) < 0 ∨ 120 ≤ ((60 * v1) + 56).toNatClampNeg then none else some (1, (m_image ((60 * v1) + 56).toNatClampNeg), m_book_31, m_sight_59)) 5000 0 m_sight) 5000 0 m_book)))
def rmX11_restore : Room := { frames := 1, cells := 0, slots := 0, locals := 22 }
set_option maxRecDepth 100000 in
set_option maxHeartbeats 4000000 in
theorem c_X11_restore (l : Launch) (D : va_G) (cI cJ cZ : ClassId) (a a_book a_now a_sight a_pad a_digits a_without a_with a_counts a_fewest a_ways a_more a_chooses a_image a_isKept : Nat) (m_sights : Int32) (m_signs : Int32) (m_sold : Int32) (m_markets : Int32) (m_marketAt : Int32) (m_reason : Int32) (m_acts : Int32) (m_book : (Nat → Int32)) (m_sight : (Nat → Int32)) (m_image : (Nat → Int32)) (m_isKept : (Nat → Int32)) (v1 : Int32) (res : Int32 × Int32 × (Nat → Int32) × (Nat → Int32)) (hf : fX11_restore v1 m_sights m_book m_sight m_image m_isKept = some res) : Ct l yX11_restore (cm_ws yX11_restore cX11_restore 4 (some .int)) rmX11_restore D (cm_T cI cJ cZ) [.ref a, .int v1] [(a, .inr (11, [.ref a_book, .ref a_now, .int m_sights, .ref a_sight, .int m_signs, .ref a_pad, .int m_sold, .int m_markets, .int m_marketAt, .int m_reason, .int m_acts, .ref a_digits, .ref a_without, .ref a_with, .ref a_counts, .ref a_fewest, .ref a_ways, .ref a_more, .ref a_chooses, .ref a_image, .ref a_isKept])), cm_kI cI a_book 31 m_book, cm_kI cI a_sight 24 m_sight, cm_kI cI a_image 120 m_image, cm_kI cZ a_isKept 2 m_isKept] (some (.int res.1)) [(a, .inr (11, [.ref a_book, .ref a_now, .int res.2.1, .ref a_sight, .int m_signs, .ref a_pad, .int m_sold, .int m_markets, .int m_marketAt, .int m_reason, .int m_acts, .ref a_digits, .ref a_without, .ref a_with, .ref a_counts, .ref a_fewest, .ref a_ways, .ref a_more, .ref a_chooses, .ref a_image, .ref a_isKept])), cm_kI cI a_book 31 res.2.2.1, cm_kI cI a_sight 24 res.2.2.2, cm_kI cI a_image 120 m_image, cm_kI cZ a_isKept 2 m_isKept] := by
  refine Ct.of (cc := cX11_restore) (maxL := 4) (ret := (some .int)) (by decide) (Nat.le_of_ble_eq_true rfl) ?_
  intro p e s m below meth c ls args A Q hav hAe hQ hx hb hr hml hown hlocks hts hK hP hD hA hS hl
  have hKa := hK.1
  have hl : lv_has ls 4 [(0, .ref a), (1, .int v1)] := hl
  unfold fX11_restore at hf
  refine lv_iload_n (pc := 0) hx hb dX11_restore_0 rfl (lv_at hl 1 rfl) ?_
  refine lv_iconst (pc := 1) (v := 0) hx hb dX11_restore_1 (by decide) ?_
  refine lv_iconst (pc := 2) (v := 1) hx hb dX11_restore_2 (by decide) ?_
  obtain ⟨u3, hu3, hf⟩ := cm_lt hf
  refine cm_callS (pc := 3) (As := [.int v1, .int 0, .int 1]) (rest := []) (wr := [(a, .inr (11, [.ref a_book, .ref a_now, .int m_sights, .ref a_sight, .int m_signs, .ref a_pad, .int m_sold, .int m_markets, .int m_marketAt, .int m_reason, .int m_acts, .ref a_digits, .ref a_without, .ref a_with, .ref a_counts, .ref a_fewest, .ref a_ways, .ref a_more, .ref a_chooses, .ref a_image, .ref a_isKept])), cm_kI cI a_book 31 m_book, cm_kI cI a_sight 24 m_sight, cm_kI cI a_image 120 m_image, cm_kI cZ a_isKept 2 m_isKept]) (n := 3) hx hb hml hown hts hK hP hD hS hA (c_X11_in l D cI cJ cZ v1 0 1 u3 hu3) tw_783 tw_781 tw_782 tw_56 rfl rfl (by decide +kernel) rfl ⟨Nat.le_of_ble_eq_true rfl, Nat.le_of_ble_eq_true rfl⟩ [] [0, 1, 2, 3, 4] rfl (by decide) rfl (by decide) (by decide) hl.1 rfl (Nat.le_of_ble_eq_true rfl) dX11_restore_3 ⟨Nat.zero_le _, Nat.zero_le _⟩ (fun H locs hP hD hS => ?_)
  have hP : va_P D vwCl [(a, .inr (11, [.ref a_book, .ref a_now, .int m_sights, .ref a_sight, .int m_signs, .ref a_pad, .int m_sold, .int m_markets, .int m_marketAt, .int m_reason, .int m_acts, .ref a_digits, .ref a_without, .ref a_with, .ref a_counts, .ref a_fewest, .ref a_ways, .ref a_more, .ref a_chooses, .ref a_image, .ref a_isKept])), cm_kI cI a_book 31 m_book, cm_kI cI a_sight 24 m_sight, cm_kI cI a_image 120 m_image, cm_kI cZ a_isKept 2 m_isKept] H := hP
  have hD : va_D A [(a, .inr (11, [.ref a_book, .ref a_now, .int m_sights, .ref a_sight, .int m_signs, .ref a_pad, .int m_sold, .int m_markets, .int m_marketAt, .int m_reason, .int m_acts, .ref a_digits, .ref a_without, .ref a_with, .ref a_counts, .ref a_fewest, .ref a_ways, .ref a_more, .ref a_chooses, .ref a_image, .ref a_isKept])), cm_kI cI a_book 31 m_book, cm_kI cI a_sight 24 m_sight, cm_kI cI a_image 120 m_image, cm_kI cZ a_isKept 2 m_isKept] := hD
  refine W.eq (g2 := F0 m 6 ls [.int u3]) rfl ?_
  refine lv_if_ne (pc := 6) (tgt := 12) hx hb dX11_restore_6 (by decide) (fun c_6 => ?_) (fun c_6 => ?_)
  · have hf := cm_in c_6 hf
    refine lv_aload_n (pc := 12) hx hb dX11_restore_12 rfl (lv_at hl 0 rfl) ?_
    refine va_get (pc := 13) (D := D) (ci := 11) (v := .ref a_isKept) (C := RX11) (T := TX11) (N := 21) hx hb hts in_X11 hown hKa hP 0 rfl rfl 20 (by decide) (hts _ tw_732) (fun _ h9 => h9) rfl dX11_restore_13 ?_
    refine lv_iload_n (pc := 16) hx hb dX11_restore_16 rfl (lv_at hl 1 rfl) ?_
    obtain ⟨b_17, hf⟩ := cm_ob hf
    refine va_zald (pc := 17) hx hb hKa hP 4 2 rfl rfl b_17 dX11_restore_17 ?_
    refine lv_if_ne (pc := 18) (tgt := 24) hx hb dX11_restore_18 (by decide) (fun c_18 => ?_) (fun c_18 => ?_)
    · have hf := cm_in c_18 hf
      refine lv_bipush (pc := 24) (v := 60) hx hb dX11_restore_24 (by decide) ?_
      refine lv_iload_n (pc := 26) hx hb dX11_restore_26 rfl (lv_at hl 1 rfl) ?_
      refine lv_imul (pc := 27) hx hb dX11_restore_27 ?_
      refine lv_istore_n (pc := 28) (lv' := [(2, .int (60 * v1)), (0, .ref a), (1, .int v1)]) hx hb dX11_restore_28 rfl hl (by decide) rfl (fun ls hl => ?_)
      refine lv_iconst (pc := 29) (v := 0) hx hb dX11_restore_29 (by decide) ?_
      refine lv_istore_n (pc := 30) (lv' := [(3, .int 0), (2, .int (60 * v1)), (0, .ref a), (1, .int v1)]) hx hb dX11_restore_30 rfl hl (by decide) rfl (fun ls hl => ?_)
      have L31 : ∀ (v2_31 : Int32) (kx : Int32 → (Nat → Int32) → Option (Int32 × Int32 × (Nat → Int32) × (Nat → Int32))), (∀ (v3_31 : Int32) (m_book_31 : (Nat → Int32)) (H : Heap) (locs : List Loc) (ls : Array Slot), va_P D vwCl [(a, .inr (11, [.ref a_book, .ref a_now, .int m_sights, .ref a_sight, .int m_signs, .ref a_pad, .int m_sold, .int m_markets, .int m_marketAt, .int m_reason, .int m_acts, .ref a_digits, .ref a_without, .ref a_with, .ref a_counts, .ref a_fewest, .ref a_ways, .ref a_more, .ref a_chooses, .ref a_image, .ref a_isKept])), cm_kI cI a_book 31 m_book_31, cm_kI cI a_sight 24 m_sight, cm_kI cI a_image 120 m_image, cm_kI cZ a_isKept 2 m_isKept] H → va_D A [(a, .inr (11, [.ref a_book, .ref a_now, .int m_sights, .ref a_sight, .int m_signs, .ref a_pad, .int m_sold, .int m_markets, .int m_marketAt, .int m_reason, .int m_acts, .ref a_digits, .ref a_without, .ref a_with, .ref a_counts, .ref a_fewest, .ref a_ways, .ref a_more, .ref a_chooses, .ref a_image, .ref a_isKept])), cm_kI cI a_book 31 m_book_31, cm_kI cI a_sight 24 m_sight, cm_kI cI a_image 120 m_image, cm_kI cZ a_isKept 2 m_isKept] → va_S A s.heap H locs → lv_has ls 4 [(2, .int v2_31), (0, .ref a)] → kx v3_31 m_book_31 = some res → W p l e rmX11_restore s m args below meth c H locs 0 0 Q (F0 m 57 ls [])) → ∀ (n : Nat) (v3_31 : Int32) (m_book_31 : (Nat → Int32)) (H : Heap) (locs : List Loc) (ls : Array Slot), va_P D vwCl [(a, .inr (11, [.ref a_book, .ref a_now, .int m_sights, .ref a_sight, .int m_signs, .ref a_pad, .int m_sold, .int m_markets, .int m_marketAt, .int m_reason, .int m_acts, .ref a_digits, .ref a_without, .ref a_with, .ref a_counts, .ref a_fewest, .ref a_ways, .ref a_more, .ref a_chooses, .ref a_image, .ref a_isKept])), cm_kI cI a_book 31 m_book_31, cm_kI cI a_sight 24 m_sight, cm_kI cI a_image 120 m_image, cm_kI cZ a_isKept 2 m_isKept] H → va_D A [(a, .inr (11, [.ref a_book, .ref a_now, .int m_sights, .ref a_sight, .int m_signs, .ref a_pad, .int m_sold, .int m_markets, .int m_marketAt, .int m_reason, .int m_acts, .ref a_digits, .ref a_without, .ref a_with, .ref a_counts, .ref a_fewest, .ref a_ways, .ref a_more, .ref a_chooses, .ref a_image, .ref a_isKept])), cm_kI cI a_book 31 m_book_31, cm_kI cI a_sight 24 m_sight, cm_kI cI a_image 120 m_image, cm_kI cZ a_isKept 2 m_isKept] → va_S A s.heap H locs → lv_has ls 4 [(3, .int v3_31), (2, .int v2_31), (0, .ref a)] → fX11_restore_L31 v2_31 m_image kx n v3_31 m_book_31 = some res → W p l e rmX11_restore s m args below meth c H locs 0 0 Q (F0 m 31 ls []) := by
        intro v2_31 kx hkx n
        induction n with
        | zero => intro v3_31 m_book_31 H locs ls hP hD hS hl hf; cases hf
        | succ n ih =>
          intro v3_31 m_book_31 H locs ls hP hD hS hl hf
          rw [fX11_restore_L31] at hf
          refine lv_iload_n (pc := 31) hx hb dX11_restore_31 rfl (lv_at hl 0 rfl) ?_
          refine lv_bipush (pc := 32) (v := 31) hx hb dX11_restore_32 (by decide) ?_
          refine lv_icmp_ge (pc := 34) (tgt := 57) hx hb dX11_restore_34 (by decide) (fun c_34 => ?_) (fun c_34 => ?_)
          · have hf := cm_ip c_34 hf
            exact hkx v3_31 m_book_31 _ _ _ hP hD hS (lv_sub hl [1, 2] rfl) hf
          · have hf := cm_in c_34 hf
            refine lv_aload_n (pc := 37) hx hb dX11_restore_37 rfl (lv_at hl 2 rfl) ?_
            refine va_get (pc := 38) (D := D) (ci := 11) (v := .ref a_book) (C := RX11) (T := TX11) (N := 21) hx hb hts in_X11 hown hKa hP 0 rfl rfl 0 (by decide) (hts _ tw_712) (fun _ h9 => h9) rfl dX11_restore_38 ?_
            refine lv_iload_n (pc := 41) hx hb dX11_restore_41 rfl (lv_at hl 0 rfl) ?_
            refine lv_aload_n (pc := 42) hx hb dX11_restore_42 rfl (lv_at hl 2 rfl) ?_
            refine va_get (pc := 43) (D := D) (ci := 11) (v := .ref a_image) (C := RX11) (T := TX11) (N := 21) hx hb hts in_X11 hown hKa hP 0 rfl rfl 19 (by decide) (hts _ tw_731) (fun _ h9 => h9) rfl dX11_restore_43 ?_
            refine lv_iload_n (pc := 46) hx hb dX11_restore_46 rfl (lv_at hl 1 rfl) ?_
            refine lv_iload_n (pc := 47) hx hb dX11_restore_47 rfl (lv_at hl 0 rfl) ?_
            refine lv_iadd (pc := 48) hx hb dX11_restore_48 ?_
            obtain ⟨b_49, hf⟩ := cm_ob hf
            refine va_iald (pc := 49) hx hb hKa hP 3 0 rfl rfl b_49 dX11_restore_49 ?_
            obtain ⟨b_50, hf⟩ := cm_ob hf
            refine va_iast (pc := 50) hx hb hKa hP hD hS 1 0 rfl rfl b_50 dX11_restore_50 (fun H locs hP hD hS => ?_)
            have hP : va_P D vwCl [(a, .inr (11, [.ref a_book, .ref a_now, .int m_sights, .ref a_sight, .int m_signs, .ref a_pad, .int m_sold, .int m_markets, .int m_marketAt, .int m_reason, .int m_acts, .ref a_digits, .ref a_without, .ref a_with, .ref a_counts, .ref a_fewest, .ref a_ways, .ref a_more, .ref a_chooses, .ref a_image, .ref a_isKept])), cm_kI cI a_book 31 (upd m_book_31 v3_31.toNatClampNeg (m_image (v2_31 + v3_31).toNatClampNeg)), cm_kI cI a_sight 24 m_sight, cm_kI cI a_image 120 m_image, cm_kI cZ a_isKept 2 m_isKept] H := hP
            have hD : va_D A [(a, .inr (11, [.ref a_book, .ref a_now, .int m_sights, .ref a_sight, .int m_signs, .ref a_pad, .int m_sold, .int m_markets, .int m_marketAt, .int m_reason, .int m_acts, .ref a_digits, .ref a_without, .ref a_with, .ref a_counts, .ref a_fewest, .ref a_ways, .ref a_more, .ref a_chooses, .ref a_image, .ref a_isKept])), cm_kI cI a_book 31 (upd m_book_31 v3_31.toNatClampNeg (m_image (v2_31 + v3_31).toNatClampNeg)), cm_kI cI a_sight 24 m_sight, cm_kI cI a_image 120 m_image, cm_kI cZ a_isKept 2 m_isKept] := hD
            refine lv_iinc (pc := 51) (v := (v3_31 + 1)) (lv' := [(3, .int (v3_31 + 1)), (2, .int v2_31), (0, .ref a)]) hx hb dX11_restore_51 hl (k := 0) rfl rfl (by decide) rfl (fun ls hl => ?_)
            refine lv_goto (pc := 54) (tgt := 31) hx hb dX11_restore_54 (by decide) ?_
            exact ih (v3_31 + 1) (upd m_book_31 v3_31.toNatClampNeg (m_image (v2_31 + v3_31).toNatClampNeg)) _ _ _ hP hD hS (lv_sub hl [0, 1, 2] rfl) hf
      refine L31 (60 * v1) _ (fun v3_31 m_book_31 H locs ls hP hD hS hl hf => ?_) 5000 0 m_book _ _ _ hP hD hS (lv_sub hl [0, 1, 2] rfl) hf
      refine lv_iconst (pc := 57) (v := 0) hx hb dX11_restore_57 (by decide) ?_
      refine lv_istore_n (pc := 58) (lv' := [(3, .int 0), (2, .int (60 * v1)), (0, .ref a)]) hx hb dX11_restore_58 rfl hl (by decide) rfl (fun ls hl => ?_)
      have L59 : ∀ (v2_59 : Int32) (kx : Int32 → (Nat → Int32) → Option (Int32 × Int32 × (Nat → Int32) × (Nat → Int32))), (∀ (v3_59 : Int32) (m_sight_59 : (Nat → Int32)) (H : Heap) (locs : List Loc) (ls : Array Slot), va_P D vwCl [(a, .inr (11, [.ref a_book, .ref a_now, .int m_sights, .ref a_sight, .int m_signs, .ref a_pad, .int m_sold, .int m_markets, .int m_marketAt, .int m_reason, .int m_acts, .ref a_digits, .ref a_without, .ref a_with, .ref a_counts, .ref a_fewest, .ref a_ways, .ref a_more, .ref a_chooses, .ref a_image, .ref a_isKept])), cm_kI cI a_book 31 m_book_31, cm_kI cI a_sight 24 m_sight_59, cm_kI cI a_image 120 m_image, cm_kI cZ a_isKept 2 m_isKept] H → va_D A [(a, .inr (11, [.ref a_book, .ref a_now, .int m_sights, .ref a_sight, .int m_signs, .ref a_pad, .int m_sold, .int m_markets, .int m_marketAt, .int m_reason, .int m_acts, .ref a_digits, .ref a_without, .ref a_with, .ref a_counts, .ref a_fewest, .ref a_ways, .ref a_more, .ref a_chooses, .ref a_image, .ref a_isKept])), cm_kI cI a_book 31 m_book_31, cm_kI cI a_sight 24 m_sight_59, cm_kI cI a_image 120 m_image, cm_kI cZ a_isKept 2 m_isKept] → va_S A s.heap H locs → lv_has ls 4 [(2, .int v2_59), (0, .ref a)] → kx v3_59 m_sight_59 = some res → W p l e rmX11_restore s m args below meth c H locs 0 0 Q (F0 m 88 ls [])) → ∀ (n : Nat) (v3_59 : Int32) (m_sight_59 : (Nat → Int32)) (H : Heap) (locs : List Loc) (ls : Array Slot), va_P D vwCl [(a, .inr (11, [.ref a_book, .ref a_now, .int m_sights, .ref a_sight, .int m_signs, .ref a_pad, .int m_sold, .int m_markets, .int m_marketAt, .int m_reason, .int m_acts, .ref a_digits, .ref a_without, .ref a_with, .ref a_counts, .ref a_fewest, .ref a_ways, .ref a_more, .ref a_chooses, .ref a_image, .ref a_isKept])), cm_kI cI a_book 31 m_book_31, cm_kI cI a_sight 24 m_sight_59, cm_kI cI a_image 120 m_image, cm_kI cZ a_isKept 2 m_isKept] H → va_D A [(a, .inr (11, [.ref a_book, .ref a_now, .int m_sights, .ref a_sight, .int m_signs, .ref a_pad, .int m_sold, .int m_markets, .int m_marketAt, .int m_reason, .int m_acts, .ref a_digits, .ref a_without, .ref a_with, .ref a_counts, .ref a_fewest, .ref a_ways, .ref a_more, .ref a_chooses, .ref a_image, .ref a_isKept])), cm_kI cI a_book 31 m_book_31, cm_kI cI a_sight 24 m_sight_59, cm_kI cI a_image 120 m_image, cm_kI cZ a_isKept 2 m_isKept] → va_S A s.heap H locs → lv_has ls 4 [(3, .int v3_59), (2, .int v2_59), (0, .ref a)] → fX11_restore_L59 v2_59 m_image kx n v3_59 m_sight_59 = some res → W p l e rmX11_restore s m args below meth c H locs 0 0 Q (F0 m 59 ls []) := by
        intro v2_59 kx hkx n
        induction n with
        | zero => intro v3_59 m_sight_59 H locs ls hP hD hS hl hf; cases hf
        | succ n ih =>
          intro v3_59 m_sight_59 H locs ls hP hD hS hl hf
          rw [fX11_restore_L59] at hf
          refine lv_iload_n (pc := 59) hx hb dX11_restore_59 rfl (lv_at hl 0 rfl) ?_
          refine lv_bipush (pc := 60) (v := 24) hx hb dX11_restore_60 (by decide) ?_
          refine lv_icmp_ge (pc := 62) (tgt := 88) hx hb dX11_restore_62 (by decide) (fun c_62 => ?_) (fun c_62 => ?_)
          · have hf := cm_ip c_62 hf
            exact hkx v3_59 m_sight_59 _ _ _ hP hD hS (lv_sub hl [1, 2] rfl) hf
          · have hf := cm_in c_62 hf
            refine lv_aload_n (pc := 65) hx hb dX11_restore_65 rfl (lv_at hl 2 rfl) ?_
            refine va_get (pc := 66) (D := D) (ci := 11) (v := .ref a_sight) (C := RX11) (T := TX11) (N := 21) hx hb hts in_X11 hown hKa hP 0 rfl rfl 3 (by decide) (hts _ tw_715) (fun _ h9 => h9) rfl dX11_restore_66 ?_
            refine lv_iload_n (pc := 69) hx hb dX11_restore_69 rfl (lv_at hl 0 rfl) ?_
            refine lv_aload_n (pc := 70) hx hb dX11_restore_70 rfl (lv_at hl 2 rfl) ?_
            refine va_get (pc := 71) (D := D) (ci := 11) (v := .ref a_image) (C := RX11) (T := TX11) (N := 21) hx hb hts in_X11 hown hKa hP 0 rfl rfl 19 (by decide) (hts _ tw_731) (fun _ h9 => h9) rfl dX11_restore_71 ?_
            refine lv_iload_n (pc := 74) hx hb dX11_restore_74 rfl (lv_at hl 1 rfl) ?_
            refine lv_bipush (pc := 75) (v := 31) hx hb dX11_restore_75 (by decide) ?_
            refine lv_iadd (pc := 77) hx hb dX11_restore_77 ?_
            refine lv_iload_n (pc := 78) hx hb dX11_restore_78 rfl (lv_at hl 0 rfl) ?_
            refine lv_iadd (pc := 79) hx hb dX11_restore_79 ?_
            obtain ⟨b_80, hf⟩ := cm_ob hf
            refine va_iald (pc := 80) hx hb hKa hP 3 0 rfl rfl b_80 dX11_restore_80 ?_
            obtain ⟨b_81, hf⟩ := cm_ob hf
            refine va_iast (pc := 81) hx hb hKa hP hD hS 2 0 rfl rfl b_81 dX11_restore_81 (fun H locs hP hD hS => ?_)
            have hP : va_P D vwCl [(a, .inr (11, [.ref a_book, .ref a_now, .int m_sights, .ref a_sight, .int m_signs, .ref a_pad, .int m_sold, .int m_markets, .int m_marketAt, .int m_reason, .int m_acts, .ref a_digits, .ref a_without, .ref a_with, .ref a_counts, .ref a_fewest, .ref a_ways, .ref a_more, .ref a_chooses, .ref a_image, .ref a_isKept])), cm_kI cI a_book 31 m_book_31, cm_kI cI a_sight 24 (upd m_sight_59 v3_59.toNatClampNeg (m_image ((v2_59 + 31) + v3_59).toNatClampNeg)), cm_kI cI a_image 120 m_image, cm_kI cZ a_isKept 2 m_isKept] H := hP
            have hD : va_D A [(a, .inr (11, [.ref a_book, .ref a_now, .int m_sights, .ref a_sight, .int m_signs, .ref a_pad, .int m_sold, .int m_markets, .int m_marketAt, .int m_reason, .int m_acts, .ref a_digits, .ref a_without, .ref a_with, .ref a_counts, .ref a_fewest, .ref a_ways, .ref a_more, .ref a_chooses, .ref a_image, .ref a_isKept])), cm_kI cI a_book 31 m_book_31, cm_kI cI a_sight 24 (upd m_sight_59 v3_59.toNatClampNeg (m_image ((v2_59 + 31) + v3_59).toNatClampNeg)), cm_kI cI a_image 120 m_image, cm_kI cZ a_isKept 2 m_isKept] := hD
            refine lv_iinc (pc := 82) (v := (v3_59 + 1)) (lv' := [(3, .int (v3_59 + 1)), (2, .int v2_59), (0, .ref a)]) hx hb dX11_restore_82 hl (k := 0) rfl rfl (by decide) rfl (fun ls hl => ?_)
            refine lv_goto (pc := 85) (tgt := 59) hx hb dX11_restore_85 (by decide) ?_
            exact ih (v3_59 + 1) (upd m_sight_59 v3_59.toNatClampNeg (m_image ((v2_59 + 31) + v3_59).toNatClampNeg)) _ _ _ hP hD hS (lv_sub hl [0, 1, 2] rfl) hf
      refine L59 (60 * v1) _ (fun v3_59 m_sight_59 H locs ls hP hD hS hl hf => ?_) 5000 0 m_sight _ _ _ hP hD hS (lv_sub hl [0, 1, 2] rfl) hf
      refine lv_aload_n (pc := 88) hx hb dX11_restore_88 rfl (lv_at hl 1 rfl) ?_
      refine lv_aload_n (pc := 89) hx hb dX11_restore_89 rfl (lv_at hl 1 rfl) ?_
      refine va_get (pc := 90) (D := D) (ci := 11) (v := .ref a_image) (C := RX11) (T := TX11) (N := 21) hx hb hts in_X11 hown hKa hP 0 rfl rfl 19 (by decide) (hts _ tw_731) (fun _ h9 => h9) rfl dX11_restore_90 ?_
      refine lv_iload_n (pc := 93) hx hb dX11_restore_93 rfl (lv_at hl 0 rfl) ?_
      refine lv_bipush (pc := 94) (v := 56) hx hb dX11_restore_94 (by decide) ?_
      refine lv_iadd (pc := 96) hx hb dX11_restore_96 ?_
      obtain ⟨b_97, hf⟩ := cm_ob hf
      refine va_iald (pc := 97) hx hb hKa hP 3 0 rfl rfl b_97 dX11_restore_97 ?_
      refine va_put (pc := 98) (D := D) (ci := 11) (v := .int (m_image ((60 * v1) + 56).toNatClampNeg)) (ty := .int) (C := RX11) (T := TX11) (N := 21) hx hb hts in_X11 tyX11 tyX11_ok nmX11 hown hKa hP hD hS 0 rfl rfl 2 (by decide) (hts _ tw_714) (fun _ h9 => h9) rfl (by decide +kernel) rfl rfl (Nat.le_of_ble_eq_true rfl) dX11_restore_98 (fun H locs hP hD hS => ?_)
      have hP : va_P D vwCl [(a, .inr (11, [.ref a_book, .ref a_now, .int (m_image ((60 * v1) + 56).toNatClampNeg), .ref a_sight, .int m_signs, .ref a_pad, .int m_sold, .int m_markets, .int m_marketAt, .int m_reason, .int m_acts, .ref a_digits, .ref a_without, .ref a_with, .ref a_counts, .ref a_fewest, .ref a_ways, .ref a_more, .ref a_chooses, .ref a_image, .ref a_isKept])), cm_kI cI a_book 31 m_book_31, cm_kI cI a_sight 24 m_sight_59, cm_kI cI a_image 120 m_image, cm_kI cZ a_isKept 2 m_isKept] H := hP
      have hD : va_D A [(a, .inr (11, [.ref a_book, .ref a_now, .int (m_image ((60 * v1) + 56).toNatClampNeg), .ref a_sight, .int m_signs, .ref a_pad, .int m_sold, .int m_markets, .int m_marketAt, .int m_reason, .int m_acts, .ref a_digits, .ref a_without, .ref a_with, .ref a_counts, .ref a_fewest, .ref a_ways, .ref a_more, .ref a_chooses, .ref a_image, .ref a_isKept])), cm_kI cI a_book 31 m_book_31, cm_kI cI a_sight 24 m_sight_59, cm_kI cI a_image 120 m_image, cm_kI cZ a_isKept 2 m_isKept] := hD
      refine lv_iconst (pc := 101) (v := 1) hx hb dX11_restore_101 (by decide) ?_
      obtain rfl := Option.some.inj hf
      exact cm_iret (pc := 102) hAe hQ hx hb hr hlocks hP hD hS [0, 1, 2, 3, 4] (by decide) rfl dX11_restore_102
    · have hf := cm_ip c_18 hf
      refine lv_bipush (pc := 21) (v := (-3)) hx hb dX11_restore_21 (by decide) ?_
      obtain rfl := Option.some.inj hf
      exact cm_iret (pc := 23) hAe hQ hx hb hr hlocks hP hD hS [0, 1, 2, 3, 4] (by decide) rfl dX11_restore_23
  · have hf := cm_ip c_6 hf
    refine lv_bipush (pc := 9) (v := (-2)) hx hb dX11_restore_9 (by decide) ?_
    obtain rfl := Option.some.inj hf
    exact cm_iret (pc := 11) hAe hQ hx hb hr hlocks hP hD hS [0, 1, 2, 3, 4] (by decide) rfl dX11_restore_11
def fX11_told (v1 : Int32) (m_sights : Int32) (m_signs : Int32) (m_sold : Int32) (m_markets : Int32) (m_marketAt : Int32) (m_book : (Nat → Int32)) (m_now : (Nat → Int32)) : Option (Int32 × Int32 × Int32 × Int32 × (Nat → Int32)) := (if v1 < 10 then Option.bind (fX11_asNow m_sold m_markets m_marketAt m_book m_now) (fun u67 => (if v1 = 0 then some (m_signs, u67.1, u67.2.1, u67.2.2.1, u67.2.2.2) else (if v1 = 1 then some ((m_book 28), u67.1, u67.2.1, u67.2.2.1, u67.2.2.2) else (if v1 = 2 then Option.bind (fX11_theDay u67.2.2.2) (fun u118 => some (u118, u67.1, u67.2.1, u67.2.2.1, u67.2.2.2)) else (if v1 = 3 then some ((m_book 30), u67.1, u67.2.1, u67.2.2.1, u67.2.2.2) else (if v1 = 4 then some ((m_book 29), u67.1, u67.2.1, u67.2.2.1, u67.2.2.2) else (if v1 = 5 then some (m_sights, u67.1, u67.2.1, u67.2.2.1, u67.2.2.2) else some ((-2), u67.1, u67.2.1, u67.2.2.1, u67.2.2.2)))))))) else (if v1 < 40 then (if (irm v1 10) ≤ 7 then if ((8 * ((v1 / 10) - 1)) + (irm v1 10)) < 0 ∨ 31 ≤ ((8 * ((v1 / 10) - 1)) + (irm v1 10)).toNatClampNeg then none else some ((m_book ((8 * ((v1 / 10) - 1)) + (irm v1 10)).toNatClampNeg), m_sold, m_markets, m_marketAt, m_now) else some ((-2), m_sold, m_markets, m_marketAt, m_now)) else (if 44 ≤ v1 then some ((-2), m_sold, m_markets, m_marketAt, m_now) else if (24 + (irm v1 10)) < 0 ∨ 31 ≤ (24 + (irm v1 10)).toNatClampNeg then none else some ((m_book (24 + (irm v1 10)).toNatClampNeg), m_sold, m_markets, m_marketAt, m_now))))
def rmX11_told : Room := { frames := 2, cells := 0, slots := 0, locals := 45 }
set_option maxRecDepth 100000 in
set_option maxHeartbeats 4000000 in
theorem c_X11_told (l : Launch) (D : va_G) (cI cJ cZ : ClassId) (a a_book a_now a_sight a_pad a_digits a_without a_with a_counts a_fewest a_ways a_more a_chooses a_image a_isKept : Nat) (m_sights : Int32) (m_signs : Int32) (m_sold : Int32) (m_markets : Int32) (m_marketAt : Int32) (m_reason : Int32) (m_acts : Int32) (m_book : (Nat → Int32)) (m_now : (Nat → Int32)) (v1 : Int32) (res : Int32 × Int32 × Int32 × Int32 × (Nat → Int32)) (hf : fX11_told v1 m_sights m_signs m_sold m_markets m_marketAt m_book m_now = some res) : Ct l yX11_told (cm_ws yX11_told cX11_told 3 (some .int)) rmX11_told D (cm_T cI cJ cZ) [.ref a, .int v1] [(a, .inr (11, [.ref a_book, .ref a_now, .int m_sights, .ref a_sight, .int m_signs, .ref a_pad, .int m_sold, .int m_markets, .int m_marketAt, .int m_reason, .int m_acts, .ref a_digits, .ref a_without, .ref a_with, .ref a_counts, .ref a_fewest, .ref a_ways, .ref a_more, .ref a_chooses, .ref a_image, .ref a_isKept])), cm_kI cI a_book 31 m_book, cm_kI cI a_now 31 m_now] (some (.int res.1)) [(a, .inr (11, [.ref a_book, .ref a_now, .int m_sights, .ref a_sight, .int m_signs, .ref a_pad, .int res.2.1, .int res.2.2.1, .int res.2.2.2.1, .int m_reason, .int m_acts, .ref a_digits, .ref a_without, .ref a_with, .ref a_counts, .ref a_fewest, .ref a_ways, .ref a_more, .ref a_chooses, .ref a_image, .ref a_isKept])), cm_kI cI a_book 31 m_book, cm_kI cI a_now 31 res.2.2.2.2] := by
  refine Ct.of (cc := cX11_told) (maxL := 3) (ret := (some .int)) (by decide) (Nat.le_of_ble_eq_true rfl) ?_
  intro p e s m below meth c ls args A Q hav hAe hQ hx hb hr hml hown hlocks hts hK hP hD hA hS hl
  have hKa := hK.1
  have hl : lv_has ls 3 [(0, .ref a), (1, .int v1)] := hl
  unfold fX11_told at hf
  refine lv_iload_n (pc := 0) hx hb dX11_told_0 rfl (lv_at hl 1 rfl) ?_
  refine lv_bipush (pc := 1) (v := 10) hx hb dX11_told_1 (by decide) ?_
  refine lv_icmp_lt (pc := 3) (tgt := 66) hx hb dX11_told_3 (by decide) (fun c_3 => ?_) (fun c_3 => ?_)
  · have hf := cm_ip c_3 hf
    refine lv_aload_n (pc := 66) hx hb dX11_told_66 rfl (lv_at hl 0 rfl) ?_
    obtain ⟨u67, hu67, hf⟩ := cm_bd hf
    refine cm_callV (pc := 67) (As := []) (rest := []) (wr := []) (ci := 11) (q0 := 0) (n := 0) hx hb hml hown hts hK hP hD hS hA (c_X11_asNow l D cI cJ cZ a a_book a_now a_sight a_pad a_digits a_without a_with a_counts a_fewest a_ways a_more a_chooses a_image a_isKept m_sights m_signs m_sold m_markets m_marketAt m_reason m_acts m_book m_now u67 hu67) tw_822 tw_819 tw_821 tw_30 tw_56 rfl rfl (by decide +kernel) rfl ⟨Nat.le_of_ble_eq_true rfl, Nat.le_of_ble_eq_true rfl⟩ [0, 1, 2] [] rfl (by decide) rfl (by decide) (by decide) rfl rfl rfl hl.1 rfl (Nat.le_of_ble_eq_true rfl) dX11_told_67 ⟨Nat.zero_le _, Nat.zero_le _⟩ (fun H locs hP hD hS => ?_)
    have hP : va_P D vwCl [(a, .inr (11, [.ref a_book, .ref a_now, .int m_sights, .ref a_sight, .int m_signs, .ref a_pad, .int u67.1, .int u67.2.1, .int u67.2.2.1, .int m_reason, .int m_acts, .ref a_digits, .ref a_without, .ref a_with, .ref a_counts, .ref a_fewest, .ref a_ways, .ref a_more, .ref a_chooses, .ref a_image, .ref a_isKept])), cm_kI cI a_book 31 m_book, cm_kI cI a_now 31 u67.2.2.2] H := hP
    have hD : va_D A [(a, .inr (11, [.ref a_book, .ref a_now, .int m_sights, .ref a_sight, .int m_signs, .ref a_pad, .int u67.1, .int u67.2.1, .int u67.2.2.1, .int m_reason, .int m_acts, .ref a_digits, .ref a_without, .ref a_with, .ref a_counts, .ref a_fewest, .ref a_ways, .ref a_more, .ref a_chooses, .ref a_image, .ref a_isKept])), cm_kI cI a_book 31 m_book, cm_kI cI a_now 31 u67.2.2.2] := hD
    refine W.eq (g2 := F0 m 70 ls []) rfl ?_
    refine lv_iload_n (pc := 70) hx hb dX11_told_70 rfl (lv_at hl 1 rfl) ?_
    refine cm_em (v1 = 0) (fun c_71_0 => ?_) (fun c_71_0 => ?_)
    · have hf := cm_ip c_71_0 hf
      refine lv_tableIn (pc := 71) (off := 33) (tgt := 104) hx hb dX11_told_71 (by rw [c_71_0]; decide) (by rw [c_71_0]; decide) (by rw [c_71_0]; rfl) (by decide) ?_
      refine lv_aload_n (pc := 104) hx hb dX11_told_104 rfl (lv_at hl 0 rfl) ?_
      refine va_get (pc := 105) (D := D) (ci := 11) (v := .int m_signs) (C := RX11) (T := TX11) (N := 21) hx hb hts in_X11 hown hKa hP 0 rfl rfl 4 (by decide) (hts _ tw_716) (fun _ h9 => h9) rfl dX11_told_105 ?_
      obtain rfl := Option.some.inj hf
      exact cm_iret (pc := 108) hAe hQ hx hb hr hlocks hP hD hS [0, 1, 2] (by decide) rfl dX11_told_108
    · have hf := cm_in c_71_0 hf
      refine cm_em (v1 = 1) (fun c_71_1 => ?_) (fun c_71_1 => ?_)
      · have hf := cm_ip c_71_1 hf
        refine lv_tableIn (pc := 71) (off := 38) (tgt := 109) hx hb dX11_told_71 (by rw [c_71_1]; decide) (by rw [c_71_1]; decide) (by rw [c_71_1]; rfl) (by decide) ?_
        refine lv_aload_n (pc := 109) hx hb dX11_told_109 rfl (lv_at hl 0 rfl) ?_
        refine va_get (pc := 110) (D := D) (ci := 11) (v := .ref a_book) (C := RX11) (T := TX11) (N := 21) hx hb hts in_X11 hown hKa hP 0 rfl rfl 0 (by decide) (hts _ tw_712) (fun _ h9 => h9) rfl dX11_told_110 ?_
        refine lv_bipush (pc := 113) (v := 28) hx hb dX11_told_113 (by decide) ?_
        refine cm_iald (pc := 115) hx hb hKa hP 1 0 rfl rfl 28 rfl (by decide) dX11_told_115 ?_
        obtain rfl := Option.some.inj hf
        exact cm_iret (pc := 116) hAe hQ hx hb hr hlocks hP hD hS [0, 1, 2] (by decide) rfl dX11_told_116
      · have hf := cm_in c_71_1 hf
        refine cm_em (v1 = 2) (fun c_71_2 => ?_) (fun c_71_2 => ?_)
        · have hf := cm_ip c_71_2 hf
          refine lv_tableIn (pc := 71) (off := 46) (tgt := 117) hx hb dX11_told_71 (by rw [c_71_2]; decide) (by rw [c_71_2]; decide) (by rw [c_71_2]; rfl) (by decide) ?_
          refine lv_aload_n (pc := 117) hx hb dX11_told_117 rfl (lv_at hl 0 rfl) ?_
          obtain ⟨u118, hu118, hf⟩ := cm_bd hf
          refine cm_callV (pc := 118) (As := []) (rest := []) (wr := [cm_kI cI a_book 31 m_book]) (ci := 11) (q0 := 0) (n := 0) hx hb hml hown hts hK hP hD hS hA (c_X11_theDay l D cI cJ cZ a a_book a_now a_sight a_pad a_digits a_without a_with a_counts a_fewest a_ways a_more a_chooses a_image a_isKept m_sights m_signs u67.1 u67.2.1 u67.2.2.1 m_reason m_acts u67.2.2.2 u118 hu118) tw_830 tw_827 tw_829 tw_32 tw_56 rfl rfl (by decide +kernel) rfl ⟨Nat.le_of_ble_eq_true rfl, Nat.le_of_ble_eq_true rfl⟩ [0, 2] [1] rfl (by decide) rfl (by decide) (by decide) rfl rfl rfl hl.1 rfl (Nat.le_of_ble_eq_true rfl) dX11_told_118 ⟨Nat.zero_le _, Nat.zero_le _⟩ (fun H locs hP hD hS => ?_)
          have hP : va_P D vwCl [cm_kI cI a_book 31 m_book, (a, .inr (11, [.ref a_book, .ref a_now, .int m_sights, .ref a_sight, .int m_signs, .ref a_pad, .int u67.1, .int u67.2.1, .int u67.2.2.1, .int m_reason, .int m_acts, .ref a_digits, .ref a_without, .ref a_with, .ref a_counts, .ref a_fewest, .ref a_ways, .ref a_more, .ref a_chooses, .ref a_image, .ref a_isKept])), cm_kI cI a_now 31 u67.2.2.2] H := hP
          have hD : va_D A [cm_kI cI a_book 31 m_book, (a, .inr (11, [.ref a_book, .ref a_now, .int m_sights, .ref a_sight, .int m_signs, .ref a_pad, .int u67.1, .int u67.2.1, .int u67.2.2.1, .int m_reason, .int m_acts, .ref a_digits, .ref a_without, .ref a_with, .ref a_counts, .ref a_fewest, .ref a_ways, .ref a_more, .ref a_chooses, .ref a_image, .ref a_isKept])), cm_kI cI a_now 31 u67.2.2.2] := hD
          refine W.eq (g2 := F0 m 121 ls [.int u118]) rfl ?_
          obtain rfl := Option.some.inj hf
          exact cm_iret (pc := 121) hAe hQ hx hb hr hlocks hP hD hS [1, 0, 2] (by decide) rfl dX11_told_121
        · have hf := cm_in c_71_2 hf
          refine cm_em (v1 = 3) (fun c_71_3 => ?_) (fun c_71_3 => ?_)
          · have hf := cm_ip c_71_3 hf
            refine lv_tableIn (pc := 71) (off := 51) (tgt := 122) hx hb dX11_told_71 (by rw [c_71_3]; decide) (by rw [c_71_3]; decide) (by rw [c_71_3]; rfl) (by decide) ?_
            refine lv_aload_n (pc := 122) hx hb dX11_told_122 rfl (lv_at hl 0 rfl) ?_
            refine va_get (pc := 123) (D := D) (ci := 11) (v := .ref a_book) (C := RX11) (T := TX11) (N := 21) hx hb hts in_X11 hown hKa hP 0 rfl rfl 0 (by decide) (hts _ tw_712) (fun _ h9 => h9) rfl dX11_told_123 ?_
            refine lv_bipush (pc := 126) (v := 30) hx hb dX11_told_126 (by decide) ?_
            refine cm_iald (pc := 128) hx hb hKa hP 1 0 rfl rfl 30 rfl (by decide) dX11_told_128 ?_
            obtain rfl := Option.some.inj hf
            exact cm_iret (pc := 129) hAe hQ hx hb hr hlocks hP hD hS [0, 1, 2] (by decide) rfl dX11_told_129
          · have hf := cm_in c_71_3 hf
            refine cm_em (v1 = 4) (fun c_71_4 => ?_) (fun c_71_4 => ?_)
            · have hf := cm_ip c_71_4 hf
              refine lv_tableIn (pc := 71) (off := 59) (tgt := 130) hx hb dX11_told_71 (by rw [c_71_4]; decide) (by rw [c_71_4]; decide) (by rw [c_71_4]; rfl) (by decide) ?_
              refine lv_aload_n (pc := 130) hx hb dX11_told_130 rfl (lv_at hl 0 rfl) ?_
              refine va_get (pc := 131) (D := D) (ci := 11) (v := .ref a_book) (C := RX11) (T := TX11) (N := 21) hx hb hts in_X11 hown hKa hP 0 rfl rfl 0 (by decide) (hts _ tw_712) (fun _ h9 => h9) rfl dX11_told_131 ?_
              refine lv_bipush (pc := 134) (v := 29) hx hb dX11_told_134 (by decide) ?_
              refine cm_iald (pc := 136) hx hb hKa hP 1 0 rfl rfl 29 rfl (by decide) dX11_told_136 ?_
              obtain rfl := Option.some.inj hf
              exact cm_iret (pc := 137) hAe hQ hx hb hr hlocks hP hD hS [0, 1, 2] (by decide) rfl dX11_told_137
            · have hf := cm_in c_71_4 hf
              refine lv_tableOut (pc := 71) (tgt := 138) hx hb dX11_told_71 (by have h0 := cm_nt (z := 0) (by decide) c_71_0; have h1 := cm_nt (z := 1) (by decide) c_71_1; have h2 := cm_nt (z := 2) (by decide) c_71_2; have h3 := cm_nt (z := 3) (by decide) c_71_3; have h4 := cm_nt (z := 4) (by decide) c_71_4; omega) (by decide) ?_
              refine lv_iload_n (pc := 138) hx hb dX11_told_138 rfl (lv_at hl 1 rfl) ?_
              refine lv_iconst (pc := 139) (v := 5) hx hb dX11_told_139 (by decide) ?_
              refine lv_icmp_ne (pc := 140) (tgt := 150) hx hb dX11_told_140 (by decide) (fun c_140 => ?_) (fun c_140 => ?_)
              · have hf := cm_in c_140 hf
                refine lv_bipush (pc := 150) (v := (-2)) hx hb dX11_told_150 (by decide) ?_
                obtain rfl := Option.some.inj hf
                exact cm_iret (pc := 152) hAe hQ hx hb hr hlocks hP hD hS [0, 1, 2] (by decide) rfl dX11_told_152
              · have hf := cm_ip c_140 hf
                refine lv_aload_n (pc := 143) hx hb dX11_told_143 rfl (lv_at hl 0 rfl) ?_
                refine va_get (pc := 144) (D := D) (ci := 11) (v := .int m_sights) (C := RX11) (T := TX11) (N := 21) hx hb hts in_X11 hown hKa hP 0 rfl rfl 2 (by decide) (hts _ tw_714) (fun _ h9 => h9) rfl dX11_told_144 ?_
                refine lv_goto (pc := 147) (tgt := 152) hx hb dX11_told_147 (by decide) ?_
                obtain rfl := Option.some.inj hf
                exact cm_iret (pc := 152) hAe hQ hx hb hr hlocks hP hD hS [0, 1, 2] (by decide) rfl dX11_told_152
  · have hf := cm_in c_3 hf
    refine lv_iload_n (pc := 6) hx hb dX11_told_6 rfl (lv_at hl 1 rfl) ?_
    refine lv_bipush (pc := 7) (v := 10) hx hb dX11_told_7 (by decide) ?_
    refine cm_irem (pc := 9) hx hb dX11_told_9 (by decide) ?_
    refine lv_istore_n (pc := 10) (lv' := [(2, .int (irm v1 10)), (0, .ref a), (1, .int v1)]) hx hb dX11_told_10 rfl hl (by decide) rfl (fun ls hl => ?_)
    refine lv_iload_n (pc := 11) hx hb dX11_told_11 rfl (lv_at hl 2 rfl) ?_
    refine lv_bipush (pc := 12) (v := 40) hx hb dX11_told_12 (by decide) ?_
    refine lv_icmp_lt (pc := 14) (tgt := 38) hx hb dX11_told_14 (by decide) (fun c_14 => ?_) (fun c_14 => ?_)
    · have hf := cm_ip c_14 hf
      refine lv_iload_n (pc := 38) hx hb dX11_told_38 rfl (lv_at hl 0 rfl) ?_
      refine lv_bipush (pc := 39) (v := 7) hx hb dX11_told_39 (by decide) ?_
      refine lv_icmp_le (pc := 41) (tgt := 49) hx hb dX11_told_41 (by decide) (fun c_41 => ?_) (fun c_41 => ?_)
      · have hf := cm_ip c_41 hf
        refine lv_aload_n (pc := 49) hx hb dX11_told_49 rfl (lv_at hl 1 rfl) ?_
        refine va_get (pc := 50) (D := D) (ci := 11) (v := .ref a_book) (C := RX11) (T := TX11) (N := 21) hx hb hts in_X11 hown hKa hP 0 rfl rfl 0 (by decide) (hts _ tw_712) (fun _ h9 => h9) rfl dX11_told_50 ?_
        refine lv_bipush (pc := 53) (v := 8) hx hb dX11_told_53 (by decide) ?_
        refine lv_iload_n (pc := 55) hx hb dX11_told_55 rfl (lv_at hl 2 rfl) ?_
        refine lv_bipush (pc := 56) (v := 10) hx hb dX11_told_56 (by decide) ?_
        refine lv_idiv (pc := 58) hx hb dX11_told_58 (by decide) ?_
        refine lv_iconst (pc := 59) (v := 1) hx hb dX11_told_59 (by decide) ?_
        refine lv_isub (pc := 60) hx hb dX11_told_60 ?_
        refine lv_imul (pc := 61) hx hb dX11_told_61 ?_
        refine lv_iload_n (pc := 62) hx hb dX11_told_62 rfl (lv_at hl 0 rfl) ?_
        refine lv_iadd (pc := 63) hx hb dX11_told_63 ?_
        obtain ⟨b_64, hf⟩ := cm_ob hf
        refine va_iald (pc := 64) hx hb hKa hP 1 0 rfl rfl b_64 dX11_told_64 ?_
        obtain rfl := Option.some.inj hf
        exact cm_iret (pc := 65) hAe hQ hx hb hr hlocks hP hD hS [0, 1, 2] (by decide) rfl dX11_told_65
      · have hf := cm_in c_41 hf
        refine lv_bipush (pc := 44) (v := (-2)) hx hb dX11_told_44 (by decide) ?_
        refine lv_goto (pc := 46) (tgt := 65) hx hb dX11_told_46 (by decide) ?_
        obtain rfl := Option.some.inj hf
        exact cm_iret (pc := 65) hAe hQ hx hb hr hlocks hP hD hS [0, 1, 2] (by decide) rfl dX11_told_65
    · have hf := cm_in c_14 hf
      refine lv_iload_n (pc := 17) hx hb dX11_told_17 rfl (lv_at hl 2 rfl) ?_
      refine lv_bipush (pc := 18) (v := 44) hx hb dX11_told_18 (by decide) ?_
      refine lv_icmp_ge (pc := 20) (tgt := 35) hx hb dX11_told_20 (by decide) (fun c_20 => ?_) (fun c_20 => ?_)
      · have hf := cm_ip c_20 hf
        refine lv_bipush (pc := 35) (v := (-2)) hx hb dX11_told_35 (by decide) ?_
        obtain rfl := Option.some.inj hf
        exact cm_iret (pc := 37) hAe hQ hx hb hr hlocks hP hD hS [0, 1, 2] (by decide) rfl dX11_told_37
      · have hf := cm_in c_20 hf
        refine lv_aload_n (pc := 23) hx hb dX11_told_23 rfl (lv_at hl 1 rfl) ?_
        refine va_get (pc := 24) (D := D) (ci := 11) (v := .ref a_book) (C := RX11) (T := TX11) (N := 21) hx hb hts in_X11 hown hKa hP 0 rfl rfl 0 (by decide) (hts _ tw_712) (fun _ h9 => h9) rfl dX11_told_24 ?_
        refine lv_bipush (pc := 27) (v := 24) hx hb dX11_told_27 (by decide) ?_
        refine lv_iload_n (pc := 29) hx hb dX11_told_29 rfl (lv_at hl 0 rfl) ?_
        refine lv_iadd (pc := 30) hx hb dX11_told_30 ?_
        obtain ⟨b_31, hf⟩ := cm_ob hf
        refine va_iald (pc := 31) hx hb hKa hP 1 0 rfl rfl b_31 dX11_told_31 ?_
        refine lv_goto (pc := 32) (tgt := 37) hx hb dX11_told_32 (by decide) ?_
        obtain rfl := Option.some.inj hf
        exact cm_iret (pc := 37) hAe hQ hx hb hr hlocks hP hD hS [0, 1, 2] (by decide) rfl dX11_told_37
