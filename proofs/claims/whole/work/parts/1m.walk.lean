def fX11_cakes_L62 (v4_43 : Int32) (kx : Int32 → (Nat → Int32) → Option (Int32 × (Nat → Int32))) : Nat → Int32 → (Nat → Int32) → Option (Int32 × (Nat → Int32))
  | 0, _, _ => none
  | n + 1, v5_62, m_fewest_62 => (if v5_62 ≤ 0 then kx v5_62 m_fewest_62 else Option.bind (fX11_hasLeft v4_43 v5_62 m_fewest_62) (fun u78 => (if u78 = 0 then if v4_43 < 0 ∨ 100 ≤ v4_43.toNatClampNeg then none else if v4_43 < 0 ∨ 100 ≤ v4_43.toNatClampNeg then none else fX11_cakes_L62 v4_43 kx n (v5_62 + (-1)) (upd m_fewest_62 v4_43.toNatClampNeg (m_fewest_62 v4_43.toNatClampNeg)) else if v4_43 < 0 ∨ 100 ≤ v4_43.toNatClampNeg then none else fX11_cakes_L62 v4_43 kx n (v5_62 + (-1)) (upd m_fewest_62 v4_43.toNatClampNeg v5_62))))
def fX11_cakes_L43 (v1 : Int32) (kx : Int32 → (Nat → Int32) → Option (Int32 × (Nat → Int32))) : Nat → Int32 → (Nat → Int32) → Option (Int32 × (Nat → Int32))
  | 0, _, _ => none
  | n + 1, v4_43, m_fewest_43 => (if v1 < v4_43 then kx v4_43 m_fewest_43 else if v4_43 < 0 ∨ 100 ≤ v4_43.toNatClampNeg then none else fX11_cakes_L62 v4_43 (fun v5_62 m_fewest_62 => fX11_cakes_L43 v1 kx n (v4_43 + 1) m_fewest_62) 5000 v4_43 (upd m_fewest_43 v4_43.toNatClampNeg v4_43))
def fX11_cakes (v1 : Int32) (v2 : Int32) (v3 : Int32) (m_fewest : (Nat → Int32)) : Option (Int32 × (Nat → Int32)) := cm_let (fX11_in v1 0 99) (fun u4 => (if u4 = 0 then some ((-2), m_fewest) else cm_let (fX11_in v2 0 99) (fun u14 => (if u14 = 0 then some ((-2), m_fewest) else cm_let (fX11_in v3 0 1) (fun u23 => (if u23 = 0 then some ((-2), m_fewest) else fX11_cakes_L43 v1 (fun v4_43 m_fewest_43 => if v1 < 0 ∨ 100 ≤ v1.toNatClampNeg then none else cm_let ((if v2 < (m_fewest_43 v1.toNatClampNeg) then 0 else 1) : Int32) (fun j116 => (if v3 = 0 then (if j116 = 0 then some (0, m_fewest_43) else some (1, m_fewest_43)) else (if j116 = 0 then some ((-6), m_fewest_43) else if v1 < 0 ∨ 100 ≤ v1.toNatClampNeg then none else some ((m_fewest_43 v1.toNatClampNeg), m_fewest_43))))) 5000 1 (upd m_fewest 0 1000000)))))))
def rmX11_cakes : Room := { frames := 1, cells := 0, slots := 0, locals := 22 }
set_option maxRecDepth 100000 in
set_option maxHeartbeats 4000000 in
theorem c_X11_cakes (l : Launch) (D : va_G) (cI cJ cZ cR : ClassId) (a a_book a_now a_sight a_pad a_digits a_without a_with a_counts a_fewest a_ways a_more a_chooses a_image a_isKept : Nat) (m_sights : Int32) (m_signs : Int32) (m_sold : Int32) (m_markets : Int32) (m_marketAt : Int32) (m_reason : Int32) (m_acts : Int32) (m_fewest : (Nat → Int32)) (v1 : Int32) (v2 : Int32) (v3 : Int32) (res : Int32 × (Nat → Int32)) (hf : fX11_cakes v1 v2 v3 m_fewest = some res) : Ct l yX11_cakes (cm_ws yX11_cakes cX11_cakes 6 (some .int)) rmX11_cakes D (cm_T cI cJ cZ cR) [.ref a, .int v1, .int v2, .int v3] [(a, .inr (11, [.ref a_book, .ref a_now, .int m_sights, .ref a_sight, .int m_signs, .ref a_pad, .int m_sold, .int m_markets, .int m_marketAt, .int m_reason, .int m_acts, .ref a_digits, .ref a_without, .ref a_with, .ref a_counts, .ref a_fewest, .ref a_ways, .ref a_more, .ref a_chooses, .ref a_image, .ref a_isKept])), cm_kI cI a_fewest 100 m_fewest] (some (.int res.1)) [(a, .inr (11, [.ref a_book, .ref a_now, .int m_sights, .ref a_sight, .int m_signs, .ref a_pad, .int m_sold, .int m_markets, .int m_marketAt, .int m_reason, .int m_acts, .ref a_digits, .ref a_without, .ref a_with, .ref a_counts, .ref a_fewest, .ref a_ways, .ref a_more, .ref a_chooses, .ref a_image, .ref a_isKept])), cm_kI cI a_fewest 100 res.2] := by
  refine Ct.of (cc := cX11_cakes) (maxL := 6) (ret := (some .int)) (by decide) (Nat.le_of_ble_eq_true rfl) ?_
  intro p e s m below meth c ls args A Q hav hAe hQ hx hb hr hml hown hlocks hts hK hP hD hA hS hl
  have hKa := hK.1
  have hl : lv_has ls 6 [(0, .ref a), (1, .int v1), (2, .int v2), (3, .int v3)] := hl
  unfold fX11_cakes at hf
  refine lv_iload_n (pc := 0) hx hb dX11_cakes_0 rfl (lv_at hl 1 rfl) ?_
  refine lv_iconst (pc := 1) (v := 0) hx hb dX11_cakes_1 (by decide) ?_
  refine lv_bipush (pc := 2) (v := 99) hx hb dX11_cakes_2 (by decide) ?_
  obtain ⟨u4, hu4, hf⟩ := cm_lt hf
  refine cm_callS (pc := 4) (As := [.int v1, .int 0, .int 99]) (rest := []) (wr := [(a, .inr (11, [.ref a_book, .ref a_now, .int m_sights, .ref a_sight, .int m_signs, .ref a_pad, .int m_sold, .int m_markets, .int m_marketAt, .int m_reason, .int m_acts, .ref a_digits, .ref a_without, .ref a_with, .ref a_counts, .ref a_fewest, .ref a_ways, .ref a_more, .ref a_chooses, .ref a_image, .ref a_isKept])), cm_kI cI a_fewest 100 m_fewest]) (n := 3) hx hb hml hown hts hK hP hD hS hA (c_X11_in l D cI cJ cZ cR v1 0 99 u4 hu4) tw_776 tw_774 tw_775 tw_55 rfl rfl (by decide +kernel) rfl ⟨Nat.le_of_ble_eq_true rfl, Nat.le_of_ble_eq_true rfl⟩ [] [0, 1] rfl (by decide) rfl (by decide) (by decide) hl.1 rfl (Nat.le_of_ble_eq_true rfl) dX11_cakes_4 ⟨Nat.zero_le _, Nat.zero_le _⟩ (fun H locs hP hD hS => ?_)
  have hP : va_P D vwCl [(a, .inr (11, [.ref a_book, .ref a_now, .int m_sights, .ref a_sight, .int m_signs, .ref a_pad, .int m_sold, .int m_markets, .int m_marketAt, .int m_reason, .int m_acts, .ref a_digits, .ref a_without, .ref a_with, .ref a_counts, .ref a_fewest, .ref a_ways, .ref a_more, .ref a_chooses, .ref a_image, .ref a_isKept])), cm_kI cI a_fewest 100 m_fewest] H := hP
  have hD : va_D A [(a, .inr (11, [.ref a_book, .ref a_now, .int m_sights, .ref a_sight, .int m_signs, .ref a_pad, .int m_sold, .int m_markets, .int m_marketAt, .int m_reason, .int m_acts, .ref a_digits, .ref a_without, .ref a_with, .ref a_counts, .ref a_fewest, .ref a_ways, .ref a_more, .ref a_chooses, .ref a_image, .ref a_isKept])), cm_kI cI a_fewest 100 m_fewest] := hD
  refine W.eq (g2 := F0 m 7 ls [.int u4]) rfl ?_
  refine lv_if_eq (pc := 7) (tgt := 29) hx hb dX11_cakes_7 (by decide) (fun c_7 => ?_) (fun c_7 => ?_)
  · have hf := cm_ip c_7 hf
    refine lv_bipush (pc := 29) (v := (-2)) hx hb dX11_cakes_29 (by decide) ?_
    obtain rfl := Option.some.inj hf
    exact cm_iret (pc := 31) hAe hQ hx hb hr hlocks hP hD hS [0, 1] (by decide) rfl dX11_cakes_31
  · have hf := cm_in c_7 hf
    refine lv_iload_n (pc := 10) hx hb dX11_cakes_10 rfl (lv_at hl 2 rfl) ?_
    refine lv_iconst (pc := 11) (v := 0) hx hb dX11_cakes_11 (by decide) ?_
    refine lv_bipush (pc := 12) (v := 99) hx hb dX11_cakes_12 (by decide) ?_
    obtain ⟨u14, hu14, hf⟩ := cm_lt hf
    refine cm_callS (pc := 14) (As := [.int v2, .int 0, .int 99]) (rest := []) (wr := [(a, .inr (11, [.ref a_book, .ref a_now, .int m_sights, .ref a_sight, .int m_signs, .ref a_pad, .int m_sold, .int m_markets, .int m_marketAt, .int m_reason, .int m_acts, .ref a_digits, .ref a_without, .ref a_with, .ref a_counts, .ref a_fewest, .ref a_ways, .ref a_more, .ref a_chooses, .ref a_image, .ref a_isKept])), cm_kI cI a_fewest 100 m_fewest]) (n := 3) hx hb hml hown hts hK hP hD hS hA (c_X11_in l D cI cJ cZ cR v2 0 99 u14 hu14) tw_776 tw_774 tw_775 tw_55 rfl rfl (by decide +kernel) rfl ⟨Nat.le_of_ble_eq_true rfl, Nat.le_of_ble_eq_true rfl⟩ [] [0, 1] rfl (by decide) rfl (by decide) (by decide) hl.1 rfl (Nat.le_of_ble_eq_true rfl) dX11_cakes_14 ⟨Nat.zero_le _, Nat.zero_le _⟩ (fun H locs hP hD hS => ?_)
    have hP : va_P D vwCl [(a, .inr (11, [.ref a_book, .ref a_now, .int m_sights, .ref a_sight, .int m_signs, .ref a_pad, .int m_sold, .int m_markets, .int m_marketAt, .int m_reason, .int m_acts, .ref a_digits, .ref a_without, .ref a_with, .ref a_counts, .ref a_fewest, .ref a_ways, .ref a_more, .ref a_chooses, .ref a_image, .ref a_isKept])), cm_kI cI a_fewest 100 m_fewest] H := hP
    have hD : va_D A [(a, .inr (11, [.ref a_book, .ref a_now, .int m_sights, .ref a_sight, .int m_signs, .ref a_pad, .int m_sold, .int m_markets, .int m_marketAt, .int m_reason, .int m_acts, .ref a_digits, .ref a_without, .ref a_with, .ref a_counts, .ref a_fewest, .ref a_ways, .ref a_more, .ref a_chooses, .ref a_image, .ref a_isKept])), cm_kI cI a_fewest 100 m_fewest] := hD
    refine W.eq (g2 := F0 m 17 ls [.int u14]) rfl ?_
    refine lv_if_eq (pc := 17) (tgt := 29) hx hb dX11_cakes_17 (by decide) (fun c_17 => ?_) (fun c_17 => ?_)
    · have hf := cm_ip c_17 hf
      refine lv_bipush (pc := 29) (v := (-2)) hx hb dX11_cakes_29 (by decide) ?_
      obtain rfl := Option.some.inj hf
      exact cm_iret (pc := 31) hAe hQ hx hb hr hlocks hP hD hS [0, 1] (by decide) rfl dX11_cakes_31
    · have hf := cm_in c_17 hf
      refine lv_iload_n (pc := 20) hx hb dX11_cakes_20 rfl (lv_at hl 3 rfl) ?_
      refine lv_iconst (pc := 21) (v := 0) hx hb dX11_cakes_21 (by decide) ?_
      refine lv_iconst (pc := 22) (v := 1) hx hb dX11_cakes_22 (by decide) ?_
      obtain ⟨u23, hu23, hf⟩ := cm_lt hf
      refine cm_callS (pc := 23) (As := [.int v3, .int 0, .int 1]) (rest := []) (wr := [(a, .inr (11, [.ref a_book, .ref a_now, .int m_sights, .ref a_sight, .int m_signs, .ref a_pad, .int m_sold, .int m_markets, .int m_marketAt, .int m_reason, .int m_acts, .ref a_digits, .ref a_without, .ref a_with, .ref a_counts, .ref a_fewest, .ref a_ways, .ref a_more, .ref a_chooses, .ref a_image, .ref a_isKept])), cm_kI cI a_fewest 100 m_fewest]) (n := 3) hx hb hml hown hts hK hP hD hS hA (c_X11_in l D cI cJ cZ cR v3 0 1 u23 hu23) tw_776 tw_774 tw_775 tw_55 rfl rfl (by decide +kernel) rfl ⟨Nat.le_of_ble_eq_true rfl, Nat.le_of_ble_eq_true rfl⟩ [] [0, 1] rfl (by decide) rfl (by decide) (by decide) hl.1 rfl (Nat.le_of_ble_eq_true rfl) dX11_cakes_23 ⟨Nat.zero_le _, Nat.zero_le _⟩ (fun H locs hP hD hS => ?_)
      have hP : va_P D vwCl [(a, .inr (11, [.ref a_book, .ref a_now, .int m_sights, .ref a_sight, .int m_signs, .ref a_pad, .int m_sold, .int m_markets, .int m_marketAt, .int m_reason, .int m_acts, .ref a_digits, .ref a_without, .ref a_with, .ref a_counts, .ref a_fewest, .ref a_ways, .ref a_more, .ref a_chooses, .ref a_image, .ref a_isKept])), cm_kI cI a_fewest 100 m_fewest] H := hP
      have hD : va_D A [(a, .inr (11, [.ref a_book, .ref a_now, .int m_sights, .ref a_sight, .int m_signs, .ref a_pad, .int m_sold, .int m_markets, .int m_marketAt, .int m_reason, .int m_acts, .ref a_digits, .ref a_without, .ref a_with, .ref a_counts, .ref a_fewest, .ref a_ways, .ref a_more, .ref a_chooses, .ref a_image, .ref a_isKept])), cm_kI cI a_fewest 100 m_fewest] := hD
      refine W.eq (g2 := F0 m 26 ls [.int u23]) rfl ?_
      refine lv_if_ne (pc := 26) (tgt := 32) hx hb dX11_cakes_26 (by decide) (fun c_26 => ?_) (fun c_26 => ?_)
      · have hf := cm_in c_26 hf
        refine lv_aload_n (pc := 32) hx hb dX11_cakes_32 rfl (lv_at hl 0 rfl) ?_
        refine va_get (pc := 33) (D := D) (ci := 11) (v := .ref a_fewest) (C := RX11) (T := TX11) (N := 21) hx hb hts in_X11 hown hKa hP 0 rfl rfl 15 (by decide) (hts _ tw_720) (fun _ h9 => h9) rfl dX11_cakes_33 ?_
        refine lv_iconst (pc := 36) (v := 0) hx hb dX11_cakes_36 (by decide) ?_
        refine lv_ldc (pc := 37) (v := 1000000) hx hb hown (hts _ tw_880) dX11_cakes_37 ?_
        refine cm_iast (pc := 39) hx hb hKa hP hD hS 1 0 rfl rfl 0 rfl (by decide) dX11_cakes_39 (fun H locs hP hD hS => ?_)
        have hP : va_P D vwCl [(a, .inr (11, [.ref a_book, .ref a_now, .int m_sights, .ref a_sight, .int m_signs, .ref a_pad, .int m_sold, .int m_markets, .int m_marketAt, .int m_reason, .int m_acts, .ref a_digits, .ref a_without, .ref a_with, .ref a_counts, .ref a_fewest, .ref a_ways, .ref a_more, .ref a_chooses, .ref a_image, .ref a_isKept])), cm_kI cI a_fewest 100 (upd m_fewest 0 1000000)] H := hP
        have hD : va_D A [(a, .inr (11, [.ref a_book, .ref a_now, .int m_sights, .ref a_sight, .int m_signs, .ref a_pad, .int m_sold, .int m_markets, .int m_marketAt, .int m_reason, .int m_acts, .ref a_digits, .ref a_without, .ref a_with, .ref a_counts, .ref a_fewest, .ref a_ways, .ref a_more, .ref a_chooses, .ref a_image, .ref a_isKept])), cm_kI cI a_fewest 100 (upd m_fewest 0 1000000)] := hD
        refine lv_iconst (pc := 40) (v := 1) hx hb dX11_cakes_40 (by decide) ?_
        refine lv_istore (pc := 41) (lv' := [(4, .int 1), (0, .ref a), (1, .int v1), (2, .int v2), (3, .int v3)]) hx hb dX11_cakes_41 hl (by decide) rfl (fun ls hl => ?_)
        have L43 : ∀ (kx : Int32 → (Nat → Int32) → Option (Int32 × (Nat → Int32))), (∀ (v4_43 : Int32) (m_fewest_43 : (Nat → Int32)) (H : Heap) (locs : List Loc) (ls : Array Slot), va_P D vwCl [(a, .inr (11, [.ref a_book, .ref a_now, .int m_sights, .ref a_sight, .int m_signs, .ref a_pad, .int m_sold, .int m_markets, .int m_marketAt, .int m_reason, .int m_acts, .ref a_digits, .ref a_without, .ref a_with, .ref a_counts, .ref a_fewest, .ref a_ways, .ref a_more, .ref a_chooses, .ref a_image, .ref a_isKept])), cm_kI cI a_fewest 100 m_fewest_43] H → va_D A [(a, .inr (11, [.ref a_book, .ref a_now, .int m_sights, .ref a_sight, .int m_signs, .ref a_pad, .int m_sold, .int m_markets, .int m_marketAt, .int m_reason, .int m_acts, .ref a_digits, .ref a_without, .ref a_with, .ref a_counts, .ref a_fewest, .ref a_ways, .ref a_more, .ref a_chooses, .ref a_image, .ref a_isKept])), cm_kI cI a_fewest 100 m_fewest_43] → va_S A s.heap H locs → lv_has ls 6 [(0, .ref a), (1, .int v1), (2, .int v2), (3, .int v3)] → kx v4_43 m_fewest_43 = some res → W p l e rmX11_cakes s m args below meth c H locs 0 0 Q (F0 m 109 ls [])) → ∀ (n : Nat) (v4_43 : Int32) (m_fewest_43 : (Nat → Int32)) (H : Heap) (locs : List Loc) (ls : Array Slot), va_P D vwCl [(a, .inr (11, [.ref a_book, .ref a_now, .int m_sights, .ref a_sight, .int m_signs, .ref a_pad, .int m_sold, .int m_markets, .int m_marketAt, .int m_reason, .int m_acts, .ref a_digits, .ref a_without, .ref a_with, .ref a_counts, .ref a_fewest, .ref a_ways, .ref a_more, .ref a_chooses, .ref a_image, .ref a_isKept])), cm_kI cI a_fewest 100 m_fewest_43] H → va_D A [(a, .inr (11, [.ref a_book, .ref a_now, .int m_sights, .ref a_sight, .int m_signs, .ref a_pad, .int m_sold, .int m_markets, .int m_marketAt, .int m_reason, .int m_acts, .ref a_digits, .ref a_without, .ref a_with, .ref a_counts, .ref a_fewest, .ref a_ways, .ref a_more, .ref a_chooses, .ref a_image, .ref a_isKept])), cm_kI cI a_fewest 100 m_fewest_43] → va_S A s.heap H locs → lv_has ls 6 [(4, .int v4_43), (0, .ref a), (1, .int v1), (2, .int v2), (3, .int v3)] → fX11_cakes_L43 v1 kx n v4_43 m_fewest_43 = some res → W p l e rmX11_cakes s m args below meth c H locs 0 0 Q (F0 m 43 ls []) := by
          intro kx hkx n
          induction n with
          | zero => intro v4_43 m_fewest_43 H locs ls hP hD hS hl hf; cases hf
          | succ n ih =>
            intro v4_43 m_fewest_43 H locs ls hP hD hS hl hf
            rw [fX11_cakes_L43] at hf
            refine lv_iload (pc := 43) hx hb dX11_cakes_43 (lv_at hl 0 rfl) ?_
            refine lv_iload_n (pc := 45) hx hb dX11_cakes_45 rfl (lv_at hl 2 rfl) ?_
            refine lv_icmp_gt (pc := 46) (tgt := 109) hx hb dX11_cakes_46 (by decide) (fun c_46 => ?_) (fun c_46 => ?_)
            · have hf := cm_ip c_46 hf
              exact hkx v4_43 m_fewest_43 _ _ _ hP hD hS (lv_sub hl [1, 2, 3, 4] rfl) hf
            · have hf := cm_in c_46 hf
              refine lv_aload_n (pc := 49) hx hb dX11_cakes_49 rfl (lv_at hl 1 rfl) ?_
              refine va_get (pc := 50) (D := D) (ci := 11) (v := .ref a_fewest) (C := RX11) (T := TX11) (N := 21) hx hb hts in_X11 hown hKa hP 0 rfl rfl 15 (by decide) (hts _ tw_720) (fun _ h9 => h9) rfl dX11_cakes_50 ?_
              refine lv_iload (pc := 53) hx hb dX11_cakes_53 (lv_at hl 0 rfl) ?_
              refine lv_iload (pc := 55) hx hb dX11_cakes_55 (lv_at hl 0 rfl) ?_
              obtain ⟨b_57, hf⟩ := cm_ob hf
              refine va_iast (pc := 57) hx hb hKa hP hD hS 1 0 rfl rfl b_57 dX11_cakes_57 (fun H locs hP hD hS => ?_)
              have hP : va_P D vwCl [(a, .inr (11, [.ref a_book, .ref a_now, .int m_sights, .ref a_sight, .int m_signs, .ref a_pad, .int m_sold, .int m_markets, .int m_marketAt, .int m_reason, .int m_acts, .ref a_digits, .ref a_without, .ref a_with, .ref a_counts, .ref a_fewest, .ref a_ways, .ref a_more, .ref a_chooses, .ref a_image, .ref a_isKept])), cm_kI cI a_fewest 100 (upd m_fewest_43 v4_43.toNatClampNeg v4_43)] H := hP
              have hD : va_D A [(a, .inr (11, [.ref a_book, .ref a_now, .int m_sights, .ref a_sight, .int m_signs, .ref a_pad, .int m_sold, .int m_markets, .int m_marketAt, .int m_reason, .int m_acts, .ref a_digits, .ref a_without, .ref a_with, .ref a_counts, .ref a_fewest, .ref a_ways, .ref a_more, .ref a_chooses, .ref a_image, .ref a_isKept])), cm_kI cI a_fewest 100 (upd m_fewest_43 v4_43.toNatClampNeg v4_43)] := hD
              refine lv_iload (pc := 58) hx hb dX11_cakes_58 (lv_at hl 0 rfl) ?_
              refine lv_istore (pc := 60) (lv' := [(5, .int v4_43), (4, .int v4_43), (0, .ref a), (1, .int v1), (2, .int v2), (3, .int v3)]) hx hb dX11_cakes_60 hl (by decide) rfl (fun ls hl => ?_)
              have L62 : ∀ (kx : Int32 → (Nat → Int32) → Option (Int32 × (Nat → Int32))), (∀ (v5_62 : Int32) (m_fewest_62 : (Nat → Int32)) (H : Heap) (locs : List Loc) (ls : Array Slot), va_P D vwCl [(a, .inr (11, [.ref a_book, .ref a_now, .int m_sights, .ref a_sight, .int m_signs, .ref a_pad, .int m_sold, .int m_markets, .int m_marketAt, .int m_reason, .int m_acts, .ref a_digits, .ref a_without, .ref a_with, .ref a_counts, .ref a_fewest, .ref a_ways, .ref a_more, .ref a_chooses, .ref a_image, .ref a_isKept])), cm_kI cI a_fewest 100 m_fewest_62] H → va_D A [(a, .inr (11, [.ref a_book, .ref a_now, .int m_sights, .ref a_sight, .int m_signs, .ref a_pad, .int m_sold, .int m_markets, .int m_marketAt, .int m_reason, .int m_acts, .ref a_digits, .ref a_without, .ref a_with, .ref a_counts, .ref a_fewest, .ref a_ways, .ref a_more, .ref a_chooses, .ref a_image, .ref a_isKept])), cm_kI cI a_fewest 100 m_fewest_62] → va_S A s.heap H locs → lv_has ls 6 [(4, .int v4_43), (0, .ref a), (1, .int v1), (2, .int v2), (3, .int v3)] → kx v5_62 m_fewest_62 = some res → W p l e rmX11_cakes s m args below meth c H locs 0 0 Q (F0 m 103 ls [])) → ∀ (n : Nat) (v5_62 : Int32) (m_fewest_62 : (Nat → Int32)) (H : Heap) (locs : List Loc) (ls : Array Slot), va_P D vwCl [(a, .inr (11, [.ref a_book, .ref a_now, .int m_sights, .ref a_sight, .int m_signs, .ref a_pad, .int m_sold, .int m_markets, .int m_marketAt, .int m_reason, .int m_acts, .ref a_digits, .ref a_without, .ref a_with, .ref a_counts, .ref a_fewest, .ref a_ways, .ref a_more, .ref a_chooses, .ref a_image, .ref a_isKept])), cm_kI cI a_fewest 100 m_fewest_62] H → va_D A [(a, .inr (11, [.ref a_book, .ref a_now, .int m_sights, .ref a_sight, .int m_signs, .ref a_pad, .int m_sold, .int m_markets, .int m_marketAt, .int m_reason, .int m_acts, .ref a_digits, .ref a_without, .ref a_with, .ref a_counts, .ref a_fewest, .ref a_ways, .ref a_more, .ref a_chooses, .ref a_image, .ref a_isKept])), cm_kI cI a_fewest 100 m_fewest_62] → va_S A s.heap H locs → lv_has ls 6 [(5, .int v5_62), (4, .int v4_43), (0, .ref a), (1, .int v1), (2, .int v2), (3, .int v3)] → fX11_cakes_L62 v4_43 kx n v5_62 m_fewest_62 = some res → W p l e rmX11_cakes s m args below meth c H locs 0 0 Q (F0 m 62 ls []) := by
                intro kx hkx n
                induction n with
                | zero => intro v5_62 m_fewest_62 H locs ls hP hD hS hl hf; cases hf
                | succ n ih =>
                  intro v5_62 m_fewest_62 H locs ls hP hD hS hl hf
                  rw [fX11_cakes_L62] at hf
                  refine lv_iload (pc := 62) hx hb dX11_cakes_62 (lv_at hl 0 rfl) ?_
                  refine lv_if_le (pc := 64) (tgt := 103) hx hb dX11_cakes_64 (by decide) (fun c_64 => ?_) (fun c_64 => ?_)
                  · have hf := cm_ip c_64 hf
                    exact hkx v5_62 m_fewest_62 _ _ _ hP hD hS (lv_sub hl [1, 2, 3, 4, 5] rfl) hf
                  · have hf := cm_in c_64 hf
                    refine lv_aload_n (pc := 67) hx hb dX11_cakes_67 rfl (lv_at hl 2 rfl) ?_
                    refine va_get (pc := 68) (D := D) (ci := 11) (v := .ref a_fewest) (C := RX11) (T := TX11) (N := 21) hx hb hts in_X11 hown hKa hP 0 rfl rfl 15 (by decide) (hts _ tw_720) (fun _ h9 => h9) rfl dX11_cakes_68 ?_
                    refine lv_iload (pc := 71) hx hb dX11_cakes_71 (lv_at hl 1 rfl) ?_
                    refine lv_aload_n (pc := 73) hx hb dX11_cakes_73 rfl (lv_at hl 2 rfl) ?_
                    refine lv_iload (pc := 74) hx hb dX11_cakes_74 (lv_at hl 1 rfl) ?_
                    refine lv_iload (pc := 76) hx hb dX11_cakes_76 (lv_at hl 0 rfl) ?_
                    obtain ⟨u78, hu78, hf⟩ := cm_bd hf
                    refine cm_callV (pc := 78) (As := [.int v4_43, .int v5_62]) (rest := [.int v4_43, .ref a_fewest]) (wr := []) (ci := 11) (q0 := 0) (n := 2) hx hb hml hown hts hK hP hD hS hA (c_X11_hasLeft l D cI cJ cZ cR a a_book a_now a_sight a_pad a_digits a_without a_with a_counts a_fewest a_ways a_more a_chooses a_image a_isKept m_sights m_signs m_sold m_markets m_marketAt m_reason m_acts m_fewest_62 v4_43 v5_62 u78 hu78) tw_927 tw_924 tw_926 tw_42 tw_55 rfl rfl (by decide +kernel) rfl ⟨Nat.le_of_ble_eq_true rfl, Nat.le_of_ble_eq_true rfl⟩ [0, 1] [] rfl (by decide) rfl (by decide) (by decide) rfl rfl rfl hl.1 rfl (Nat.le_of_ble_eq_true rfl) dX11_cakes_78 ⟨Nat.zero_le _, Nat.zero_le _⟩ (fun H locs hP hD hS => ?_)
                    have hP : va_P D vwCl [(a, .inr (11, [.ref a_book, .ref a_now, .int m_sights, .ref a_sight, .int m_signs, .ref a_pad, .int m_sold, .int m_markets, .int m_marketAt, .int m_reason, .int m_acts, .ref a_digits, .ref a_without, .ref a_with, .ref a_counts, .ref a_fewest, .ref a_ways, .ref a_more, .ref a_chooses, .ref a_image, .ref a_isKept])), cm_kI cI a_fewest 100 m_fewest_62] H := hP
                    have hD : va_D A [(a, .inr (11, [.ref a_book, .ref a_now, .int m_sights, .ref a_sight, .int m_signs, .ref a_pad, .int m_sold, .int m_markets, .int m_marketAt, .int m_reason, .int m_acts, .ref a_digits, .ref a_without, .ref a_with, .ref a_counts, .ref a_fewest, .ref a_ways, .ref a_more, .ref a_chooses, .ref a_image, .ref a_isKept])), cm_kI cI a_fewest 100 m_fewest_62] := hD
                    refine W.eq (g2 := F0 m 81 ls [.int u78, .int v4_43, .ref a_fewest]) rfl ?_
                    refine lv_if_eq (pc := 81) (tgt := 89) hx hb dX11_cakes_81 (by decide) (fun c_81 => ?_) (fun c_81 => ?_)
                    · have hf := cm_ip c_81 hf
                      refine lv_aload_n (pc := 89) hx hb dX11_cakes_89 rfl (lv_at hl 2 rfl) ?_
                      refine va_get (pc := 90) (D := D) (ci := 11) (v := .ref a_fewest) (C := RX11) (T := TX11) (N := 21) hx hb hts in_X11 hown hKa hP 0 rfl rfl 15 (by decide) (hts _ tw_720) (fun _ h9 => h9) rfl dX11_cakes_90 ?_
                      refine lv_iload (pc := 93) hx hb dX11_cakes_93 (lv_at hl 1 rfl) ?_
                      obtain ⟨b_95, hf⟩ := cm_ob hf
                      refine va_iald (pc := 95) hx hb hKa hP 1 0 rfl rfl b_95 dX11_cakes_95 ?_
                      obtain ⟨b_96, hf⟩ := cm_ob hf
                      refine va_iast (pc := 96) hx hb hKa hP hD hS 1 0 rfl rfl b_96 dX11_cakes_96 (fun H locs hP hD hS => ?_)
                      have hP : va_P D vwCl [(a, .inr (11, [.ref a_book, .ref a_now, .int m_sights, .ref a_sight, .int m_signs, .ref a_pad, .int m_sold, .int m_markets, .int m_marketAt, .int m_reason, .int m_acts, .ref a_digits, .ref a_without, .ref a_with, .ref a_counts, .ref a_fewest, .ref a_ways, .ref a_more, .ref a_chooses, .ref a_image, .ref a_isKept])), cm_kI cI a_fewest 100 (upd m_fewest_62 v4_43.toNatClampNeg (m_fewest_62 v4_43.toNatClampNeg))] H := hP
                      have hD : va_D A [(a, .inr (11, [.ref a_book, .ref a_now, .int m_sights, .ref a_sight, .int m_signs, .ref a_pad, .int m_sold, .int m_markets, .int m_marketAt, .int m_reason, .int m_acts, .ref a_digits, .ref a_without, .ref a_with, .ref a_counts, .ref a_fewest, .ref a_ways, .ref a_more, .ref a_chooses, .ref a_image, .ref a_isKept])), cm_kI cI a_fewest 100 (upd m_fewest_62 v4_43.toNatClampNeg (m_fewest_62 v4_43.toNatClampNeg))] := hD
                      refine lv_iinc (pc := 97) (v := (v5_62 + (-1))) (lv' := [(5, .int (v5_62 + (-1))), (4, .int v4_43), (0, .ref a), (1, .int v1), (2, .int v2), (3, .int v3)]) hx hb dX11_cakes_97 hl (k := 0) rfl rfl (by decide) rfl (fun ls hl => ?_)
                      refine lv_goto (pc := 100) (tgt := 62) hx hb dX11_cakes_100 (by decide) ?_
                      exact ih (v5_62 + (-1)) (upd m_fewest_62 v4_43.toNatClampNeg (m_fewest_62 v4_43.toNatClampNeg)) _ _ _ hP hD hS (lv_sub hl [0, 1, 2, 3, 4, 5] rfl) hf
                    · have hf := cm_in c_81 hf
                      refine lv_iload (pc := 84) hx hb dX11_cakes_84 (lv_at hl 0 rfl) ?_
                      refine lv_goto (pc := 86) (tgt := 96) hx hb dX11_cakes_86 (by decide) ?_
                      obtain ⟨b_96, hf⟩ := cm_ob hf
                      refine va_iast (pc := 96) hx hb hKa hP hD hS 1 0 rfl rfl b_96 dX11_cakes_96 (fun H locs hP hD hS => ?_)
                      have hP : va_P D vwCl [(a, .inr (11, [.ref a_book, .ref a_now, .int m_sights, .ref a_sight, .int m_signs, .ref a_pad, .int m_sold, .int m_markets, .int m_marketAt, .int m_reason, .int m_acts, .ref a_digits, .ref a_without, .ref a_with, .ref a_counts, .ref a_fewest, .ref a_ways, .ref a_more, .ref a_chooses, .ref a_image, .ref a_isKept])), cm_kI cI a_fewest 100 (upd m_fewest_62 v4_43.toNatClampNeg v5_62)] H := hP
                      have hD : va_D A [(a, .inr (11, [.ref a_book, .ref a_now, .int m_sights, .ref a_sight, .int m_signs, .ref a_pad, .int m_sold, .int m_markets, .int m_marketAt, .int m_reason, .int m_acts, .ref a_digits, .ref a_without, .ref a_with, .ref a_counts, .ref a_fewest, .ref a_ways, .ref a_more, .ref a_chooses, .ref a_image, .ref a_isKept])), cm_kI cI a_fewest 100 (upd m_fewest_62 v4_43.toNatClampNeg v5_62)] := hD
                      refine lv_iinc (pc := 97) (v := (v5_62 + (-1))) (lv' := [(5, .int (v5_62 + (-1))), (4, .int v4_43), (0, .ref a), (1, .int v1), (2, .int v2), (3, .int v3)]) hx hb dX11_cakes_97 hl (k := 0) rfl rfl (by decide) rfl (fun ls hl => ?_)
                      refine lv_goto (pc := 100) (tgt := 62) hx hb dX11_cakes_100 (by decide) ?_
                      exact ih (v5_62 + (-1)) (upd m_fewest_62 v4_43.toNatClampNeg v5_62) _ _ _ hP hD hS (lv_sub hl [0, 1, 2, 3, 4, 5] rfl) hf
              refine L62 _ (fun v5_62 m_fewest_62 H locs ls hP hD hS hl hf => ?_) 5000 v4_43 (upd m_fewest_43 v4_43.toNatClampNeg v4_43) _ _ _ hP hD hS (lv_sub hl [0, 1, 2, 3, 4, 5] rfl) hf
              refine lv_iinc (pc := 103) (v := (v4_43 + 1)) (lv' := [(4, .int (v4_43 + 1)), (0, .ref a), (1, .int v1), (2, .int v2), (3, .int v3)]) hx hb dX11_cakes_103 hl (k := 0) rfl rfl (by decide) rfl (fun ls hl => ?_)
              refine lv_goto (pc := 106) (tgt := 43) hx hb dX11_cakes_106 (by decide) ?_
              exact ih (v4_43 + 1) m_fewest_62 _ _ _ hP hD hS (lv_sub hl [0, 1, 2, 3, 4] rfl) hf
        refine L43 _ (fun v4_43 m_fewest_43 H locs ls hP hD hS hl hf => ?_) 5000 1 (upd m_fewest 0 1000000) _ _ _ hP hD hS (lv_sub hl [0, 1, 2, 3, 4] rfl) hf
        refine lv_aload_n (pc := 109) hx hb dX11_cakes_109 rfl (lv_at hl 0 rfl) ?_
        refine va_get (pc := 110) (D := D) (ci := 11) (v := .ref a_fewest) (C := RX11) (T := TX11) (N := 21) hx hb hts in_X11 hown hKa hP 0 rfl rfl 15 (by decide) (hts _ tw_720) (fun _ h9 => h9) rfl dX11_cakes_110 ?_
        refine lv_iload_n (pc := 113) hx hb dX11_cakes_113 rfl (lv_at hl 1 rfl) ?_
        obtain ⟨b_114, hf⟩ := cm_ob hf
        refine va_iald (pc := 114) hx hb hKa hP 1 0 rfl rfl b_114 dX11_cakes_114 ?_
        refine lv_iload_n (pc := 115) hx hb dX11_cakes_115 rfl (lv_at hl 2 rfl) ?_
        obtain ⟨j116, hj116, hf⟩ := cm_lt hf
        have J116 : ∀ (H : Heap) (locs : List Loc) (ls : Array Slot), va_P D vwCl [(a, .inr (11, [.ref a_book, .ref a_now, .int m_sights, .ref a_sight, .int m_signs, .ref a_pad, .int m_sold, .int m_markets, .int m_marketAt, .int m_reason, .int m_acts, .ref a_digits, .ref a_without, .ref a_with, .ref a_counts, .ref a_fewest, .ref a_ways, .ref a_more, .ref a_chooses, .ref a_image, .ref a_isKept])), cm_kI cI a_fewest 100 m_fewest_43] H → va_D A [(a, .inr (11, [.ref a_book, .ref a_now, .int m_sights, .ref a_sight, .int m_signs, .ref a_pad, .int m_sold, .int m_markets, .int m_marketAt, .int m_reason, .int m_acts, .ref a_digits, .ref a_without, .ref a_with, .ref a_counts, .ref a_fewest, .ref a_ways, .ref a_more, .ref a_chooses, .ref a_image, .ref a_isKept])), cm_kI cI a_fewest 100 m_fewest_43] → va_S A s.heap H locs → lv_has ls 6 [(0, .ref a), (1, .int v1), (3, .int v3)] → W p l e rmX11_cakes s m args below meth c H locs 0 0 Q (F0 m 124 ls [.int j116]) := by
          intro H locs ls hP hD hS hl
          refine lv_istore (pc := 124) (lv' := [(4, .int j116), (0, .ref a), (1, .int v1), (3, .int v3)]) hx hb dX11_cakes_124 hl (by decide) rfl (fun ls hl => ?_)
          refine lv_iload_n (pc := 126) hx hb dX11_cakes_126 rfl (lv_at hl 3 rfl) ?_
          refine lv_if_ne (pc := 127) (tgt := 143) hx hb dX11_cakes_127 (by decide) (fun c_127 => ?_) (fun c_127 => ?_)
          · have hf := cm_in c_127 hf
            refine lv_iload (pc := 143) hx hb dX11_cakes_143 (lv_at hl 0 rfl) ?_
            refine lv_if_eq (pc := 145) (tgt := 157) hx hb dX11_cakes_145 (by decide) (fun c_145 => ?_) (fun c_145 => ?_)
            · have hf := cm_ip c_145 hf
              refine lv_bipush (pc := 157) (v := (-6)) hx hb dX11_cakes_157 (by decide) ?_
              obtain rfl := Option.some.inj hf
              exact cm_iret (pc := 159) hAe hQ hx hb hr hlocks hP hD hS [0, 1] (by decide) rfl dX11_cakes_159
            · have hf := cm_in c_145 hf
              refine lv_aload_n (pc := 148) hx hb dX11_cakes_148 rfl (lv_at hl 1 rfl) ?_
              refine va_get (pc := 149) (D := D) (ci := 11) (v := .ref a_fewest) (C := RX11) (T := TX11) (N := 21) hx hb hts in_X11 hown hKa hP 0 rfl rfl 15 (by decide) (hts _ tw_720) (fun _ h9 => h9) rfl dX11_cakes_149 ?_
              refine lv_iload_n (pc := 152) hx hb dX11_cakes_152 rfl (lv_at hl 2 rfl) ?_
              obtain ⟨b_153, hf⟩ := cm_ob hf
              refine va_iald (pc := 153) hx hb hKa hP 1 0 rfl rfl b_153 dX11_cakes_153 ?_
              refine lv_goto (pc := 154) (tgt := 159) hx hb dX11_cakes_154 (by decide) ?_
              obtain rfl := Option.some.inj hf
              exact cm_iret (pc := 159) hAe hQ hx hb hr hlocks hP hD hS [0, 1] (by decide) rfl dX11_cakes_159
          · have hf := cm_ip c_127 hf
            refine lv_iload (pc := 130) hx hb dX11_cakes_130 (lv_at hl 0 rfl) ?_
            refine lv_if_eq (pc := 132) (tgt := 139) hx hb dX11_cakes_132 (by decide) (fun c_132 => ?_) (fun c_132 => ?_)
            · have hf := cm_ip c_132 hf
              refine lv_iconst (pc := 139) (v := 0) hx hb dX11_cakes_139 (by decide) ?_
              refine lv_goto (pc := 140) (tgt := 159) hx hb dX11_cakes_140 (by decide) ?_
              obtain rfl := Option.some.inj hf
              exact cm_iret (pc := 159) hAe hQ hx hb hr hlocks hP hD hS [0, 1] (by decide) rfl dX11_cakes_159
            · have hf := cm_in c_132 hf
              refine lv_iconst (pc := 135) (v := 1) hx hb dX11_cakes_135 (by decide) ?_
              refine lv_goto (pc := 136) (tgt := 159) hx hb dX11_cakes_136 (by decide) ?_
              obtain rfl := Option.some.inj hf
              exact cm_iret (pc := 159) hAe hQ hx hb hr hlocks hP hD hS [0, 1] (by decide) rfl dX11_cakes_159
        clear hf
        have hf := hj116
        refine lv_icmp_gt (pc := 116) (tgt := 123) hx hb dX11_cakes_116 (by decide) (fun c_116 => ?_) (fun c_116 => ?_)
        · have hf := cm_ip c_116 hf
          refine lv_iconst (pc := 123) (v := 0) hx hb dX11_cakes_123 (by decide) ?_
          obtain rfl := hf
          exact J116 _ _ _ hP hD hS (lv_sub hl [0, 1, 3] rfl)
        · have hf := cm_in c_116 hf
          refine lv_iconst (pc := 119) (v := 1) hx hb dX11_cakes_119 (by decide) ?_
          refine lv_goto (pc := 120) (tgt := 124) hx hb dX11_cakes_120 (by decide) ?_
          obtain rfl := hf
          exact J116 _ _ _ hP hD hS (lv_sub hl [0, 1, 3] rfl)
      · have hf := cm_ip c_26 hf
        refine lv_bipush (pc := 29) (v := (-2)) hx hb dX11_cakes_29 (by decide) ?_
        obtain rfl := Option.some.inj hf
        exact cm_iret (pc := 31) hAe hQ hx hb hr hlocks hP hD hS [0, 1] (by decide) rfl dX11_cakes_31
def fX11_lowest_L6 (kx : Int64 → Int64 → Option (Int64)) : Nat → Int64 → Int64 → Option (Int64)
  | 0, _, _ => none
  | n + 1, v5_6, v7_6 => (if (lg_cmp v7_6 0) = 0 then kx v5_6 v7_6 else if v7_6 = 0 then none else fX11_lowest_L6 kx n v7_6 (lrm v5_6 v7_6))
def fX11_lowest (v0 : Int64) (v2 : Int64) (v4 : Int32) : Option (Int64) := fX11_lowest_L6 (fun v5_6 v7_6 => (if v4 = 0 then if v5_6 = 0 then none else some (v0 / v5_6) else if v5_6 = 0 then none else some (v2 / v5_6))) 5000 v0 v2
def rmX11_lowest : Room := { frames := 0, cells := 0, slots := 0, locals := 0 }
set_option maxRecDepth 100000 in
set_option maxHeartbeats 4000000 in
theorem c_X11_lowest (l : Launch) (D : va_G) (cI cJ cZ cR : ClassId) (v0 : Int64) (v2 : Int64) (v4 : Int32) (res : Int64) (hf : fX11_lowest v0 v2 v4 = some res) : Ct l yX11_lowest (cm_ws yX11_lowest cX11_lowest 11 (some .long)) rmX11_lowest D (cm_T cI cJ cZ cR) [.long v0, .long v2, .int v4] [] (some (.long res)) [] := by
  refine Ct.of (cc := cX11_lowest) (maxL := 11) (ret := (some .long)) (by decide) (Nat.le_of_ble_eq_true rfl) ?_
  intro p e s m below meth c ls args A Q hav hAe hQ hx hb hr hml hown hlocks hts hK hP hD hA hS hl
  have hKa := hK.1
  have hl : lv_has ls 11 [(0, .long v0), (2, .long v2), (4, .int v4)] := hl
  unfold fX11_lowest at hf
  refine lv_lload_n (pc := 0) hx hb dX11_lowest_0 rfl (lv_at hl 0 rfl) ?_
  refine lv_lstore (pc := 1) (lv' := [(5, .long v0), (0, .long v0), (2, .long v2), (4, .int v4)]) hx hb dX11_lowest_1 hl (by decide) rfl (fun ls hl => ?_)
  refine lv_lload_n (pc := 3) hx hb dX11_lowest_3 rfl (lv_at hl 2 rfl) ?_
  refine lv_lstore (pc := 4) (lv' := [(7, .long v2), (5, .long v0), (0, .long v0), (2, .long v2), (4, .int v4)]) hx hb dX11_lowest_4 hl (by decide) rfl (fun ls hl => ?_)
  have L6 : ∀ (kx : Int64 → Int64 → Option (Int64)), (∀ (v5_6 : Int64) (v7_6 : Int64) (H : Heap) (locs : List Loc) (ls : Array Slot), va_P D vwCl [] H → va_D A [] → va_S A s.heap H locs → lv_has ls 11 [(5, .long v5_6), (0, .long v0), (2, .long v2), (4, .int v4)] → kx v5_6 v7_6 = some res → W p l e rmX11_lowest s m args below meth c H locs 0 0 Q (F0 m 31 ls [])) → ∀ (n : Nat) (v5_6 : Int64) (v7_6 : Int64) (H : Heap) (locs : List Loc) (ls : Array Slot), va_P D vwCl [] H → va_D A [] → va_S A s.heap H locs → lv_has ls 11 [(7, .long v7_6), (5, .long v5_6), (0, .long v0), (2, .long v2), (4, .int v4)] → fX11_lowest_L6 kx n v5_6 v7_6 = some res → W p l e rmX11_lowest s m args below meth c H locs 0 0 Q (F0 m 6 ls []) := by
    intro kx hkx n
    induction n with
    | zero => intro v5_6 v7_6 H locs ls hP hD hS hl hf; cases hf
    | succ n ih =>
      intro v5_6 v7_6 H locs ls hP hD hS hl hf
      rw [fX11_lowest_L6] at hf
      refine lv_lload (pc := 6) hx hb dX11_lowest_6 (lv_at hl 0 rfl) ?_
      refine lv_lconst (pc := 8) (v := 0) hx hb dX11_lowest_8 (by decide) ?_
      refine W.lcmp (pc := 9) hx hb dX11_lowest_9 ?_
      refine lv_if_eq (pc := 10) (tgt := 31) hx hb dX11_lowest_10 (by decide) (fun c_10 => ?_) (fun c_10 => ?_)
      · have hf := cm_ip c_10 hf
        exact hkx v5_6 v7_6 _ _ _ hP hD hS (lv_sub hl [1, 2, 3, 4] rfl) hf
      · have hf := cm_in c_10 hf
        refine lv_lload (pc := 13) hx hb dX11_lowest_13 (lv_at hl 1 rfl) ?_
        refine lv_lload (pc := 15) hx hb dX11_lowest_15 (lv_at hl 0 rfl) ?_
        obtain ⟨z_17, hf⟩ := cm_ob hf
        refine cm_lrem (pc := 17) hx hb dX11_lowest_17 z_17 ?_
        refine lv_lstore (pc := 18) (lv' := [(9, .long (lrm v5_6 v7_6)), (7, .long v7_6), (5, .long v5_6), (0, .long v0), (2, .long v2), (4, .int v4)]) hx hb dX11_lowest_18 hl (by decide) rfl (fun ls hl => ?_)
        refine lv_lload (pc := 20) hx hb dX11_lowest_20 (lv_at hl 1 rfl) ?_
        refine lv_lstore (pc := 22) (lv' := [(5, .long v7_6), (9, .long (lrm v5_6 v7_6)), (7, .long v7_6), (0, .long v0), (2, .long v2), (4, .int v4)]) hx hb dX11_lowest_22 hl (by decide) rfl (fun ls hl => ?_)
        refine lv_lload (pc := 24) hx hb dX11_lowest_24 (lv_at hl 1 rfl) ?_
        refine lv_lstore (pc := 26) (lv' := [(7, .long (lrm v5_6 v7_6)), (5, .long v7_6), (9, .long (lrm v5_6 v7_6)), (0, .long v0), (2, .long v2), (4, .int v4)]) hx hb dX11_lowest_26 hl (by decide) rfl (fun ls hl => ?_)
        refine lv_goto (pc := 28) (tgt := 6) hx hb dX11_lowest_28 (by decide) ?_
        exact ih v7_6 (lrm v5_6 v7_6) _ _ _ hP hD hS (lv_sub hl [0, 1, 3, 4, 5] rfl) hf
  refine L6 _ (fun v5_6 v7_6 H locs ls hP hD hS hl hf => ?_) 5000 v0 v2 _ _ _ hP hD hS (lv_sub hl [0, 1, 2, 3, 4] rfl) hf
  refine lv_iload (pc := 31) hx hb dX11_lowest_31 (lv_at hl 3 rfl) ?_
  refine lv_if_ne (pc := 33) (tgt := 43) hx hb dX11_lowest_33 (by decide) (fun c_33 => ?_) (fun c_33 => ?_)
  · have hf := cm_in c_33 hf
    refine lv_lload_n (pc := 43) hx hb dX11_lowest_43 rfl (lv_at hl 2 rfl) ?_
    refine lv_lload (pc := 44) hx hb dX11_lowest_44 (lv_at hl 0 rfl) ?_
    obtain ⟨z_46, hf⟩ := cm_ob hf
    refine lv_ldiv (pc := 46) hx hb dX11_lowest_46 z_46 ?_
    obtain rfl := Option.some.inj hf
    exact cm_lret (pc := 47) hAe hQ hx hb hr hlocks hP hD hS [] (by decide) rfl dX11_lowest_47
  · have hf := cm_ip c_33 hf
    refine lv_lload_n (pc := 36) hx hb dX11_lowest_36 rfl (lv_at hl 1 rfl) ?_
    refine lv_lload (pc := 37) hx hb dX11_lowest_37 (lv_at hl 0 rfl) ?_
    obtain ⟨z_39, hf⟩ := cm_ob hf
    refine lv_ldiv (pc := 39) hx hb dX11_lowest_39 z_39 ?_
    refine lv_goto (pc := 40) (tgt := 47) hx hb dX11_lowest_40 (by decide) ?_
    obtain rfl := Option.some.inj hf
    exact cm_lret (pc := 47) hAe hQ hx hb hr hlocks hP hD hS [] (by decide) rfl dX11_lowest_47
def fX11_rung_L64 (v1 : Int32) (v2 : Int32) (kx : Int64 → Int64 → Int32 → Option (Int64 × (Nat → Int64) × (Nat → Int64) × (Nat → Int64))) : Nat → Int64 → Int64 → Int32 → Option (Int64 × (Nat → Int64) × (Nat → Int64) × (Nat → Int64))
  | 0, _, _, _ => none
  | n + 1, v6_64, v8_64, v10_64 => (if v1 ≤ v10_64 then kx v6_64 v8_64 v10_64 else fX11_rung_L64 v1 v2 kx n (v6_64 * ((v2).toInt64)) (v8_64 * (((v2 - 1)).toInt64)) (v10_64 + 1))
def fX11_rung_L111 (kx : Int32 → (Nat → Int64) → Option (Int64 × (Nat → Int64) × (Nat → Int64) × (Nat → Int64))) : Nat → Int32 → (Nat → Int64) → Option (Int64 × (Nat → Int64) × (Nat → Int64) × (Nat → Int64))
  | 0, _, _ => none
  | n + 1, v10_111, m_chooses_111 => (if 169 ≤ v10_111 then kx v10_111 m_chooses_111 else (if (irm v10_111 13) = 0 then if v10_111 < 0 ∨ 169 ≤ v10_111.toNatClampNeg then none else fX11_rung_L111 kx n (v10_111 + 1) (vp_updL m_chooses_111 v10_111.toNatClampNeg 1) else (if 13 ≤ v10_111 then if (v10_111 - 13) < 0 ∨ 169 ≤ (v10_111 - 13).toNatClampNeg then none else if (v10_111 - 14) < 0 ∨ 169 ≤ (v10_111 - 14).toNatClampNeg then none else if v10_111 < 0 ∨ 169 ≤ v10_111.toNatClampNeg then none else fX11_rung_L111 kx n (v10_111 + 1) (vp_updL m_chooses_111 v10_111.toNatClampNeg ((m_chooses_111 (v10_111 - 13).toNatClampNeg) + (m_chooses_111 (v10_111 - 14).toNatClampNeg))) else if v10_111 < 0 ∨ 169 ≤ v10_111.toNatClampNeg then none else fX11_rung_L111 kx n (v10_111 + 1) (vp_updL m_chooses_111 v10_111.toNatClampNeg 0))))
def fX11_rung_L191 (v1 : Int32) (v12_182 : Int32) (m_chooses_111 : (Nat → Int64)) (kx : Int32 → (Nat → Int64) → Option (Int64 × (Nat → Int64) × (Nat → Int64) × (Nat → Int64))) : Nat → Int32 → (Nat → Int64) → Option (Int64 × (Nat → Int64) × (Nat → Int64) × (Nat → Int64))
  | 0, _, _ => none
  | n + 1, v13_191, m_ways_191 => (if 13 ≤ v13_191 then kx v13_191 m_ways_191 else (if v13_191 = (v1 - v12_182) then if ((13 * v1) + v12_182) < 0 ∨ 169 ≤ ((13 * v1) + v12_182).toNatClampNeg then none else if v13_191 < 0 ∨ 13 ≤ v13_191.toNatClampNeg then none else fX11_rung_L191 v1 v12_182 m_chooses_111 kx n (v13_191 + 1) (vp_updL m_ways_191 v13_191.toNatClampNeg (m_chooses_111 ((13 * v1) + v12_182).toNatClampNeg)) else if v13_191 < 0 ∨ 13 ≤ v13_191.toNatClampNeg then none else fX11_rung_L191 v1 v12_182 m_chooses_111 kx n (v13_191 + 1) (vp_updL m_ways_191 v13_191.toNatClampNeg 0)))
def fX11_rung_L287 (v15_265 : Int32) (m_ways_239 : (Nat → Int64)) (m_chooses_111 : (Nat → Int64)) (kx : Int32 → (Nat → Int64) → Option (Int64 × (Nat → Int64) × (Nat → Int64) × (Nat → Int64))) : Nat → Int32 → (Nat → Int64) → Option (Int64 × (Nat → Int64) × (Nat → Int64) × (Nat → Int64))
  | 0, _, _ => none
  | n + 1, v16_287, m_more_287 => (if 13 ≤ v16_287 then kx v16_287 m_more_287 else if v15_265 < 0 ∨ 13 ≤ v15_265.toNatClampNeg then none else if v16_287 < 0 ∨ 13 ≤ v16_287.toNatClampNeg then none else if (((13 * v16_287) + v16_287) - v15_265) < 0 ∨ 169 ≤ (((13 * v16_287) + v16_287) - v15_265).toNatClampNeg then none else if v15_265 < 0 ∨ 13 ≤ v15_265.toNatClampNeg then none else fX11_rung_L287 v15_265 m_ways_239 m_chooses_111 kx n (v16_287 + 1) (vp_updL m_more_287 v15_265.toNatClampNeg ((m_more_287 v15_265.toNatClampNeg) + ((m_ways_239 v16_287.toNatClampNeg) * (m_chooses_111 (((13 * v16_287) + v16_287) - v15_265).toNatClampNeg)))))
def fX11_rung_L265 (j248 : Int32) (m_ways_239 : (Nat → Int64)) (m_chooses_111 : (Nat → Int64)) (kx : Int32 → (Nat → Int64) → Option (Int64 × (Nat → Int64) × (Nat → Int64) × (Nat → Int64))) : Nat → Int32 → (Nat → Int64) → Option (Int64 × (Nat → Int64) × (Nat → Int64) × (Nat → Int64))
  | 0, _, _ => none
  | n + 1, v15_265, m_more_265 => (if 13 ≤ v15_265 then kx v15_265 m_more_265 else if v15_265 < 0 ∨ 13 ≤ v15_265.toNatClampNeg then none else fX11_rung_L287 v15_265 m_ways_239 m_chooses_111 (fun v16_287 m_more_287 => fX11_rung_L265 j248 m_ways_239 m_chooses_111 kx n (v15_265 + 1) m_more_287) 5000 (v15_265 + j248) (vp_updL m_more_265 v15_265.toNatClampNeg 0))
def fX11_rung_L343 (v3 : Int32) (v13_239 : Int32) (m_more_265 : (Nat → Int64)) (kx : Int32 → (Nat → Int64) → Option (Int64 × (Nat → Int64) × (Nat → Int64) × (Nat → Int64))) : Nat → Int32 → (Nat → Int64) → Option (Int64 × (Nat → Int64) × (Nat → Int64) × (Nat → Int64))
  | 0, _, _ => none
  | n + 1, v15_343, m_ways_343 => (if 13 ≤ v15_343 then kx v15_343 m_ways_343 else (if v13_239 = v3 then kx v15_343 m_ways_343 else if v15_343 < 0 ∨ 13 ≤ v15_343.toNatClampNeg then none else if v15_343 < 0 ∨ 13 ≤ v15_343.toNatClampNeg then none else fX11_rung_L343 v3 v13_239 m_more_265 kx n (v15_343 + 1) (vp_updL m_ways_343 v15_343.toNatClampNeg (m_more_265 v15_343.toNatClampNeg))))
def fX11_rung_L239 (v2 : Int32) (v3 : Int32) (v12_182 : Int32) (m_chooses_111 : (Nat → Int64)) (kx : Int32 → (Nat → Int64) → (Nat → Int64) → Option (Int64 × (Nat → Int64) × (Nat → Int64) × (Nat → Int64))) : Nat → Int32 → (Nat → Int64) → (Nat → Int64) → Option (Int64 × (Nat → Int64) × (Nat → Int64) × (Nat → Int64))
  | 0, _, _, _ => none
  | n + 1, v13_239, m_ways_239, m_more_239 => (if v2 ≤ v13_239 then kx v13_239 m_ways_239 m_more_239 else cm_let ((if v3 ≤ v13_239 then v12_182 else (v12_182 + 1)) : Int32) (fun j248 => fX11_rung_L265 j248 m_ways_239 m_chooses_111 (fun v15_265 m_more_265 => fX11_rung_L343 v3 v13_239 m_more_265 (fun v15_343 m_ways_343 => fX11_rung_L239 v2 v3 v12_182 m_chooses_111 kx n (v13_239 + 1) m_ways_343 m_more_265) 5000 0 m_ways_239) 5000 0 m_more_239))
def fX11_rung_L182 (v1 : Int32) (v2 : Int32) (v3 : Int32) (m_chooses_111 : (Nat → Int64)) (kx : Int64 → Int32 → (Nat → Int64) → (Nat → Int64) → Option (Int64 × (Nat → Int64) × (Nat → Int64) × (Nat → Int64))) : Nat → Int64 → Int32 → (Nat → Int64) → (Nat → Int64) → Option (Int64 × (Nat → Int64) × (Nat → Int64) × (Nat → Int64))
  | 0, _, _, _, _ => none
  | n + 1, v10_182, v12_182, m_ways_182, m_more_182 => (if v1 < v12_182 then kx v10_182 v12_182 m_ways_182 m_more_182 else fX11_rung_L191 v1 v12_182 m_chooses_111 (fun v13_191 m_ways_191 => fX11_rung_L239 v2 v3 v12_182 m_chooses_111 (fun v13_239 m_ways_239 m_more_239 => fX11_rung_L182 v1 v2 v3 m_chooses_111 kx n (v10_182 + (m_ways_239 0)) (v12_182 + 1) m_ways_239 m_more_239) 5000 0 m_ways_191 m_more_182) 5000 0 m_ways_182)
def fX11_rung (v1 : Int32) (v2 : Int32) (v3 : Int32) (v4 : Int32) (v5 : Int32) (m_ways : (Nat → Int64)) (m_more : (Nat → Int64)) (m_chooses : (Nat → Int64)) : Option (Int64 × (Nat → Int64) × (Nat → Int64) × (Nat → Int64)) := cm_let (fX11_in v1 0 12) (fun u4 => (if u4 = 0 then some ((-1000000000000000002), m_ways, m_more, m_chooses) else cm_let (fX11_in v2 1 7) (fun u14 => (if u14 = 0 then some ((-1000000000000000002), m_ways, m_more, m_chooses) else cm_let (fX11_in v3 0 (v2 - 1)) (fun u25 => (if u25 = 0 then some ((-1000000000000000002), m_ways, m_more, m_chooses) else cm_let (fX11_in v4 0 1) (fun u35 => (if u35 = 0 then some ((-1000000000000000002), m_ways, m_more, m_chooses) else cm_let (fX11_in v5 0 1) (fun u45 => (if u45 = 0 then some ((-1000000000000000002), m_ways, m_more, m_chooses) else fX11_rung_L64 v1 v2 (fun v6_64 v8_64 v10_64 => (if v4 = 1 then Option.bind (fX11_lowest v8_64 v6_64 v5) (fun u104 => some (u104, m_ways, m_more, m_chooses)) else fX11_rung_L111 (fun v10_111 m_chooses_111 => fX11_rung_L182 v1 v2 v3 m_chooses_111 (fun v10_182 v12_182 m_ways_182 m_more_182 => Option.bind (fX11_lowest v10_182 v6_64 v5) (fun u405 => some (u405, m_ways_182, m_more_182, m_chooses_111))) 5000 0 0 m_ways m_more) 5000 0 m_chooses)) 5000 1 1 0))))))))))
def rmX11_rung : Room := { frames := 1, cells := 0, slots := 0, locals := 30 }
set_option maxRecDepth 100000 in
set_option maxHeartbeats 4000000 in
theorem c_X11_rung (l : Launch) (D : va_G) (cI cJ cZ cR : ClassId) (a a_book a_now a_sight a_pad a_digits a_without a_with a_counts a_fewest a_ways a_more a_chooses a_image a_isKept : Nat) (m_sights : Int32) (m_signs : Int32) (m_sold : Int32) (m_markets : Int32) (m_marketAt : Int32) (m_reason : Int32) (m_acts : Int32) (m_ways : (Nat → Int64)) (m_more : (Nat → Int64)) (m_chooses : (Nat → Int64)) (v1 : Int32) (v2 : Int32) (v3 : Int32) (v4 : Int32) (v5 : Int32) (res : Int64 × (Nat → Int64) × (Nat → Int64) × (Nat → Int64)) (hf : fX11_rung v1 v2 v3 v4 v5 m_ways m_more m_chooses = some res) : Ct l yX11_rung (cm_ws yX11_rung cX11_rung 17 (some .long)) rmX11_rung D (cm_T cI cJ cZ cR) [.ref a, .int v1, .int v2, .int v3, .int v4, .int v5] [(a, .inr (11, [.ref a_book, .ref a_now, .int m_sights, .ref a_sight, .int m_signs, .ref a_pad, .int m_sold, .int m_markets, .int m_marketAt, .int m_reason, .int m_acts, .ref a_digits, .ref a_without, .ref a_with, .ref a_counts, .ref a_fewest, .ref a_ways, .ref a_more, .ref a_chooses, .ref a_image, .ref a_isKept])), cm_kJ cJ a_ways 13 m_ways, cm_kJ cJ a_more 13 m_more, cm_kJ cJ a_chooses 169 m_chooses] (some (.long res.1)) [(a, .inr (11, [.ref a_book, .ref a_now, .int m_sights, .ref a_sight, .int m_signs, .ref a_pad, .int m_sold, .int m_markets, .int m_marketAt, .int m_reason, .int m_acts, .ref a_digits, .ref a_without, .ref a_with, .ref a_counts, .ref a_fewest, .ref a_ways, .ref a_more, .ref a_chooses, .ref a_image, .ref a_isKept])), cm_kJ cJ a_ways 13 res.2.1, cm_kJ cJ a_more 13 res.2.2.1, cm_kJ cJ a_chooses 169 res.2.2.2] := by
  refine Ct.of (cc := cX11_rung) (maxL := 17) (ret := (some .long)) (by decide) (Nat.le_of_ble_eq_true rfl) ?_
  intro p e s m below meth c ls args A Q hav hAe hQ hx hb hr hml hown hlocks hts hK hP hD hA hS hl
  have hKa := hK.1
  have hl : lv_has ls 17 [(0, .ref a), (1, .int v1), (2, .int v2), (3, .int v3), (4, .int v4), (5, .int v5)] := hl
  unfold fX11_rung at hf
  refine lv_iload_n (pc := 0) hx hb dX11_rung_0 rfl (lv_at hl 1 rfl) ?_
  refine lv_iconst (pc := 1) (v := 0) hx hb dX11_rung_1 (by decide) ?_
  refine lv_bipush (pc := 2) (v := 12) hx hb dX11_rung_2 (by decide) ?_
  obtain ⟨u4, hu4, hf⟩ := cm_lt hf
  refine cm_callS (pc := 4) (As := [.int v1, .int 0, .int 12]) (rest := []) (wr := [(a, .inr (11, [.ref a_book, .ref a_now, .int m_sights, .ref a_sight, .int m_signs, .ref a_pad, .int m_sold, .int m_markets, .int m_marketAt, .int m_reason, .int m_acts, .ref a_digits, .ref a_without, .ref a_with, .ref a_counts, .ref a_fewest, .ref a_ways, .ref a_more, .ref a_chooses, .ref a_image, .ref a_isKept])), cm_kJ cJ a_ways 13 m_ways, cm_kJ cJ a_more 13 m_more, cm_kJ cJ a_chooses 169 m_chooses]) (n := 3) hx hb hml hown hts hK hP hD hS hA (c_X11_in l D cI cJ cZ cR v1 0 12 u4 hu4) tw_776 tw_774 tw_775 tw_55 rfl rfl (by decide +kernel) rfl ⟨Nat.le_of_ble_eq_true rfl, Nat.le_of_ble_eq_true rfl⟩ [] [0, 1, 2, 3] rfl (by decide) rfl (by decide) (by decide) hl.1 rfl (Nat.le_of_ble_eq_true rfl) dX11_rung_4 ⟨Nat.zero_le _, Nat.zero_le _⟩ (fun H locs hP hD hS => ?_)
  have hP : va_P D vwCl [(a, .inr (11, [.ref a_book, .ref a_now, .int m_sights, .ref a_sight, .int m_signs, .ref a_pad, .int m_sold, .int m_markets, .int m_marketAt, .int m_reason, .int m_acts, .ref a_digits, .ref a_without, .ref a_with, .ref a_counts, .ref a_fewest, .ref a_ways, .ref a_more, .ref a_chooses, .ref a_image, .ref a_isKept])), cm_kJ cJ a_ways 13 m_ways, cm_kJ cJ a_more 13 m_more, cm_kJ cJ a_chooses 169 m_chooses] H := hP
  have hD : va_D A [(a, .inr (11, [.ref a_book, .ref a_now, .int m_sights, .ref a_sight, .int m_signs, .ref a_pad, .int m_sold, .int m_markets, .int m_marketAt, .int m_reason, .int m_acts, .ref a_digits, .ref a_without, .ref a_with, .ref a_counts, .ref a_fewest, .ref a_ways, .ref a_more, .ref a_chooses, .ref a_image, .ref a_isKept])), cm_kJ cJ a_ways 13 m_ways, cm_kJ cJ a_more 13 m_more, cm_kJ cJ a_chooses 169 m_chooses] := hD
  refine W.eq (g2 := F0 m 7 ls [.int u4]) rfl ?_
  refine lv_if_eq (pc := 7) (tgt := 51) hx hb dX11_rung_7 (by decide) (fun c_7 => ?_) (fun c_7 => ?_)
  · have hf := cm_ip c_7 hf
    refine lv_ldc2 (pc := 51) (v := (-1000000000000000002)) hx hb hown (hts _ tw_932) dX11_rung_51 ?_
    obtain rfl := Option.some.inj hf
    exact cm_lret (pc := 54) hAe hQ hx hb hr hlocks hP hD hS [0, 1, 2, 3] (by decide) rfl dX11_rung_54
  · have hf := cm_in c_7 hf
    refine lv_iload_n (pc := 10) hx hb dX11_rung_10 rfl (lv_at hl 2 rfl) ?_
    refine lv_iconst (pc := 11) (v := 1) hx hb dX11_rung_11 (by decide) ?_
    refine lv_bipush (pc := 12) (v := 7) hx hb dX11_rung_12 (by decide) ?_
    obtain ⟨u14, hu14, hf⟩ := cm_lt hf
    refine cm_callS (pc := 14) (As := [.int v2, .int 1, .int 7]) (rest := []) (wr := [(a, .inr (11, [.ref a_book, .ref a_now, .int m_sights, .ref a_sight, .int m_signs, .ref a_pad, .int m_sold, .int m_markets, .int m_marketAt, .int m_reason, .int m_acts, .ref a_digits, .ref a_without, .ref a_with, .ref a_counts, .ref a_fewest, .ref a_ways, .ref a_more, .ref a_chooses, .ref a_image, .ref a_isKept])), cm_kJ cJ a_ways 13 m_ways, cm_kJ cJ a_more 13 m_more, cm_kJ cJ a_chooses 169 m_chooses]) (n := 3) hx hb hml hown hts hK hP hD hS hA (c_X11_in l D cI cJ cZ cR v2 1 7 u14 hu14) tw_776 tw_774 tw_775 tw_55 rfl rfl (by decide +kernel) rfl ⟨Nat.le_of_ble_eq_true rfl, Nat.le_of_ble_eq_true rfl⟩ [] [0, 1, 2, 3] rfl (by decide) rfl (by decide) (by decide) hl.1 rfl (Nat.le_of_ble_eq_true rfl) dX11_rung_14 ⟨Nat.zero_le _, Nat.zero_le _⟩ (fun H locs hP hD hS => ?_)
    have hP : va_P D vwCl [(a, .inr (11, [.ref a_book, .ref a_now, .int m_sights, .ref a_sight, .int m_signs, .ref a_pad, .int m_sold, .int m_markets, .int m_marketAt, .int m_reason, .int m_acts, .ref a_digits, .ref a_without, .ref a_with, .ref a_counts, .ref a_fewest, .ref a_ways, .ref a_more, .ref a_chooses, .ref a_image, .ref a_isKept])), cm_kJ cJ a_ways 13 m_ways, cm_kJ cJ a_more 13 m_more, cm_kJ cJ a_chooses 169 m_chooses] H := hP
    have hD : va_D A [(a, .inr (11, [.ref a_book, .ref a_now, .int m_sights, .ref a_sight, .int m_signs, .ref a_pad, .int m_sold, .int m_markets, .int m_marketAt, .int m_reason, .int m_acts, .ref a_digits, .ref a_without, .ref a_with, .ref a_counts, .ref a_fewest, .ref a_ways, .ref a_more, .ref a_chooses, .ref a_image, .ref a_isKept])), cm_kJ cJ a_ways 13 m_ways, cm_kJ cJ a_more 13 m_more, cm_kJ cJ a_chooses 169 m_chooses] := hD
    refine W.eq (g2 := F0 m 17 ls [.int u14]) rfl ?_
    refine lv_if_eq (pc := 17) (tgt := 51) hx hb dX11_rung_17 (by decide) (fun c_17 => ?_) (fun c_17 => ?_)
    · have hf := cm_ip c_17 hf
      refine lv_ldc2 (pc := 51) (v := (-1000000000000000002)) hx hb hown (hts _ tw_932) dX11_rung_51 ?_
      obtain rfl := Option.some.inj hf
      exact cm_lret (pc := 54) hAe hQ hx hb hr hlocks hP hD hS [0, 1, 2, 3] (by decide) rfl dX11_rung_54
    · have hf := cm_in c_17 hf
      refine lv_iload_n (pc := 20) hx hb dX11_rung_20 rfl (lv_at hl 3 rfl) ?_
      refine lv_iconst (pc := 21) (v := 0) hx hb dX11_rung_21 (by decide) ?_
      refine lv_iload_n (pc := 22) hx hb dX11_rung_22 rfl (lv_at hl 2 rfl) ?_
      refine lv_iconst (pc := 23) (v := 1) hx hb dX11_rung_23 (by decide) ?_
      refine lv_isub (pc := 24) hx hb dX11_rung_24 ?_
      obtain ⟨u25, hu25, hf⟩ := cm_lt hf
      refine cm_callS (pc := 25) (As := [.int v3, .int 0, .int (v2 - 1)]) (rest := []) (wr := [(a, .inr (11, [.ref a_book, .ref a_now, .int m_sights, .ref a_sight, .int m_signs, .ref a_pad, .int m_sold, .int m_markets, .int m_marketAt, .int m_reason, .int m_acts, .ref a_digits, .ref a_without, .ref a_with, .ref a_counts, .ref a_fewest, .ref a_ways, .ref a_more, .ref a_chooses, .ref a_image, .ref a_isKept])), cm_kJ cJ a_ways 13 m_ways, cm_kJ cJ a_more 13 m_more, cm_kJ cJ a_chooses 169 m_chooses]) (n := 3) hx hb hml hown hts hK hP hD hS hA (c_X11_in l D cI cJ cZ cR v3 0 (v2 - 1) u25 hu25) tw_776 tw_774 tw_775 tw_55 rfl rfl (by decide +kernel) rfl ⟨Nat.le_of_ble_eq_true rfl, Nat.le_of_ble_eq_true rfl⟩ [] [0, 1, 2, 3] rfl (by decide) rfl (by decide) (by decide) hl.1 rfl (Nat.le_of_ble_eq_true rfl) dX11_rung_25 ⟨Nat.zero_le _, Nat.zero_le _⟩ (fun H locs hP hD hS => ?_)
      have hP : va_P D vwCl [(a, .inr (11, [.ref a_book, .ref a_now, .int m_sights, .ref a_sight, .int m_signs, .ref a_pad, .int m_sold, .int m_markets, .int m_marketAt, .int m_reason, .int m_acts, .ref a_digits, .ref a_without, .ref a_with, .ref a_counts, .ref a_fewest, .ref a_ways, .ref a_more, .ref a_chooses, .ref a_image, .ref a_isKept])), cm_kJ cJ a_ways 13 m_ways, cm_kJ cJ a_more 13 m_more, cm_kJ cJ a_chooses 169 m_chooses] H := hP
      have hD : va_D A [(a, .inr (11, [.ref a_book, .ref a_now, .int m_sights, .ref a_sight, .int m_signs, .ref a_pad, .int m_sold, .int m_markets, .int m_marketAt, .int m_reason, .int m_acts, .ref a_digits, .ref a_without, .ref a_with, .ref a_counts, .ref a_fewest, .ref a_ways, .ref a_more, .ref a_chooses, .ref a_image, .ref a_isKept])), cm_kJ cJ a_ways 13 m_ways, cm_kJ cJ a_more 13 m_more, cm_kJ cJ a_chooses 169 m_chooses] := hD
      refine W.eq (g2 := F0 m 28 ls [.int u25]) rfl ?_
      refine lv_if_eq (pc := 28) (tgt := 51) hx hb dX11_rung_28 (by decide) (fun c_28 => ?_) (fun c_28 => ?_)
      · have hf := cm_ip c_28 hf
        refine lv_ldc2 (pc := 51) (v := (-1000000000000000002)) hx hb hown (hts _ tw_932) dX11_rung_51 ?_
        obtain rfl := Option.some.inj hf
        exact cm_lret (pc := 54) hAe hQ hx hb hr hlocks hP hD hS [0, 1, 2, 3] (by decide) rfl dX11_rung_54
      · have hf := cm_in c_28 hf
        refine lv_iload (pc := 31) hx hb dX11_rung_31 (lv_at hl 4 rfl) ?_
        refine lv_iconst (pc := 33) (v := 0) hx hb dX11_rung_33 (by decide) ?_
        refine lv_iconst (pc := 34) (v := 1) hx hb dX11_rung_34 (by decide) ?_
        obtain ⟨u35, hu35, hf⟩ := cm_lt hf
        refine cm_callS (pc := 35) (As := [.int v4, .int 0, .int 1]) (rest := []) (wr := [(a, .inr (11, [.ref a_book, .ref a_now, .int m_sights, .ref a_sight, .int m_signs, .ref a_pad, .int m_sold, .int m_markets, .int m_marketAt, .int m_reason, .int m_acts, .ref a_digits, .ref a_without, .ref a_with, .ref a_counts, .ref a_fewest, .ref a_ways, .ref a_more, .ref a_chooses, .ref a_image, .ref a_isKept])), cm_kJ cJ a_ways 13 m_ways, cm_kJ cJ a_more 13 m_more, cm_kJ cJ a_chooses 169 m_chooses]) (n := 3) hx hb hml hown hts hK hP hD hS hA (c_X11_in l D cI cJ cZ cR v4 0 1 u35 hu35) tw_776 tw_774 tw_775 tw_55 rfl rfl (by decide +kernel) rfl ⟨Nat.le_of_ble_eq_true rfl, Nat.le_of_ble_eq_true rfl⟩ [] [0, 1, 2, 3] rfl (by decide) rfl (by decide) (by decide) hl.1 rfl (Nat.le_of_ble_eq_true rfl) dX11_rung_35 ⟨Nat.zero_le _, Nat.zero_le _⟩ (fun H locs hP hD hS => ?_)
        have hP : va_P D vwCl [(a, .inr (11, [.ref a_book, .ref a_now, .int m_sights, .ref a_sight, .int m_signs, .ref a_pad, .int m_sold, .int m_markets, .int m_marketAt, .int m_reason, .int m_acts, .ref a_digits, .ref a_without, .ref a_with, .ref a_counts, .ref a_fewest, .ref a_ways, .ref a_more, .ref a_chooses, .ref a_image, .ref a_isKept])), cm_kJ cJ a_ways 13 m_ways, cm_kJ cJ a_more 13 m_more, cm_kJ cJ a_chooses 169 m_chooses] H := hP
        have hD : va_D A [(a, .inr (11, [.ref a_book, .ref a_now, .int m_sights, .ref a_sight, .int m_signs, .ref a_pad, .int m_sold, .int m_markets, .int m_marketAt, .int m_reason, .int m_acts, .ref a_digits, .ref a_without, .ref a_with, .ref a_counts, .ref a_fewest, .ref a_ways, .ref a_more, .ref a_chooses, .ref a_image, .ref a_isKept])), cm_kJ cJ a_ways 13 m_ways, cm_kJ cJ a_more 13 m_more, cm_kJ cJ a_chooses 169 m_chooses] := hD
        refine W.eq (g2 := F0 m 38 ls [.int u35]) rfl ?_
        refine lv_if_eq (pc := 38) (tgt := 51) hx hb dX11_rung_38 (by decide) (fun c_38 => ?_) (fun c_38 => ?_)
        · have hf := cm_ip c_38 hf
          refine lv_ldc2 (pc := 51) (v := (-1000000000000000002)) hx hb hown (hts _ tw_932) dX11_rung_51 ?_
          obtain rfl := Option.some.inj hf
          exact cm_lret (pc := 54) hAe hQ hx hb hr hlocks hP hD hS [0, 1, 2, 3] (by decide) rfl dX11_rung_54
        · have hf := cm_in c_38 hf
          refine lv_iload (pc := 41) hx hb dX11_rung_41 (lv_at hl 5 rfl) ?_
          refine lv_iconst (pc := 43) (v := 0) hx hb dX11_rung_43 (by decide) ?_
          refine lv_iconst (pc := 44) (v := 1) hx hb dX11_rung_44 (by decide) ?_
          obtain ⟨u45, hu45, hf⟩ := cm_lt hf
          refine cm_callS (pc := 45) (As := [.int v5, .int 0, .int 1]) (rest := []) (wr := [(a, .inr (11, [.ref a_book, .ref a_now, .int m_sights, .ref a_sight, .int m_signs, .ref a_pad, .int m_sold, .int m_markets, .int m_marketAt, .int m_reason, .int m_acts, .ref a_digits, .ref a_without, .ref a_with, .ref a_counts, .ref a_fewest, .ref a_ways, .ref a_more, .ref a_chooses, .ref a_image, .ref a_isKept])), cm_kJ cJ a_ways 13 m_ways, cm_kJ cJ a_more 13 m_more, cm_kJ cJ a_chooses 169 m_chooses]) (n := 3) hx hb hml hown hts hK hP hD hS hA (c_X11_in l D cI cJ cZ cR v5 0 1 u45 hu45) tw_776 tw_774 tw_775 tw_55 rfl rfl (by decide +kernel) rfl ⟨Nat.le_of_ble_eq_true rfl, Nat.le_of_ble_eq_true rfl⟩ [] [0, 1, 2, 3] rfl (by decide) rfl (by decide) (by decide) hl.1 rfl (Nat.le_of_ble_eq_true rfl) dX11_rung_45 ⟨Nat.zero_le _, Nat.zero_le _⟩ (fun H locs hP hD hS => ?_)
          have hP : va_P D vwCl [(a, .inr (11, [.ref a_book, .ref a_now, .int m_sights, .ref a_sight, .int m_signs, .ref a_pad, .int m_sold, .int m_markets, .int m_marketAt, .int m_reason, .int m_acts, .ref a_digits, .ref a_without, .ref a_with, .ref a_counts, .ref a_fewest, .ref a_ways, .ref a_more, .ref a_chooses, .ref a_image, .ref a_isKept])), cm_kJ cJ a_ways 13 m_ways, cm_kJ cJ a_more 13 m_more, cm_kJ cJ a_chooses 169 m_chooses] H := hP
          have hD : va_D A [(a, .inr (11, [.ref a_book, .ref a_now, .int m_sights, .ref a_sight, .int m_signs, .ref a_pad, .int m_sold, .int m_markets, .int m_marketAt, .int m_reason, .int m_acts, .ref a_digits, .ref a_without, .ref a_with, .ref a_counts, .ref a_fewest, .ref a_ways, .ref a_more, .ref a_chooses, .ref a_image, .ref a_isKept])), cm_kJ cJ a_ways 13 m_ways, cm_kJ cJ a_more 13 m_more, cm_kJ cJ a_chooses 169 m_chooses] := hD
          refine W.eq (g2 := F0 m 48 ls [.int u45]) rfl ?_
          refine lv_if_ne (pc := 48) (tgt := 55) hx hb dX11_rung_48 (by decide) (fun c_48 => ?_) (fun c_48 => ?_)
          · have hf := cm_in c_48 hf
            refine lv_lconst (pc := 55) (v := 1) hx hb dX11_rung_55 (by decide) ?_
            refine lv_lstore (pc := 56) (lv' := [(6, .long 1), (0, .ref a), (1, .int v1), (2, .int v2), (3, .int v3), (4, .int v4), (5, .int v5)]) hx hb dX11_rung_56 hl (by decide) rfl (fun ls hl => ?_)
            refine lv_lconst (pc := 58) (v := 1) hx hb dX11_rung_58 (by decide) ?_
            refine lv_lstore (pc := 59) (lv' := [(8, .long 1), (6, .long 1), (0, .ref a), (1, .int v1), (2, .int v2), (3, .int v3), (4, .int v4), (5, .int v5)]) hx hb dX11_rung_59 hl (by decide) rfl (fun ls hl => ?_)
            refine lv_iconst (pc := 61) (v := 0) hx hb dX11_rung_61 (by decide) ?_
            refine lv_istore (pc := 62) (lv' := [(10, .int 0), (8, .long 1), (6, .long 1), (0, .ref a), (1, .int v1), (2, .int v2), (3, .int v3), (4, .int v4), (5, .int v5)]) hx hb dX11_rung_62 hl (by decide) rfl (fun ls hl => ?_)
            have L64 : ∀ (kx : Int64 → Int64 → Int32 → Option (Int64 × (Nat → Int64) × (Nat → Int64) × (Nat → Int64))), (∀ (v6_64 : Int64) (v8_64 : Int64) (v10_64 : Int32) (H : Heap) (locs : List Loc) (ls : Array Slot), va_P D vwCl [(a, .inr (11, [.ref a_book, .ref a_now, .int m_sights, .ref a_sight, .int m_signs, .ref a_pad, .int m_sold, .int m_markets, .int m_marketAt, .int m_reason, .int m_acts, .ref a_digits, .ref a_without, .ref a_with, .ref a_counts, .ref a_fewest, .ref a_ways, .ref a_more, .ref a_chooses, .ref a_image, .ref a_isKept])), cm_kJ cJ a_ways 13 m_ways, cm_kJ cJ a_more 13 m_more, cm_kJ cJ a_chooses 169 m_chooses] H → va_D A [(a, .inr (11, [.ref a_book, .ref a_now, .int m_sights, .ref a_sight, .int m_signs, .ref a_pad, .int m_sold, .int m_markets, .int m_marketAt, .int m_reason, .int m_acts, .ref a_digits, .ref a_without, .ref a_with, .ref a_counts, .ref a_fewest, .ref a_ways, .ref a_more, .ref a_chooses, .ref a_image, .ref a_isKept])), cm_kJ cJ a_ways 13 m_ways, cm_kJ cJ a_more 13 m_more, cm_kJ cJ a_chooses 169 m_chooses] → va_S A s.heap H locs → lv_has ls 17 [(8, .long v8_64), (6, .long v6_64), (0, .ref a), (1, .int v1), (2, .int v2), (3, .int v3), (4, .int v4), (5, .int v5)] → kx v6_64 v8_64 v10_64 = some res → W p l e rmX11_rung s m args below meth c H locs 0 0 Q (F0 m 92 ls [])) → ∀ (n : Nat) (v6_64 : Int64) (v8_64 : Int64) (v10_64 : Int32) (H : Heap) (locs : List Loc) (ls : Array Slot), va_P D vwCl [(a, .inr (11, [.ref a_book, .ref a_now, .int m_sights, .ref a_sight, .int m_signs, .ref a_pad, .int m_sold, .int m_markets, .int m_marketAt, .int m_reason, .int m_acts, .ref a_digits, .ref a_without, .ref a_with, .ref a_counts, .ref a_fewest, .ref a_ways, .ref a_more, .ref a_chooses, .ref a_image, .ref a_isKept])), cm_kJ cJ a_ways 13 m_ways, cm_kJ cJ a_more 13 m_more, cm_kJ cJ a_chooses 169 m_chooses] H → va_D A [(a, .inr (11, [.ref a_book, .ref a_now, .int m_sights, .ref a_sight, .int m_signs, .ref a_pad, .int m_sold, .int m_markets, .int m_marketAt, .int m_reason, .int m_acts, .ref a_digits, .ref a_without, .ref a_with, .ref a_counts, .ref a_fewest, .ref a_ways, .ref a_more, .ref a_chooses, .ref a_image, .ref a_isKept])), cm_kJ cJ a_ways 13 m_ways, cm_kJ cJ a_more 13 m_more, cm_kJ cJ a_chooses 169 m_chooses] → va_S A s.heap H locs → lv_has ls 17 [(10, .int v10_64), (8, .long v8_64), (6, .long v6_64), (0, .ref a), (1, .int v1), (2, .int v2), (3, .int v3), (4, .int v4), (5, .int v5)] → fX11_rung_L64 v1 v2 kx n v6_64 v8_64 v10_64 = some res → W p l e rmX11_rung s m args below meth c H locs 0 0 Q (F0 m 64 ls []) := by
              intro kx hkx n
              induction n with
              | zero => intro v6_64 v8_64 v10_64 H locs ls hP hD hS hl hf; cases hf
              | succ n ih =>
                intro v6_64 v8_64 v10_64 H locs ls hP hD hS hl hf
                rw [fX11_rung_L64] at hf
                refine lv_iload (pc := 64) hx hb dX11_rung_64 (lv_at hl 0 rfl) ?_
                refine lv_iload_n (pc := 66) hx hb dX11_rung_66 rfl (lv_at hl 4 rfl) ?_
                refine lv_icmp_ge (pc := 67) (tgt := 92) hx hb dX11_rung_67 (by decide) (fun c_67 => ?_) (fun c_67 => ?_)
                · have hf := cm_ip c_67 hf
                  exact hkx v6_64 v8_64 v10_64 _ _ _ hP hD hS (lv_sub hl [1, 2, 3, 4, 5, 6, 7, 8] rfl) hf
                · have hf := cm_in c_67 hf
                  refine lv_lload (pc := 70) hx hb dX11_rung_70 (lv_at hl 2 rfl) ?_
                  refine lv_iload_n (pc := 72) hx hb dX11_rung_72 rfl (lv_at hl 5 rfl) ?_
                  refine lv_i2l (pc := 73) (v := (v2).toInt64) hx hb dX11_rung_73 rfl ?_
                  refine lv_lmul (pc := 74) hx hb dX11_rung_74 ?_
                  refine lv_lstore (pc := 75) (lv' := [(6, .long (v6_64 * ((v2).toInt64))), (10, .int v10_64), (8, .long v8_64), (0, .ref a), (1, .int v1), (2, .int v2), (3, .int v3), (4, .int v4), (5, .int v5)]) hx hb dX11_rung_75 hl (by decide) rfl (fun ls hl => ?_)
                  refine lv_lload (pc := 77) hx hb dX11_rung_77 (lv_at hl 2 rfl) ?_
                  refine lv_iload_n (pc := 79) hx hb dX11_rung_79 rfl (lv_at hl 5 rfl) ?_
                  refine lv_iconst (pc := 80) (v := 1) hx hb dX11_rung_80 (by decide) ?_
                  refine lv_isub (pc := 81) hx hb dX11_rung_81 ?_
                  refine lv_i2l (pc := 82) (v := ((v2 - 1)).toInt64) hx hb dX11_rung_82 rfl ?_
                  refine lv_lmul (pc := 83) hx hb dX11_rung_83 ?_
                  refine lv_lstore (pc := 84) (lv' := [(8, .long (v8_64 * (((v2 - 1)).toInt64))), (6, .long (v6_64 * ((v2).toInt64))), (10, .int v10_64), (0, .ref a), (1, .int v1), (2, .int v2), (3, .int v3), (4, .int v4), (5, .int v5)]) hx hb dX11_rung_84 hl (by decide) rfl (fun ls hl => ?_)
                  refine lv_iinc (pc := 86) (v := (v10_64 + 1)) (lv' := [(10, .int (v10_64 + 1)), (8, .long (v8_64 * (((v2 - 1)).toInt64))), (6, .long (v6_64 * ((v2).toInt64))), (0, .ref a), (1, .int v1), (2, .int v2), (3, .int v3), (4, .int v4), (5, .int v5)]) hx hb dX11_rung_86 hl (k := 2) rfl rfl (by decide) rfl (fun ls hl => ?_)
                  refine lv_goto (pc := 89) (tgt := 64) hx hb dX11_rung_89 (by decide) ?_
                  exact ih (v6_64 * ((v2).toInt64)) (v8_64 * (((v2 - 1)).toInt64)) (v10_64 + 1) _ _ _ hP hD hS (lv_sub hl [0, 1, 2, 3, 4, 5, 6, 7, 8] rfl) hf
            refine L64 _ (fun v6_64 v8_64 v10_64 H locs ls hP hD hS hl hf => ?_) 5000 1 1 0 _ _ _ hP hD hS (lv_sub hl [0, 1, 2, 3, 4, 5, 6, 7, 8] rfl) hf
            refine lv_iload (pc := 92) hx hb dX11_rung_92 (lv_at hl 6 rfl) ?_
            refine lv_iconst (pc := 94) (v := 1) hx hb dX11_rung_94 (by decide) ?_
            refine lv_icmp_ne (pc := 95) (tgt := 108) hx hb dX11_rung_95 (by decide) (fun c_95 => ?_) (fun c_95 => ?_)
            · have hf := cm_in c_95 hf
              refine lv_iconst (pc := 108) (v := 0) hx hb dX11_rung_108 (by decide) ?_
              refine lv_istore (pc := 109) (lv' := [(10, .int 0), (8, .long v8_64), (6, .long v6_64), (0, .ref a), (1, .int v1), (2, .int v2), (3, .int v3), (4, .int v4), (5, .int v5)]) hx hb dX11_rung_109 hl (by decide) rfl (fun ls hl => ?_)
              have L111 : ∀ (kx : Int32 → (Nat → Int64) → Option (Int64 × (Nat → Int64) × (Nat → Int64) × (Nat → Int64))), (∀ (v10_111 : Int32) (m_chooses_111 : (Nat → Int64)) (H : Heap) (locs : List Loc) (ls : Array Slot), va_P D vwCl [(a, .inr (11, [.ref a_book, .ref a_now, .int m_sights, .ref a_sight, .int m_signs, .ref a_pad, .int m_sold, .int m_markets, .int m_marketAt, .int m_reason, .int m_acts, .ref a_digits, .ref a_without, .ref a_with, .ref a_counts, .ref a_fewest, .ref a_ways, .ref a_more, .ref a_chooses, .ref a_image, .ref a_isKept])), cm_kJ cJ a_ways 13 m_ways, cm_kJ cJ a_more 13 m_more, cm_kJ cJ a_chooses 169 m_chooses_111] H → va_D A [(a, .inr (11, [.ref a_book, .ref a_now, .int m_sights, .ref a_sight, .int m_signs, .ref a_pad, .int m_sold, .int m_markets, .int m_marketAt, .int m_reason, .int m_acts, .ref a_digits, .ref a_without, .ref a_with, .ref a_counts, .ref a_fewest, .ref a_ways, .ref a_more, .ref a_chooses, .ref a_image, .ref a_isKept])), cm_kJ cJ a_ways 13 m_ways, cm_kJ cJ a_more 13 m_more, cm_kJ cJ a_chooses 169 m_chooses_111] → va_S A s.heap H locs → lv_has ls 17 [(6, .long v6_64), (0, .ref a), (1, .int v1), (2, .int v2), (3, .int v3), (5, .int v5)] → kx v10_111 m_chooses_111 = some res → W p l e rmX11_rung s m args below meth c H locs 0 0 Q (F0 m 176 ls [])) → ∀ (n : Nat) (v10_111 : Int32) (m_chooses_111 : (Nat → Int64)) (H : Heap) (locs : List Loc) (ls : Array Slot), va_P D vwCl [(a, .inr (11, [.ref a_book, .ref a_now, .int m_sights, .ref a_sight, .int m_signs, .ref a_pad, .int m_sold, .int m_markets, .int m_marketAt, .int m_reason, .int m_acts, .ref a_digits, .ref a_without, .ref a_with, .ref a_counts, .ref a_fewest, .ref a_ways, .ref a_more, .ref a_chooses, .ref a_image, .ref a_isKept])), cm_kJ cJ a_ways 13 m_ways, cm_kJ cJ a_more 13 m_more, cm_kJ cJ a_chooses 169 m_chooses_111] H → va_D A [(a, .inr (11, [.ref a_book, .ref a_now, .int m_sights, .ref a_sight, .int m_signs, .ref a_pad, .int m_sold, .int m_markets, .int m_marketAt, .int m_reason, .int m_acts, .ref a_digits, .ref a_without, .ref a_with, .ref a_counts, .ref a_fewest, .ref a_ways, .ref a_more, .ref a_chooses, .ref a_image, .ref a_isKept])), cm_kJ cJ a_ways 13 m_ways, cm_kJ cJ a_more 13 m_more, cm_kJ cJ a_chooses 169 m_chooses_111] → va_S A s.heap H locs → lv_has ls 17 [(10, .int v10_111), (6, .long v6_64), (0, .ref a), (1, .int v1), (2, .int v2), (3, .int v3), (5, .int v5)] → fX11_rung_L111 kx n v10_111 m_chooses_111 = some res → W p l e rmX11_rung s m args below meth c H locs 0 0 Q (F0 m 111 ls []) := by
                intro kx hkx n
                induction n with
                | zero => intro v10_111 m_chooses_111 H locs ls hP hD hS hl hf; cases hf
                | succ n ih =>
                  intro v10_111 m_chooses_111 H locs ls hP hD hS hl hf
                  rw [fX11_rung_L111] at hf
                  refine lv_iload (pc := 111) hx hb dX11_rung_111 (lv_at hl 0 rfl) ?_
                  refine lv_sipush (pc := 113) (v := 169) hx hb dX11_rung_113 (by decide) ?_
                  refine lv_icmp_ge (pc := 116) (tgt := 176) hx hb dX11_rung_116 (by decide) (fun c_116 => ?_) (fun c_116 => ?_)
                  · have hf := cm_ip c_116 hf
                    exact hkx v10_111 m_chooses_111 _ _ _ hP hD hS (lv_sub hl [1, 2, 3, 4, 5, 6] rfl) hf
                  · have hf := cm_in c_116 hf
                    refine lv_aload_n (pc := 119) hx hb dX11_rung_119 rfl (lv_at hl 2 rfl) ?_
                    refine va_get (pc := 120) (D := D) (ci := 11) (v := .ref a_chooses) (C := RX11) (T := TX11) (N := 21) hx hb hts in_X11 hown hKa hP 0 rfl rfl 18 (by decide) (hts _ tw_723) (fun _ h9 => h9) rfl dX11_rung_120 ?_
                    refine lv_iload (pc := 123) hx hb dX11_rung_123 (lv_at hl 0 rfl) ?_
                    refine lv_iload (pc := 125) hx hb dX11_rung_125 (lv_at hl 0 rfl) ?_
                    refine lv_bipush (pc := 127) (v := 13) hx hb dX11_rung_127 (by decide) ?_
                    refine cm_irem (pc := 129) hx hb dX11_rung_129 (by decide) ?_
                    refine lv_if_ne (pc := 130) (tgt := 137) hx hb dX11_rung_130 (by decide) (fun c_130 => ?_) (fun c_130 => ?_)
                    · have hf := cm_in c_130 hf
                      refine lv_iload (pc := 137) hx hb dX11_rung_137 (lv_at hl 0 rfl) ?_
                      refine lv_bipush (pc := 139) (v := 13) hx hb dX11_rung_139 (by decide) ?_
                      refine lv_icmp_ge (pc := 141) (tgt := 148) hx hb dX11_rung_141 (by decide) (fun c_141 => ?_) (fun c_141 => ?_)
                      · have hf := cm_ip c_141 hf
                        refine lv_aload_n (pc := 148) hx hb dX11_rung_148 rfl (lv_at hl 2 rfl) ?_
                        refine va_get (pc := 149) (D := D) (ci := 11) (v := .ref a_chooses) (C := RX11) (T := TX11) (N := 21) hx hb hts in_X11 hown hKa hP 0 rfl rfl 18 (by decide) (hts _ tw_723) (fun _ h9 => h9) rfl dX11_rung_149 ?_
                        refine lv_iload (pc := 152) hx hb dX11_rung_152 (lv_at hl 0 rfl) ?_
                        refine lv_bipush (pc := 154) (v := 13) hx hb dX11_rung_154 (by decide) ?_
                        refine lv_isub (pc := 156) hx hb dX11_rung_156 ?_
                        obtain ⟨b_157, hf⟩ := cm_ob hf
                        refine va_lald (pc := 157) hx hb hKa hP 3 1 rfl rfl b_157 dX11_rung_157 ?_
                        refine lv_aload_n (pc := 158) hx hb dX11_rung_158 rfl (lv_at hl 2 rfl) ?_
                        refine va_get (pc := 159) (D := D) (ci := 11) (v := .ref a_chooses) (C := RX11) (T := TX11) (N := 21) hx hb hts in_X11 hown hKa hP 0 rfl rfl 18 (by decide) (hts _ tw_723) (fun _ h9 => h9) rfl dX11_rung_159 ?_
                        refine lv_iload (pc := 162) hx hb dX11_rung_162 (lv_at hl 0 rfl) ?_
                        refine lv_bipush (pc := 164) (v := 14) hx hb dX11_rung_164 (by decide) ?_
                        refine lv_isub (pc := 166) hx hb dX11_rung_166 ?_
                        obtain ⟨b_167, hf⟩ := cm_ob hf
                        refine va_lald (pc := 167) hx hb hKa hP 3 1 rfl rfl b_167 dX11_rung_167 ?_
                        refine lv_ladd (pc := 168) hx hb dX11_rung_168 ?_
                        obtain ⟨b_169, hf⟩ := cm_ob hf
                        refine va_last (pc := 169) hx hb hKa hP hD hS 3 1 rfl rfl b_169 dX11_rung_169 (fun H locs hP hD hS => ?_)
                        have hP : va_P D vwCl [(a, .inr (11, [.ref a_book, .ref a_now, .int m_sights, .ref a_sight, .int m_signs, .ref a_pad, .int m_sold, .int m_markets, .int m_marketAt, .int m_reason, .int m_acts, .ref a_digits, .ref a_without, .ref a_with, .ref a_counts, .ref a_fewest, .ref a_ways, .ref a_more, .ref a_chooses, .ref a_image, .ref a_isKept])), cm_kJ cJ a_ways 13 m_ways, cm_kJ cJ a_more 13 m_more, cm_kJ cJ a_chooses 169 (vp_updL m_chooses_111 v10_111.toNatClampNeg ((m_chooses_111 (v10_111 - 13).toNatClampNeg) + (m_chooses_111 (v10_111 - 14).toNatClampNeg)))] H := hP
                        have hD : va_D A [(a, .inr (11, [.ref a_book, .ref a_now, .int m_sights, .ref a_sight, .int m_signs, .ref a_pad, .int m_sold, .int m_markets, .int m_marketAt, .int m_reason, .int m_acts, .ref a_digits, .ref a_without, .ref a_with, .ref a_counts, .ref a_fewest, .ref a_ways, .ref a_more, .ref a_chooses, .ref a_image, .ref a_isKept])), cm_kJ cJ a_ways 13 m_ways, cm_kJ cJ a_more 13 m_more, cm_kJ cJ a_chooses 169 (vp_updL m_chooses_111 v10_111.toNatClampNeg ((m_chooses_111 (v10_111 - 13).toNatClampNeg) + (m_chooses_111 (v10_111 - 14).toNatClampNeg)))] := hD
                        refine lv_iinc (pc := 170) (v := (v10_111 + 1)) (lv' := [(10, .int (v10_111 + 1)), (6, .long v6_64), (0, .ref a), (1, .int v1), (2, .int v2), (3, .int v3), (5, .int v5)]) hx hb dX11_rung_170 hl (k := 0) rfl rfl (by decide) rfl (fun ls hl => ?_)
                        refine lv_goto (pc := 173) (tgt := 111) hx hb dX11_rung_173 (by decide) ?_
                        exact ih (v10_111 + 1) (vp_updL m_chooses_111 v10_111.toNatClampNeg ((m_chooses_111 (v10_111 - 13).toNatClampNeg) + (m_chooses_111 (v10_111 - 14).toNatClampNeg))) _ _ _ hP hD hS (lv_sub hl [0, 1, 2, 3, 4, 5, 6] rfl) hf
                      · have hf := cm_in c_141 hf
                        refine lv_lconst (pc := 144) (v := 0) hx hb dX11_rung_144 (by decide) ?_
                        refine lv_goto (pc := 145) (tgt := 169) hx hb dX11_rung_145 (by decide) ?_
                        obtain ⟨b_169, hf⟩ := cm_ob hf
                        refine va_last (pc := 169) hx hb hKa hP hD hS 3 1 rfl rfl b_169 dX11_rung_169 (fun H locs hP hD hS => ?_)
                        have hP : va_P D vwCl [(a, .inr (11, [.ref a_book, .ref a_now, .int m_sights, .ref a_sight, .int m_signs, .ref a_pad, .int m_sold, .int m_markets, .int m_marketAt, .int m_reason, .int m_acts, .ref a_digits, .ref a_without, .ref a_with, .ref a_counts, .ref a_fewest, .ref a_ways, .ref a_more, .ref a_chooses, .ref a_image, .ref a_isKept])), cm_kJ cJ a_ways 13 m_ways, cm_kJ cJ a_more 13 m_more, cm_kJ cJ a_chooses 169 (vp_updL m_chooses_111 v10_111.toNatClampNeg 0)] H := hP
                        have hD : va_D A [(a, .inr (11, [.ref a_book, .ref a_now, .int m_sights, .ref a_sight, .int m_signs, .ref a_pad, .int m_sold, .int m_markets, .int m_marketAt, .int m_reason, .int m_acts, .ref a_digits, .ref a_without, .ref a_with, .ref a_counts, .ref a_fewest, .ref a_ways, .ref a_more, .ref a_chooses, .ref a_image, .ref a_isKept])), cm_kJ cJ a_ways 13 m_ways, cm_kJ cJ a_more 13 m_more, cm_kJ cJ a_chooses 169 (vp_updL m_chooses_111 v10_111.toNatClampNeg 0)] := hD
                        refine lv_iinc (pc := 170) (v := (v10_111 + 1)) (lv' := [(10, .int (v10_111 + 1)), (6, .long v6_64), (0, .ref a), (1, .int v1), (2, .int v2), (3, .int v3), (5, .int v5)]) hx hb dX11_rung_170 hl (k := 0) rfl rfl (by decide) rfl (fun ls hl => ?_)
                        refine lv_goto (pc := 173) (tgt := 111) hx hb dX11_rung_173 (by decide) ?_
                        exact ih (v10_111 + 1) (vp_updL m_chooses_111 v10_111.toNatClampNeg 0) _ _ _ hP hD hS (lv_sub hl [0, 1, 2, 3, 4, 5, 6] rfl) hf
                    · have hf := cm_ip c_130 hf
                      refine lv_lconst (pc := 133) (v := 1) hx hb dX11_rung_133 (by decide) ?_
                      refine lv_goto (pc := 134) (tgt := 169) hx hb dX11_rung_134 (by decide) ?_
                      obtain ⟨b_169, hf⟩ := cm_ob hf
                      refine va_last (pc := 169) hx hb hKa hP hD hS 3 1 rfl rfl b_169 dX11_rung_169 (fun H locs hP hD hS => ?_)
                      have hP : va_P D vwCl [(a, .inr (11, [.ref a_book, .ref a_now, .int m_sights, .ref a_sight, .int m_signs, .ref a_pad, .int m_sold, .int m_markets, .int m_marketAt, .int m_reason, .int m_acts, .ref a_digits, .ref a_without, .ref a_with, .ref a_counts, .ref a_fewest, .ref a_ways, .ref a_more, .ref a_chooses, .ref a_image, .ref a_isKept])), cm_kJ cJ a_ways 13 m_ways, cm_kJ cJ a_more 13 m_more, cm_kJ cJ a_chooses 169 (vp_updL m_chooses_111 v10_111.toNatClampNeg 1)] H := hP
                      have hD : va_D A [(a, .inr (11, [.ref a_book, .ref a_now, .int m_sights, .ref a_sight, .int m_signs, .ref a_pad, .int m_sold, .int m_markets, .int m_marketAt, .int m_reason, .int m_acts, .ref a_digits, .ref a_without, .ref a_with, .ref a_counts, .ref a_fewest, .ref a_ways, .ref a_more, .ref a_chooses, .ref a_image, .ref a_isKept])), cm_kJ cJ a_ways 13 m_ways, cm_kJ cJ a_more 13 m_more, cm_kJ cJ a_chooses 169 (vp_updL m_chooses_111 v10_111.toNatClampNeg 1)] := hD
                      refine lv_iinc (pc := 170) (v := (v10_111 + 1)) (lv' := [(10, .int (v10_111 + 1)), (6, .long v6_64), (0, .ref a), (1, .int v1), (2, .int v2), (3, .int v3), (5, .int v5)]) hx hb dX11_rung_170 hl (k := 0) rfl rfl (by decide) rfl (fun ls hl => ?_)
                      refine lv_goto (pc := 173) (tgt := 111) hx hb dX11_rung_173 (by decide) ?_
                      exact ih (v10_111 + 1) (vp_updL m_chooses_111 v10_111.toNatClampNeg 1) _ _ _ hP hD hS (lv_sub hl [0, 1, 2, 3, 4, 5, 6] rfl) hf
              refine L111 _ (fun v10_111 m_chooses_111 H locs ls hP hD hS hl hf => ?_) 5000 0 m_chooses _ _ _ hP hD hS (lv_sub hl [0, 2, 3, 4, 5, 6, 8] rfl) hf
              refine lv_lconst (pc := 176) (v := 0) hx hb dX11_rung_176 (by decide) ?_
              refine lv_lstore (pc := 177) (lv' := [(10, .long 0), (6, .long v6_64), (0, .ref a), (1, .int v1), (2, .int v2), (3, .int v3), (5, .int v5)]) hx hb dX11_rung_177 hl (by decide) rfl (fun ls hl => ?_)
              refine lv_iconst (pc := 179) (v := 0) hx hb dX11_rung_179 (by decide) ?_
              refine lv_istore (pc := 180) (lv' := [(12, .int 0), (10, .long 0), (6, .long v6_64), (0, .ref a), (1, .int v1), (2, .int v2), (3, .int v3), (5, .int v5)]) hx hb dX11_rung_180 hl (by decide) rfl (fun ls hl => ?_)
              have L182 : ∀ (kx : Int64 → Int32 → (Nat → Int64) → (Nat → Int64) → Option (Int64 × (Nat → Int64) × (Nat → Int64) × (Nat → Int64))), (∀ (v10_182 : Int64) (v12_182 : Int32) (m_ways_182 : (Nat → Int64)) (m_more_182 : (Nat → Int64)) (H : Heap) (locs : List Loc) (ls : Array Slot), va_P D vwCl [(a, .inr (11, [.ref a_book, .ref a_now, .int m_sights, .ref a_sight, .int m_signs, .ref a_pad, .int m_sold, .int m_markets, .int m_marketAt, .int m_reason, .int m_acts, .ref a_digits, .ref a_without, .ref a_with, .ref a_counts, .ref a_fewest, .ref a_ways, .ref a_more, .ref a_chooses, .ref a_image, .ref a_isKept])), cm_kJ cJ a_ways 13 m_ways_182, cm_kJ cJ a_more 13 m_more_182, cm_kJ cJ a_chooses 169 m_chooses_111] H → va_D A [(a, .inr (11, [.ref a_book, .ref a_now, .int m_sights, .ref a_sight, .int m_signs, .ref a_pad, .int m_sold, .int m_markets, .int m_marketAt, .int m_reason, .int m_acts, .ref a_digits, .ref a_without, .ref a_with, .ref a_counts, .ref a_fewest, .ref a_ways, .ref a_more, .ref a_chooses, .ref a_image, .ref a_isKept])), cm_kJ cJ a_ways 13 m_ways_182, cm_kJ cJ a_more 13 m_more_182, cm_kJ cJ a_chooses 169 m_chooses_111] → va_S A s.heap H locs → lv_has ls 17 [(10, .long v10_182), (6, .long v6_64), (5, .int v5)] → kx v10_182 v12_182 m_ways_182 m_more_182 = some res → W p l e rmX11_rung s m args below meth c H locs 0 0 Q (F0 m 399 ls [])) → ∀ (n : Nat) (v10_182 : Int64) (v12_182 : Int32) (m_ways_182 : (Nat → Int64)) (m_more_182 : (Nat → Int64)) (H : Heap) (locs : List Loc) (ls : Array Slot), va_P D vwCl [(a, .inr (11, [.ref a_book, .ref a_now, .int m_sights, .ref a_sight, .int m_signs, .ref a_pad, .int m_sold, .int m_markets, .int m_marketAt, .int m_reason, .int m_acts, .ref a_digits, .ref a_without, .ref a_with, .ref a_counts, .ref a_fewest, .ref a_ways, .ref a_more, .ref a_chooses, .ref a_image, .ref a_isKept])), cm_kJ cJ a_ways 13 m_ways_182, cm_kJ cJ a_more 13 m_more_182, cm_kJ cJ a_chooses 169 m_chooses_111] H → va_D A [(a, .inr (11, [.ref a_book, .ref a_now, .int m_sights, .ref a_sight, .int m_signs, .ref a_pad, .int m_sold, .int m_markets, .int m_marketAt, .int m_reason, .int m_acts, .ref a_digits, .ref a_without, .ref a_with, .ref a_counts, .ref a_fewest, .ref a_ways, .ref a_more, .ref a_chooses, .ref a_image, .ref a_isKept])), cm_kJ cJ a_ways 13 m_ways_182, cm_kJ cJ a_more 13 m_more_182, cm_kJ cJ a_chooses 169 m_chooses_111] → va_S A s.heap H locs → lv_has ls 17 [(12, .int v12_182), (10, .long v10_182), (6, .long v6_64), (0, .ref a), (1, .int v1), (2, .int v2), (3, .int v3), (5, .int v5)] → fX11_rung_L182 v1 v2 v3 m_chooses_111 kx n v10_182 v12_182 m_ways_182 m_more_182 = some res → W p l e rmX11_rung s m args below meth c H locs 0 0 Q (F0 m 182 ls []) := by
                intro kx hkx n
                induction n with
                | zero => intro v10_182 v12_182 m_ways_182 m_more_182 H locs ls hP hD hS hl hf; cases hf
                | succ n ih =>
                  intro v10_182 v12_182 m_ways_182 m_more_182 H locs ls hP hD hS hl hf
                  rw [fX11_rung_L182] at hf
                  refine lv_iload (pc := 182) hx hb dX11_rung_182 (lv_at hl 0 rfl) ?_
                  refine lv_iload_n (pc := 184) hx hb dX11_rung_184 rfl (lv_at hl 4 rfl) ?_
                  refine lv_icmp_gt (pc := 185) (tgt := 399) hx hb dX11_rung_185 (by decide) (fun c_185 => ?_) (fun c_185 => ?_)
                  · have hf := cm_ip c_185 hf
                    exact hkx v10_182 v12_182 m_ways_182 m_more_182 _ _ _ hP hD hS (lv_sub hl [1, 2, 7] rfl) hf
                  · have hf := cm_in c_185 hf
                    refine lv_iconst (pc := 188) (v := 0) hx hb dX11_rung_188 (by decide) ?_
                    refine lv_istore (pc := 189) (lv' := [(13, .int 0), (12, .int v12_182), (10, .long v10_182), (6, .long v6_64), (0, .ref a), (1, .int v1), (2, .int v2), (3, .int v3), (5, .int v5)]) hx hb dX11_rung_189 hl (by decide) rfl (fun ls hl => ?_)
                    have L191 : ∀ (kx : Int32 → (Nat → Int64) → Option (Int64 × (Nat → Int64) × (Nat → Int64) × (Nat → Int64))), (∀ (v13_191 : Int32) (m_ways_191 : (Nat → Int64)) (H : Heap) (locs : List Loc) (ls : Array Slot), va_P D vwCl [(a, .inr (11, [.ref a_book, .ref a_now, .int m_sights, .ref a_sight, .int m_signs, .ref a_pad, .int m_sold, .int m_markets, .int m_marketAt, .int m_reason, .int m_acts, .ref a_digits, .ref a_without, .ref a_with, .ref a_counts, .ref a_fewest, .ref a_ways, .ref a_more, .ref a_chooses, .ref a_image, .ref a_isKept])), cm_kJ cJ a_ways 13 m_ways_191, cm_kJ cJ a_more 13 m_more_182, cm_kJ cJ a_chooses 169 m_chooses_111] H → va_D A [(a, .inr (11, [.ref a_book, .ref a_now, .int m_sights, .ref a_sight, .int m_signs, .ref a_pad, .int m_sold, .int m_markets, .int m_marketAt, .int m_reason, .int m_acts, .ref a_digits, .ref a_without, .ref a_with, .ref a_counts, .ref a_fewest, .ref a_ways, .ref a_more, .ref a_chooses, .ref a_image, .ref a_isKept])), cm_kJ cJ a_ways 13 m_ways_191, cm_kJ cJ a_more 13 m_more_182, cm_kJ cJ a_chooses 169 m_chooses_111] → va_S A s.heap H locs → lv_has ls 17 [(12, .int v12_182), (10, .long v10_182), (6, .long v6_64), (0, .ref a), (1, .int v1), (2, .int v2), (3, .int v3), (5, .int v5)] → kx v13_191 m_ways_191 = some res → W p l e rmX11_rung s m args below meth c H locs 0 0 Q (F0 m 236 ls [])) → ∀ (n : Nat) (v13_191 : Int32) (m_ways_191 : (Nat → Int64)) (H : Heap) (locs : List Loc) (ls : Array Slot), va_P D vwCl [(a, .inr (11, [.ref a_book, .ref a_now, .int m_sights, .ref a_sight, .int m_signs, .ref a_pad, .int m_sold, .int m_markets, .int m_marketAt, .int m_reason, .int m_acts, .ref a_digits, .ref a_without, .ref a_with, .ref a_counts, .ref a_fewest, .ref a_ways, .ref a_more, .ref a_chooses, .ref a_image, .ref a_isKept])), cm_kJ cJ a_ways 13 m_ways_191, cm_kJ cJ a_more 13 m_more_182, cm_kJ cJ a_chooses 169 m_chooses_111] H → va_D A [(a, .inr (11, [.ref a_book, .ref a_now, .int m_sights, .ref a_sight, .int m_signs, .ref a_pad, .int m_sold, .int m_markets, .int m_marketAt, .int m_reason, .int m_acts, .ref a_digits, .ref a_without, .ref a_with, .ref a_counts, .ref a_fewest, .ref a_ways, .ref a_more, .ref a_chooses, .ref a_image, .ref a_isKept])), cm_kJ cJ a_ways 13 m_ways_191, cm_kJ cJ a_more 13 m_more_182, cm_kJ cJ a_chooses 169 m_chooses_111] → va_S A s.heap H locs → lv_has ls 17 [(13, .int v13_191), (12, .int v12_182), (10, .long v10_182), (6, .long v6_64), (0, .ref a), (1, .int v1), (2, .int v2), (3, .int v3), (5, .int v5)] → fX11_rung_L191 v1 v12_182 m_chooses_111 kx n v13_191 m_ways_191 = some res → W p l e rmX11_rung s m args below meth c H locs 0 0 Q (F0 m 191 ls []) := by
                      intro kx hkx n
                      induction n with
                      | zero => intro v13_191 m_ways_191 H locs ls hP hD hS hl hf; cases hf
                      | succ n ih =>
                        intro v13_191 m_ways_191 H locs ls hP hD hS hl hf
                        rw [fX11_rung_L191] at hf
                        refine lv_iload (pc := 191) hx hb dX11_rung_191 (lv_at hl 0 rfl) ?_
                        refine lv_bipush (pc := 193) (v := 13) hx hb dX11_rung_193 (by decide) ?_
                        refine lv_icmp_ge (pc := 195) (tgt := 236) hx hb dX11_rung_195 (by decide) (fun c_195 => ?_) (fun c_195 => ?_)
                        · have hf := cm_ip c_195 hf
                          exact hkx v13_191 m_ways_191 _ _ _ hP hD hS (lv_sub hl [1, 2, 3, 4, 5, 6, 7, 8] rfl) hf
                        · have hf := cm_in c_195 hf
                          refine lv_aload_n (pc := 198) hx hb dX11_rung_198 rfl (lv_at hl 4 rfl) ?_
                          refine va_get (pc := 199) (D := D) (ci := 11) (v := .ref a_ways) (C := RX11) (T := TX11) (N := 21) hx hb hts in_X11 hown hKa hP 0 rfl rfl 16 (by decide) (hts _ tw_721) (fun _ h9 => h9) rfl dX11_rung_199 ?_
                          refine lv_iload (pc := 202) hx hb dX11_rung_202 (lv_at hl 0 rfl) ?_
                          refine lv_iload (pc := 204) hx hb dX11_rung_204 (lv_at hl 0 rfl) ?_
                          refine lv_iload_n (pc := 206) hx hb dX11_rung_206 rfl (lv_at hl 5 rfl) ?_
                          refine lv_iload (pc := 207) hx hb dX11_rung_207 (lv_at hl 1 rfl) ?_
                          refine lv_isub (pc := 209) hx hb dX11_rung_209 ?_
                          refine lv_icmp_ne (pc := 210) (tgt := 228) hx hb dX11_rung_210 (by decide) (fun c_210 => ?_) (fun c_210 => ?_)
                          · have hf := cm_in c_210 hf
                            refine lv_lconst (pc := 228) (v := 0) hx hb dX11_rung_228 (by decide) ?_
                            obtain ⟨b_229, hf⟩ := cm_ob hf
                            refine va_last (pc := 229) hx hb hKa hP hD hS 1 1 rfl rfl b_229 dX11_rung_229 (fun H locs hP hD hS => ?_)
                            have hP : va_P D vwCl [(a, .inr (11, [.ref a_book, .ref a_now, .int m_sights, .ref a_sight, .int m_signs, .ref a_pad, .int m_sold, .int m_markets, .int m_marketAt, .int m_reason, .int m_acts, .ref a_digits, .ref a_without, .ref a_with, .ref a_counts, .ref a_fewest, .ref a_ways, .ref a_more, .ref a_chooses, .ref a_image, .ref a_isKept])), cm_kJ cJ a_ways 13 (vp_updL m_ways_191 v13_191.toNatClampNeg 0), cm_kJ cJ a_more 13 m_more_182, cm_kJ cJ a_chooses 169 m_chooses_111] H := hP
                            have hD : va_D A [(a, .inr (11, [.ref a_book, .ref a_now, .int m_sights, .ref a_sight, .int m_signs, .ref a_pad, .int m_sold, .int m_markets, .int m_marketAt, .int m_reason, .int m_acts, .ref a_digits, .ref a_without, .ref a_with, .ref a_counts, .ref a_fewest, .ref a_ways, .ref a_more, .ref a_chooses, .ref a_image, .ref a_isKept])), cm_kJ cJ a_ways 13 (vp_updL m_ways_191 v13_191.toNatClampNeg 0), cm_kJ cJ a_more 13 m_more_182, cm_kJ cJ a_chooses 169 m_chooses_111] := hD
                            refine lv_iinc (pc := 230) (v := (v13_191 + 1)) (lv' := [(13, .int (v13_191 + 1)), (12, .int v12_182), (10, .long v10_182), (6, .long v6_64), (0, .ref a), (1, .int v1), (2, .int v2), (3, .int v3), (5, .int v5)]) hx hb dX11_rung_230 hl (k := 0) rfl rfl (by decide) rfl (fun ls hl => ?_)
                            refine lv_goto (pc := 233) (tgt := 191) hx hb dX11_rung_233 (by decide) ?_
                            exact ih (v13_191 + 1) (vp_updL m_ways_191 v13_191.toNatClampNeg 0) _ _ _ hP hD hS (lv_sub hl [0, 1, 2, 3, 4, 5, 6, 7, 8] rfl) hf
                          · have hf := cm_ip c_210 hf
                            refine lv_aload_n (pc := 213) hx hb dX11_rung_213 rfl (lv_at hl 4 rfl) ?_
                            refine va_get (pc := 214) (D := D) (ci := 11) (v := .ref a_chooses) (C := RX11) (T := TX11) (N := 21) hx hb hts in_X11 hown hKa hP 0 rfl rfl 18 (by decide) (hts _ tw_723) (fun _ h9 => h9) rfl dX11_rung_214 ?_
                            refine lv_bipush (pc := 217) (v := 13) hx hb dX11_rung_217 (by decide) ?_
                            refine lv_iload_n (pc := 219) hx hb dX11_rung_219 rfl (lv_at hl 5 rfl) ?_
                            refine lv_imul (pc := 220) hx hb dX11_rung_220 ?_
                            refine lv_iload (pc := 221) hx hb dX11_rung_221 (lv_at hl 1 rfl) ?_
                            refine lv_iadd (pc := 223) hx hb dX11_rung_223 ?_
                            obtain ⟨b_224, hf⟩ := cm_ob hf
                            refine va_lald (pc := 224) hx hb hKa hP 3 1 rfl rfl b_224 dX11_rung_224 ?_
                            refine lv_goto (pc := 225) (tgt := 229) hx hb dX11_rung_225 (by decide) ?_
                            obtain ⟨b_229, hf⟩ := cm_ob hf
                            refine va_last (pc := 229) hx hb hKa hP hD hS 1 1 rfl rfl b_229 dX11_rung_229 (fun H locs hP hD hS => ?_)
                            have hP : va_P D vwCl [(a, .inr (11, [.ref a_book, .ref a_now, .int m_sights, .ref a_sight, .int m_signs, .ref a_pad, .int m_sold, .int m_markets, .int m_marketAt, .int m_reason, .int m_acts, .ref a_digits, .ref a_without, .ref a_with, .ref a_counts, .ref a_fewest, .ref a_ways, .ref a_more, .ref a_chooses, .ref a_image, .ref a_isKept])), cm_kJ cJ a_ways 13 (vp_updL m_ways_191 v13_191.toNatClampNeg (m_chooses_111 ((13 * v1) + v12_182).toNatClampNeg)), cm_kJ cJ a_more 13 m_more_182, cm_kJ cJ a_chooses 169 m_chooses_111] H := hP
                            have hD : va_D A [(a, .inr (11, [.ref a_book, .ref a_now, .int m_sights, .ref a_sight, .int m_signs, .ref a_pad, .int m_sold, .int m_markets, .int m_marketAt, .int m_reason, .int m_acts, .ref a_digits, .ref a_without, .ref a_with, .ref a_counts, .ref a_fewest, .ref a_ways, .ref a_more, .ref a_chooses, .ref a_image, .ref a_isKept])), cm_kJ cJ a_ways 13 (vp_updL m_ways_191 v13_191.toNatClampNeg (m_chooses_111 ((13 * v1) + v12_182).toNatClampNeg)), cm_kJ cJ a_more 13 m_more_182, cm_kJ cJ a_chooses 169 m_chooses_111] := hD
                            refine lv_iinc (pc := 230) (v := (v13_191 + 1)) (lv' := [(13, .int (v13_191 + 1)), (12, .int v12_182), (10, .long v10_182), (6, .long v6_64), (0, .ref a), (1, .int v1), (2, .int v2), (3, .int v3), (5, .int v5)]) hx hb dX11_rung_230 hl (k := 0) rfl rfl (by decide) rfl (fun ls hl => ?_)
                            refine lv_goto (pc := 233) (tgt := 191) hx hb dX11_rung_233 (by decide) ?_
                            exact ih (v13_191 + 1) (vp_updL m_ways_191 v13_191.toNatClampNeg (m_chooses_111 ((13 * v1) + v12_182).toNatClampNeg)) _ _ _ hP hD hS (lv_sub hl [0, 1, 2, 3, 4, 5, 6, 7, 8] rfl) hf
                    refine L191 _ (fun v13_191 m_ways_191 H locs ls hP hD hS hl hf => ?_) 5000 0 m_ways_182 _ _ _ hP hD hS (lv_sub hl [0, 1, 2, 3, 4, 5, 6, 7, 8] rfl) hf
                    refine lv_iconst (pc := 236) (v := 0) hx hb dX11_rung_236 (by decide) ?_
                    refine lv_istore (pc := 237) (lv' := [(13, .int 0), (12, .int v12_182), (10, .long v10_182), (6, .long v6_64), (0, .ref a), (1, .int v1), (2, .int v2), (3, .int v3), (5, .int v5)]) hx hb dX11_rung_237 hl (by decide) rfl (fun ls hl => ?_)
                    have L239 : ∀ (kx : Int32 → (Nat → Int64) → (Nat → Int64) → Option (Int64 × (Nat → Int64) × (Nat → Int64) × (Nat → Int64))), (∀ (v13_239 : Int32) (m_ways_239 : (Nat → Int64)) (m_more_239 : (Nat → Int64)) (H : Heap) (locs : List Loc) (ls : Array Slot), va_P D vwCl [(a, .inr (11, [.ref a_book, .ref a_now, .int m_sights, .ref a_sight, .int m_signs, .ref a_pad, .int m_sold, .int m_markets, .int m_marketAt, .int m_reason, .int m_acts, .ref a_digits, .ref a_without, .ref a_with, .ref a_counts, .ref a_fewest, .ref a_ways, .ref a_more, .ref a_chooses, .ref a_image, .ref a_isKept])), cm_kJ cJ a_ways 13 m_ways_239, cm_kJ cJ a_more 13 m_more_239, cm_kJ cJ a_chooses 169 m_chooses_111] H → va_D A [(a, .inr (11, [.ref a_book, .ref a_now, .int m_sights, .ref a_sight, .int m_signs, .ref a_pad, .int m_sold, .int m_markets, .int m_marketAt, .int m_reason, .int m_acts, .ref a_digits, .ref a_without, .ref a_with, .ref a_counts, .ref a_fewest, .ref a_ways, .ref a_more, .ref a_chooses, .ref a_image, .ref a_isKept])), cm_kJ cJ a_ways 13 m_ways_239, cm_kJ cJ a_more 13 m_more_239, cm_kJ cJ a_chooses 169 m_chooses_111] → va_S A s.heap H locs → lv_has ls 17 [(12, .int v12_182), (10, .long v10_182), (6, .long v6_64), (0, .ref a), (1, .int v1), (2, .int v2), (3, .int v3), (5, .int v5)] → kx v13_239 m_ways_239 m_more_239 = some res → W p l e rmX11_rung s m args below meth c H locs 0 0 Q (F0 m 382 ls [])) → ∀ (n : Nat) (v13_239 : Int32) (m_ways_239 : (Nat → Int64)) (m_more_239 : (Nat → Int64)) (H : Heap) (locs : List Loc) (ls : Array Slot), va_P D vwCl [(a, .inr (11, [.ref a_book, .ref a_now, .int m_sights, .ref a_sight, .int m_signs, .ref a_pad, .int m_sold, .int m_markets, .int m_marketAt, .int m_reason, .int m_acts, .ref a_digits, .ref a_without, .ref a_with, .ref a_counts, .ref a_fewest, .ref a_ways, .ref a_more, .ref a_chooses, .ref a_image, .ref a_isKept])), cm_kJ cJ a_ways 13 m_ways_239, cm_kJ cJ a_more 13 m_more_239, cm_kJ cJ a_chooses 169 m_chooses_111] H → va_D A [(a, .inr (11, [.ref a_book, .ref a_now, .int m_sights, .ref a_sight, .int m_signs, .ref a_pad, .int m_sold, .int m_markets, .int m_marketAt, .int m_reason, .int m_acts, .ref a_digits, .ref a_without, .ref a_with, .ref a_counts, .ref a_fewest, .ref a_ways, .ref a_more, .ref a_chooses, .ref a_image, .ref a_isKept])), cm_kJ cJ a_ways 13 m_ways_239, cm_kJ cJ a_more 13 m_more_239, cm_kJ cJ a_chooses 169 m_chooses_111] → va_S A s.heap H locs → lv_has ls 17 [(13, .int v13_239), (12, .int v12_182), (10, .long v10_182), (6, .long v6_64), (0, .ref a), (1, .int v1), (2, .int v2), (3, .int v3), (5, .int v5)] → fX11_rung_L239 v2 v3 v12_182 m_chooses_111 kx n v13_239 m_ways_239 m_more_239 = some res → W p l e rmX11_rung s m args below meth c H locs 0 0 Q (F0 m 239 ls []) := by
                      intro kx hkx n
                      induction n with
                      | zero => intro v13_239 m_ways_239 m_more_239 H locs ls hP hD hS hl hf; cases hf
                      | succ n ih =>
                        intro v13_239 m_ways_239 m_more_239 H locs ls hP hD hS hl hf
                        rw [fX11_rung_L239] at hf
                        refine lv_iload (pc := 239) hx hb dX11_rung_239 (lv_at hl 0 rfl) ?_
                        refine lv_iload_n (pc := 241) hx hb dX11_rung_241 rfl (lv_at hl 6 rfl) ?_
                        refine lv_icmp_ge (pc := 242) (tgt := 382) hx hb dX11_rung_242 (by decide) (fun c_242 => ?_) (fun c_242 => ?_)
                        · have hf := cm_ip c_242 hf
                          exact hkx v13_239 m_ways_239 m_more_239 _ _ _ hP hD hS (lv_sub hl [1, 2, 3, 4, 5, 6, 7, 8] rfl) hf
                        · have hf := cm_in c_242 hf
                          refine lv_iload (pc := 245) hx hb dX11_rung_245 (lv_at hl 0 rfl) ?_
                          refine lv_iload_n (pc := 247) hx hb dX11_rung_247 rfl (lv_at hl 7 rfl) ?_
                          obtain ⟨j248, hj248, hf⟩ := cm_lt hf
                          have J248 : ∀ (H : Heap) (locs : List Loc) (ls : Array Slot), va_P D vwCl [(a, .inr (11, [.ref a_book, .ref a_now, .int m_sights, .ref a_sight, .int m_signs, .ref a_pad, .int m_sold, .int m_markets, .int m_marketAt, .int m_reason, .int m_acts, .ref a_digits, .ref a_without, .ref a_with, .ref a_counts, .ref a_fewest, .ref a_ways, .ref a_more, .ref a_chooses, .ref a_image, .ref a_isKept])), cm_kJ cJ a_ways 13 m_ways_239, cm_kJ cJ a_more 13 m_more_239, cm_kJ cJ a_chooses 169 m_chooses_111] H → va_D A [(a, .inr (11, [.ref a_book, .ref a_now, .int m_sights, .ref a_sight, .int m_signs, .ref a_pad, .int m_sold, .int m_markets, .int m_marketAt, .int m_reason, .int m_acts, .ref a_digits, .ref a_without, .ref a_with, .ref a_counts, .ref a_fewest, .ref a_ways, .ref a_more, .ref a_chooses, .ref a_image, .ref a_isKept])), cm_kJ cJ a_ways 13 m_ways_239, cm_kJ cJ a_more 13 m_more_239, cm_kJ cJ a_chooses 169 m_chooses_111] → va_S A s.heap H locs → lv_has ls 17 [(13, .int v13_239), (12, .int v12_182), (10, .long v10_182), (6, .long v6_64), (0, .ref a), (1, .int v1), (2, .int v2), (3, .int v3), (5, .int v5)] → W p l e rmX11_rung s m args below meth c H locs 0 0 Q (F0 m 260 ls [.int j248]) := by
                            intro H locs ls hP hD hS hl
                            refine lv_istore (pc := 260) (lv' := [(14, .int j248), (13, .int v13_239), (12, .int v12_182), (10, .long v10_182), (6, .long v6_64), (0, .ref a), (1, .int v1), (2, .int v2), (3, .int v3), (5, .int v5)]) hx hb dX11_rung_260 hl (by decide) rfl (fun ls hl => ?_)
                            refine lv_iconst (pc := 262) (v := 0) hx hb dX11_rung_262 (by decide) ?_
                            refine lv_istore (pc := 263) (lv' := [(15, .int 0), (14, .int j248), (13, .int v13_239), (12, .int v12_182), (10, .long v10_182), (6, .long v6_64), (0, .ref a), (1, .int v1), (2, .int v2), (3, .int v3), (5, .int v5)]) hx hb dX11_rung_263 hl (by decide) rfl (fun ls hl => ?_)
                            have L265 : ∀ (kx : Int32 → (Nat → Int64) → Option (Int64 × (Nat → Int64) × (Nat → Int64) × (Nat → Int64))), (∀ (v15_265 : Int32) (m_more_265 : (Nat → Int64)) (H : Heap) (locs : List Loc) (ls : Array Slot), va_P D vwCl [(a, .inr (11, [.ref a_book, .ref a_now, .int m_sights, .ref a_sight, .int m_signs, .ref a_pad, .int m_sold, .int m_markets, .int m_marketAt, .int m_reason, .int m_acts, .ref a_digits, .ref a_without, .ref a_with, .ref a_counts, .ref a_fewest, .ref a_ways, .ref a_more, .ref a_chooses, .ref a_image, .ref a_isKept])), cm_kJ cJ a_ways 13 m_ways_239, cm_kJ cJ a_more 13 m_more_265, cm_kJ cJ a_chooses 169 m_chooses_111] H → va_D A [(a, .inr (11, [.ref a_book, .ref a_now, .int m_sights, .ref a_sight, .int m_signs, .ref a_pad, .int m_sold, .int m_markets, .int m_marketAt, .int m_reason, .int m_acts, .ref a_digits, .ref a_without, .ref a_with, .ref a_counts, .ref a_fewest, .ref a_ways, .ref a_more, .ref a_chooses, .ref a_image, .ref a_isKept])), cm_kJ cJ a_ways 13 m_ways_239, cm_kJ cJ a_more 13 m_more_265, cm_kJ cJ a_chooses 169 m_chooses_111] → va_S A s.heap H locs → lv_has ls 17 [(13, .int v13_239), (12, .int v12_182), (10, .long v10_182), (6, .long v6_64), (0, .ref a), (1, .int v1), (2, .int v2), (3, .int v3), (5, .int v5)] → kx v15_265 m_more_265 = some res → W p l e rmX11_rung s m args below meth c H locs 0 0 Q (F0 m 340 ls [])) → ∀ (n : Nat) (v15_265 : Int32) (m_more_265 : (Nat → Int64)) (H : Heap) (locs : List Loc) (ls : Array Slot), va_P D vwCl [(a, .inr (11, [.ref a_book, .ref a_now, .int m_sights, .ref a_sight, .int m_signs, .ref a_pad, .int m_sold, .int m_markets, .int m_marketAt, .int m_reason, .int m_acts, .ref a_digits, .ref a_without, .ref a_with, .ref a_counts, .ref a_fewest, .ref a_ways, .ref a_more, .ref a_chooses, .ref a_image, .ref a_isKept])), cm_kJ cJ a_ways 13 m_ways_239, cm_kJ cJ a_more 13 m_more_265, cm_kJ cJ a_chooses 169 m_chooses_111] H → va_D A [(a, .inr (11, [.ref a_book, .ref a_now, .int m_sights, .ref a_sight, .int m_signs, .ref a_pad, .int m_sold, .int m_markets, .int m_marketAt, .int m_reason, .int m_acts, .ref a_digits, .ref a_without, .ref a_with, .ref a_counts, .ref a_fewest, .ref a_ways, .ref a_more, .ref a_chooses, .ref a_image, .ref a_isKept])), cm_kJ cJ a_ways 13 m_ways_239, cm_kJ cJ a_more 13 m_more_265, cm_kJ cJ a_chooses 169 m_chooses_111] → va_S A s.heap H locs → lv_has ls 17 [(15, .int v15_265), (14, .int j248), (13, .int v13_239), (12, .int v12_182), (10, .long v10_182), (6, .long v6_64), (0, .ref a), (1, .int v1), (2, .int v2), (3, .int v3), (5, .int v5)] → fX11_rung_L265 j248 m_ways_239 m_chooses_111 kx n v15_265 m_more_265 = some res → W p l e rmX11_rung s m args below meth c H locs 0 0 Q (F0 m 265 ls []) := by
                              intro kx hkx n
                              induction n with
                              | zero => intro v15_265 m_more_265 H locs ls hP hD hS hl hf; cases hf
                              | succ n ih =>
                                intro v15_265 m_more_265 H locs ls hP hD hS hl hf
                                rw [fX11_rung_L265] at hf
                                refine lv_iload (pc := 265) hx hb dX11_rung_265 (lv_at hl 0 rfl) ?_
                                refine lv_bipush (pc := 267) (v := 13) hx hb dX11_rung_267 (by decide) ?_
                                refine lv_icmp_ge (pc := 269) (tgt := 340) hx hb dX11_rung_269 (by decide) (fun c_269 => ?_) (fun c_269 => ?_)
                                · have hf := cm_ip c_269 hf
                                  exact hkx v15_265 m_more_265 _ _ _ hP hD hS (lv_sub hl [2, 3, 4, 5, 6, 7, 8, 9, 10] rfl) hf
                                · have hf := cm_in c_269 hf
                                  refine lv_aload_n (pc := 272) hx hb dX11_rung_272 rfl (lv_at hl 6 rfl) ?_
                                  refine va_get (pc := 273) (D := D) (ci := 11) (v := .ref a_more) (C := RX11) (T := TX11) (N := 21) hx hb hts in_X11 hown hKa hP 0 rfl rfl 17 (by decide) (hts _ tw_722) (fun _ h9 => h9) rfl dX11_rung_273 ?_
                                  refine lv_iload (pc := 276) hx hb dX11_rung_276 (lv_at hl 0 rfl) ?_
                                  refine lv_lconst (pc := 278) (v := 0) hx hb dX11_rung_278 (by decide) ?_
                                  obtain ⟨b_279, hf⟩ := cm_ob hf
                                  refine va_last (pc := 279) hx hb hKa hP hD hS 2 1 rfl rfl b_279 dX11_rung_279 (fun H locs hP hD hS => ?_)
                                  have hP : va_P D vwCl [(a, .inr (11, [.ref a_book, .ref a_now, .int m_sights, .ref a_sight, .int m_signs, .ref a_pad, .int m_sold, .int m_markets, .int m_marketAt, .int m_reason, .int m_acts, .ref a_digits, .ref a_without, .ref a_with, .ref a_counts, .ref a_fewest, .ref a_ways, .ref a_more, .ref a_chooses, .ref a_image, .ref a_isKept])), cm_kJ cJ a_ways 13 m_ways_239, cm_kJ cJ a_more 13 (vp_updL m_more_265 v15_265.toNatClampNeg 0), cm_kJ cJ a_chooses 169 m_chooses_111] H := hP
                                  have hD : va_D A [(a, .inr (11, [.ref a_book, .ref a_now, .int m_sights, .ref a_sight, .int m_signs, .ref a_pad, .int m_sold, .int m_markets, .int m_marketAt, .int m_reason, .int m_acts, .ref a_digits, .ref a_without, .ref a_with, .ref a_counts, .ref a_fewest, .ref a_ways, .ref a_more, .ref a_chooses, .ref a_image, .ref a_isKept])), cm_kJ cJ a_ways 13 m_ways_239, cm_kJ cJ a_more 13 (vp_updL m_more_265 v15_265.toNatClampNeg 0), cm_kJ cJ a_chooses 169 m_chooses_111] := hD
                                  refine lv_iload (pc := 280) hx hb dX11_rung_280 (lv_at hl 0 rfl) ?_
                                  refine lv_iload (pc := 282) hx hb dX11_rung_282 (lv_at hl 1 rfl) ?_
                                  refine lv_iadd (pc := 284) hx hb dX11_rung_284 ?_
                                  refine lv_istore (pc := 285) (lv' := [(16, .int (v15_265 + j248)), (15, .int v15_265), (14, .int j248), (13, .int v13_239), (12, .int v12_182), (10, .long v10_182), (6, .long v6_64), (0, .ref a), (1, .int v1), (2, .int v2), (3, .int v3), (5, .int v5)]) hx hb dX11_rung_285 hl (by decide) rfl (fun ls hl => ?_)
                                  have L287 : ∀ (kx : Int32 → (Nat → Int64) → Option (Int64 × (Nat → Int64) × (Nat → Int64) × (Nat → Int64))), (∀ (v16_287 : Int32) (m_more_287 : (Nat → Int64)) (H : Heap) (locs : List Loc) (ls : Array Slot), va_P D vwCl [(a, .inr (11, [.ref a_book, .ref a_now, .int m_sights, .ref a_sight, .int m_signs, .ref a_pad, .int m_sold, .int m_markets, .int m_marketAt, .int m_reason, .int m_acts, .ref a_digits, .ref a_without, .ref a_with, .ref a_counts, .ref a_fewest, .ref a_ways, .ref a_more, .ref a_chooses, .ref a_image, .ref a_isKept])), cm_kJ cJ a_ways 13 m_ways_239, cm_kJ cJ a_more 13 m_more_287, cm_kJ cJ a_chooses 169 m_chooses_111] H → va_D A [(a, .inr (11, [.ref a_book, .ref a_now, .int m_sights, .ref a_sight, .int m_signs, .ref a_pad, .int m_sold, .int m_markets, .int m_marketAt, .int m_reason, .int m_acts, .ref a_digits, .ref a_without, .ref a_with, .ref a_counts, .ref a_fewest, .ref a_ways, .ref a_more, .ref a_chooses, .ref a_image, .ref a_isKept])), cm_kJ cJ a_ways 13 m_ways_239, cm_kJ cJ a_more 13 m_more_287, cm_kJ cJ a_chooses 169 m_chooses_111] → va_S A s.heap H locs → lv_has ls 17 [(15, .int v15_265), (14, .int j248), (13, .int v13_239), (12, .int v12_182), (10, .long v10_182), (6, .long v6_64), (0, .ref a), (1, .int v1), (2, .int v2), (3, .int v3), (5, .int v5)] → kx v16_287 m_more_287 = some res → W p l e rmX11_rung s m args below meth c H locs 0 0 Q (F0 m 334 ls [])) → ∀ (n : Nat) (v16_287 : Int32) (m_more_287 : (Nat → Int64)) (H : Heap) (locs : List Loc) (ls : Array Slot), va_P D vwCl [(a, .inr (11, [.ref a_book, .ref a_now, .int m_sights, .ref a_sight, .int m_signs, .ref a_pad, .int m_sold, .int m_markets, .int m_marketAt, .int m_reason, .int m_acts, .ref a_digits, .ref a_without, .ref a_with, .ref a_counts, .ref a_fewest, .ref a_ways, .ref a_more, .ref a_chooses, .ref a_image, .ref a_isKept])), cm_kJ cJ a_ways 13 m_ways_239, cm_kJ cJ a_more 13 m_more_287, cm_kJ cJ a_chooses 169 m_chooses_111] H → va_D A [(a, .inr (11, [.ref a_book, .ref a_now, .int m_sights, .ref a_sight, .int m_signs, .ref a_pad, .int m_sold, .int m_markets, .int m_marketAt, .int m_reason, .int m_acts, .ref a_digits, .ref a_without, .ref a_with, .ref a_counts, .ref a_fewest, .ref a_ways, .ref a_more, .ref a_chooses, .ref a_image, .ref a_isKept])), cm_kJ cJ a_ways 13 m_ways_239, cm_kJ cJ a_more 13 m_more_287, cm_kJ cJ a_chooses 169 m_chooses_111] → va_S A s.heap H locs → lv_has ls 17 [(16, .int v16_287), (15, .int v15_265), (14, .int j248), (13, .int v13_239), (12, .int v12_182), (10, .long v10_182), (6, .long v6_64), (0, .ref a), (1, .int v1), (2, .int v2), (3, .int v3), (5, .int v5)] → fX11_rung_L287 v15_265 m_ways_239 m_chooses_111 kx n v16_287 m_more_287 = some res → W p l e rmX11_rung s m args below meth c H locs 0 0 Q (F0 m 287 ls []) := by
                                    intro kx hkx n
                                    induction n with
                                    | zero => intro v16_287 m_more_287 H locs ls hP hD hS hl hf; cases hf
                                    | succ n ih =>
                                      intro v16_287 m_more_287 H locs ls hP hD hS hl hf
                                      rw [fX11_rung_L287] at hf
                                      refine lv_iload (pc := 287) hx hb dX11_rung_287 (lv_at hl 0 rfl) ?_
                                      refine lv_bipush (pc := 289) (v := 13) hx hb dX11_rung_289 (by decide) ?_
                                      refine lv_icmp_ge (pc := 291) (tgt := 334) hx hb dX11_rung_291 (by decide) (fun c_291 => ?_) (fun c_291 => ?_)
                                      · have hf := cm_ip c_291 hf
                                        exact hkx v16_287 m_more_287 _ _ _ hP hD hS (lv_sub hl [1, 2, 3, 4, 5, 6, 7, 8, 9, 10, 11] rfl) hf
                                      · have hf := cm_in c_291 hf
                                        refine lv_aload_n (pc := 294) hx hb dX11_rung_294 rfl (lv_at hl 7 rfl) ?_
                                        refine va_get (pc := 295) (D := D) (ci := 11) (v := .ref a_more) (C := RX11) (T := TX11) (N := 21) hx hb hts in_X11 hown hKa hP 0 rfl rfl 17 (by decide) (hts _ tw_722) (fun _ h9 => h9) rfl dX11_rung_295 ?_
                                        refine lv_iload (pc := 298) hx hb dX11_rung_298 (lv_at hl 1 rfl) ?_
                                        refine lv_dup2_11 (pc := 300) hx hb dX11_rung_300 rfl rfl ?_
                                        obtain ⟨b_301, hf⟩ := cm_ob hf
                                        refine va_lald (pc := 301) hx hb hKa hP 2 1 rfl rfl b_301 dX11_rung_301 ?_
                                        refine lv_aload_n (pc := 302) hx hb dX11_rung_302 rfl (lv_at hl 7 rfl) ?_
                                        refine va_get (pc := 303) (D := D) (ci := 11) (v := .ref a_ways) (C := RX11) (T := TX11) (N := 21) hx hb hts in_X11 hown hKa hP 0 rfl rfl 16 (by decide) (hts _ tw_721) (fun _ h9 => h9) rfl dX11_rung_303 ?_
                                        refine lv_iload (pc := 306) hx hb dX11_rung_306 (lv_at hl 0 rfl) ?_
                                        obtain ⟨b_308, hf⟩ := cm_ob hf
                                        refine va_lald (pc := 308) hx hb hKa hP 1 1 rfl rfl b_308 dX11_rung_308 ?_
                                        refine lv_aload_n (pc := 309) hx hb dX11_rung_309 rfl (lv_at hl 7 rfl) ?_
                                        refine va_get (pc := 310) (D := D) (ci := 11) (v := .ref a_chooses) (C := RX11) (T := TX11) (N := 21) hx hb hts in_X11 hown hKa hP 0 rfl rfl 18 (by decide) (hts _ tw_723) (fun _ h9 => h9) rfl dX11_rung_310 ?_
                                        refine lv_bipush (pc := 313) (v := 13) hx hb dX11_rung_313 (by decide) ?_
                                        refine lv_iload (pc := 315) hx hb dX11_rung_315 (lv_at hl 0 rfl) ?_
                                        refine lv_imul (pc := 317) hx hb dX11_rung_317 ?_
                                        refine lv_iload (pc := 318) hx hb dX11_rung_318 (lv_at hl 0 rfl) ?_
                                        refine lv_iadd (pc := 320) hx hb dX11_rung_320 ?_
                                        refine lv_iload (pc := 321) hx hb dX11_rung_321 (lv_at hl 1 rfl) ?_
                                        refine lv_isub (pc := 323) hx hb dX11_rung_323 ?_
                                        obtain ⟨b_324, hf⟩ := cm_ob hf
                                        refine va_lald (pc := 324) hx hb hKa hP 3 1 rfl rfl b_324 dX11_rung_324 ?_
                                        refine lv_lmul (pc := 325) hx hb dX11_rung_325 ?_
                                        refine lv_ladd (pc := 326) hx hb dX11_rung_326 ?_
                                        obtain ⟨b_327, hf⟩ := cm_ob hf
                                        refine va_last (pc := 327) hx hb hKa hP hD hS 2 1 rfl rfl b_327 dX11_rung_327 (fun H locs hP hD hS => ?_)
                                        have hP : va_P D vwCl [(a, .inr (11, [.ref a_book, .ref a_now, .int m_sights, .ref a_sight, .int m_signs, .ref a_pad, .int m_sold, .int m_markets, .int m_marketAt, .int m_reason, .int m_acts, .ref a_digits, .ref a_without, .ref a_with, .ref a_counts, .ref a_fewest, .ref a_ways, .ref a_more, .ref a_chooses, .ref a_image, .ref a_isKept])), cm_kJ cJ a_ways 13 m_ways_239, cm_kJ cJ a_more 13 (vp_updL m_more_287 v15_265.toNatClampNeg ((m_more_287 v15_265.toNatClampNeg) + ((m_ways_239 v16_287.toNatClampNeg) * (m_chooses_111 (((13 * v16_287) + v16_287) - v15_265).toNatClampNeg)))), cm_kJ cJ a_chooses 169 m_chooses_111] H := hP
                                        have hD : va_D A [(a, .inr (11, [.ref a_book, .ref a_now, .int m_sights, .ref a_sight, .int m_signs, .ref a_pad, .int m_sold, .int m_markets, .int m_marketAt, .int m_reason, .int m_acts, .ref a_digits, .ref a_without, .ref a_with, .ref a_counts, .ref a_fewest, .ref a_ways, .ref a_more, .ref a_chooses, .ref a_image, .ref a_isKept])), cm_kJ cJ a_ways 13 m_ways_239, cm_kJ cJ a_more 13 (vp_updL m_more_287 v15_265.toNatClampNeg ((m_more_287 v15_265.toNatClampNeg) + ((m_ways_239 v16_287.toNatClampNeg) * (m_chooses_111 (((13 * v16_287) + v16_287) - v15_265).toNatClampNeg)))), cm_kJ cJ a_chooses 169 m_chooses_111] := hD
                                        refine lv_iinc (pc := 328) (v := (v16_287 + 1)) (lv' := [(16, .int (v16_287 + 1)), (15, .int v15_265), (14, .int j248), (13, .int v13_239), (12, .int v12_182), (10, .long v10_182), (6, .long v6_64), (0, .ref a), (1, .int v1), (2, .int v2), (3, .int v3), (5, .int v5)]) hx hb dX11_rung_328 hl (k := 0) rfl rfl (by decide) rfl (fun ls hl => ?_)
                                        refine lv_goto (pc := 331) (tgt := 287) hx hb dX11_rung_331 (by decide) ?_
                                        exact ih (v16_287 + 1) (vp_updL m_more_287 v15_265.toNatClampNeg ((m_more_287 v15_265.toNatClampNeg) + ((m_ways_239 v16_287.toNatClampNeg) * (m_chooses_111 (((13 * v16_287) + v16_287) - v15_265).toNatClampNeg)))) _ _ _ hP hD hS (lv_sub hl [0, 1, 2, 3, 4, 5, 6, 7, 8, 9, 10, 11] rfl) hf
                                  refine L287 _ (fun v16_287 m_more_287 H locs ls hP hD hS hl hf => ?_) 5000 (v15_265 + j248) (vp_updL m_more_265 v15_265.toNatClampNeg 0) _ _ _ hP hD hS (lv_sub hl [0, 1, 2, 3, 4, 5, 6, 7, 8, 9, 10, 11] rfl) hf
                                  refine lv_iinc (pc := 334) (v := (v15_265 + 1)) (lv' := [(15, .int (v15_265 + 1)), (14, .int j248), (13, .int v13_239), (12, .int v12_182), (10, .long v10_182), (6, .long v6_64), (0, .ref a), (1, .int v1), (2, .int v2), (3, .int v3), (5, .int v5)]) hx hb dX11_rung_334 hl (k := 0) rfl rfl (by decide) rfl (fun ls hl => ?_)
                                  refine lv_goto (pc := 337) (tgt := 265) hx hb dX11_rung_337 (by decide) ?_
                                  exact ih (v15_265 + 1) m_more_287 _ _ _ hP hD hS (lv_sub hl [0, 1, 2, 3, 4, 5, 6, 7, 8, 9, 10] rfl) hf
                            refine L265 _ (fun v15_265 m_more_265 H locs ls hP hD hS hl hf => ?_) 5000 0 m_more_239 _ _ _ hP hD hS (lv_sub hl [0, 1, 2, 3, 4, 5, 6, 7, 8, 9, 10] rfl) hf
                            refine lv_iconst (pc := 340) (v := 0) hx hb dX11_rung_340 (by decide) ?_
                            refine lv_istore (pc := 341) (lv' := [(15, .int 0), (13, .int v13_239), (12, .int v12_182), (10, .long v10_182), (6, .long v6_64), (0, .ref a), (1, .int v1), (2, .int v2), (3, .int v3), (5, .int v5)]) hx hb dX11_rung_341 hl (by decide) rfl (fun ls hl => ?_)
                            have L343 : ∀ (kx : Int32 → (Nat → Int64) → Option (Int64 × (Nat → Int64) × (Nat → Int64) × (Nat → Int64))), (∀ (v15_343 : Int32) (m_ways_343 : (Nat → Int64)) (H : Heap) (locs : List Loc) (ls : Array Slot), va_P D vwCl [(a, .inr (11, [.ref a_book, .ref a_now, .int m_sights, .ref a_sight, .int m_signs, .ref a_pad, .int m_sold, .int m_markets, .int m_marketAt, .int m_reason, .int m_acts, .ref a_digits, .ref a_without, .ref a_with, .ref a_counts, .ref a_fewest, .ref a_ways, .ref a_more, .ref a_chooses, .ref a_image, .ref a_isKept])), cm_kJ cJ a_ways 13 m_ways_343, cm_kJ cJ a_more 13 m_more_265, cm_kJ cJ a_chooses 169 m_chooses_111] H → va_D A [(a, .inr (11, [.ref a_book, .ref a_now, .int m_sights, .ref a_sight, .int m_signs, .ref a_pad, .int m_sold, .int m_markets, .int m_marketAt, .int m_reason, .int m_acts, .ref a_digits, .ref a_without, .ref a_with, .ref a_counts, .ref a_fewest, .ref a_ways, .ref a_more, .ref a_chooses, .ref a_image, .ref a_isKept])), cm_kJ cJ a_ways 13 m_ways_343, cm_kJ cJ a_more 13 m_more_265, cm_kJ cJ a_chooses 169 m_chooses_111] → va_S A s.heap H locs → lv_has ls 17 [(13, .int v13_239), (12, .int v12_182), (10, .long v10_182), (6, .long v6_64), (0, .ref a), (1, .int v1), (2, .int v2), (3, .int v3), (5, .int v5)] → kx v15_343 m_ways_343 = some res → W p l e rmX11_rung s m args below meth c H locs 0 0 Q (F0 m 376 ls [])) → ∀ (n : Nat) (v15_343 : Int32) (m_ways_343 : (Nat → Int64)) (H : Heap) (locs : List Loc) (ls : Array Slot), va_P D vwCl [(a, .inr (11, [.ref a_book, .ref a_now, .int m_sights, .ref a_sight, .int m_signs, .ref a_pad, .int m_sold, .int m_markets, .int m_marketAt, .int m_reason, .int m_acts, .ref a_digits, .ref a_without, .ref a_with, .ref a_counts, .ref a_fewest, .ref a_ways, .ref a_more, .ref a_chooses, .ref a_image, .ref a_isKept])), cm_kJ cJ a_ways 13 m_ways_343, cm_kJ cJ a_more 13 m_more_265, cm_kJ cJ a_chooses 169 m_chooses_111] H → va_D A [(a, .inr (11, [.ref a_book, .ref a_now, .int m_sights, .ref a_sight, .int m_signs, .ref a_pad, .int m_sold, .int m_markets, .int m_marketAt, .int m_reason, .int m_acts, .ref a_digits, .ref a_without, .ref a_with, .ref a_counts, .ref a_fewest, .ref a_ways, .ref a_more, .ref a_chooses, .ref a_image, .ref a_isKept])), cm_kJ cJ a_ways 13 m_ways_343, cm_kJ cJ a_more 13 m_more_265, cm_kJ cJ a_chooses 169 m_chooses_111] → va_S A s.heap H locs → lv_has ls 17 [(15, .int v15_343), (13, .int v13_239), (12, .int v12_182), (10, .long v10_182), (6, .long v6_64), (0, .ref a), (1, .int v1), (2, .int v2), (3, .int v3), (5, .int v5)] → fX11_rung_L343 v3 v13_239 m_more_265 kx n v15_343 m_ways_343 = some res → W p l e rmX11_rung s m args below meth c H locs 0 0 Q (F0 m 343 ls []) := by
                              intro kx hkx n
                              induction n with
                              | zero => intro v15_343 m_ways_343 H locs ls hP hD hS hl hf; cases hf
                              | succ n ih =>
                                intro v15_343 m_ways_343 H locs ls hP hD hS hl hf
                                rw [fX11_rung_L343] at hf
                                refine lv_iload (pc := 343) hx hb dX11_rung_343 (lv_at hl 0 rfl) ?_
                                refine lv_bipush (pc := 345) (v := 13) hx hb dX11_rung_345 (by decide) ?_
                                refine lv_icmp_ge (pc := 347) (tgt := 376) hx hb dX11_rung_347 (by decide) (fun c_347 => ?_) (fun c_347 => ?_)
                                · have hf := cm_ip c_347 hf
                                  exact hkx v15_343 m_ways_343 _ _ _ hP hD hS (lv_sub hl [1, 2, 3, 4, 5, 6, 7, 8, 9] rfl) hf
                                · have hf := cm_in c_347 hf
                                  refine lv_iload (pc := 350) hx hb dX11_rung_350 (lv_at hl 1 rfl) ?_
                                  refine lv_iload_n (pc := 352) hx hb dX11_rung_352 rfl (lv_at hl 8 rfl) ?_
                                  refine lv_icmp_eq (pc := 353) (tgt := 376) hx hb dX11_rung_353 (by decide) (fun c_353 => ?_) (fun c_353 => ?_)
                                  · have hf := cm_ip c_353 hf
                                    exact hkx v15_343 m_ways_343 _ _ _ hP hD hS (lv_sub hl [1, 2, 3, 4, 5, 6, 7, 8, 9] rfl) hf
                                  · have hf := cm_in c_353 hf
                                    refine lv_aload_n (pc := 356) hx hb dX11_rung_356 rfl (lv_at hl 5 rfl) ?_
                                    refine va_get (pc := 357) (D := D) (ci := 11) (v := .ref a_ways) (C := RX11) (T := TX11) (N := 21) hx hb hts in_X11 hown hKa hP 0 rfl rfl 16 (by decide) (hts _ tw_721) (fun _ h9 => h9) rfl dX11_rung_357 ?_
                                    refine lv_iload (pc := 360) hx hb dX11_rung_360 (lv_at hl 0 rfl) ?_
                                    refine lv_aload_n (pc := 362) hx hb dX11_rung_362 rfl (lv_at hl 5 rfl) ?_
                                    refine va_get (pc := 363) (D := D) (ci := 11) (v := .ref a_more) (C := RX11) (T := TX11) (N := 21) hx hb hts in_X11 hown hKa hP 0 rfl rfl 17 (by decide) (hts _ tw_722) (fun _ h9 => h9) rfl dX11_rung_363 ?_
                                    refine lv_iload (pc := 366) hx hb dX11_rung_366 (lv_at hl 0 rfl) ?_
                                    obtain ⟨b_368, hf⟩ := cm_ob hf
                                    refine va_lald (pc := 368) hx hb hKa hP 2 1 rfl rfl b_368 dX11_rung_368 ?_
                                    obtain ⟨b_369, hf⟩ := cm_ob hf
                                    refine va_last (pc := 369) hx hb hKa hP hD hS 1 1 rfl rfl b_369 dX11_rung_369 (fun H locs hP hD hS => ?_)
                                    have hP : va_P D vwCl [(a, .inr (11, [.ref a_book, .ref a_now, .int m_sights, .ref a_sight, .int m_signs, .ref a_pad, .int m_sold, .int m_markets, .int m_marketAt, .int m_reason, .int m_acts, .ref a_digits, .ref a_without, .ref a_with, .ref a_counts, .ref a_fewest, .ref a_ways, .ref a_more, .ref a_chooses, .ref a_image, .ref a_isKept])), cm_kJ cJ a_ways 13 (vp_updL m_ways_343 v15_343.toNatClampNeg (m_more_265 v15_343.toNatClampNeg)), cm_kJ cJ a_more 13 m_more_265, cm_kJ cJ a_chooses 169 m_chooses_111] H := hP
                                    have hD : va_D A [(a, .inr (11, [.ref a_book, .ref a_now, .int m_sights, .ref a_sight, .int m_signs, .ref a_pad, .int m_sold, .int m_markets, .int m_marketAt, .int m_reason, .int m_acts, .ref a_digits, .ref a_without, .ref a_with, .ref a_counts, .ref a_fewest, .ref a_ways, .ref a_more, .ref a_chooses, .ref a_image, .ref a_isKept])), cm_kJ cJ a_ways 13 (vp_updL m_ways_343 v15_343.toNatClampNeg (m_more_265 v15_343.toNatClampNeg)), cm_kJ cJ a_more 13 m_more_265, cm_kJ cJ a_chooses 169 m_chooses_111] := hD
                                    refine lv_iinc (pc := 370) (v := (v15_343 + 1)) (lv' := [(15, .int (v15_343 + 1)), (13, .int v13_239), (12, .int v12_182), (10, .long v10_182), (6, .long v6_64), (0, .ref a), (1, .int v1), (2, .int v2), (3, .int v3), (5, .int v5)]) hx hb dX11_rung_370 hl (k := 0) rfl rfl (by decide) rfl (fun ls hl => ?_)
                                    refine lv_goto (pc := 373) (tgt := 343) hx hb dX11_rung_373 (by decide) ?_
                                    exact ih (v15_343 + 1) (vp_updL m_ways_343 v15_343.toNatClampNeg (m_more_265 v15_343.toNatClampNeg)) _ _ _ hP hD hS (lv_sub hl [0, 1, 2, 3, 4, 5, 6, 7, 8, 9] rfl) hf
                            refine L343 _ (fun v15_343 m_ways_343 H locs ls hP hD hS hl hf => ?_) 5000 0 m_ways_239 _ _ _ hP hD hS (lv_sub hl [0, 1, 2, 3, 4, 5, 6, 7, 8, 9] rfl) hf
                            refine lv_iinc (pc := 376) (v := (v13_239 + 1)) (lv' := [(13, .int (v13_239 + 1)), (12, .int v12_182), (10, .long v10_182), (6, .long v6_64), (0, .ref a), (1, .int v1), (2, .int v2), (3, .int v3), (5, .int v5)]) hx hb dX11_rung_376 hl (k := 0) rfl rfl (by decide) rfl (fun ls hl => ?_)
                            refine lv_goto (pc := 379) (tgt := 239) hx hb dX11_rung_379 (by decide) ?_
                            exact ih (v13_239 + 1) m_ways_343 m_more_265 _ _ _ hP hD hS (lv_sub hl [0, 1, 2, 3, 4, 5, 6, 7, 8] rfl) hf
                          clear hf
                          have hf := hj248
                          refine lv_icmp_ge (pc := 248) (tgt := 258) hx hb dX11_rung_248 (by decide) (fun c_248 => ?_) (fun c_248 => ?_)
                          · have hf := cm_ip c_248 hf
                            refine lv_iload (pc := 258) hx hb dX11_rung_258 (lv_at hl 1 rfl) ?_
                            obtain rfl := hf
                            exact J248 _ _ _ hP hD hS (lv_sub hl [0, 1, 2, 3, 4, 5, 6, 7, 8] rfl)
                          · have hf := cm_in c_248 hf
                            refine lv_iload (pc := 251) hx hb dX11_rung_251 (lv_at hl 1 rfl) ?_
                            refine lv_iconst (pc := 253) (v := 1) hx hb dX11_rung_253 (by decide) ?_
                            refine lv_iadd (pc := 254) hx hb dX11_rung_254 ?_
                            refine lv_goto (pc := 255) (tgt := 260) hx hb dX11_rung_255 (by decide) ?_
                            obtain rfl := hf
                            exact J248 _ _ _ hP hD hS (lv_sub hl [0, 1, 2, 3, 4, 5, 6, 7, 8] rfl)
                    refine L239 _ (fun v13_239 m_ways_239 m_more_239 H locs ls hP hD hS hl hf => ?_) 5000 0 m_ways_191 m_more_182 _ _ _ hP hD hS (lv_sub hl [0, 1, 2, 3, 4, 5, 6, 7, 8] rfl) hf
                    refine lv_lload (pc := 382) hx hb dX11_rung_382 (lv_at hl 1 rfl) ?_
                    refine lv_aload_n (pc := 384) hx hb dX11_rung_384 rfl (lv_at hl 3 rfl) ?_
                    refine va_get (pc := 385) (D := D) (ci := 11) (v := .ref a_ways) (C := RX11) (T := TX11) (N := 21) hx hb hts in_X11 hown hKa hP 0 rfl rfl 16 (by decide) (hts _ tw_721) (fun _ h9 => h9) rfl dX11_rung_385 ?_
                    refine lv_iconst (pc := 388) (v := 0) hx hb dX11_rung_388 (by decide) ?_
                    refine cm_lald (pc := 389) hx hb hKa hP 1 1 rfl rfl 0 rfl (by decide) dX11_rung_389 ?_
                    refine lv_ladd (pc := 390) hx hb dX11_rung_390 ?_
                    refine lv_lstore (pc := 391) (lv' := [(10, .long (v10_182 + (m_ways_239 0))), (12, .int v12_182), (6, .long v6_64), (0, .ref a), (1, .int v1), (2, .int v2), (3, .int v3), (5, .int v5)]) hx hb dX11_rung_391 hl (by decide) rfl (fun ls hl => ?_)
                    refine lv_iinc (pc := 393) (v := (v12_182 + 1)) (lv' := [(12, .int (v12_182 + 1)), (10, .long (v10_182 + (m_ways_239 0))), (6, .long v6_64), (0, .ref a), (1, .int v1), (2, .int v2), (3, .int v3), (5, .int v5)]) hx hb dX11_rung_393 hl (k := 1) rfl rfl (by decide) rfl (fun ls hl => ?_)
                    refine lv_goto (pc := 396) (tgt := 182) hx hb dX11_rung_396 (by decide) ?_
                    exact ih (v10_182 + (m_ways_239 0)) (v12_182 + 1) m_ways_239 m_more_239 _ _ _ hP hD hS (lv_sub hl [0, 1, 2, 3, 4, 5, 6, 7] rfl) hf
              refine L182 _ (fun v10_182 v12_182 m_ways_182 m_more_182 H locs ls hP hD hS hl hf => ?_) 5000 0 0 m_ways m_more _ _ _ hP hD hS (lv_sub hl [0, 1, 2, 3, 4, 5, 6, 7] rfl) hf
              refine lv_lload (pc := 399) hx hb dX11_rung_399 (lv_at hl 0 rfl) ?_
              refine lv_lload (pc := 401) hx hb dX11_rung_401 (lv_at hl 1 rfl) ?_
              refine lv_iload (pc := 403) hx hb dX11_rung_403 (lv_at hl 2 rfl) ?_
              obtain ⟨u405, hu405, hf⟩ := cm_bd hf
              refine cm_callS (pc := 405) (As := [.long v10_182, .long v6_64, .int v5]) (rest := []) (wr := [(a, .inr (11, [.ref a_book, .ref a_now, .int m_sights, .ref a_sight, .int m_signs, .ref a_pad, .int m_sold, .int m_markets, .int m_marketAt, .int m_reason, .int m_acts, .ref a_digits, .ref a_without, .ref a_with, .ref a_counts, .ref a_fewest, .ref a_ways, .ref a_more, .ref a_chooses, .ref a_image, .ref a_isKept])), cm_kJ cJ a_ways 13 m_ways_182, cm_kJ cJ a_more 13 m_more_182, cm_kJ cJ a_chooses 169 m_chooses_111]) (n := 3) hx hb hml hown hts hK hP hD hS hA (c_X11_lowest l D cI cJ cZ cR v10_182 v6_64 v5 u405 hu405) tw_935 tw_933 tw_934 tw_55 rfl rfl (by decide +kernel) rfl ⟨Nat.le_of_ble_eq_true rfl, Nat.le_of_ble_eq_true rfl⟩ [] [0, 1, 2, 3] rfl (by decide) rfl (by decide) (by decide) hl.1 rfl (Nat.le_of_ble_eq_true rfl) dX11_rung_405 ⟨Nat.zero_le _, Nat.zero_le _⟩ (fun H locs hP hD hS => ?_)
              have hP : va_P D vwCl [(a, .inr (11, [.ref a_book, .ref a_now, .int m_sights, .ref a_sight, .int m_signs, .ref a_pad, .int m_sold, .int m_markets, .int m_marketAt, .int m_reason, .int m_acts, .ref a_digits, .ref a_without, .ref a_with, .ref a_counts, .ref a_fewest, .ref a_ways, .ref a_more, .ref a_chooses, .ref a_image, .ref a_isKept])), cm_kJ cJ a_ways 13 m_ways_182, cm_kJ cJ a_more 13 m_more_182, cm_kJ cJ a_chooses 169 m_chooses_111] H := hP
              have hD : va_D A [(a, .inr (11, [.ref a_book, .ref a_now, .int m_sights, .ref a_sight, .int m_signs, .ref a_pad, .int m_sold, .int m_markets, .int m_marketAt, .int m_reason, .int m_acts, .ref a_digits, .ref a_without, .ref a_with, .ref a_counts, .ref a_fewest, .ref a_ways, .ref a_more, .ref a_chooses, .ref a_image, .ref a_isKept])), cm_kJ cJ a_ways 13 m_ways_182, cm_kJ cJ a_more 13 m_more_182, cm_kJ cJ a_chooses 169 m_chooses_111] := hD
              refine W.eq (g2 := F0 m 408 ls [.long u405]) rfl ?_
              obtain rfl := Option.some.inj hf
              exact cm_lret (pc := 408) hAe hQ hx hb hr hlocks hP hD hS [0, 1, 2, 3] (by decide) rfl dX11_rung_408
            · have hf := cm_ip c_95 hf
              refine lv_lload (pc := 98) hx hb dX11_rung_98 (lv_at hl 0 rfl) ?_
              refine lv_lload (pc := 100) hx hb dX11_rung_100 (lv_at hl 1 rfl) ?_
              refine lv_iload (pc := 102) hx hb dX11_rung_102 (lv_at hl 7 rfl) ?_
              obtain ⟨u104, hu104, hf⟩ := cm_bd hf
              refine cm_callS (pc := 104) (As := [.long v8_64, .long v6_64, .int v5]) (rest := []) (wr := [(a, .inr (11, [.ref a_book, .ref a_now, .int m_sights, .ref a_sight, .int m_signs, .ref a_pad, .int m_sold, .int m_markets, .int m_marketAt, .int m_reason, .int m_acts, .ref a_digits, .ref a_without, .ref a_with, .ref a_counts, .ref a_fewest, .ref a_ways, .ref a_more, .ref a_chooses, .ref a_image, .ref a_isKept])), cm_kJ cJ a_ways 13 m_ways, cm_kJ cJ a_more 13 m_more, cm_kJ cJ a_chooses 169 m_chooses]) (n := 3) hx hb hml hown hts hK hP hD hS hA (c_X11_lowest l D cI cJ cZ cR v8_64 v6_64 v5 u104 hu104) tw_935 tw_933 tw_934 tw_55 rfl rfl (by decide +kernel) rfl ⟨Nat.le_of_ble_eq_true rfl, Nat.le_of_ble_eq_true rfl⟩ [] [0, 1, 2, 3] rfl (by decide) rfl (by decide) (by decide) hl.1 rfl (Nat.le_of_ble_eq_true rfl) dX11_rung_104 ⟨Nat.zero_le _, Nat.zero_le _⟩ (fun H locs hP hD hS => ?_)
              have hP : va_P D vwCl [(a, .inr (11, [.ref a_book, .ref a_now, .int m_sights, .ref a_sight, .int m_signs, .ref a_pad, .int m_sold, .int m_markets, .int m_marketAt, .int m_reason, .int m_acts, .ref a_digits, .ref a_without, .ref a_with, .ref a_counts, .ref a_fewest, .ref a_ways, .ref a_more, .ref a_chooses, .ref a_image, .ref a_isKept])), cm_kJ cJ a_ways 13 m_ways, cm_kJ cJ a_more 13 m_more, cm_kJ cJ a_chooses 169 m_chooses] H := hP
              have hD : va_D A [(a, .inr (11, [.ref a_book, .ref a_now, .int m_sights, .ref a_sight, .int m_signs, .ref a_pad, .int m_sold, .int m_markets, .int m_marketAt, .int m_reason, .int m_acts, .ref a_digits, .ref a_without, .ref a_with, .ref a_counts, .ref a_fewest, .ref a_ways, .ref a_more, .ref a_chooses, .ref a_image, .ref a_isKept])), cm_kJ cJ a_ways 13 m_ways, cm_kJ cJ a_more 13 m_more, cm_kJ cJ a_chooses 169 m_chooses] := hD
              refine W.eq (g2 := F0 m 107 ls [.long u104]) rfl ?_
              obtain rfl := Option.some.inj hf
              exact cm_lret (pc := 107) hAe hQ hx hb hr hlocks hP hD hS [0, 1, 2, 3] (by decide) rfl dX11_rung_107
          · have hf := cm_ip c_48 hf
            refine lv_ldc2 (pc := 51) (v := (-1000000000000000002)) hx hb hown (hts _ tw_932) dX11_rung_51 ?_
            obtain rfl := Option.some.inj hf
            exact cm_lret (pc := 54) hAe hQ hx hb hr hlocks hP hD hS [0, 1, 2, 3] (by decide) rfl dX11_rung_54
