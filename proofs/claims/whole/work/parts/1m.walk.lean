def fX11_ask_L34 (kx : Int32 → (Nat → Int32) → Option (Int32 × (Nat → Int32))) : Nat → Int32 → (Nat → Int32) → Option (Int32 × (Nat → Int32))
  | 0, _, _ => none
  | n + 1, v6_34, m_counts_34 => (if 3 ≤ v6_34 then kx v6_34 m_counts_34 else if v6_34 < 0 ∨ 3 ≤ v6_34.toNatClampNeg then none else fX11_ask_L34 kx n (v6_34 + 1) (upd m_counts_34 v6_34.toNatClampNeg 0))
def fX11_ask_L57 (v4_21 : Int32) (m_sights : Int32) (m_sight : (Nat → Int32)) (kx : Int32 → Int32 → (Nat → Int32) → Option (Int32 × (Nat → Int32))) : Nat → Int32 → Int32 → (Nat → Int32) → Option (Int32 × (Nat → Int32))
  | 0, _, _, _ => none
  | n + 1, v5_57, v6_57, m_counts_57 => (if 81 ≤ v6_57 then kx v5_57 v6_57 m_counts_57 else Option.bind (fX11_isFit v6_57 m_sights m_sight) (fun u67 => (if u67 = 0 then fX11_ask_L57 v4_21 m_sights m_sight kx n v5_57 (v6_57 + 1) m_counts_57 else cm_let (fX11_saidOf v6_57 (v4_21 / 10) (irm v4_21 10)) (fun u85 => if u85 < 0 ∨ 3 ≤ u85.toNatClampNeg then none else if u85 < 0 ∨ 3 ≤ u85.toNatClampNeg then none else if u85 < 0 ∨ 3 ≤ u85.toNatClampNeg then none else (if ((upd m_counts_57 u85.toNatClampNeg ((m_counts_57 u85.toNatClampNeg) + 1)) u85.toNatClampNeg) ≤ v5_57 then fX11_ask_L57 v4_21 m_sights m_sight kx n v5_57 (v6_57 + 1) (upd m_counts_57 u85.toNatClampNeg ((m_counts_57 u85.toNatClampNeg) + 1)) else if u85 < 0 ∨ 3 ≤ u85.toNatClampNeg then none else fX11_ask_L57 v4_21 m_sights m_sight kx n ((upd m_counts_57 u85.toNatClampNeg ((m_counts_57 u85.toNatClampNeg) + 1)) u85.toNatClampNeg) (v6_57 + 1) (upd m_counts_57 u85.toNatClampNeg ((m_counts_57 u85.toNatClampNeg) + 1)))))))
def fX11_ask_L21 (m_sights : Int32) (m_sight : (Nat → Int32)) (kx : Int32 → Int32 → Int32 → (Nat → Int32) → Option (Int32 × (Nat → Int32))) : Nat → Int32 → Int32 → Int32 → (Nat → Int32) → Option (Int32 × (Nat → Int32))
  | 0, _, _, _, _ => none
  | n + 1, v2_21, v3_21, v4_21, m_counts_21 => (if 100 ≤ v4_21 then kx v2_21 v3_21 v4_21 m_counts_21 else fX11_ask_L34 (fun v6_34 m_counts_34 => fX11_ask_L57 v4_21 m_sights m_sight (fun v5_57 v6_57 m_counts_57 => cm_let ((if v5_57 ≤ 0 then 0 else (if v3_21 ≤ v5_57 then 0 else 1)) : Int32) (fun j135 => cm_let ((if j135 = 0 then v2_21 else v4_21) : Int32) (fun j153 => (if j135 = 0 then fX11_ask_L21 m_sights m_sight kx n j153 v3_21 (v4_21 + 1) m_counts_57 else fX11_ask_L21 m_sights m_sight kx n j153 v5_57 (v4_21 + 1) m_counts_57)))) 5000 0 0 m_counts_34) 5000 0 m_counts_21)
def fX11_ask (v1 : Int32) (m_sights : Int32) (m_sight : (Nat → Int32)) (m_counts : (Nat → Int32)) : Option (Int32 × (Nat → Int32)) := cm_let (fX11_in v1 0 1) (fun u3 => (if u3 = 0 then some ((-2), m_counts) else fX11_ask_L21 m_sights m_sight (fun v2_21 v3_21 v4_21 m_counts_21 => (if v2_21 < 0 then some (v2_21, m_counts_21) else (if v1 = 0 then some (v2_21, m_counts_21) else some (v3_21, m_counts_21)))) 5000 (-6) 1000000 0 m_counts))
def rmX11_ask : Room := { frames := 2, cells := 0, slots := 0, locals := 46 }
set_option maxRecDepth 100000 in
set_option maxHeartbeats 4000000 in
theorem c_X11_ask (l : Launch) (D : va_G) (cI cJ cZ : ClassId) (a a_book a_now a_sight a_pad a_digits a_without a_with a_counts a_fewest a_ways a_more a_chooses a_image a_isKept : Nat) (m_sights : Int32) (m_signs : Int32) (m_sold : Int32) (m_markets : Int32) (m_marketAt : Int32) (m_reason : Int32) (m_acts : Int32) (m_sight : (Nat → Int32)) (m_counts : (Nat → Int32)) (v1 : Int32) (res : Int32 × (Nat → Int32)) (hf : fX11_ask v1 m_sights m_sight m_counts = some res) : Ct l yX11_ask (cm_ws yX11_ask cX11_ask 8 (some .int)) rmX11_ask D (cm_T cI cJ cZ) [.ref a, .int v1] [(a, .inr (11, [.ref a_book, .ref a_now, .int m_sights, .ref a_sight, .int m_signs, .ref a_pad, .int m_sold, .int m_markets, .int m_marketAt, .int m_reason, .int m_acts, .ref a_digits, .ref a_without, .ref a_with, .ref a_counts, .ref a_fewest, .ref a_ways, .ref a_more, .ref a_chooses, .ref a_image, .ref a_isKept])), cm_kI cI a_sight 24 m_sight, cm_kI cI a_counts 3 m_counts] (some (.int res.1)) [(a, .inr (11, [.ref a_book, .ref a_now, .int m_sights, .ref a_sight, .int m_signs, .ref a_pad, .int m_sold, .int m_markets, .int m_marketAt, .int m_reason, .int m_acts, .ref a_digits, .ref a_without, .ref a_with, .ref a_counts, .ref a_fewest, .ref a_ways, .ref a_more, .ref a_chooses, .ref a_image, .ref a_isKept])), cm_kI cI a_sight 24 m_sight, cm_kI cI a_counts 3 res.2] := by
  refine Ct.of (cc := cX11_ask) (maxL := 8) (ret := (some .int)) (by decide) (Nat.le_of_ble_eq_true rfl) ?_
  intro p e s m below meth c ls args A Q hav hAe hQ hx hb hr hml hown hlocks hts hK hP hD hA hS hl
  have hKa := hK.1
  have hl : lv_has ls 8 [(0, .ref a), (1, .int v1)] := hl
  unfold fX11_ask at hf
  refine lv_iload_n (pc := 0) hx hb dX11_ask_0 rfl (lv_at hl 1 rfl) ?_
  refine lv_iconst (pc := 1) (v := 0) hx hb dX11_ask_1 (by decide) ?_
  refine lv_iconst (pc := 2) (v := 1) hx hb dX11_ask_2 (by decide) ?_
  obtain ⟨u3, hu3, hf⟩ := cm_lt hf
  refine cm_callS (pc := 3) (As := [.int v1, .int 0, .int 1]) (rest := []) (wr := [(a, .inr (11, [.ref a_book, .ref a_now, .int m_sights, .ref a_sight, .int m_signs, .ref a_pad, .int m_sold, .int m_markets, .int m_marketAt, .int m_reason, .int m_acts, .ref a_digits, .ref a_without, .ref a_with, .ref a_counts, .ref a_fewest, .ref a_ways, .ref a_more, .ref a_chooses, .ref a_image, .ref a_isKept])), cm_kI cI a_sight 24 m_sight, cm_kI cI a_counts 3 m_counts]) (n := 3) hx hb hml hown hts hK hP hD hS hA (c_X11_in l D cI cJ cZ v1 0 1 u3 hu3) tw_783 tw_781 tw_782 tw_56 rfl rfl (by decide +kernel) rfl ⟨Nat.le_of_ble_eq_true rfl, Nat.le_of_ble_eq_true rfl⟩ [] [0, 1, 2] rfl (by decide) rfl (by decide) (by decide) hl.1 rfl (Nat.le_of_ble_eq_true rfl) dX11_ask_3 ⟨Nat.zero_le _, Nat.zero_le _⟩ (fun H locs hP hD hS => ?_)
  have hP : va_P D vwCl [(a, .inr (11, [.ref a_book, .ref a_now, .int m_sights, .ref a_sight, .int m_signs, .ref a_pad, .int m_sold, .int m_markets, .int m_marketAt, .int m_reason, .int m_acts, .ref a_digits, .ref a_without, .ref a_with, .ref a_counts, .ref a_fewest, .ref a_ways, .ref a_more, .ref a_chooses, .ref a_image, .ref a_isKept])), cm_kI cI a_sight 24 m_sight, cm_kI cI a_counts 3 m_counts] H := hP
  have hD : va_D A [(a, .inr (11, [.ref a_book, .ref a_now, .int m_sights, .ref a_sight, .int m_signs, .ref a_pad, .int m_sold, .int m_markets, .int m_marketAt, .int m_reason, .int m_acts, .ref a_digits, .ref a_without, .ref a_with, .ref a_counts, .ref a_fewest, .ref a_ways, .ref a_more, .ref a_chooses, .ref a_image, .ref a_isKept])), cm_kI cI a_sight 24 m_sight, cm_kI cI a_counts 3 m_counts] := hD
  refine W.eq (g2 := F0 m 6 ls [.int u3]) rfl ?_
  refine lv_if_ne (pc := 6) (tgt := 12) hx hb dX11_ask_6 (by decide) (fun c_6 => ?_) (fun c_6 => ?_)
  · have hf := cm_in c_6 hf
    refine lv_bipush (pc := 12) (v := (-6)) hx hb dX11_ask_12 (by decide) ?_
    refine lv_istore_n (pc := 14) (lv' := [(2, .int (-6)), (0, .ref a), (1, .int v1)]) hx hb dX11_ask_14 rfl hl (by decide) rfl (fun ls hl => ?_)
    refine lv_ldc (pc := 15) (v := 1000000) hx hb hown (hts _ tw_887) dX11_ask_15 ?_
    refine lv_istore_n (pc := 17) (lv' := [(3, .int 1000000), (2, .int (-6)), (0, .ref a), (1, .int v1)]) hx hb dX11_ask_17 rfl hl (by decide) rfl (fun ls hl => ?_)
    refine lv_iconst (pc := 18) (v := 0) hx hb dX11_ask_18 (by decide) ?_
    refine lv_istore (pc := 19) (lv' := [(4, .int 0), (3, .int 1000000), (2, .int (-6)), (0, .ref a), (1, .int v1)]) hx hb dX11_ask_19 hl (by decide) rfl (fun ls hl => ?_)
    have L21 : ∀ (kx : Int32 → Int32 → Int32 → (Nat → Int32) → Option (Int32 × (Nat → Int32))), (∀ (v2_21 : Int32) (v3_21 : Int32) (v4_21 : Int32) (m_counts_21 : (Nat → Int32)) (H : Heap) (locs : List Loc) (ls : Array Slot), va_P D vwCl [(a, .inr (11, [.ref a_book, .ref a_now, .int m_sights, .ref a_sight, .int m_signs, .ref a_pad, .int m_sold, .int m_markets, .int m_marketAt, .int m_reason, .int m_acts, .ref a_digits, .ref a_without, .ref a_with, .ref a_counts, .ref a_fewest, .ref a_ways, .ref a_more, .ref a_chooses, .ref a_image, .ref a_isKept])), cm_kI cI a_sight 24 m_sight, cm_kI cI a_counts 3 m_counts_21] H → va_D A [(a, .inr (11, [.ref a_book, .ref a_now, .int m_sights, .ref a_sight, .int m_signs, .ref a_pad, .int m_sold, .int m_markets, .int m_marketAt, .int m_reason, .int m_acts, .ref a_digits, .ref a_without, .ref a_with, .ref a_counts, .ref a_fewest, .ref a_ways, .ref a_more, .ref a_chooses, .ref a_image, .ref a_isKept])), cm_kI cI a_sight 24 m_sight, cm_kI cI a_counts 3 m_counts_21] → va_S A s.heap H locs → lv_has ls 8 [(3, .int v3_21), (2, .int v2_21), (1, .int v1)] → kx v2_21 v3_21 v4_21 m_counts_21 = some res → W p l e rmX11_ask s m args below meth c H locs 0 0 Q (F0 m 181 ls [])) → ∀ (n : Nat) (v2_21 : Int32) (v3_21 : Int32) (v4_21 : Int32) (m_counts_21 : (Nat → Int32)) (H : Heap) (locs : List Loc) (ls : Array Slot), va_P D vwCl [(a, .inr (11, [.ref a_book, .ref a_now, .int m_sights, .ref a_sight, .int m_signs, .ref a_pad, .int m_sold, .int m_markets, .int m_marketAt, .int m_reason, .int m_acts, .ref a_digits, .ref a_without, .ref a_with, .ref a_counts, .ref a_fewest, .ref a_ways, .ref a_more, .ref a_chooses, .ref a_image, .ref a_isKept])), cm_kI cI a_sight 24 m_sight, cm_kI cI a_counts 3 m_counts_21] H → va_D A [(a, .inr (11, [.ref a_book, .ref a_now, .int m_sights, .ref a_sight, .int m_signs, .ref a_pad, .int m_sold, .int m_markets, .int m_marketAt, .int m_reason, .int m_acts, .ref a_digits, .ref a_without, .ref a_with, .ref a_counts, .ref a_fewest, .ref a_ways, .ref a_more, .ref a_chooses, .ref a_image, .ref a_isKept])), cm_kI cI a_sight 24 m_sight, cm_kI cI a_counts 3 m_counts_21] → va_S A s.heap H locs → lv_has ls 8 [(4, .int v4_21), (3, .int v3_21), (2, .int v2_21), (0, .ref a), (1, .int v1)] → fX11_ask_L21 m_sights m_sight kx n v2_21 v3_21 v4_21 m_counts_21 = some res → W p l e rmX11_ask s m args below meth c H locs 0 0 Q (F0 m 21 ls []) := by
      intro kx hkx n
      induction n with
      | zero => intro v2_21 v3_21 v4_21 m_counts_21 H locs ls hP hD hS hl hf; cases hf
      | succ n ih =>
        intro v2_21 v3_21 v4_21 m_counts_21 H locs ls hP hD hS hl hf
        rw [fX11_ask_L21] at hf
        refine lv_iload (pc := 21) hx hb dX11_ask_21 (lv_at hl 0 rfl) ?_
        refine lv_bipush (pc := 23) (v := 100) hx hb dX11_ask_23 (by decide) ?_
        refine lv_icmp_ge (pc := 25) (tgt := 181) hx hb dX11_ask_25 (by decide) (fun c_25 => ?_) (fun c_25 => ?_)
        · have hf := cm_ip c_25 hf
          exact hkx v2_21 v3_21 v4_21 m_counts_21 _ _ _ hP hD hS (lv_sub hl [1, 2, 4] rfl) hf
        · have hf := cm_in c_25 hf
          refine lv_iconst (pc := 28) (v := 0) hx hb dX11_ask_28 (by decide) ?_
          refine lv_istore (pc := 29) (lv' := [(5, .int 0), (4, .int v4_21), (3, .int v3_21), (2, .int v2_21), (0, .ref a), (1, .int v1)]) hx hb dX11_ask_29 hl (by decide) rfl (fun ls hl => ?_)
          refine lv_iconst (pc := 31) (v := 0) hx hb dX11_ask_31 (by decide) ?_
          refine lv_istore (pc := 32) (lv' := [(6, .int 0), (5, .int 0), (4, .int v4_21), (3, .int v3_21), (2, .int v2_21), (0, .ref a), (1, .int v1)]) hx hb dX11_ask_32 hl (by decide) rfl (fun ls hl => ?_)
          have L34 : ∀ (kx : Int32 → (Nat → Int32) → Option (Int32 × (Nat → Int32))), (∀ (v6_34 : Int32) (m_counts_34 : (Nat → Int32)) (H : Heap) (locs : List Loc) (ls : Array Slot), va_P D vwCl [(a, .inr (11, [.ref a_book, .ref a_now, .int m_sights, .ref a_sight, .int m_signs, .ref a_pad, .int m_sold, .int m_markets, .int m_marketAt, .int m_reason, .int m_acts, .ref a_digits, .ref a_without, .ref a_with, .ref a_counts, .ref a_fewest, .ref a_ways, .ref a_more, .ref a_chooses, .ref a_image, .ref a_isKept])), cm_kI cI a_sight 24 m_sight, cm_kI cI a_counts 3 m_counts_34] H → va_D A [(a, .inr (11, [.ref a_book, .ref a_now, .int m_sights, .ref a_sight, .int m_signs, .ref a_pad, .int m_sold, .int m_markets, .int m_marketAt, .int m_reason, .int m_acts, .ref a_digits, .ref a_without, .ref a_with, .ref a_counts, .ref a_fewest, .ref a_ways, .ref a_more, .ref a_chooses, .ref a_image, .ref a_isKept])), cm_kI cI a_sight 24 m_sight, cm_kI cI a_counts 3 m_counts_34] → va_S A s.heap H locs → lv_has ls 8 [(5, .int 0), (4, .int v4_21), (3, .int v3_21), (2, .int v2_21), (0, .ref a), (1, .int v1)] → kx v6_34 m_counts_34 = some res → W p l e rmX11_ask s m args below meth c H locs 0 0 Q (F0 m 54 ls [])) → ∀ (n : Nat) (v6_34 : Int32) (m_counts_34 : (Nat → Int32)) (H : Heap) (locs : List Loc) (ls : Array Slot), va_P D vwCl [(a, .inr (11, [.ref a_book, .ref a_now, .int m_sights, .ref a_sight, .int m_signs, .ref a_pad, .int m_sold, .int m_markets, .int m_marketAt, .int m_reason, .int m_acts, .ref a_digits, .ref a_without, .ref a_with, .ref a_counts, .ref a_fewest, .ref a_ways, .ref a_more, .ref a_chooses, .ref a_image, .ref a_isKept])), cm_kI cI a_sight 24 m_sight, cm_kI cI a_counts 3 m_counts_34] H → va_D A [(a, .inr (11, [.ref a_book, .ref a_now, .int m_sights, .ref a_sight, .int m_signs, .ref a_pad, .int m_sold, .int m_markets, .int m_marketAt, .int m_reason, .int m_acts, .ref a_digits, .ref a_without, .ref a_with, .ref a_counts, .ref a_fewest, .ref a_ways, .ref a_more, .ref a_chooses, .ref a_image, .ref a_isKept])), cm_kI cI a_sight 24 m_sight, cm_kI cI a_counts 3 m_counts_34] → va_S A s.heap H locs → lv_has ls 8 [(6, .int v6_34), (5, .int 0), (4, .int v4_21), (3, .int v3_21), (2, .int v2_21), (0, .ref a), (1, .int v1)] → fX11_ask_L34 kx n v6_34 m_counts_34 = some res → W p l e rmX11_ask s m args below meth c H locs 0 0 Q (F0 m 34 ls []) := by
            intro kx hkx n
            induction n with
            | zero => intro v6_34 m_counts_34 H locs ls hP hD hS hl hf; cases hf
            | succ n ih =>
              intro v6_34 m_counts_34 H locs ls hP hD hS hl hf
              rw [fX11_ask_L34] at hf
              refine lv_iload (pc := 34) hx hb dX11_ask_34 (lv_at hl 0 rfl) ?_
              refine lv_iconst (pc := 36) (v := 3) hx hb dX11_ask_36 (by decide) ?_
              refine lv_icmp_ge (pc := 37) (tgt := 54) hx hb dX11_ask_37 (by decide) (fun c_37 => ?_) (fun c_37 => ?_)
              · have hf := cm_ip c_37 hf
                exact hkx v6_34 m_counts_34 _ _ _ hP hD hS (lv_sub hl [1, 2, 3, 4, 5, 6] rfl) hf
              · have hf := cm_in c_37 hf
                refine lv_aload_n (pc := 40) hx hb dX11_ask_40 rfl (lv_at hl 5 rfl) ?_
                refine va_get (pc := 41) (D := D) (ci := 11) (v := .ref a_counts) (C := RX11) (T := TX11) (N := 21) hx hb hts in_X11 hown hKa hP 0 rfl rfl 14 (by decide) (hts _ tw_726) (fun _ h9 => h9) rfl dX11_ask_41 ?_
                refine lv_iload (pc := 44) hx hb dX11_ask_44 (lv_at hl 0 rfl) ?_
                refine lv_iconst (pc := 46) (v := 0) hx hb dX11_ask_46 (by decide) ?_
                obtain ⟨b_47, hf⟩ := cm_ob hf
                refine va_iast (pc := 47) hx hb hKa hP hD hS 2 0 rfl rfl b_47 dX11_ask_47 (fun H locs hP hD hS => ?_)
                have hP : va_P D vwCl [(a, .inr (11, [.ref a_book, .ref a_now, .int m_sights, .ref a_sight, .int m_signs, .ref a_pad, .int m_sold, .int m_markets, .int m_marketAt, .int m_reason, .int m_acts, .ref a_digits, .ref a_without, .ref a_with, .ref a_counts, .ref a_fewest, .ref a_ways, .ref a_more, .ref a_chooses, .ref a_image, .ref a_isKept])), cm_kI cI a_sight 24 m_sight, cm_kI cI a_counts 3 (upd m_counts_34 v6_34.toNatClampNeg 0)] H := hP
                have hD : va_D A [(a, .inr (11, [.ref a_book, .ref a_now, .int m_sights, .ref a_sight, .int m_signs, .ref a_pad, .int m_sold, .int m_markets, .int m_marketAt, .int m_reason, .int m_acts, .ref a_digits, .ref a_without, .ref a_with, .ref a_counts, .ref a_fewest, .ref a_ways, .ref a_more, .ref a_chooses, .ref a_image, .ref a_isKept])), cm_kI cI a_sight 24 m_sight, cm_kI cI a_counts 3 (upd m_counts_34 v6_34.toNatClampNeg 0)] := hD
                refine lv_iinc (pc := 48) (v := (v6_34 + 1)) (lv' := [(6, .int (v6_34 + 1)), (5, .int 0), (4, .int v4_21), (3, .int v3_21), (2, .int v2_21), (0, .ref a), (1, .int v1)]) hx hb dX11_ask_48 hl (k := 0) rfl rfl (by decide) rfl (fun ls hl => ?_)
                refine lv_goto (pc := 51) (tgt := 34) hx hb dX11_ask_51 (by decide) ?_
                exact ih (v6_34 + 1) (upd m_counts_34 v6_34.toNatClampNeg 0) _ _ _ hP hD hS (lv_sub hl [0, 1, 2, 3, 4, 5, 6] rfl) hf
          refine L34 _ (fun v6_34 m_counts_34 H locs ls hP hD hS hl hf => ?_) 5000 0 m_counts_21 _ _ _ hP hD hS (lv_sub hl [0, 1, 2, 3, 4, 5, 6] rfl) hf
          refine lv_iconst (pc := 54) (v := 0) hx hb dX11_ask_54 (by decide) ?_
          refine lv_istore (pc := 55) (lv' := [(6, .int 0), (5, .int 0), (4, .int v4_21), (3, .int v3_21), (2, .int v2_21), (0, .ref a), (1, .int v1)]) hx hb dX11_ask_55 hl (by decide) rfl (fun ls hl => ?_)
          have L57 : ∀ (kx : Int32 → Int32 → (Nat → Int32) → Option (Int32 × (Nat → Int32))), (∀ (v5_57 : Int32) (v6_57 : Int32) (m_counts_57 : (Nat → Int32)) (H : Heap) (locs : List Loc) (ls : Array Slot), va_P D vwCl [(a, .inr (11, [.ref a_book, .ref a_now, .int m_sights, .ref a_sight, .int m_signs, .ref a_pad, .int m_sold, .int m_markets, .int m_marketAt, .int m_reason, .int m_acts, .ref a_digits, .ref a_without, .ref a_with, .ref a_counts, .ref a_fewest, .ref a_ways, .ref a_more, .ref a_chooses, .ref a_image, .ref a_isKept])), cm_kI cI a_sight 24 m_sight, cm_kI cI a_counts 3 m_counts_57] H → va_D A [(a, .inr (11, [.ref a_book, .ref a_now, .int m_sights, .ref a_sight, .int m_signs, .ref a_pad, .int m_sold, .int m_markets, .int m_marketAt, .int m_reason, .int m_acts, .ref a_digits, .ref a_without, .ref a_with, .ref a_counts, .ref a_fewest, .ref a_ways, .ref a_more, .ref a_chooses, .ref a_image, .ref a_isKept])), cm_kI cI a_sight 24 m_sight, cm_kI cI a_counts 3 m_counts_57] → va_S A s.heap H locs → lv_has ls 8 [(5, .int v5_57), (4, .int v4_21), (3, .int v3_21), (2, .int v2_21), (0, .ref a), (1, .int v1)] → kx v5_57 v6_57 m_counts_57 = some res → W p l e rmX11_ask s m args below meth c H locs 0 0 Q (F0 m 133 ls [])) → ∀ (n : Nat) (v5_57 : Int32) (v6_57 : Int32) (m_counts_57 : (Nat → Int32)) (H : Heap) (locs : List Loc) (ls : Array Slot), va_P D vwCl [(a, .inr (11, [.ref a_book, .ref a_now, .int m_sights, .ref a_sight, .int m_signs, .ref a_pad, .int m_sold, .int m_markets, .int m_marketAt, .int m_reason, .int m_acts, .ref a_digits, .ref a_without, .ref a_with, .ref a_counts, .ref a_fewest, .ref a_ways, .ref a_more, .ref a_chooses, .ref a_image, .ref a_isKept])), cm_kI cI a_sight 24 m_sight, cm_kI cI a_counts 3 m_counts_57] H → va_D A [(a, .inr (11, [.ref a_book, .ref a_now, .int m_sights, .ref a_sight, .int m_signs, .ref a_pad, .int m_sold, .int m_markets, .int m_marketAt, .int m_reason, .int m_acts, .ref a_digits, .ref a_without, .ref a_with, .ref a_counts, .ref a_fewest, .ref a_ways, .ref a_more, .ref a_chooses, .ref a_image, .ref a_isKept])), cm_kI cI a_sight 24 m_sight, cm_kI cI a_counts 3 m_counts_57] → va_S A s.heap H locs → lv_has ls 8 [(6, .int v6_57), (5, .int v5_57), (4, .int v4_21), (3, .int v3_21), (2, .int v2_21), (0, .ref a), (1, .int v1)] → fX11_ask_L57 v4_21 m_sights m_sight kx n v5_57 v6_57 m_counts_57 = some res → W p l e rmX11_ask s m args below meth c H locs 0 0 Q (F0 m 57 ls []) := by
            intro kx hkx n
            induction n with
            | zero => intro v5_57 v6_57 m_counts_57 H locs ls hP hD hS hl hf; cases hf
            | succ n ih =>
              intro v5_57 v6_57 m_counts_57 H locs ls hP hD hS hl hf
              rw [fX11_ask_L57] at hf
              refine lv_iload (pc := 57) hx hb dX11_ask_57 (lv_at hl 0 rfl) ?_
              refine lv_bipush (pc := 59) (v := 81) hx hb dX11_ask_59 (by decide) ?_
              refine lv_icmp_ge (pc := 61) (tgt := 133) hx hb dX11_ask_61 (by decide) (fun c_61 => ?_) (fun c_61 => ?_)
              · have hf := cm_ip c_61 hf
                exact hkx v5_57 v6_57 m_counts_57 _ _ _ hP hD hS (lv_sub hl [1, 2, 3, 4, 5, 6] rfl) hf
              · have hf := cm_in c_61 hf
                refine lv_aload_n (pc := 64) hx hb dX11_ask_64 rfl (lv_at hl 5 rfl) ?_
                refine lv_iload (pc := 65) hx hb dX11_ask_65 (lv_at hl 0 rfl) ?_
                obtain ⟨u67, hu67, hf⟩ := cm_bd hf
                refine cm_callV (pc := 67) (As := [.int v6_57]) (rest := []) (wr := [cm_kI cI a_counts 3 m_counts_57]) (ci := 11) (q0 := 0) (n := 1) hx hb hml hown hts hK hP hD hS hA (c_X11_isFit l D cI cJ cZ a a_book a_now a_sight a_pad a_digits a_without a_with a_counts a_fewest a_ways a_more a_chooses a_image a_isKept m_sights m_signs m_sold m_markets m_marketAt m_reason m_acts m_sight v6_57 u67 hu67) tw_919 tw_916 tw_918 tw_42 tw_56 rfl rfl (by decide +kernel) rfl ⟨Nat.le_of_ble_eq_true rfl, Nat.le_of_ble_eq_true rfl⟩ [0, 1] [2] rfl (by decide) rfl (by decide) (by decide) rfl rfl rfl hl.1 rfl (Nat.le_of_ble_eq_true rfl) dX11_ask_67 ⟨Nat.zero_le _, Nat.zero_le _⟩ (fun H locs hP hD hS => ?_)
                have hP : va_P D vwCl [cm_kI cI a_counts 3 m_counts_57, (a, .inr (11, [.ref a_book, .ref a_now, .int m_sights, .ref a_sight, .int m_signs, .ref a_pad, .int m_sold, .int m_markets, .int m_marketAt, .int m_reason, .int m_acts, .ref a_digits, .ref a_without, .ref a_with, .ref a_counts, .ref a_fewest, .ref a_ways, .ref a_more, .ref a_chooses, .ref a_image, .ref a_isKept])), cm_kI cI a_sight 24 m_sight] H := hP
                have hD : va_D A [cm_kI cI a_counts 3 m_counts_57, (a, .inr (11, [.ref a_book, .ref a_now, .int m_sights, .ref a_sight, .int m_signs, .ref a_pad, .int m_sold, .int m_markets, .int m_marketAt, .int m_reason, .int m_acts, .ref a_digits, .ref a_without, .ref a_with, .ref a_counts, .ref a_fewest, .ref a_ways, .ref a_more, .ref a_chooses, .ref a_image, .ref a_isKept])), cm_kI cI a_sight 24 m_sight] := hD
                refine W.eq (g2 := F0 m 70 ls [.int u67]) rfl ?_
                refine lv_if_eq (pc := 70) (tgt := 127) hx hb dX11_ask_70 (by decide) (fun c_70 => ?_) (fun c_70 => ?_)
                · have hf := cm_ip c_70 hf
                  refine lv_iinc (pc := 127) (v := (v6_57 + 1)) (lv' := [(6, .int (v6_57 + 1)), (5, .int v5_57), (4, .int v4_21), (3, .int v3_21), (2, .int v2_21), (0, .ref a), (1, .int v1)]) hx hb dX11_ask_127 hl (k := 0) rfl rfl (by decide) rfl (fun ls hl => ?_)
                  refine lv_goto (pc := 130) (tgt := 57) hx hb dX11_ask_130 (by decide) ?_
                  have hP := hP.sub (ws' := [(a, .inr (11, [.ref a_book, .ref a_now, .int m_sights, .ref a_sight, .int m_signs, .ref a_pad, .int m_sold, .int m_markets, .int m_marketAt, .int m_reason, .int m_acts, .ref a_digits, .ref a_without, .ref a_with, .ref a_counts, .ref a_fewest, .ref a_ways, .ref a_more, .ref a_chooses, .ref a_image, .ref a_isKept])), cm_kI cI a_sight 24 m_sight, cm_kI cI a_counts 3 m_counts_57]) [1, 2, 0] rfl
                  have hD := hD.sub (ws' := [(a, .inr (11, [.ref a_book, .ref a_now, .int m_sights, .ref a_sight, .int m_signs, .ref a_pad, .int m_sold, .int m_markets, .int m_marketAt, .int m_reason, .int m_acts, .ref a_digits, .ref a_without, .ref a_with, .ref a_counts, .ref a_fewest, .ref a_ways, .ref a_more, .ref a_chooses, .ref a_image, .ref a_isKept])), cm_kI cI a_sight 24 m_sight, cm_kI cI a_counts 3 m_counts_57]) [1, 2, 0] (by decide) rfl
                  exact ih v5_57 (v6_57 + 1) m_counts_57 _ _ _ hP hD hS (lv_sub hl [0, 1, 2, 3, 4, 5, 6] rfl) hf
                · have hf := cm_in c_70 hf
                  refine lv_iload (pc := 73) hx hb dX11_ask_73 (lv_at hl 0 rfl) ?_
                  refine lv_iload (pc := 75) hx hb dX11_ask_75 (lv_at hl 2 rfl) ?_
                  refine lv_bipush (pc := 77) (v := 10) hx hb dX11_ask_77 (by decide) ?_
                  refine lv_idiv (pc := 79) hx hb dX11_ask_79 (by decide) ?_
                  refine lv_iload (pc := 80) hx hb dX11_ask_80 (lv_at hl 2 rfl) ?_
                  refine lv_bipush (pc := 82) (v := 10) hx hb dX11_ask_82 (by decide) ?_
                  refine cm_irem (pc := 84) hx hb dX11_ask_84 (by decide) ?_
                  obtain ⟨u85, hu85, hf⟩ := cm_lt hf
                  refine cm_callS (pc := 85) (As := [.int v6_57, .int (v4_21 / 10), .int (irm v4_21 10)]) (rest := []) (wr := [cm_kI cI a_counts 3 m_counts_57, (a, .inr (11, [.ref a_book, .ref a_now, .int m_sights, .ref a_sight, .int m_signs, .ref a_pad, .int m_sold, .int m_markets, .int m_marketAt, .int m_reason, .int m_acts, .ref a_digits, .ref a_without, .ref a_with, .ref a_counts, .ref a_fewest, .ref a_ways, .ref a_more, .ref a_chooses, .ref a_image, .ref a_isKept])), cm_kI cI a_sight 24 m_sight]) (n := 3) hx hb hml hown hts hK hP hD hS hA (c_X11_saidOf l D cI cJ cZ v6_57 (v4_21 / 10) (irm v4_21 10) u85 hu85) tw_922 tw_920 tw_921 tw_56 rfl rfl (by decide +kernel) rfl ⟨Nat.le_of_ble_eq_true rfl, Nat.le_of_ble_eq_true rfl⟩ [] [0, 1, 2] rfl (by decide) rfl (by decide) (by decide) hl.1 rfl (Nat.le_of_ble_eq_true rfl) dX11_ask_85 ⟨Nat.zero_le _, Nat.zero_le _⟩ (fun H locs hP hD hS => ?_)
                  have hP : va_P D vwCl [cm_kI cI a_counts 3 m_counts_57, (a, .inr (11, [.ref a_book, .ref a_now, .int m_sights, .ref a_sight, .int m_signs, .ref a_pad, .int m_sold, .int m_markets, .int m_marketAt, .int m_reason, .int m_acts, .ref a_digits, .ref a_without, .ref a_with, .ref a_counts, .ref a_fewest, .ref a_ways, .ref a_more, .ref a_chooses, .ref a_image, .ref a_isKept])), cm_kI cI a_sight 24 m_sight] H := hP
                  have hD : va_D A [cm_kI cI a_counts 3 m_counts_57, (a, .inr (11, [.ref a_book, .ref a_now, .int m_sights, .ref a_sight, .int m_signs, .ref a_pad, .int m_sold, .int m_markets, .int m_marketAt, .int m_reason, .int m_acts, .ref a_digits, .ref a_without, .ref a_with, .ref a_counts, .ref a_fewest, .ref a_ways, .ref a_more, .ref a_chooses, .ref a_image, .ref a_isKept])), cm_kI cI a_sight 24 m_sight] := hD
                  refine W.eq (g2 := F0 m 88 ls [.int u85]) rfl ?_
                  refine lv_istore (pc := 88) (lv' := [(7, .int u85), (6, .int v6_57), (5, .int v5_57), (4, .int v4_21), (3, .int v3_21), (2, .int v2_21), (0, .ref a), (1, .int v1)]) hx hb dX11_ask_88 hl (by decide) rfl (fun ls hl => ?_)
                  refine lv_aload_n (pc := 90) hx hb dX11_ask_90 rfl (lv_at hl 6 rfl) ?_
                  refine va_get (pc := 91) (D := D) (ci := 11) (v := .ref a_counts) (C := RX11) (T := TX11) (N := 21) hx hb hts in_X11 hown hKa hP 1 rfl rfl 14 (by decide) (hts _ tw_726) (fun _ h9 => h9) rfl dX11_ask_91 ?_
                  refine lv_iload (pc := 94) hx hb dX11_ask_94 (lv_at hl 0 rfl) ?_
                  refine lv_dup2_11 (pc := 96) hx hb dX11_ask_96 rfl rfl ?_
                  obtain ⟨b_97, hf⟩ := cm_ob hf
                  refine va_iald (pc := 97) hx hb hKa hP 0 0 rfl rfl b_97 dX11_ask_97 ?_
                  refine lv_iconst (pc := 98) (v := 1) hx hb dX11_ask_98 (by decide) ?_
                  refine lv_iadd (pc := 99) hx hb dX11_ask_99 ?_
                  obtain ⟨b_100, hf⟩ := cm_ob hf
                  refine va_iast (pc := 100) hx hb hKa hP hD hS 0 0 rfl rfl b_100 dX11_ask_100 (fun H locs hP hD hS => ?_)
                  have hP : va_P D vwCl [cm_kI cI a_counts 3 (upd m_counts_57 u85.toNatClampNeg ((m_counts_57 u85.toNatClampNeg) + 1)), (a, .inr (11, [.ref a_book, .ref a_now, .int m_sights, .ref a_sight, .int m_signs, .ref a_pad, .int m_sold, .int m_markets, .int m_marketAt, .int m_reason, .int m_acts, .ref a_digits, .ref a_without, .ref a_with, .ref a_counts, .ref a_fewest, .ref a_ways, .ref a_more, .ref a_chooses, .ref a_image, .ref a_isKept])), cm_kI cI a_sight 24 m_sight] H := hP
                  have hD : va_D A [cm_kI cI a_counts 3 (upd m_counts_57 u85.toNatClampNeg ((m_counts_57 u85.toNatClampNeg) + 1)), (a, .inr (11, [.ref a_book, .ref a_now, .int m_sights, .ref a_sight, .int m_signs, .ref a_pad, .int m_sold, .int m_markets, .int m_marketAt, .int m_reason, .int m_acts, .ref a_digits, .ref a_without, .ref a_with, .ref a_counts, .ref a_fewest, .ref a_ways, .ref a_more, .ref a_chooses, .ref a_image, .ref a_isKept])), cm_kI cI a_sight 24 m_sight] := hD
                  refine lv_aload_n (pc := 101) hx hb dX11_ask_101 rfl (lv_at hl 6 rfl) ?_
                  refine va_get (pc := 102) (D := D) (ci := 11) (v := .ref a_counts) (C := RX11) (T := TX11) (N := 21) hx hb hts in_X11 hown hKa hP 1 rfl rfl 14 (by decide) (hts _ tw_726) (fun _ h9 => h9) rfl dX11_ask_102 ?_
                  refine lv_iload (pc := 105) hx hb dX11_ask_105 (lv_at hl 0 rfl) ?_
                  obtain ⟨b_107, hf⟩ := cm_ob hf
                  refine va_iald (pc := 107) hx hb hKa hP 0 0 rfl rfl b_107 dX11_ask_107 ?_
                  refine lv_iload (pc := 108) hx hb dX11_ask_108 (lv_at hl 2 rfl) ?_
                  refine lv_icmp_le (pc := 110) (tgt := 123) hx hb dX11_ask_110 (by decide) (fun c_110 => ?_) (fun c_110 => ?_)
                  · have hf := cm_ip c_110 hf
                    refine lv_iload (pc := 123) hx hb dX11_ask_123 (lv_at hl 2 rfl) ?_
                    refine lv_istore (pc := 125) (lv' := [(5, .int v5_57), (7, .int u85), (6, .int v6_57), (4, .int v4_21), (3, .int v3_21), (2, .int v2_21), (0, .ref a), (1, .int v1)]) hx hb dX11_ask_125 hl (by decide) rfl (fun ls hl => ?_)
                    refine lv_iinc (pc := 127) (v := (v6_57 + 1)) (lv' := [(6, .int (v6_57 + 1)), (5, .int v5_57), (7, .int u85), (4, .int v4_21), (3, .int v3_21), (2, .int v2_21), (0, .ref a), (1, .int v1)]) hx hb dX11_ask_127 hl (k := 2) rfl rfl (by decide) rfl (fun ls hl => ?_)
                    refine lv_goto (pc := 130) (tgt := 57) hx hb dX11_ask_130 (by decide) ?_
                    have hP := hP.sub (ws' := [(a, .inr (11, [.ref a_book, .ref a_now, .int m_sights, .ref a_sight, .int m_signs, .ref a_pad, .int m_sold, .int m_markets, .int m_marketAt, .int m_reason, .int m_acts, .ref a_digits, .ref a_without, .ref a_with, .ref a_counts, .ref a_fewest, .ref a_ways, .ref a_more, .ref a_chooses, .ref a_image, .ref a_isKept])), cm_kI cI a_sight 24 m_sight, cm_kI cI a_counts 3 (upd m_counts_57 u85.toNatClampNeg ((m_counts_57 u85.toNatClampNeg) + 1))]) [1, 2, 0] rfl
                    have hD := hD.sub (ws' := [(a, .inr (11, [.ref a_book, .ref a_now, .int m_sights, .ref a_sight, .int m_signs, .ref a_pad, .int m_sold, .int m_markets, .int m_marketAt, .int m_reason, .int m_acts, .ref a_digits, .ref a_without, .ref a_with, .ref a_counts, .ref a_fewest, .ref a_ways, .ref a_more, .ref a_chooses, .ref a_image, .ref a_isKept])), cm_kI cI a_sight 24 m_sight, cm_kI cI a_counts 3 (upd m_counts_57 u85.toNatClampNeg ((m_counts_57 u85.toNatClampNeg) + 1))]) [1, 2, 0] (by decide) rfl
                    exact ih v5_57 (v6_57 + 1) (upd m_counts_57 u85.toNatClampNeg ((m_counts_57 u85.toNatClampNeg) + 1)) _ _ _ hP hD hS (lv_sub hl [0, 1, 3, 4, 5, 6, 7] rfl) hf
                  · have hf := cm_in c_110 hf
                    refine lv_aload_n (pc := 113) hx hb dX11_ask_113 rfl (lv_at hl 6 rfl) ?_
                    refine va_get (pc := 114) (D := D) (ci := 11) (v := .ref a_counts) (C := RX11) (T := TX11) (N := 21) hx hb hts in_X11 hown hKa hP 1 rfl rfl 14 (by decide) (hts _ tw_726) (fun _ h9 => h9) rfl dX11_ask_114 ?_
                    refine lv_iload (pc := 117) hx hb dX11_ask_117 (lv_at hl 0 rfl) ?_
                    obtain ⟨b_119, hf⟩ := cm_ob hf
                    refine va_iald (pc := 119) hx hb hKa hP 0 0 rfl rfl b_119 dX11_ask_119 ?_
                    refine lv_goto (pc := 120) (tgt := 125) hx hb dX11_ask_120 (by decide) ?_
                    refine lv_istore (pc := 125) (lv' := [(5, .int ((upd m_counts_57 u85.toNatClampNeg ((m_counts_57 u85.toNatClampNeg) + 1)) u85.toNatClampNeg)), (7, .int u85), (6, .int v6_57), (4, .int v4_21), (3, .int v3_21), (2, .int v2_21), (0, .ref a), (1, .int v1)]) hx hb dX11_ask_125 hl (by decide) rfl (fun ls hl => ?_)
                    refine lv_iinc (pc := 127) (v := (v6_57 + 1)) (lv' := [(6, .int (v6_57 + 1)), (5, .int ((upd m_counts_57 u85.toNatClampNeg ((m_counts_57 u85.toNatClampNeg) + 1)) u85.toNatClampNeg)), (7, .int u85), (4, .int v4_21), (3, .int v3_21), (2, .int v2_21), (0, .ref a), (1, .int v1)]) hx hb dX11_ask_127 hl (k := 2) rfl rfl (by decide) rfl (fun ls hl => ?_)
                    refine lv_goto (pc := 130) (tgt := 57) hx hb dX11_ask_130 (by decide) ?_
                    have hP := hP.sub (ws' := [(a, .inr (11, [.ref a_book, .ref a_now, .int m_sights, .ref a_sight, .int m_signs, .ref a_pad, .int m_sold, .int m_markets, .int m_marketAt, .int m_reason, .int m_acts, .ref a_digits, .ref a_without, .ref a_with, .ref a_counts, .ref a_fewest, .ref a_ways, .ref a_more, .ref a_chooses, .ref a_image, .ref a_isKept])), cm_kI cI a_sight 24 m_sight, cm_kI cI a_counts 3 (upd m_counts_57 u85.toNatClampNeg ((m_counts_57 u85.toNatClampNeg) + 1))]) [1, 2, 0] rfl
                    have hD := hD.sub (ws' := [(a, .inr (11, [.ref a_book, .ref a_now, .int m_sights, .ref a_sight, .int m_signs, .ref a_pad, .int m_sold, .int m_markets, .int m_marketAt, .int m_reason, .int m_acts, .ref a_digits, .ref a_without, .ref a_with, .ref a_counts, .ref a_fewest, .ref a_ways, .ref a_more, .ref a_chooses, .ref a_image, .ref a_isKept])), cm_kI cI a_sight 24 m_sight, cm_kI cI a_counts 3 (upd m_counts_57 u85.toNatClampNeg ((m_counts_57 u85.toNatClampNeg) + 1))]) [1, 2, 0] (by decide) rfl
                    exact ih ((upd m_counts_57 u85.toNatClampNeg ((m_counts_57 u85.toNatClampNeg) + 1)) u85.toNatClampNeg) (v6_57 + 1) (upd m_counts_57 u85.toNatClampNeg ((m_counts_57 u85.toNatClampNeg) + 1)) _ _ _ hP hD hS (lv_sub hl [0, 1, 3, 4, 5, 6, 7] rfl) hf
          refine L57 _ (fun v5_57 v6_57 m_counts_57 H locs ls hP hD hS hl hf => ?_) 5000 0 0 m_counts_34 _ _ _ hP hD hS (lv_sub hl [0, 1, 2, 3, 4, 5, 6] rfl) hf
          refine lv_iload (pc := 133) hx hb dX11_ask_133 (lv_at hl 0 rfl) ?_
          obtain ⟨j135, hj135, hf⟩ := cm_lt hf
          have J135 : ∀ (H : Heap) (locs : List Loc) (ls : Array Slot), va_P D vwCl [(a, .inr (11, [.ref a_book, .ref a_now, .int m_sights, .ref a_sight, .int m_signs, .ref a_pad, .int m_sold, .int m_markets, .int m_marketAt, .int m_reason, .int m_acts, .ref a_digits, .ref a_without, .ref a_with, .ref a_counts, .ref a_fewest, .ref a_ways, .ref a_more, .ref a_chooses, .ref a_image, .ref a_isKept])), cm_kI cI a_sight 24 m_sight, cm_kI cI a_counts 3 m_counts_57] H → va_D A [(a, .inr (11, [.ref a_book, .ref a_now, .int m_sights, .ref a_sight, .int m_signs, .ref a_pad, .int m_sold, .int m_markets, .int m_marketAt, .int m_reason, .int m_acts, .ref a_digits, .ref a_without, .ref a_with, .ref a_counts, .ref a_fewest, .ref a_ways, .ref a_more, .ref a_chooses, .ref a_image, .ref a_isKept])), cm_kI cI a_sight 24 m_sight, cm_kI cI a_counts 3 m_counts_57] → va_S A s.heap H locs → lv_has ls 8 [(5, .int v5_57), (4, .int v4_21), (3, .int v3_21), (2, .int v2_21), (0, .ref a), (1, .int v1)] → W p l e rmX11_ask s m args below meth c H locs 0 0 Q (F0 m 149 ls [.int j135]) := by
            intro H locs ls hP hD hS hl
            refine lv_istore (pc := 149) (lv' := [(6, .int j135), (5, .int v5_57), (4, .int v4_21), (3, .int v3_21), (2, .int v2_21), (0, .ref a), (1, .int v1)]) hx hb dX11_ask_149 hl (by decide) rfl (fun ls hl => ?_)
            refine lv_iload (pc := 151) hx hb dX11_ask_151 (lv_at hl 0 rfl) ?_
            obtain ⟨j153, hj153, hf⟩ := cm_lt hf
            have J153 : ∀ (H : Heap) (locs : List Loc) (ls : Array Slot), va_P D vwCl [(a, .inr (11, [.ref a_book, .ref a_now, .int m_sights, .ref a_sight, .int m_signs, .ref a_pad, .int m_sold, .int m_markets, .int m_marketAt, .int m_reason, .int m_acts, .ref a_digits, .ref a_without, .ref a_with, .ref a_counts, .ref a_fewest, .ref a_ways, .ref a_more, .ref a_chooses, .ref a_image, .ref a_isKept])), cm_kI cI a_sight 24 m_sight, cm_kI cI a_counts 3 m_counts_57] H → va_D A [(a, .inr (11, [.ref a_book, .ref a_now, .int m_sights, .ref a_sight, .int m_signs, .ref a_pad, .int m_sold, .int m_markets, .int m_marketAt, .int m_reason, .int m_acts, .ref a_digits, .ref a_without, .ref a_with, .ref a_counts, .ref a_fewest, .ref a_ways, .ref a_more, .ref a_chooses, .ref a_image, .ref a_isKept])), cm_kI cI a_sight 24 m_sight, cm_kI cI a_counts 3 m_counts_57] → va_S A s.heap H locs → lv_has ls 8 [(6, .int j135), (5, .int v5_57), (4, .int v4_21), (3, .int v3_21), (0, .ref a), (1, .int v1)] → W p l e rmX11_ask s m args below meth c H locs 0 0 Q (F0 m 162 ls [.int j153]) := by
              intro H locs ls hP hD hS hl
              refine lv_istore_n (pc := 162) (lv' := [(2, .int j153), (6, .int j135), (5, .int v5_57), (4, .int v4_21), (3, .int v3_21), (0, .ref a), (1, .int v1)]) hx hb dX11_ask_162 rfl hl (by decide) rfl (fun ls hl => ?_)
              refine lv_iload (pc := 163) hx hb dX11_ask_163 (lv_at hl 1 rfl) ?_
              refine lv_if_eq (pc := 165) (tgt := 173) hx hb dX11_ask_165 (by decide) (fun c_165 => ?_) (fun c_165 => ?_)
              · have hf := cm_ip c_165 hf
                refine lv_iload_n (pc := 173) hx hb dX11_ask_173 rfl (lv_at hl 4 rfl) ?_
                refine lv_istore_n (pc := 174) (lv' := [(3, .int v3_21), (2, .int j153), (6, .int j135), (5, .int v5_57), (4, .int v4_21), (0, .ref a), (1, .int v1)]) hx hb dX11_ask_174 rfl hl (by decide) rfl (fun ls hl => ?_)
                refine lv_iinc (pc := 175) (v := (v4_21 + 1)) (lv' := [(4, .int (v4_21 + 1)), (3, .int v3_21), (2, .int j153), (6, .int j135), (5, .int v5_57), (0, .ref a), (1, .int v1)]) hx hb dX11_ask_175 hl (k := 4) rfl rfl (by decide) rfl (fun ls hl => ?_)
                refine lv_goto (pc := 178) (tgt := 21) hx hb dX11_ask_178 (by decide) ?_
                exact ih j153 v3_21 (v4_21 + 1) m_counts_57 _ _ _ hP hD hS (lv_sub hl [0, 1, 2, 5, 6] rfl) hf
              · have hf := cm_in c_165 hf
                refine lv_iload (pc := 168) hx hb dX11_ask_168 (lv_at hl 2 rfl) ?_
                refine lv_goto (pc := 170) (tgt := 174) hx hb dX11_ask_170 (by decide) ?_
                refine lv_istore_n (pc := 174) (lv' := [(3, .int v5_57), (2, .int j153), (6, .int j135), (5, .int v5_57), (4, .int v4_21), (0, .ref a), (1, .int v1)]) hx hb dX11_ask_174 rfl hl (by decide) rfl (fun ls hl => ?_)
                refine lv_iinc (pc := 175) (v := (v4_21 + 1)) (lv' := [(4, .int (v4_21 + 1)), (3, .int v5_57), (2, .int j153), (6, .int j135), (5, .int v5_57), (0, .ref a), (1, .int v1)]) hx hb dX11_ask_175 hl (k := 4) rfl rfl (by decide) rfl (fun ls hl => ?_)
                refine lv_goto (pc := 178) (tgt := 21) hx hb dX11_ask_178 (by decide) ?_
                exact ih j153 v5_57 (v4_21 + 1) m_counts_57 _ _ _ hP hD hS (lv_sub hl [0, 1, 2, 5, 6] rfl) hf
            clear hf
            have hf := hj153
            refine lv_if_eq (pc := 153) (tgt := 161) hx hb dX11_ask_153 (by decide) (fun c_153 => ?_) (fun c_153 => ?_)
            · have hf := cm_ip c_153 hf
              refine lv_iload_n (pc := 161) hx hb dX11_ask_161 rfl (lv_at hl 4 rfl) ?_
              obtain rfl := hf
              exact J153 _ _ _ hP hD hS (lv_sub hl [0, 1, 2, 3, 5, 6] rfl)
            · have hf := cm_in c_153 hf
              refine lv_iload (pc := 156) hx hb dX11_ask_156 (lv_at hl 2 rfl) ?_
              refine lv_goto (pc := 158) (tgt := 162) hx hb dX11_ask_158 (by decide) ?_
              obtain rfl := hf
              exact J153 _ _ _ hP hD hS (lv_sub hl [0, 1, 2, 3, 5, 6] rfl)
          clear hf
          have hf := hj135
          refine lv_if_le (pc := 135) (tgt := 148) hx hb dX11_ask_135 (by decide) (fun c_135 => ?_) (fun c_135 => ?_)
          · have hf := cm_ip c_135 hf
            refine lv_iconst (pc := 148) (v := 0) hx hb dX11_ask_148 (by decide) ?_
            obtain rfl := hf
            exact J135 _ _ _ hP hD hS (lv_sub hl [0, 1, 2, 3, 4, 5] rfl)
          · have hf := cm_in c_135 hf
            refine lv_iload (pc := 138) hx hb dX11_ask_138 (lv_at hl 0 rfl) ?_
            refine lv_iload_n (pc := 140) hx hb dX11_ask_140 rfl (lv_at hl 2 rfl) ?_
            refine lv_icmp_ge (pc := 141) (tgt := 148) hx hb dX11_ask_141 (by decide) (fun c_141 => ?_) (fun c_141 => ?_)
            · have hf := cm_ip c_141 hf
              refine lv_iconst (pc := 148) (v := 0) hx hb dX11_ask_148 (by decide) ?_
              obtain rfl := hf
              exact J135 _ _ _ hP hD hS (lv_sub hl [0, 1, 2, 3, 4, 5] rfl)
            · have hf := cm_in c_141 hf
              refine lv_iconst (pc := 144) (v := 1) hx hb dX11_ask_144 (by decide) ?_
              refine lv_goto (pc := 145) (tgt := 149) hx hb dX11_ask_145 (by decide) ?_
              obtain rfl := hf
              exact J135 _ _ _ hP hD hS (lv_sub hl [0, 1, 2, 3, 4, 5] rfl)
    refine L21 _ (fun v2_21 v3_21 v4_21 m_counts_21 H locs ls hP hD hS hl hf => ?_) 5000 (-6) 1000000 0 m_counts _ _ _ hP hD hS (lv_sub hl [0, 1, 2, 3, 4] rfl) hf
    refine lv_iload_n (pc := 181) hx hb dX11_ask_181 rfl (lv_at hl 1 rfl) ?_
    refine lv_if_lt (pc := 182) (tgt := 189) hx hb dX11_ask_182 (by decide) (fun c_182 => ?_) (fun c_182 => ?_)
    · have hf := cm_ip c_182 hf
      refine lv_iload_n (pc := 189) hx hb dX11_ask_189 rfl (lv_at hl 1 rfl) ?_
      refine lv_goto (pc := 190) (tgt := 194) hx hb dX11_ask_190 (by decide) ?_
      obtain rfl := Option.some.inj hf
      exact cm_iret (pc := 194) hAe hQ hx hb hr hlocks hP hD hS [0, 1, 2] (by decide) rfl dX11_ask_194
    · have hf := cm_in c_182 hf
      refine lv_iload_n (pc := 185) hx hb dX11_ask_185 rfl (lv_at hl 2 rfl) ?_
      refine lv_if_ne (pc := 186) (tgt := 193) hx hb dX11_ask_186 (by decide) (fun c_186 => ?_) (fun c_186 => ?_)
      · have hf := cm_in c_186 hf
        refine lv_iload_n (pc := 193) hx hb dX11_ask_193 rfl (lv_at hl 0 rfl) ?_
        obtain rfl := Option.some.inj hf
        exact cm_iret (pc := 194) hAe hQ hx hb hr hlocks hP hD hS [0, 1, 2] (by decide) rfl dX11_ask_194
      · have hf := cm_ip c_186 hf
        refine lv_iload_n (pc := 189) hx hb dX11_ask_189 rfl (lv_at hl 1 rfl) ?_
        refine lv_goto (pc := 190) (tgt := 194) hx hb dX11_ask_190 (by decide) ?_
        obtain rfl := Option.some.inj hf
        exact cm_iret (pc := 194) hAe hQ hx hb hr hlocks hP hD hS [0, 1, 2] (by decide) rfl dX11_ask_194
  · have hf := cm_ip c_6 hf
    refine lv_bipush (pc := 9) (v := (-2)) hx hb dX11_ask_9 (by decide) ?_
    obtain rfl := Option.some.inj hf
    exact cm_iret (pc := 11) hAe hQ hx hb hr hlocks hP hD hS [0, 1, 2] (by decide) rfl dX11_ask_11
def fX11_hasLeft (v1 : Int32) (v2 : Int32) (m_fewest : (Nat → Int32)) : Option (Int32) := if (v1 - v2) < 0 ∨ 100 ≤ (v1 - v2).toNatClampNeg then none else (if (m_fewest (v1 - v2).toNatClampNeg) ≤ (2 * v2) then some 0 else some 1)
def rmX11_hasLeft : Room := { frames := 0, cells := 0, slots := 0, locals := 0 }
set_option maxRecDepth 100000 in
set_option maxHeartbeats 4000000 in
theorem c_X11_hasLeft (l : Launch) (D : va_G) (cI cJ cZ : ClassId) (a a_book a_now a_sight a_pad a_digits a_without a_with a_counts a_fewest a_ways a_more a_chooses a_image a_isKept : Nat) (m_sights : Int32) (m_signs : Int32) (m_sold : Int32) (m_markets : Int32) (m_marketAt : Int32) (m_reason : Int32) (m_acts : Int32) (m_fewest : (Nat → Int32)) (v1 : Int32) (v2 : Int32) (res : Int32) (hf : fX11_hasLeft v1 v2 m_fewest = some res) : Ct l yX11_hasLeft (cm_ws yX11_hasLeft cX11_hasLeft 3 (some .boolean)) rmX11_hasLeft D (cm_T cI cJ cZ) [.ref a, .int v1, .int v2] [(a, .inr (11, [.ref a_book, .ref a_now, .int m_sights, .ref a_sight, .int m_signs, .ref a_pad, .int m_sold, .int m_markets, .int m_marketAt, .int m_reason, .int m_acts, .ref a_digits, .ref a_without, .ref a_with, .ref a_counts, .ref a_fewest, .ref a_ways, .ref a_more, .ref a_chooses, .ref a_image, .ref a_isKept])), cm_kI cI a_fewest 100 m_fewest] (some (.int res)) [(a, .inr (11, [.ref a_book, .ref a_now, .int m_sights, .ref a_sight, .int m_signs, .ref a_pad, .int m_sold, .int m_markets, .int m_marketAt, .int m_reason, .int m_acts, .ref a_digits, .ref a_without, .ref a_with, .ref a_counts, .ref a_fewest, .ref a_ways, .ref a_more, .ref a_chooses, .ref a_image, .ref a_isKept])), cm_kI cI a_fewest 100 m_fewest] := by
  refine Ct.of (cc := cX11_hasLeft) (maxL := 3) (ret := (some .boolean)) (by decide) (Nat.le_of_ble_eq_true rfl) ?_
  intro p e s m below meth c ls args A Q hav hAe hQ hx hb hr hml hown hlocks hts hK hP hD hA hS hl
  have hKa := hK.1
  have hl : lv_has ls 3 [(0, .ref a), (1, .int v1), (2, .int v2)] := hl
  unfold fX11_hasLeft at hf
  refine lv_aload_n (pc := 0) hx hb dX11_hasLeft_0 rfl (lv_at hl 0 rfl) ?_
  refine va_get (pc := 1) (D := D) (ci := 11) (v := .ref a_fewest) (C := RX11) (T := TX11) (N := 21) hx hb hts in_X11 hown hKa hP 0 rfl rfl 15 (by decide) (hts _ tw_727) (fun _ h9 => h9) rfl dX11_hasLeft_1 ?_
  refine lv_iload_n (pc := 4) hx hb dX11_hasLeft_4 rfl (lv_at hl 1 rfl) ?_
  refine lv_iload_n (pc := 5) hx hb dX11_hasLeft_5 rfl (lv_at hl 2 rfl) ?_
  refine lv_isub (pc := 6) hx hb dX11_hasLeft_6 ?_
  obtain ⟨b_7, hf⟩ := cm_ob hf
  refine va_iald (pc := 7) hx hb hKa hP 1 0 rfl rfl b_7 dX11_hasLeft_7 ?_
  refine lv_iconst (pc := 8) (v := 2) hx hb dX11_hasLeft_8 (by decide) ?_
  refine lv_iload_n (pc := 9) hx hb dX11_hasLeft_9 rfl (lv_at hl 2 rfl) ?_
  refine lv_imul (pc := 10) hx hb dX11_hasLeft_10 ?_
  refine lv_icmp_le (pc := 11) (tgt := 18) hx hb dX11_hasLeft_11 (by decide) (fun c_11 => ?_) (fun c_11 => ?_)
  · have hf := cm_ip c_11 hf
    refine lv_iconst (pc := 18) (v := 0) hx hb dX11_hasLeft_18 (by decide) ?_
    obtain rfl := Option.some.inj hf
    exact cm_zret (Or.inl rfl) (pc := 19) hAe hQ hx hb hr hlocks hP hD hS [0, 1] (by decide) rfl dX11_hasLeft_19
  · have hf := cm_in c_11 hf
    refine lv_iconst (pc := 14) (v := 1) hx hb dX11_hasLeft_14 (by decide) ?_
    refine lv_goto (pc := 15) (tgt := 19) hx hb dX11_hasLeft_15 (by decide) ?_
    obtain rfl := Option.some.inj hf
    exact cm_zret (Or.inr rfl) (pc := 19) hAe hQ hx hb hr hlocks hP hD hS [0, 1] (by decide) rfl dX11_hasLeft_19
def fX11_cakes_L62 (v4_43 : Int32) (kx : Int32 → (Nat → Int32) → Option (Int32 × (Nat → Int32))) : Nat → Int32 → (Nat → Int32) → Option (Int32 × (Nat → Int32))
  | 0, _, _ => none
  | n + 1, v5_62, m_fewest_62 => (if v5_62 ≤ 0 then kx v5_62 m_fewest_62 else Option.bind (fX11_hasLeft v4_43 v5_62 m_fewest_62) (fun u78 => (if u78 = 0 then if v4_43 < 0 ∨ 100 ≤ v4_43.toNatClampNeg then none else if v4_43 < 0 ∨ 100 ≤ v4_43.toNatClampNeg then none else fX11_cakes_L62 v4_43 kx n (v5_62 + (-1)) (upd m_fewest_62 v4_43.toNatClampNeg (m_fewest_62 v4_43.toNatClampNeg)) else if v4_43 < 0 ∨ 100 ≤ v4_43.toNatClampNeg then none else fX11_cakes_L62 v4_43 kx n (v5_62 + (-1)) (upd m_fewest_62 v4_43.toNatClampNeg v5_62))))
def fX11_cakes_L43 (v1 : Int32) (kx : Int32 → (Nat → Int32) → Option (Int32 × (Nat → Int32))) : Nat → Int32 → (Nat → Int32) → Option (Int32 × (Nat → Int32))
  | 0, _, _ => none
  | n + 1, v4_43, m_fewest_43 => (if v1 < v4_43 then kx v4_43 m_fewest_43 else if v4_43 < 0 ∨ 100 ≤ v4_43.toNatClampNeg then none else fX11_cakes_L62 v4_43 (fun v5_62 m_fewest_62 => fX11_cakes_L43 v1 kx n (v4_43 + 1) m_fewest_62) 5000 v4_43 (upd m_fewest_43 v4_43.toNatClampNeg v4_43))
def fX11_cakes (v1 : Int32) (v2 : Int32) (v3 : Int32) (m_fewest : (Nat → Int32)) : Option (Int32 × (Nat → Int32)) := cm_let (fX11_in v1 0 99) (fun u4 => (if u4 = 0 then some ((-2), m_fewest) else cm_let (fX11_in v2 0 99) (fun u14 => (if u14 = 0 then some ((-2), m_fewest) else cm_let (fX11_in v3 0 1) (fun u23 => (if u23 = 0 then some ((-2), m_fewest) else fX11_cakes_L43 v1 (fun v4_43 m_fewest_43 => if v1 < 0 ∨ 100 ≤ v1.toNatClampNeg then none else cm_let ((if v2 < (m_fewest_43 v1.toNatClampNeg) then 0 else 1) : Int32) (fun j116 => (if v3 = 0 then (if j116 = 0 then some (0, m_fewest_43) else some (1, m_fewest_43)) else (if j116 = 0 then some ((-6), m_fewest_43) else if v1 < 0 ∨ 100 ≤ v1.toNatClampNeg then none else some ((m_fewest_43 v1.toNatClampNeg), m_fewest_43))))) 5000 1 (upd m_fewest 0 1000000)))))))
def rmX11_cakes : Room := { frames := 1, cells := 0, slots := 0, locals := 22 }
set_option maxRecDepth 100000 in
set_option maxHeartbeats 4000000 in
theorem c_X11_cakes (l : Launch) (D : va_G) (cI cJ cZ : ClassId) (a a_book a_now a_sight a_pad a_digits a_without a_with a_counts a_fewest a_ways a_more a_chooses a_image a_isKept : Nat) (m_sights : Int32) (m_signs : Int32) (m_sold : Int32) (m_markets : Int32) (m_marketAt : Int32) (m_reason : Int32) (m_acts : Int32) (m_fewest : (Nat → Int32)) (v1 : Int32) (v2 : Int32) (v3 : Int32) (res : Int32 × (Nat → Int32)) (hf : fX11_cakes v1 v2 v3 m_fewest = some res) : Ct l yX11_cakes (cm_ws yX11_cakes cX11_cakes 6 (some .int)) rmX11_cakes D (cm_T cI cJ cZ) [.ref a, .int v1, .int v2, .int v3] [(a, .inr (11, [.ref a_book, .ref a_now, .int m_sights, .ref a_sight, .int m_signs, .ref a_pad, .int m_sold, .int m_markets, .int m_marketAt, .int m_reason, .int m_acts, .ref a_digits, .ref a_without, .ref a_with, .ref a_counts, .ref a_fewest, .ref a_ways, .ref a_more, .ref a_chooses, .ref a_image, .ref a_isKept])), cm_kI cI a_fewest 100 m_fewest] (some (.int res.1)) [(a, .inr (11, [.ref a_book, .ref a_now, .int m_sights, .ref a_sight, .int m_signs, .ref a_pad, .int m_sold, .int m_markets, .int m_marketAt, .int m_reason, .int m_acts, .ref a_digits, .ref a_without, .ref a_with, .ref a_counts, .ref a_fewest, .ref a_ways, .ref a_more, .ref a_chooses, .ref a_image, .ref a_isKept])), cm_kI cI a_fewest 100 res.2] := by
  refine Ct.of (cc := cX11_cakes) (maxL := 6) (ret := (some .int)) (by decide) (Nat.le_of_ble_eq_true rfl) ?_
  intro p e s m below meth c ls args A Q hav hAe hQ hx hb hr hml hown hlocks hts hK hP hD hA hS hl
  have hKa := hK.1
  have hl : lv_has ls 6 [(0, .ref a), (1, .int v1), (2, .int v2), (3, .int v3)] := hl
  unfold fX11_cakes at hf
  refine lv_iload_n (pc := 0) hx hb dX11_cakes_0 rfl (lv_at hl 1 rfl) ?_
  refine lv_iconst (pc := 1) (v := 0) hx hb dX11_cakes_1 (by decide) ?_
  refine lv_bipush (pc := 2) (v := 99) hx hb dX11_cakes_2 (by decide) ?_
  obtain ⟨u4, hu4, hf⟩ := cm_lt hf
  refine cm_callS (pc := 4) (As := [.int v1, .int 0, .int 99]) (rest := []) (wr := [(a, .inr (11, [.ref a_book, .ref a_now, .int m_sights, .ref a_sight, .int m_signs, .ref a_pad, .int m_sold, .int m_markets, .int m_marketAt, .int m_reason, .int m_acts, .ref a_digits, .ref a_without, .ref a_with, .ref a_counts, .ref a_fewest, .ref a_ways, .ref a_more, .ref a_chooses, .ref a_image, .ref a_isKept])), cm_kI cI a_fewest 100 m_fewest]) (n := 3) hx hb hml hown hts hK hP hD hS hA (c_X11_in l D cI cJ cZ v1 0 99 u4 hu4) tw_783 tw_781 tw_782 tw_56 rfl rfl (by decide +kernel) rfl ⟨Nat.le_of_ble_eq_true rfl, Nat.le_of_ble_eq_true rfl⟩ [] [0, 1] rfl (by decide) rfl (by decide) (by decide) hl.1 rfl (Nat.le_of_ble_eq_true rfl) dX11_cakes_4 ⟨Nat.zero_le _, Nat.zero_le _⟩ (fun H locs hP hD hS => ?_)
  have hP : va_P D vwCl [(a, .inr (11, [.ref a_book, .ref a_now, .int m_sights, .ref a_sight, .int m_signs, .ref a_pad, .int m_sold, .int m_markets, .int m_marketAt, .int m_reason, .int m_acts, .ref a_digits, .ref a_without, .ref a_with, .ref a_counts, .ref a_fewest, .ref a_ways, .ref a_more, .ref a_chooses, .ref a_image, .ref a_isKept])), cm_kI cI a_fewest 100 m_fewest] H := hP
  have hD : va_D A [(a, .inr (11, [.ref a_book, .ref a_now, .int m_sights, .ref a_sight, .int m_signs, .ref a_pad, .int m_sold, .int m_markets, .int m_marketAt, .int m_reason, .int m_acts, .ref a_digits, .ref a_without, .ref a_with, .ref a_counts, .ref a_fewest, .ref a_ways, .ref a_more, .ref a_chooses, .ref a_image, .ref a_isKept])), cm_kI cI a_fewest 100 m_fewest] := hD
  refine W.eq (g2 := F0 m 7 ls [.int u4]) rfl ?_
  refine lv_if_eq (pc := 7) (tgt := 29) hx hb dX11_cakes_7 (by decide) (fun c_7 => ?_) (fun c_7 => ?_)
  · have hf := cm_ip c_7 hf
    refine lv_bipush (pc := 29) (v := (-2)) hx hb dX11_cakes_29 (by decide) ?_
    obtain rfl := Option.some.inj hf
    exact cm_iret (pc := 31) hAe hQ hx hb hr hlocks hP hD hS [0, 1] (by decide) rfl dX11_cakes_31
  · have hf := cm_in c_7 hf
    refine lv_iload_n (pc := 10) hx hb dX11_cakes_10 rfl (lv_at hl 2 rfl) ?_
    refine lv_iconst (pc := 11) (v := 0) hx hb dX11_cakes_11 (by decide) ?_
    refine lv_bipush (pc := 12) (v := 99) hx hb dX11_cakes_12 (by decide) ?_
    obtain ⟨u14, hu14, hf⟩ := cm_lt hf
    refine cm_callS (pc := 14) (As := [.int v2, .int 0, .int 99]) (rest := []) (wr := [(a, .inr (11, [.ref a_book, .ref a_now, .int m_sights, .ref a_sight, .int m_signs, .ref a_pad, .int m_sold, .int m_markets, .int m_marketAt, .int m_reason, .int m_acts, .ref a_digits, .ref a_without, .ref a_with, .ref a_counts, .ref a_fewest, .ref a_ways, .ref a_more, .ref a_chooses, .ref a_image, .ref a_isKept])), cm_kI cI a_fewest 100 m_fewest]) (n := 3) hx hb hml hown hts hK hP hD hS hA (c_X11_in l D cI cJ cZ v2 0 99 u14 hu14) tw_783 tw_781 tw_782 tw_56 rfl rfl (by decide +kernel) rfl ⟨Nat.le_of_ble_eq_true rfl, Nat.le_of_ble_eq_true rfl⟩ [] [0, 1] rfl (by decide) rfl (by decide) (by decide) hl.1 rfl (Nat.le_of_ble_eq_true rfl) dX11_cakes_14 ⟨Nat.zero_le _, Nat.zero_le _⟩ (fun H locs hP hD hS => ?_)
    have hP : va_P D vwCl [(a, .inr (11, [.ref a_book, .ref a_now, .int m_sights, .ref a_sight, .int m_signs, .ref a_pad, .int m_sold, .int m_markets, .int m_marketAt, .int m_reason, .int m_acts, .ref a_digits, .ref a_without, .ref a_with, .ref a_counts, .ref a_fewest, .ref a_ways, .ref a_more, .ref a_chooses, .ref a_image, .ref a_isKept])), cm_kI cI a_fewest 100 m_fewest] H := hP
    have hD : va_D A [(a, .inr (11, [.ref a_book, .ref a_now, .int m_sights, .ref a_sight, .int m_signs, .ref a_pad, .int m_sold, .int m_markets, .int m_marketAt, .int m_reason, .int m_acts, .ref a_digits, .ref a_without, .ref a_with, .ref a_counts, .ref a_fewest, .ref a_ways, .ref a_more, .ref a_chooses, .ref a_image, .ref a_isKept])), cm_kI cI a_fewest 100 m_fewest] := hD
    refine W.eq (g2 := F0 m 17 ls [.int u14]) rfl ?_
    refine lv_if_eq (pc := 17) (tgt := 29) hx hb dX11_cakes_17 (by decide) (fun c_17 => ?_) (fun c_17 => ?_)
    · have hf := cm_ip c_17 hf
      refine lv_bipush (pc := 29) (v := (-2)) hx hb dX11_cakes_29 (by decide) ?_
      obtain rfl := Option.some.inj hf
      exact cm_iret (pc := 31) hAe hQ hx hb hr hlocks hP hD hS [0, 1] (by decide) rfl dX11_cakes_31
    · have hf := cm_in c_17 hf
      refine lv_iload_n (pc := 20) hx hb dX11_cakes_20 rfl (lv_at hl 3 rfl) ?_
      refine lv_iconst (pc := 21) (v := 0) hx hb dX11_cakes_21 (by decide) ?_
      refine lv_iconst (pc := 22) (v := 1) hx hb dX11_cakes_22 (by decide) ?_
      obtain ⟨u23, hu23, hf⟩ := cm_lt hf
      refine cm_callS (pc := 23) (As := [.int v3, .int 0, .int 1]) (rest := []) (wr := [(a, .inr (11, [.ref a_book, .ref a_now, .int m_sights, .ref a_sight, .int m_signs, .ref a_pad, .int m_sold, .int m_markets, .int m_marketAt, .int m_reason, .int m_acts, .ref a_digits, .ref a_without, .ref a_with, .ref a_counts, .ref a_fewest, .ref a_ways, .ref a_more, .ref a_chooses, .ref a_image, .ref a_isKept])), cm_kI cI a_fewest 100 m_fewest]) (n := 3) hx hb hml hown hts hK hP hD hS hA (c_X11_in l D cI cJ cZ v3 0 1 u23 hu23) tw_783 tw_781 tw_782 tw_56 rfl rfl (by decide +kernel) rfl ⟨Nat.le_of_ble_eq_true rfl, Nat.le_of_ble_eq_true rfl⟩ [] [0, 1] rfl (by decide) rfl (by decide) (by decide) hl.1 rfl (Nat.le_of_ble_eq_true rfl) dX11_cakes_23 ⟨Nat.zero_le _, Nat.zero_le _⟩ (fun H locs hP hD hS => ?_)
      have hP : va_P D vwCl [(a, .inr (11, [.ref a_book, .ref a_now, .int m_sights, .ref a_sight, .int m_signs, .ref a_pad, .int m_sold, .int m_markets, .int m_marketAt, .int m_reason, .int m_acts, .ref a_digits, .ref a_without, .ref a_with, .ref a_counts, .ref a_fewest, .ref a_ways, .ref a_more, .ref a_chooses, .ref a_image, .ref a_isKept])), cm_kI cI a_fewest 100 m_fewest] H := hP
      have hD : va_D A [(a, .inr (11, [.ref a_book, .ref a_now, .int m_sights, .ref a_sight, .int m_signs, .ref a_pad, .int m_sold, .int m_markets, .int m_marketAt, .int m_reason, .int m_acts, .ref a_digits, .ref a_without, .ref a_with, .ref a_counts, .ref a_fewest, .ref a_ways, .ref a_more, .ref a_chooses, .ref a_image, .ref a_isKept])), cm_kI cI a_fewest 100 m_fewest] := hD
      refine W.eq (g2 := F0 m 26 ls [.int u23]) rfl ?_
      refine lv_if_ne (pc := 26) (tgt := 32) hx hb dX11_cakes_26 (by decide) (fun c_26 => ?_) (fun c_26 => ?_)
      · have hf := cm_in c_26 hf
        refine lv_aload_n (pc := 32) hx hb dX11_cakes_32 rfl (lv_at hl 0 rfl) ?_
        refine va_get (pc := 33) (D := D) (ci := 11) (v := .ref a_fewest) (C := RX11) (T := TX11) (N := 21) hx hb hts in_X11 hown hKa hP 0 rfl rfl 15 (by decide) (hts _ tw_727) (fun _ h9 => h9) rfl dX11_cakes_33 ?_
        refine lv_iconst (pc := 36) (v := 0) hx hb dX11_cakes_36 (by decide) ?_
        refine lv_ldc (pc := 37) (v := 1000000) hx hb hown (hts _ tw_887) dX11_cakes_37 ?_
        refine cm_iast (pc := 39) hx hb hKa hP hD hS 1 0 rfl rfl 0 rfl (by decide) dX11_cakes_39 (fun H locs hP hD hS => ?_)
        have hP : va_P D vwCl [(a, .inr (11, [.ref a_book, .ref a_now, .int m_sights, .ref a_sight, .int m_signs, .ref a_pad, .int m_sold, .int m_markets, .int m_marketAt, .int m_reason, .int m_acts, .ref a_digits, .ref a_without, .ref a_with, .ref a_counts, .ref a_fewest, .ref a_ways, .ref a_more, .ref a_chooses, .ref a_image, .ref a_isKept])), cm_kI cI a_fewest 100 (upd m_fewest 0 1000000)] H := hP
        have hD : va_D A [(a, .inr (11, [.ref a_book, .ref a_now, .int m_sights, .ref a_sight, .int m_signs, .ref a_pad, .int m_sold, .int m_markets, .int m_marketAt, .int m_reason, .int m_acts, .ref a_digits, .ref a_without, .ref a_with, .ref a_counts, .ref a_fewest, .ref a_ways, .ref a_more, .ref a_chooses, .ref a_image, .ref a_isKept])), cm_kI cI a_fewest 100 (upd m_fewest 0 1000000)] := hD
        refine lv_iconst (pc := 40) (v := 1) hx hb dX11_cakes_40 (by decide) ?_
        refine lv_istore (pc := 41) (lv' := [(4, .int 1), (0, .ref a), (1, .int v1), (2, .int v2), (3, .int v3)]) hx hb dX11_cakes_41 hl (by decide) rfl (fun ls hl => ?_)
        have L43 : ∀ (kx : Int32 → (Nat → Int32) → Option (Int32 × (Nat → Int32))), (∀ (v4_43 : Int32) (m_fewest_43 : (Nat → Int32)) (H : Heap) (locs : List Loc) (ls : Array Slot), va_P D vwCl [(a, .inr (11, [.ref a_book, .ref a_now, .int m_sights, .ref a_sight, .int m_signs, .ref a_pad, .int m_sold, .int m_markets, .int m_marketAt, .int m_reason, .int m_acts, .ref a_digits, .ref a_without, .ref a_with, .ref a_counts, .ref a_fewest, .ref a_ways, .ref a_more, .ref a_chooses, .ref a_image, .ref a_isKept])), cm_kI cI a_fewest 100 m_fewest_43] H → va_D A [(a, .inr (11, [.ref a_book, .ref a_now, .int m_sights, .ref a_sight, .int m_signs, .ref a_pad, .int m_sold, .int m_markets, .int m_marketAt, .int m_reason, .int m_acts, .ref a_digits, .ref a_without, .ref a_with, .ref a_counts, .ref a_fewest, .ref a_ways, .ref a_more, .ref a_chooses, .ref a_image, .ref a_isKept])), cm_kI cI a_fewest 100 m_fewest_43] → va_S A s.heap H locs → lv_has ls 6 [(0, .ref a), (1, .int v1), (2, .int v2), (3, .int v3)] → kx v4_43 m_fewest_43 = some res → W p l e rmX11_cakes s m args below meth c H locs 0 0 Q (F0 m 109 ls [])) → ∀ (n : Nat) (v4_43 : Int32) (m_fewest_43 : (Nat → Int32)) (H : Heap) (locs : List Loc) (ls : Array Slot), va_P D vwCl [(a, .inr (11, [.ref a_book, .ref a_now, .int m_sights, .ref a_sight, .int m_signs, .ref a_pad, .int m_sold, .int m_markets, .int m_marketAt, .int m_reason, .int m_acts, .ref a_digits, .ref a_without, .ref a_with, .ref a_counts, .ref a_fewest, .ref a_ways, .ref a_more, .ref a_chooses, .ref a_image, .ref a_isKept])), cm_kI cI a_fewest 100 m_fewest_43] H → va_D A [(a, .inr (11, [.ref a_book, .ref a_now, .int m_sights, .ref a_sight, .int m_signs, .ref a_pad, .int m_sold, .int m_markets, .int m_marketAt, .int m_reason, .int m_acts, .ref a_digits, .ref a_without, .ref a_with, .ref a_counts, .ref a_fewest, .ref a_ways, .ref a_more, .ref a_chooses, .ref a_image, .ref a_isKept])), cm_kI cI a_fewest 100 m_fewest_43] → va_S A s.heap H locs → lv_has ls 6 [(4, .int v4_43), (0, .ref a), (1, .int v1), (2, .int v2), (3, .int v3)] → fX11_cakes_L43 v1 kx n v4_43 m_fewest_43 = some res → W p l e rmX11_cakes s m args below meth c H locs 0 0 Q (F0 m 43 ls []) := by
          intro kx hkx n
          induction n with
          | zero => intro v4_43 m_fewest_43 H locs ls hP hD hS hl hf; cases hf
          | succ n ih =>
            intro v4_43 m_fewest_43 H locs ls hP hD hS hl hf
            rw [fX11_cakes_L43] at hf
            refine lv_iload (pc := 43) hx hb dX11_cakes_43 (lv_at hl 0 rfl) ?_
            refine lv_iload_n (pc := 45) hx hb dX11_cakes_45 rfl (lv_at hl 2 rfl) ?_
            refine lv_icmp_gt (pc := 46) (tgt := 109) hx hb dX11_cakes_46 (by decide) (fun c_46 => ?_) (fun c_46 => ?_)
            · have hf := cm_ip c_46 hf
              exact hkx v4_43 m_fewest_43 _ _ _ hP hD hS (lv_sub hl [1, 2, 3, 4] rfl) hf
            · have hf := cm_in c_46 hf
              refine lv_aload_n (pc := 49) hx hb dX11_cakes_49 rfl (lv_at hl 1 rfl) ?_
              refine va_get (pc := 50) (D := D) (ci := 11) (v := .ref a_fewest) (C := RX11) (T := TX11) (N := 21) hx hb hts in_X11 hown hKa hP 0 rfl rfl 15 (by decide) (hts _ tw_727) (fun _ h9 => h9) rfl dX11_cakes_50 ?_
              refine lv_iload (pc := 53) hx hb dX11_cakes_53 (lv_at hl 0 rfl) ?_
              refine lv_iload (pc := 55) hx hb dX11_cakes_55 (lv_at hl 0 rfl) ?_
              obtain ⟨b_57, hf⟩ := cm_ob hf
              refine va_iast (pc := 57) hx hb hKa hP hD hS 1 0 rfl rfl b_57 dX11_cakes_57 (fun H locs hP hD hS => ?_)
              have hP : va_P D vwCl [(a, .inr (11, [.ref a_book, .ref a_now, .int m_sights, .ref a_sight, .int m_signs, .ref a_pad, .int m_sold, .int m_markets, .int m_marketAt, .int m_reason, .int m_acts, .ref a_digits, .ref a_without, .ref a_with, .ref a_counts, .ref a_fewest, .ref a_ways, .ref a_more, .ref a_chooses, .ref a_image, .ref a_isKept])), cm_kI cI a_fewest 100 (upd m_fewest_43 v4_43.toNatClampNeg v4_43)] H := hP
              have hD : va_D A [(a, .inr (11, [.ref a_book, .ref a_now, .int m_sights, .ref a_sight, .int m_signs, .ref a_pad, .int m_sold, .int m_markets, .int m_marketAt, .int m_reason, .int m_acts, .ref a_digits, .ref a_without, .ref a_with, .ref a_counts, .ref a_fewest, .ref a_ways, .ref a_more, .ref a_chooses, .ref a_image, .ref a_isKept])), cm_kI cI a_fewest 100 (upd m_fewest_43 v4_43.toNatClampNeg v4_43)] := hD
              refine lv_iload (pc := 58) hx hb dX11_cakes_58 (lv_at hl 0 rfl) ?_
              refine lv_istore (pc := 60) (lv' := [(5, .int v4_43), (4, .int v4_43), (0, .ref a), (1, .int v1), (2, .int v2), (3, .int v3)]) hx hb dX11_cakes_60 hl (by decide) rfl (fun ls hl => ?_)
              have L62 : ∀ (kx : Int32 → (Nat → Int32) → Option (Int32 × (Nat → Int32))), (∀ (v5_62 : Int32) (m_fewest_62 : (Nat → Int32)) (H : Heap) (locs : List Loc) (ls : Array Slot), va_P D vwCl [(a, .inr (11, [.ref a_book, .ref a_now, .int m_sights, .ref a_sight, .int m_signs, .ref a_pad, .int m_sold, .int m_markets, .int m_marketAt, .int m_reason, .int m_acts, .ref a_digits, .ref a_without, .ref a_with, .ref a_counts, .ref a_fewest, .ref a_ways, .ref a_more, .ref a_chooses, .ref a_image, .ref a_isKept])), cm_kI cI a_fewest 100 m_fewest_62] H → va_D A [(a, .inr (11, [.ref a_book, .ref a_now, .int m_sights, .ref a_sight, .int m_signs, .ref a_pad, .int m_sold, .int m_markets, .int m_marketAt, .int m_reason, .int m_acts, .ref a_digits, .ref a_without, .ref a_with, .ref a_counts, .ref a_fewest, .ref a_ways, .ref a_more, .ref a_chooses, .ref a_image, .ref a_isKept])), cm_kI cI a_fewest 100 m_fewest_62] → va_S A s.heap H locs → lv_has ls 6 [(4, .int v4_43), (0, .ref a), (1, .int v1), (2, .int v2), (3, .int v3)] → kx v5_62 m_fewest_62 = some res → W p l e rmX11_cakes s m args below meth c H locs 0 0 Q (F0 m 103 ls [])) → ∀ (n : Nat) (v5_62 : Int32) (m_fewest_62 : (Nat → Int32)) (H : Heap) (locs : List Loc) (ls : Array Slot), va_P D vwCl [(a, .inr (11, [.ref a_book, .ref a_now, .int m_sights, .ref a_sight, .int m_signs, .ref a_pad, .int m_sold, .int m_markets, .int m_marketAt, .int m_reason, .int m_acts, .ref a_digits, .ref a_without, .ref a_with, .ref a_counts, .ref a_fewest, .ref a_ways, .ref a_more, .ref a_chooses, .ref a_image, .ref a_isKept])), cm_kI cI a_fewest 100 m_fewest_62] H → va_D A [(a, .inr (11, [.ref a_book, .ref a_now, .int m_sights, .ref a_sight, .int m_signs, .ref a_pad, .int m_sold, .int m_markets, .int m_marketAt, .int m_reason, .int m_acts, .ref a_digits, .ref a_without, .ref a_with, .ref a_counts, .ref a_fewest, .ref a_ways, .ref a_more, .ref a_chooses, .ref a_image, .ref a_isKept])), cm_kI cI a_fewest 100 m_fewest_62] → va_S A s.heap H locs → lv_has ls 6 [(5, .int v5_62), (4, .int v4_43), (0, .ref a), (1, .int v1), (2, .int v2), (3, .int v3)] → fX11_cakes_L62 v4_43 kx n v5_62 m_fewest_62 = some res → W p l e rmX11_cakes s m args below meth c H locs 0 0 Q (F0 m 62 ls []) := by
                intro kx hkx n
                induction n with
                | zero => intro v5_62 m_fewest_62 H locs ls hP hD hS hl hf; cases hf
                | succ n ih =>
                  intro v5_62 m_fewest_62 H locs ls hP hD hS hl hf
                  rw [fX11_cakes_L62] at hf
                  refine lv_iload (pc := 62) hx hb dX11_cakes_62 (lv_at hl 0 rfl) ?_
                  refine lv_if_le (pc := 64) (tgt := 103) hx hb dX11_cakes_64 (by decide) (fun c_64 => ?_) (fun c_64 => ?_)
                  · have hf := cm_ip c_64 hf
                    exact hkx v5_62 m_fewest_62 _ _ _ hP hD hS (lv_sub hl [1, 2, 3, 4, 5] rfl) hf
                  · have hf := cm_in c_64 hf
                    refine lv_aload_n (pc := 67) hx hb dX11_cakes_67 rfl (lv_at hl 2 rfl) ?_
                    refine va_get (pc := 68) (D := D) (ci := 11) (v := .ref a_fewest) (C := RX11) (T := TX11) (N := 21) hx hb hts in_X11 hown hKa hP 0 rfl rfl 15 (by decide) (hts _ tw_727) (fun _ h9 => h9) rfl dX11_cakes_68 ?_
                    refine lv_iload (pc := 71) hx hb dX11_cakes_71 (lv_at hl 1 rfl) ?_
                    refine lv_aload_n (pc := 73) hx hb dX11_cakes_73 rfl (lv_at hl 2 rfl) ?_
                    refine lv_iload (pc := 74) hx hb dX11_cakes_74 (lv_at hl 1 rfl) ?_
                    refine lv_iload (pc := 76) hx hb dX11_cakes_76 (lv_at hl 0 rfl) ?_
                    obtain ⟨u78, hu78, hf⟩ := cm_bd hf
                    refine cm_callV (pc := 78) (As := [.int v4_43, .int v5_62]) (rest := [.int v4_43, .ref a_fewest]) (wr := []) (ci := 11) (q0 := 0) (n := 2) hx hb hml hown hts hK hP hD hS hA (c_X11_hasLeft l D cI cJ cZ a a_book a_now a_sight a_pad a_digits a_without a_with a_counts a_fewest a_ways a_more a_chooses a_image a_isKept m_sights m_signs m_sold m_markets m_marketAt m_reason m_acts m_fewest_62 v4_43 v5_62 u78 hu78) tw_934 tw_931 tw_933 tw_43 tw_56 rfl rfl (by decide +kernel) rfl ⟨Nat.le_of_ble_eq_true rfl, Nat.le_of_ble_eq_true rfl⟩ [0, 1] [] rfl (by decide) rfl (by decide) (by decide) rfl rfl rfl hl.1 rfl (Nat.le_of_ble_eq_true rfl) dX11_cakes_78 ⟨Nat.zero_le _, Nat.zero_le _⟩ (fun H locs hP hD hS => ?_)
                    have hP : va_P D vwCl [(a, .inr (11, [.ref a_book, .ref a_now, .int m_sights, .ref a_sight, .int m_signs, .ref a_pad, .int m_sold, .int m_markets, .int m_marketAt, .int m_reason, .int m_acts, .ref a_digits, .ref a_without, .ref a_with, .ref a_counts, .ref a_fewest, .ref a_ways, .ref a_more, .ref a_chooses, .ref a_image, .ref a_isKept])), cm_kI cI a_fewest 100 m_fewest_62] H := hP
                    have hD : va_D A [(a, .inr (11, [.ref a_book, .ref a_now, .int m_sights, .ref a_sight, .int m_signs, .ref a_pad, .int m_sold, .int m_markets, .int m_marketAt, .int m_reason, .int m_acts, .ref a_digits, .ref a_without, .ref a_with, .ref a_counts, .ref a_fewest, .ref a_ways, .ref a_more, .ref a_chooses, .ref a_image, .ref a_isKept])), cm_kI cI a_fewest 100 m_fewest_62] := hD
                    refine W.eq (g2 := F0 m 81 ls [.int u78, .int v4_43, .ref a_fewest]) rfl ?_
                    refine lv_if_eq (pc := 81) (tgt := 89) hx hb dX11_cakes_81 (by decide) (fun c_81 => ?_) (fun c_81 => ?_)
                    · have hf := cm_ip c_81 hf
                      refine lv_aload_n (pc := 89) hx hb dX11_cakes_89 rfl (lv_at hl 2 rfl) ?_
                      refine va_get (pc := 90) (D := D) (ci := 11) (v := .ref a_fewest) (C := RX11) (T := TX11) (N := 21) hx hb hts in_X11 hown hKa hP 0 rfl rfl 15 (by decide) (hts _ tw_727) (fun _ h9 => h9) rfl dX11_cakes_90 ?_
                      refine lv_iload (pc := 93) hx hb dX11_cakes_93 (lv_at hl 1 rfl) ?_
                      obtain ⟨b_95, hf⟩ := cm_ob hf
                      refine va_iald (pc := 95) hx hb hKa hP 1 0 rfl rfl b_95 dX11_cakes_95 ?_
                      obtain ⟨b_96, hf⟩ := cm_ob hf
                      refine va_iast (pc := 96) hx hb hKa hP hD hS 1 0 rfl rfl b_96 dX11_cakes_96 (fun H locs hP hD hS => ?_)
                      have hP : va_P D vwCl [(a, .inr (11, [.ref a_book, .ref a_now, .int m_sights, .ref a_sight, .int m_signs, .ref a_pad, .int m_sold, .int m_markets, .int m_marketAt, .int m_reason, .int m_acts, .ref a_digits, .ref a_without, .ref a_with, .ref a_counts, .ref a_fewest, .ref a_ways, .ref a_more, .ref a_chooses, .ref a_image, .ref a_isKept])), cm_kI cI a_fewest 100 (upd m_fewest_62 v4_43.toNatClampNeg (m_fewest_62 v4_43.toNatClampNeg))] H := hP
                      have hD : va_D A [(a, .inr (11, [.ref a_book, .ref a_now, .int m_sights, .ref a_sight, .int m_signs, .ref a_pad, .int m_sold, .int m_markets, .int m_marketAt, .int m_reason, .int m_acts, .ref a_digits, .ref a_without, .ref a_with, .ref a_counts, .ref a_fewest, .ref a_ways, .ref a_more, .ref a_chooses, .ref a_image, .ref a_isKept])), cm_kI cI a_fewest 100 (upd m_fewest_62 v4_43.toNatClampNeg (m_fewest_62 v4_43.toNatClampNeg))] := hD
                      refine lv_iinc (pc := 97) (v := (v5_62 + (-1))) (lv' := [(5, .int (v5_62 + (-1))), (4, .int v4_43), (0, .ref a), (1, .int v1), (2, .int v2), (3, .int v3)]) hx hb dX11_cakes_97 hl (k := 0) rfl rfl (by decide) rfl (fun ls hl => ?_)
                      refine lv_goto (pc := 100) (tgt := 62) hx hb dX11_cakes_100 (by decide) ?_
                      exact ih (v5_62 + (-1)) (upd m_fewest_62 v4_43.toNatClampNeg (m_fewest_62 v4_43.toNatClampNeg)) _ _ _ hP hD hS (lv_sub hl [0, 1, 2, 3, 4, 5] rfl) hf
                    · have hf := cm_in c_81 hf
                      refine lv_iload (pc := 84) hx hb dX11_cakes_84 (lv_at hl 0 rfl) ?_
                      refine lv_goto (pc := 86) (tgt := 96) hx hb dX11_cakes_86 (by decide) ?_
                      obtain ⟨b_96, hf⟩ := cm_ob hf
                      refine va_iast (pc := 96) hx hb hKa hP hD hS 1 0 rfl rfl b_96 dX11_cakes_96 (fun H locs hP hD hS => ?_)
                      have hP : va_P D vwCl [(a, .inr (11, [.ref a_book, .ref a_now, .int m_sights, .ref a_sight, .int m_signs, .ref a_pad, .int m_sold, .int m_markets, .int m_marketAt, .int m_reason, .int m_acts, .ref a_digits, .ref a_without, .ref a_with, .ref a_counts, .ref a_fewest, .ref a_ways, .ref a_more, .ref a_chooses, .ref a_image, .ref a_isKept])), cm_kI cI a_fewest 100 (upd m_fewest_62 v4_43.toNatClampNeg v5_62)] H := hP
                      have hD : va_D A [(a, .inr (11, [.ref a_book, .ref a_now, .int m_sights, .ref a_sight, .int m_signs, .ref a_pad, .int m_sold, .int m_markets, .int m_marketAt, .int m_reason, .int m_acts, .ref a_digits, .ref a_without, .ref a_with, .ref a_counts, .ref a_fewest, .ref a_ways, .ref a_more, .ref a_chooses, .ref a_image, .ref a_isKept])), cm_kI cI a_fewest 100 (upd m_fewest_62 v4_43.toNatClampNeg v5_62)] := hD
                      refine lv_iinc (pc := 97) (v := (v5_62 + (-1))) (lv' := [(5, .int (v5_62 + (-1))), (4, .int v4_43), (0, .ref a), (1, .int v1), (2, .int v2), (3, .int v3)]) hx hb dX11_cakes_97 hl (k := 0) rfl rfl (by decide) rfl (fun ls hl => ?_)
                      refine lv_goto (pc := 100) (tgt := 62) hx hb dX11_cakes_100 (by decide) ?_
                      exact ih (v5_62 + (-1)) (upd m_fewest_62 v4_43.toNatClampNeg v5_62) _ _ _ hP hD hS (lv_sub hl [0, 1, 2, 3, 4, 5] rfl) hf
              refine L62 _ (fun v5_62 m_fewest_62 H locs ls hP hD hS hl hf => ?_) 5000 v4_43 (upd m_fewest_43 v4_43.toNatClampNeg v4_43) _ _ _ hP hD hS (lv_sub hl [0, 1, 2, 3, 4, 5] rfl) hf
              refine lv_iinc (pc := 103) (v := (v4_43 + 1)) (lv' := [(4, .int (v4_43 + 1)), (0, .ref a), (1, .int v1), (2, .int v2), (3, .int v3)]) hx hb dX11_cakes_103 hl (k := 0) rfl rfl (by decide) rfl (fun ls hl => ?_)
              refine lv_goto (pc := 106) (tgt := 43) hx hb dX11_cakes_106 (by decide) ?_
              exact ih (v4_43 + 1) m_fewest_62 _ _ _ hP hD hS (lv_sub hl [0, 1, 2, 3, 4] rfl) hf
        refine L43 _ (fun v4_43 m_fewest_43 H locs ls hP hD hS hl hf => ?_) 5000 1 (upd m_fewest 0 1000000) _ _ _ hP hD hS (lv_sub hl [0, 1, 2, 3, 4] rfl) hf
        refine lv_aload_n (pc := 109) hx hb dX11_cakes_109 rfl (lv_at hl 0 rfl) ?_
        refine va_get (pc := 110) (D := D) (ci := 11) (v := .ref a_fewest) (C := RX11) (T := TX11) (N := 21) hx hb hts in_X11 hown hKa hP 0 rfl rfl 15 (by decide) (hts _ tw_727) (fun _ h9 => h9) rfl dX11_cakes_110 ?_
        refine lv_iload_n (pc := 113) hx hb dX11_cakes_113 rfl (lv_at hl 1 rfl) ?_
        obtain ⟨b_114, hf⟩ := cm_ob hf
        refine va_iald (pc := 114) hx hb hKa hP 1 0 rfl rfl b_114 dX11_cakes_114 ?_
        refine lv_iload_n (pc := 115) hx hb dX11_cakes_115 rfl (lv_at hl 2 rfl) ?_
        obtain ⟨j116, hj116, hf⟩ := cm_lt hf
        have J116 : ∀ (H : Heap) (locs : List Loc) (ls : Array Slot), va_P D vwCl [(a, .inr (11, [.ref a_book, .ref a_now, .int m_sights, .ref a_sight, .int m_signs, .ref a_pad, .int m_sold, .int m_markets, .int m_marketAt, .int m_reason, .int m_acts, .ref a_digits, .ref a_without, .ref a_with, .ref a_counts, .ref a_fewest, .ref a_ways, .ref a_more, .ref a_chooses, .ref a_image, .ref a_isKept])), cm_kI cI a_fewest 100 m_fewest_43] H → va_D A [(a, .inr (11, [.ref a_book, .ref a_now, .int m_sights, .ref a_sight, .int m_signs, .ref a_pad, .int m_sold, .int m_markets, .int m_marketAt, .int m_reason, .int m_acts, .ref a_digits, .ref a_without, .ref a_with, .ref a_counts, .ref a_fewest, .ref a_ways, .ref a_more, .ref a_chooses, .ref a_image, .ref a_isKept])), cm_kI cI a_fewest 100 m_fewest_43] → va_S A s.heap H locs → lv_has ls 6 [(0, .ref a), (1, .int v1), (3, .int v3)] → W p l e rmX11_cakes s m args below meth c H locs 0 0 Q (F0 m 124 ls [.int j116]) := by
          intro H locs ls hP hD hS hl
          refine lv_istore (pc := 124) (lv' := [(4, .int j116), (0, .ref a), (1, .int v1), (3, .int v3)]) hx hb dX11_cakes_124 hl (by decide) rfl (fun ls hl => ?_)
          refine lv_iload_n (pc := 126) hx hb dX11_cakes_126 rfl (lv_at hl 3 rfl) ?_
          refine lv_if_ne (pc := 127) (tgt := 143) hx hb dX11_cakes_127 (by decide) (fun c_127 => ?_) (fun c_127 => ?_)
          · have hf := cm_in c_127 hf
            refine lv_iload (pc := 143) hx hb dX11_cakes_143 (lv_at hl 0 rfl) ?_
            refine lv_if_eq (pc := 145) (tgt := 157) hx hb dX11_cakes_145 (by decide) (fun c_145 => ?_) (fun c_145 => ?_)
            · have hf := cm_ip c_145 hf
              refine lv_bipush (pc := 157) (v := (-6)) hx hb dX11_cakes_157 (by decide) ?_
              obtain rfl := Option.some.inj hf
              exact cm_iret (pc := 159) hAe hQ hx hb hr hlocks hP hD hS [0, 1] (by decide) rfl dX11_cakes_159
            · have hf := cm_in c_145 hf
              refine lv_aload_n (pc := 148) hx hb dX11_cakes_148 rfl (lv_at hl 1 rfl) ?_
              refine va_get (pc := 149) (D := D) (ci := 11) (v := .ref a_fewest) (C := RX11) (T := TX11) (N := 21) hx hb hts in_X11 hown hKa hP 0 rfl rfl 15 (by decide) (hts _ tw_727) (fun _ h9 => h9) rfl dX11_cakes_149 ?_
              refine lv_iload_n (pc := 152) hx hb dX11_cakes_152 rfl (lv_at hl 2 rfl) ?_
              obtain ⟨b_153, hf⟩ := cm_ob hf
              refine va_iald (pc := 153) hx hb hKa hP 1 0 rfl rfl b_153 dX11_cakes_153 ?_
              refine lv_goto (pc := 154) (tgt := 159) hx hb dX11_cakes_154 (by decide) ?_
              obtain rfl := Option.some.inj hf
              exact cm_iret (pc := 159) hAe hQ hx hb hr hlocks hP hD hS [0, 1] (by decide) rfl dX11_cakes_159
          · have hf := cm_ip c_127 hf
            refine lv_iload (pc := 130) hx hb dX11_cakes_130 (lv_at hl 0 rfl) ?_
            refine lv_if_eq (pc := 132) (tgt := 139) hx hb dX11_cakes_132 (by decide) (fun c_132 => ?_) (fun c_132 => ?_)
            · have hf := cm_ip c_132 hf
              refine lv_iconst (pc := 139) (v := 0) hx hb dX11_cakes_139 (by decide) ?_
              refine lv_goto (pc := 140) (tgt := 159) hx hb dX11_cakes_140 (by decide) ?_
              obtain rfl := Option.some.inj hf
              exact cm_iret (pc := 159) hAe hQ hx hb hr hlocks hP hD hS [0, 1] (by decide) rfl dX11_cakes_159
            · have hf := cm_in c_132 hf
              refine lv_iconst (pc := 135) (v := 1) hx hb dX11_cakes_135 (by decide) ?_
              refine lv_goto (pc := 136) (tgt := 159) hx hb dX11_cakes_136 (by decide) ?_
              obtain rfl := Option.some.inj hf
              exact cm_iret (pc := 159) hAe hQ hx hb hr hlocks hP hD hS [0, 1] (by decide) rfl dX11_cakes_159
        clear hf
        have hf := hj116
        refine lv_icmp_gt (pc := 116) (tgt := 123) hx hb dX11_cakes_116 (by decide) (fun c_116 => ?_) (fun c_116 => ?_)
        · have hf := cm_ip c_116 hf
          refine lv_iconst (pc := 123) (v := 0) hx hb dX11_cakes_123 (by decide) ?_
          obtain rfl := hf
          exact J116 _ _ _ hP hD hS (lv_sub hl [0, 1, 3] rfl)
        · have hf := cm_in c_116 hf
          refine lv_iconst (pc := 119) (v := 1) hx hb dX11_cakes_119 (by decide) ?_
          refine lv_goto (pc := 120) (tgt := 124) hx hb dX11_cakes_120 (by decide) ?_
          obtain rfl := hf
          exact J116 _ _ _ hP hD hS (lv_sub hl [0, 1, 3] rfl)
      · have hf := cm_ip c_26 hf
        refine lv_bipush (pc := 29) (v := (-2)) hx hb dX11_cakes_29 (by decide) ?_
        obtain rfl := Option.some.inj hf
        exact cm_iret (pc := 31) hAe hQ hx hb hr hlocks hP hD hS [0, 1] (by decide) rfl dX11_cakes_31
def fX11_lowest_L6 (kx : Int64 → Int64 → Option (Int64)) : Nat → Int64 → Int64 → Option (Int64)
  | 0, _, _ => none
  | n + 1, v5_6, v7_6 => (if (lg_cmp v7_6 0) = 0 then kx v5_6 v7_6 else if v7_6 = 0 then none else fX11_lowest_L6 kx n v7_6 (lrm v5_6 v7_6))
def fX11_lowest (v0 : Int64) (v2 : Int64) (v4 : Int32) : Option (Int64) := fX11_lowest_L6 (fun v5_6 v7_6 => (if v4 = 0 then if v5_6 = 0 then none else some (v0 / v5_6) else if v5_6 = 0 then none else some (v2 / v5_6))) 5000 v0 v2
def rmX11_lowest : Room := { frames := 0, cells := 0, slots := 0, locals := 0 }
set_option maxRecDepth 100000 in
set_option maxHeartbeats 4000000 in
theorem c_X11_lowest (l : Launch) (D : va_G) (cI cJ cZ : ClassId) (v0 : Int64) (v2 : Int64) (v4 : Int32) (res : Int64) (hf : fX11_lowest v0 v2 v4 = some res) : Ct l yX11_lowest (cm_ws yX11_lowest cX11_lowest 11 (some .long)) rmX11_lowest D (cm_T cI cJ cZ) [.long v0, .long v2, .int v4] [] (some (.long res)) [] := by
  refine Ct.of (cc := cX11_lowest) (maxL := 11) (ret := (some .long)) (by decide) (Nat.le_of_ble_eq_true rfl) ?_
  intro p e s m below meth c ls args A Q hav hAe hQ hx hb hr hml hown hlocks hts hK hP hD hA hS hl
  have hKa := hK.1
  have hl : lv_has ls 11 [(0, .long v0), (2, .long v2), (4, .int v4)] := hl
  unfold fX11_lowest at hf
  refine lv_lload_n (pc := 0) hx hb dX11_lowest_0 rfl (lv_at hl 0 rfl) ?_
  refine lv_lstore (pc := 1) (lv' := [(5, .long v0), (0, .long v0), (2, .long v2), (4, .int v4)]) hx hb dX11_lowest_1 hl (by decide) rfl (fun ls hl => ?_)
  refine lv_lload_n (pc := 3) hx hb dX11_lowest_3 rfl (lv_at hl 2 rfl) ?_
  refine lv_lstore (pc := 4) (lv' := [(7, .long v2), (5, .long v0), (0, .long v0), (2, .long v2), (4, .int v4)]) hx hb dX11_lowest_4 hl (by decide) rfl (fun ls hl => ?_)
  have L6 : ∀ (kx : Int64 → Int64 → Option (Int64)), (∀ (v5_6 : Int64) (v7_6 : Int64) (H : Heap) (locs : List Loc) (ls : Array Slot), va_P D vwCl [] H → va_D A [] → va_S A s.heap H locs → lv_has ls 11 [(5, .long v5_6), (0, .long v0), (2, .long v2), (4, .int v4)] → kx v5_6 v7_6 = some res → W p l e rmX11_lowest s m args below meth c H locs 0 0 Q (F0 m 31 ls [])) → ∀ (n : Nat) (v5_6 : Int64) (v7_6 : Int64) (H : Heap) (locs : List Loc) (ls : Array Slot), va_P D vwCl [] H → va_D A [] → va_S A s.heap H locs → lv_has ls 11 [(7, .long v7_6), (5, .long v5_6), (0, .long v0), (2, .long v2), (4, .int v4)] → fX11_lowest_L6 kx n v5_6 v7_6 = some res → W p l e rmX11_lowest s m args below meth c H locs 0 0 Q (F0 m 6 ls []) := by
    intro kx hkx n
    induction n with
    | zero => intro v5_6 v7_6 H locs ls hP hD hS hl hf; cases hf
    | succ n ih =>
      intro v5_6 v7_6 H locs ls hP hD hS hl hf
      rw [fX11_lowest_L6] at hf
      refine lv_lload (pc := 6) hx hb dX11_lowest_6 (lv_at hl 0 rfl) ?_
      refine lv_lconst (pc := 8) (v := 0) hx hb dX11_lowest_8 (by decide) ?_
      refine W.lcmp (pc := 9) hx hb dX11_lowest_9 ?_
      refine lv_if_eq (pc := 10) (tgt := 31) hx hb dX11_lowest_10 (by decide) (fun c_10 => ?_) (fun c_10 => ?_)
      · have hf := cm_ip c_10 hf
        exact hkx v5_6 v7_6 _ _ _ hP hD hS (lv_sub hl [1, 2, 3, 4] rfl) hf
      · have hf := cm_in c_10 hf
        refine lv_lload (pc := 13) hx hb dX11_lowest_13 (lv_at hl 1 rfl) ?_
        refine lv_lload (pc := 15) hx hb dX11_lowest_15 (lv_at hl 0 rfl) ?_
        obtain ⟨z_17, hf⟩ := cm_ob hf
        refine cm_lrem (pc := 17) hx hb dX11_lowest_17 z_17 ?_
        refine lv_lstore (pc := 18) (lv' := [(9, .long (lrm v5_6 v7_6)), (7, .long v7_6), (5, .long v5_6), (0, .long v0), (2, .long v2), (4, .int v4)]) hx hb dX11_lowest_18 hl (by decide) rfl (fun ls hl => ?_)
        refine lv_lload (pc := 20) hx hb dX11_lowest_20 (lv_at hl 1 rfl) ?_
        refine lv_lstore (pc := 22) (lv' := [(5, .long v7_6), (9, .long (lrm v5_6 v7_6)), (7, .long v7_6), (0, .long v0), (2, .long v2), (4, .int v4)]) hx hb dX11_lowest_22 hl (by decide) rfl (fun ls hl => ?_)
        refine lv_lload (pc := 24) hx hb dX11_lowest_24 (lv_at hl 1 rfl) ?_
        refine lv_lstore (pc := 26) (lv' := [(7, .long (lrm v5_6 v7_6)), (5, .long v7_6), (9, .long (lrm v5_6 v7_6)), (0, .long v0), (2, .long v2), (4, .int v4)]) hx hb dX11_lowest_26 hl (by decide) rfl (fun ls hl => ?_)
        refine lv_goto (pc := 28) (tgt := 6) hx hb dX11_lowest_28 (by decide) ?_
        exact ih v7_6 (lrm v5_6 v7_6) _ _ _ hP hD hS (lv_sub hl [0, 1, 3, 4, 5] rfl) hf
  refine L6 _ (fun v5_6 v7_6 H locs ls hP hD hS hl hf => ?_) 5000 v0 v2 _ _ _ hP hD hS (lv_sub hl [0, 1, 2, 3, 4] rfl) hf
  refine lv_iload (pc := 31) hx hb dX11_lowest_31 (lv_at hl 3 rfl) ?_
  refine lv_if_ne (pc := 33) (tgt := 43) hx hb dX11_lowest_33 (by decide) (fun c_33 => ?_) (fun c_33 => ?_)
  · have hf := cm_in c_33 hf
    refine lv_lload_n (pc := 43) hx hb dX11_lowest_43 rfl (lv_at hl 2 rfl) ?_
    refine lv_lload (pc := 44) hx hb dX11_lowest_44 (lv_at hl 0 rfl) ?_
    obtain ⟨z_46, hf⟩ := cm_ob hf
    refine lv_ldiv (pc := 46) hx hb dX11_lowest_46 z_46 ?_
    obtain rfl := Option.some.inj hf
    exact cm_lret (pc := 47) hAe hQ hx hb hr hlocks hP hD hS [] (by decide) rfl dX11_lowest_47
  · have hf := cm_ip c_33 hf
    refine lv_lload_n (pc := 36) hx hb dX11_lowest_36 rfl (lv_at hl 1 rfl) ?_
    refine lv_lload (pc := 37) hx hb dX11_lowest_37 (lv_at hl 0 rfl) ?_
    obtain ⟨z_39, hf⟩ := cm_ob hf
    refine lv_ldiv (pc := 39) hx hb dX11_lowest_39 z_39 ?_
    refine lv_goto (pc := 40) (tgt := 47) hx hb dX11_lowest_40 (by decide) ?_
    obtain rfl := Option.some.inj hf
    exact cm_lret (pc := 47) hAe hQ hx hb hr hlocks hP hD hS [] (by decide) rfl dX11_lowest_47
