def fX0_waysToRing_L27 (v1 : Int32) (v2 : Int32) (v3 : Int32) (v6_6 : Int32) (kx : Int32 → (Nat → Int64) → Option (Int64 × (Nat → Int64))) : Nat → Int32 → (Nat → Int64) → Option (Int64 × (Nat → Int64))
  | 0, _, _ => none
  | n + 1, v7_27, be_27 => (if v2 ≤ v7_27 then kx v7_27 be_27 else (if v7_27 = v3 then fX0_waysToRing_L27 v1 v2 v3 v6_6 kx n (v7_27 + 1) be_27 else cm_let (fX10_leastBeside v7_27 v3 v6_6) (fun u49 => Option.bind (fX0_addDay (v1 - v6_6) u49 be_27) (fun u52 => fX0_waysToRing_L27 v1 v2 v3 v6_6 kx n (v7_27 + 1) u52))))
def fX0_waysToRing_L6 (v1 : Int32) (v2 : Int32) (v3 : Int32) (kx : Int64 → Int32 → (Nat → Int64) → Option (Int64 × (Nat → Int64))) : Nat → Int64 → Int32 → (Nat → Int64) → Option (Int64 × (Nat → Int64))
  | 0, _, _, _ => none
  | n + 1, v4_6, v6_6, be_6 => (if v1 < v6_6 then kx v4_6 v6_6 be_6 else (if v1 < (v6_6 * v2) then kx v4_6 v6_6 be_6 else Option.bind (fX0_begin be_6) (fun u21 => fX0_waysToRing_L27 v1 v2 v3 v6_6 (fun v7_27 be_27 => Option.bind (fX0_choices v1 v6_6) (fun u66 => Option.bind (fX0_waysOf (v1 - v6_6) be_27) (fun u74 => fX0_waysToRing_L6 v1 v2 v3 kx n (v4_6 + (u66 * u74)) (v6_6 + 1) be_27))) 5000 0 u21)))
def fX0_waysToRing (v1 : Int32) (v2 : Int32) (v3 : Int32) (be : (Nat → Int64)) : Option (Int64 × (Nat → Int64)) := fX0_waysToRing_L6 v1 v2 v3 (fun v4_6 v6_6 be_6 => some (v4_6, be_6)) 5000 0 0 be
def rmX0_waysToRing : Room := { frames := 2, cells := 0, slots := 0, locals := 49 }
set_option maxRecDepth 100000 in
set_option maxHeartbeats 4000000 in
theorem c_X0_waysToRing (l : Launch) (D : va_G) (cI cJ cZ : ClassId) (a a_ways : Nat) (be : (Nat → Int64)) (v1 : Int32) (v2 : Int32) (v3 : Int32) (res : Int64 × (Nat → Int64)) (hf : fX0_waysToRing v1 v2 v3 be = some res) : Ct l yX0_waysToRing (cm_ws yX0_waysToRing cX0_waysToRing 8 (some .long)) rmX0_waysToRing D (cm_T cI cJ cZ) [.ref a, .int v1, .int v2, .int v3] [(a, .inr (0, [.ref a_ways])), cm_kJ cJ a_ways 13 be] (some (.long res.1)) [(a, .inr (0, [.ref a_ways])), cm_kJ cJ a_ways 13 res.2] := by
  refine Ct.of (cc := cX0_waysToRing) (maxL := 8) (ret := (some .long)) (by decide) (Nat.le_of_ble_eq_true rfl) ?_
  intro p e s m below meth c ls args A Q hav hAe hQ hx hb hr hml hown hlocks hts hK hP hD hA hS hl
  have hKa := hK.1
  have hl : lv_has ls 8 [(0, .ref a), (1, .int v1), (2, .int v2), (3, .int v3)] := hl
  unfold fX0_waysToRing at hf
  refine lv_lconst (pc := 0) (v := 0) hx hb dX0_waysToRing_0 (by decide) ?_
  refine lv_lstore (pc := 1) (lv' := [(4, .long 0), (0, .ref a), (1, .int v1), (2, .int v2), (3, .int v3)]) hx hb dX0_waysToRing_1 hl (by decide) rfl (fun ls hl => ?_)
  refine lv_iconst (pc := 3) (v := 0) hx hb dX0_waysToRing_3 (by decide) ?_
  refine lv_istore (pc := 4) (lv' := [(6, .int 0), (4, .long 0), (0, .ref a), (1, .int v1), (2, .int v2), (3, .int v3)]) hx hb dX0_waysToRing_4 hl (by decide) rfl (fun ls hl => ?_)
  have L6 : ∀ (kx : Int64 → Int32 → (Nat → Int64) → Option (Int64 × (Nat → Int64))), (∀ (v4_6 : Int64) (v6_6 : Int32) (be_6 : (Nat → Int64)) (H : Heap) (locs : List Loc) (ls : Array Slot), va_P D vwCl [(a, .inr (0, [.ref a_ways])), cm_kJ cJ a_ways 13 be_6] H → va_D A [(a, .inr (0, [.ref a_ways])), cm_kJ cJ a_ways 13 be_6] → va_S A s.heap H locs → lv_has ls 8 [(4, .long v4_6)] → kx v4_6 v6_6 be_6 = some res → W p l e rmX0_waysToRing s m args below meth c H locs 0 0 Q (F0 m 87 ls [])) → ∀ (n : Nat) (v4_6 : Int64) (v6_6 : Int32) (be_6 : (Nat → Int64)) (H : Heap) (locs : List Loc) (ls : Array Slot), va_P D vwCl [(a, .inr (0, [.ref a_ways])), cm_kJ cJ a_ways 13 be_6] H → va_D A [(a, .inr (0, [.ref a_ways])), cm_kJ cJ a_ways 13 be_6] → va_S A s.heap H locs → lv_has ls 8 [(6, .int v6_6), (4, .long v4_6), (0, .ref a), (1, .int v1), (2, .int v2), (3, .int v3)] → fX0_waysToRing_L6 v1 v2 v3 kx n v4_6 v6_6 be_6 = some res → W p l e rmX0_waysToRing s m args below meth c H locs 0 0 Q (F0 m 6 ls []) := by
    intro kx hkx n
    induction n with
    | zero => intro v4_6 v6_6 be_6 H locs ls hP hD hS hl hf; cases hf
    | succ n ih =>
      intro v4_6 v6_6 be_6 H locs ls hP hD hS hl hf
      rw [fX0_waysToRing_L6] at hf
      refine lv_iload (pc := 6) hx hb dX0_waysToRing_6 (lv_at hl 0 rfl) ?_
      refine lv_iload_n (pc := 8) hx hb dX0_waysToRing_8 rfl (lv_at hl 3 rfl) ?_
      refine lv_icmp_gt (pc := 9) (tgt := 87) hx hb dX0_waysToRing_9 (by decide) (fun c_9 => ?_) (fun c_9 => ?_)
      · have hf := cm_ip c_9 hf
        exact hkx v4_6 v6_6 be_6 _ _ _ hP hD hS (lv_sub hl [1] rfl) hf
      · have hf := cm_in c_9 hf
        refine lv_iload (pc := 12) hx hb dX0_waysToRing_12 (lv_at hl 0 rfl) ?_
        refine lv_iload_n (pc := 14) hx hb dX0_waysToRing_14 rfl (lv_at hl 4 rfl) ?_
        refine lv_imul (pc := 15) hx hb dX0_waysToRing_15 ?_
        refine lv_iload_n (pc := 16) hx hb dX0_waysToRing_16 rfl (lv_at hl 3 rfl) ?_
        refine lv_icmp_gt (pc := 17) (tgt := 87) hx hb dX0_waysToRing_17 (by decide) (fun c_17 => ?_) (fun c_17 => ?_)
        · have hf := cm_ip c_17 hf
          exact hkx v4_6 v6_6 be_6 _ _ _ hP hD hS (lv_sub hl [1] rfl) hf
        · have hf := cm_in c_17 hf
          refine lv_aload_n (pc := 20) hx hb dX0_waysToRing_20 rfl (lv_at hl 2 rfl) ?_
          obtain ⟨u21, hu21, hf⟩ := cm_bd hf
          refine cm_callV (pc := 21) (As := []) (rest := []) (wr := []) (ci := 0) (q0 := 0) (n := 0) hx hb hml hown hts hK hP hD hS hA (c_X0_begin l D cI cJ cZ a a_ways be_6 u21 hu21) tw_635 tw_632 tw_634 tw_22 tw_55 rfl rfl (by decide +kernel) rfl ⟨Nat.le_of_ble_eq_true rfl, Nat.le_of_ble_eq_true rfl⟩ [0, 1] [] rfl (by decide) rfl (by decide) (by decide) rfl rfl rfl hl.1 rfl (Nat.le_of_ble_eq_true rfl) dX0_waysToRing_21 ⟨Nat.zero_le _, Nat.zero_le _⟩ (fun H locs hP hD hS => ?_)
          have hP : va_P D vwCl [(a, .inr (0, [.ref a_ways])), cm_kJ cJ a_ways 13 u21] H := hP
          have hD : va_D A [(a, .inr (0, [.ref a_ways])), cm_kJ cJ a_ways 13 u21] := hD
          refine W.eq (g2 := F0 m 24 ls []) rfl ?_
          refine lv_iconst (pc := 24) (v := 0) hx hb dX0_waysToRing_24 (by decide) ?_
          refine lv_istore (pc := 25) (lv' := [(7, .int 0), (6, .int v6_6), (4, .long v4_6), (0, .ref a), (1, .int v1), (2, .int v2), (3, .int v3)]) hx hb dX0_waysToRing_25 hl (by decide) rfl (fun ls hl => ?_)
          have L27 : ∀ (kx : Int32 → (Nat → Int64) → Option (Int64 × (Nat → Int64))), (∀ (v7_27 : Int32) (be_27 : (Nat → Int64)) (H : Heap) (locs : List Loc) (ls : Array Slot), va_P D vwCl [(a, .inr (0, [.ref a_ways])), cm_kJ cJ a_ways 13 be_27] H → va_D A [(a, .inr (0, [.ref a_ways])), cm_kJ cJ a_ways 13 be_27] → va_S A s.heap H locs → lv_has ls 8 [(6, .int v6_6), (4, .long v4_6), (0, .ref a), (1, .int v1), (2, .int v2), (3, .int v3)] → kx v7_27 be_27 = some res → W p l e rmX0_waysToRing s m args below meth c H locs 0 0 Q (F0 m 61 ls [])) → ∀ (n : Nat) (v7_27 : Int32) (be_27 : (Nat → Int64)) (H : Heap) (locs : List Loc) (ls : Array Slot), va_P D vwCl [(a, .inr (0, [.ref a_ways])), cm_kJ cJ a_ways 13 be_27] H → va_D A [(a, .inr (0, [.ref a_ways])), cm_kJ cJ a_ways 13 be_27] → va_S A s.heap H locs → lv_has ls 8 [(7, .int v7_27), (6, .int v6_6), (4, .long v4_6), (0, .ref a), (1, .int v1), (2, .int v2), (3, .int v3)] → fX0_waysToRing_L27 v1 v2 v3 v6_6 kx n v7_27 be_27 = some res → W p l e rmX0_waysToRing s m args below meth c H locs 0 0 Q (F0 m 27 ls []) := by
            intro kx hkx n
            induction n with
            | zero => intro v7_27 be_27 H locs ls hP hD hS hl hf; cases hf
            | succ n ih =>
              intro v7_27 be_27 H locs ls hP hD hS hl hf
              rw [fX0_waysToRing_L27] at hf
              refine lv_iload (pc := 27) hx hb dX0_waysToRing_27 (lv_at hl 0 rfl) ?_
              refine lv_iload_n (pc := 29) hx hb dX0_waysToRing_29 rfl (lv_at hl 5 rfl) ?_
              refine lv_icmp_ge (pc := 30) (tgt := 61) hx hb dX0_waysToRing_30 (by decide) (fun c_30 => ?_) (fun c_30 => ?_)
              · have hf := cm_ip c_30 hf
                exact hkx v7_27 be_27 _ _ _ hP hD hS (lv_sub hl [1, 2, 3, 4, 5, 6] rfl) hf
              · have hf := cm_in c_30 hf
                refine lv_iload (pc := 33) hx hb dX0_waysToRing_33 (lv_at hl 0 rfl) ?_
                refine lv_iload_n (pc := 35) hx hb dX0_waysToRing_35 rfl (lv_at hl 6 rfl) ?_
                refine lv_icmp_eq (pc := 36) (tgt := 55) hx hb dX0_waysToRing_36 (by decide) (fun c_36 => ?_) (fun c_36 => ?_)
                · have hf := cm_ip c_36 hf
                  refine lv_iinc (pc := 55) (v := (v7_27 + 1)) (lv' := [(7, .int (v7_27 + 1)), (6, .int v6_6), (4, .long v4_6), (0, .ref a), (1, .int v1), (2, .int v2), (3, .int v3)]) hx hb dX0_waysToRing_55 hl (k := 0) rfl rfl (by decide) rfl (fun ls hl => ?_)
                  refine lv_goto (pc := 58) (tgt := 27) hx hb dX0_waysToRing_58 (by decide) ?_
                  exact ih (v7_27 + 1) be_27 _ _ _ hP hD hS (lv_sub hl [0, 1, 2, 3, 4, 5, 6] rfl) hf
                · have hf := cm_in c_36 hf
                  refine lv_aload_n (pc := 39) hx hb dX0_waysToRing_39 rfl (lv_at hl 3 rfl) ?_
                  refine lv_iload_n (pc := 40) hx hb dX0_waysToRing_40 rfl (lv_at hl 4 rfl) ?_
                  refine lv_iload (pc := 41) hx hb dX0_waysToRing_41 (lv_at hl 1 rfl) ?_
                  refine lv_isub (pc := 43) hx hb dX0_waysToRing_43 ?_
                  refine lv_iload (pc := 44) hx hb dX0_waysToRing_44 (lv_at hl 0 rfl) ?_
                  refine lv_iload_n (pc := 46) hx hb dX0_waysToRing_46 rfl (lv_at hl 6 rfl) ?_
                  refine lv_iload (pc := 47) hx hb dX0_waysToRing_47 (lv_at hl 1 rfl) ?_
                  obtain ⟨u49, hu49, hf⟩ := cm_lt hf
                  refine cm_callN (pc := 49) (As := [.int v7_27, .int v3, .int v6_6]) (rest := [.int (v1 - v6_6), .ref a]) (wr := [(a, .inr (0, [.ref a_ways])), cm_kJ cJ a_ways 13 be_27]) (host := RX10) (n := 3) hx hb hml hown hts hK hP hD hS hA (c_X10_leastBeside l D cI cJ cZ v7_27 v3 v6_6 u49 hu49) tw_500 (hK.2 (RX0, 18, yX10_leastBeside, RX10) (List.mem_of_getElem? (i := 8) rfl)) tw_499 tw_45 rfl rfl (by decide +kernel) rfl ⟨Nat.le_of_ble_eq_true rfl, Nat.le_of_ble_eq_true rfl⟩ [] [0, 1] rfl (by decide) rfl (by decide) (by decide) hl.1 rfl (Nat.le_of_ble_eq_true rfl) dX0_waysToRing_49 ⟨Nat.zero_le _, Nat.zero_le _⟩ (fun H locs hP hD hS => ?_)
                  have hP : va_P D vwCl [(a, .inr (0, [.ref a_ways])), cm_kJ cJ a_ways 13 be_27] H := hP
                  have hD : va_D A [(a, .inr (0, [.ref a_ways])), cm_kJ cJ a_ways 13 be_27] := hD
                  refine W.eq (g2 := F0 m 52 ls [.int u49, .int (v1 - v6_6), .ref a]) rfl ?_
                  obtain ⟨u52, hu52, hf⟩ := cm_bd hf
                  refine cm_callV (pc := 52) (As := [.int (v1 - v6_6), .int u49]) (rest := []) (wr := []) (ci := 0) (q0 := 0) (n := 2) hx hb hml hown hts hK hP hD hS hA (c_X0_addDay l D cI cJ cZ a a_ways be_27 (v1 - v6_6) u49 u52 hu52) tw_640 tw_637 tw_639 tw_23 tw_55 rfl rfl (by decide +kernel) rfl ⟨Nat.le_of_ble_eq_true rfl, Nat.le_of_ble_eq_true rfl⟩ [0, 1] [] rfl (by decide) rfl (by decide) (by decide) rfl rfl rfl hl.1 rfl (Nat.le_of_ble_eq_true rfl) dX0_waysToRing_52 ⟨Nat.zero_le _, Nat.zero_le _⟩ (fun H locs hP hD hS => ?_)
                  have hP : va_P D vwCl [(a, .inr (0, [.ref a_ways])), cm_kJ cJ a_ways 13 u52] H := hP
                  have hD : va_D A [(a, .inr (0, [.ref a_ways])), cm_kJ cJ a_ways 13 u52] := hD
                  refine W.eq (g2 := F0 m 55 ls []) rfl ?_
                  refine lv_iinc (pc := 55) (v := (v7_27 + 1)) (lv' := [(7, .int (v7_27 + 1)), (6, .int v6_6), (4, .long v4_6), (0, .ref a), (1, .int v1), (2, .int v2), (3, .int v3)]) hx hb dX0_waysToRing_55 hl (k := 0) rfl rfl (by decide) rfl (fun ls hl => ?_)
                  refine lv_goto (pc := 58) (tgt := 27) hx hb dX0_waysToRing_58 (by decide) ?_
                  exact ih (v7_27 + 1) u52 _ _ _ hP hD hS (lv_sub hl [0, 1, 2, 3, 4, 5, 6] rfl) hf
          refine L27 _ (fun v7_27 be_27 H locs ls hP hD hS hl hf => ?_) 5000 0 u21 _ _ _ hP hD hS (lv_sub hl [0, 1, 2, 3, 4, 5, 6] rfl) hf
          refine lv_lload (pc := 61) hx hb dX0_waysToRing_61 (lv_at hl 1 rfl) ?_
          refine lv_iload_n (pc := 63) hx hb dX0_waysToRing_63 rfl (lv_at hl 3 rfl) ?_
          refine lv_iload (pc := 64) hx hb dX0_waysToRing_64 (lv_at hl 0 rfl) ?_
          obtain ⟨u66, hu66, hf⟩ := cm_bd hf
          refine cm_callS (pc := 66) (As := [.int v1, .int v6_6]) (rest := [.long v4_6]) (wr := [(a, .inr (0, [.ref a_ways])), cm_kJ cJ a_ways 13 be_27]) (n := 2) hx hb hml hown hts hK hP hD hS hA (c_X0_choices l D cI cJ cZ v1 v6_6 u66 hu66) tw_644 tw_642 tw_643 tw_55 rfl rfl (by decide +kernel) rfl ⟨Nat.le_of_ble_eq_true rfl, Nat.le_of_ble_eq_true rfl⟩ [] [0, 1] rfl (by decide) rfl (by decide) (by decide) hl.1 rfl (Nat.le_of_ble_eq_true rfl) dX0_waysToRing_66 ⟨Nat.zero_le _, Nat.zero_le _⟩ (fun H locs hP hD hS => ?_)
          have hP : va_P D vwCl [(a, .inr (0, [.ref a_ways])), cm_kJ cJ a_ways 13 be_27] H := hP
          have hD : va_D A [(a, .inr (0, [.ref a_ways])), cm_kJ cJ a_ways 13 be_27] := hD
          refine W.eq (g2 := F0 m 69 ls [.long u66, .long v4_6]) rfl ?_
          refine lv_aload_n (pc := 69) hx hb dX0_waysToRing_69 rfl (lv_at hl 2 rfl) ?_
          refine lv_iload_n (pc := 70) hx hb dX0_waysToRing_70 rfl (lv_at hl 3 rfl) ?_
          refine lv_iload (pc := 71) hx hb dX0_waysToRing_71 (lv_at hl 0 rfl) ?_
          refine lv_isub (pc := 73) hx hb dX0_waysToRing_73 ?_
          obtain ⟨u74, hu74, hf⟩ := cm_bd hf
          refine cm_callV (pc := 74) (As := [.int (v1 - v6_6)]) (rest := [.long u66, .long v4_6]) (wr := []) (ci := 0) (q0 := 0) (n := 1) hx hb hml hown hts hK hP hD hS hA (c_X0_waysOf l D cI cJ cZ a a_ways be_27 (v1 - v6_6) u74 hu74) tw_648 tw_645 tw_647 tw_24 tw_55 rfl rfl (by decide +kernel) rfl ⟨Nat.le_of_ble_eq_true rfl, Nat.le_of_ble_eq_true rfl⟩ [0, 1] [] rfl (by decide) rfl (by decide) (by decide) rfl rfl rfl hl.1 rfl (Nat.le_of_ble_eq_true rfl) dX0_waysToRing_74 ⟨Nat.zero_le _, Nat.zero_le _⟩ (fun H locs hP hD hS => ?_)
          have hP : va_P D vwCl [(a, .inr (0, [.ref a_ways])), cm_kJ cJ a_ways 13 be_27] H := hP
          have hD : va_D A [(a, .inr (0, [.ref a_ways])), cm_kJ cJ a_ways 13 be_27] := hD
          refine W.eq (g2 := F0 m 77 ls [.long u74, .long u66, .long v4_6]) rfl ?_
          refine lv_lmul (pc := 77) hx hb dX0_waysToRing_77 ?_
          refine lv_ladd (pc := 78) hx hb dX0_waysToRing_78 ?_
          refine lv_lstore (pc := 79) (lv' := [(4, .long (v4_6 + (u66 * u74))), (6, .int v6_6), (0, .ref a), (1, .int v1), (2, .int v2), (3, .int v3)]) hx hb dX0_waysToRing_79 hl (by decide) rfl (fun ls hl => ?_)
          refine lv_iinc (pc := 81) (v := (v6_6 + 1)) (lv' := [(6, .int (v6_6 + 1)), (4, .long (v4_6 + (u66 * u74))), (0, .ref a), (1, .int v1), (2, .int v2), (3, .int v3)]) hx hb dX0_waysToRing_81 hl (k := 1) rfl rfl (by decide) rfl (fun ls hl => ?_)
          refine lv_goto (pc := 84) (tgt := 6) hx hb dX0_waysToRing_84 (by decide) ?_
          exact ih (v4_6 + (u66 * u74)) (v6_6 + 1) be_27 _ _ _ hP hD hS (lv_sub hl [0, 1, 2, 3, 4, 5] rfl) hf
  refine L6 _ (fun v4_6 v6_6 be_6 H locs ls hP hD hS hl hf => ?_) 5000 0 0 be _ _ _ hP hD hS (lv_sub hl [0, 1, 2, 3, 4, 5] rfl) hf
  refine lv_lload (pc := 87) hx hb dX0_waysToRing_87 (lv_at hl 0 rfl) ?_
  obtain rfl := Option.some.inj hf
  exact cm_lret (pc := 89) hAe hQ hx hb hr hlocks hP hD hS [0, 1] (by decide) rfl dX0_waysToRing_89
def fX10_power_L5 (v0 : Int32) (v1 : Int32) (kx : Int64 → Int32 → Option (Int64)) : Nat → Int64 → Int32 → Option (Int64)
  | 0, _, _ => none
  | n + 1, v2_5, v4_5 => (if v1 ≤ v4_5 then kx v2_5 v4_5 else fX10_power_L5 v0 v1 kx n (v2_5 * ((v0).toInt64)) (v4_5 + 1))
def fX10_power (v0 : Int32) (v1 : Int32) : Option (Int64) := fX10_power_L5 v0 v1 (fun v2_5 v4_5 => some v2_5) 5000 1 0
def rmX10_power : Room := { frames := 0, cells := 0, slots := 0, locals := 0 }
set_option maxRecDepth 100000 in
set_option maxHeartbeats 4000000 in
theorem c_X10_power (l : Launch) (D : va_G) (cI cJ cZ : ClassId) (v0 : Int32) (v1 : Int32) (res : Int64) (hf : fX10_power v0 v1 = some res) : Ct l yX10_power (cm_ws yX10_power cX10_power 5 (some .long)) rmX10_power D (cm_T cI cJ cZ) [.int v0, .int v1] [] (some (.long res)) [] := by
  refine Ct.of (cc := cX10_power) (maxL := 5) (ret := (some .long)) (by decide) (Nat.le_of_ble_eq_true rfl) ?_
  intro p e s m below meth c ls args A Q hav hAe hQ hx hb hr hml hown hlocks hts hK hP hD hA hS hl
  have hKa := hK.1
  have hl : lv_has ls 5 [(0, .int v0), (1, .int v1)] := hl
  unfold fX10_power at hf
  refine lv_lconst (pc := 0) (v := 1) hx hb dX10_power_0 (by decide) ?_
  refine lv_lstore_n (pc := 1) (lv' := [(2, .long 1), (0, .int v0), (1, .int v1)]) hx hb dX10_power_1 rfl hl (by decide) rfl (fun ls hl => ?_)
  refine lv_iconst (pc := 2) (v := 0) hx hb dX10_power_2 (by decide) ?_
  refine lv_istore (pc := 3) (lv' := [(4, .int 0), (2, .long 1), (0, .int v0), (1, .int v1)]) hx hb dX10_power_3 hl (by decide) rfl (fun ls hl => ?_)
  have L5 : ∀ (kx : Int64 → Int32 → Option (Int64)), (∀ (v2_5 : Int64) (v4_5 : Int32) (H : Heap) (locs : List Loc) (ls : Array Slot), va_P D vwCl [] H → va_D A [] → va_S A s.heap H locs → lv_has ls 5 [(2, .long v2_5)] → kx v2_5 v4_5 = some res → W p l e rmX10_power s m args below meth c H locs 0 0 Q (F0 m 22 ls [])) → ∀ (n : Nat) (v2_5 : Int64) (v4_5 : Int32) (H : Heap) (locs : List Loc) (ls : Array Slot), va_P D vwCl [] H → va_D A [] → va_S A s.heap H locs → lv_has ls 5 [(4, .int v4_5), (2, .long v2_5), (0, .int v0), (1, .int v1)] → fX10_power_L5 v0 v1 kx n v2_5 v4_5 = some res → W p l e rmX10_power s m args below meth c H locs 0 0 Q (F0 m 5 ls []) := by
    intro kx hkx n
    induction n with
    | zero => intro v2_5 v4_5 H locs ls hP hD hS hl hf; cases hf
    | succ n ih =>
      intro v2_5 v4_5 H locs ls hP hD hS hl hf
      rw [fX10_power_L5] at hf
      refine lv_iload (pc := 5) hx hb dX10_power_5 (lv_at hl 0 rfl) ?_
      refine lv_iload_n (pc := 7) hx hb dX10_power_7 rfl (lv_at hl 3 rfl) ?_
      refine lv_icmp_ge (pc := 8) (tgt := 22) hx hb dX10_power_8 (by decide) (fun c_8 => ?_) (fun c_8 => ?_)
      · have hf := cm_ip c_8 hf
        exact hkx v2_5 v4_5 _ _ _ hP hD hS (lv_sub hl [1] rfl) hf
      · have hf := cm_in c_8 hf
        refine lv_lload_n (pc := 11) hx hb dX10_power_11 rfl (lv_at hl 1 rfl) ?_
        refine lv_iload_n (pc := 12) hx hb dX10_power_12 rfl (lv_at hl 2 rfl) ?_
        refine lv_i2l (pc := 13) (v := (v0).toInt64) hx hb dX10_power_13 rfl ?_
        refine lv_lmul (pc := 14) hx hb dX10_power_14 ?_
        refine lv_lstore_n (pc := 15) (lv' := [(2, .long (v2_5 * ((v0).toInt64))), (4, .int v4_5), (0, .int v0), (1, .int v1)]) hx hb dX10_power_15 rfl hl (by decide) rfl (fun ls hl => ?_)
        refine lv_iinc (pc := 16) (v := (v4_5 + 1)) (lv' := [(4, .int (v4_5 + 1)), (2, .long (v2_5 * ((v0).toInt64))), (0, .int v0), (1, .int v1)]) hx hb dX10_power_16 hl (k := 1) rfl rfl (by decide) rfl (fun ls hl => ?_)
        refine lv_goto (pc := 19) (tgt := 5) hx hb dX10_power_19 (by decide) ?_
        exact ih (v2_5 * ((v0).toInt64)) (v4_5 + 1) _ _ _ hP hD hS (lv_sub hl [0, 1, 2, 3] rfl) hf
  refine L5 _ (fun v2_5 v4_5 H locs ls hP hD hS hl hf => ?_) 5000 1 0 _ _ _ hP hD hS (lv_sub hl [0, 1, 2, 3] rfl) hf
  refine lv_lload_n (pc := 22) hx hb dX10_power_22 rfl (lv_at hl 0 rfl) ?_
  obtain rfl := Option.some.inj hf
  exact cm_lret (pc := 23) hAe hQ hx hb hr hlocks hP hD hS [] (by decide) rfl dX10_power_23
def fX10_commonDivisor_L9 (kx : Int64 → Int64 → Int32 → Option (Int64)) : Nat → Int64 → Int64 → Int32 → Option (Int64)
  | 0, _, _, _ => none
  | n + 1, v4_9, v6_9, v8_9 => (if 1000 ≤ v8_9 then kx v4_9 v6_9 v8_9 else (if (lg_cmp v6_9 0) = 0 then kx v4_9 v6_9 v8_9 else if v6_9 = 0 then none else fX10_commonDivisor_L9 kx n v6_9 (lrm v4_9 v6_9) (v8_9 + 1)))
def fX10_commonDivisor (v0 : Int64) (v2 : Int64) : Option (Int64) := fX10_commonDivisor_L9 (fun v4_9 v6_9 v8_9 => some v4_9) 5000 v0 v2 0
def rmX10_commonDivisor : Room := { frames := 0, cells := 0, slots := 0, locals := 0 }
set_option maxRecDepth 100000 in
set_option maxHeartbeats 4000000 in
theorem c_X10_commonDivisor (l : Launch) (D : va_G) (cI cJ cZ : ClassId) (v0 : Int64) (v2 : Int64) (res : Int64) (hf : fX10_commonDivisor v0 v2 = some res) : Ct l yX10_commonDivisor (cm_ws yX10_commonDivisor cX10_commonDivisor 11 (some .long)) rmX10_commonDivisor D (cm_T cI cJ cZ) [.long v0, .long v2] [] (some (.long res)) [] := by
  refine Ct.of (cc := cX10_commonDivisor) (maxL := 11) (ret := (some .long)) (by decide) (Nat.le_of_ble_eq_true rfl) ?_
  intro p e s m below meth c ls args A Q hav hAe hQ hx hb hr hml hown hlocks hts hK hP hD hA hS hl
  have hKa := hK.1
  have hl : lv_has ls 11 [(0, .long v0), (2, .long v2)] := hl
  unfold fX10_commonDivisor at hf
  refine lv_lload_n (pc := 0) hx hb dX10_commonDivisor_0 rfl (lv_at hl 0 rfl) ?_
  refine lv_lstore (pc := 1) (lv' := [(4, .long v0), (0, .long v0), (2, .long v2)]) hx hb dX10_commonDivisor_1 hl (by decide) rfl (fun ls hl => ?_)
  refine lv_lload_n (pc := 3) hx hb dX10_commonDivisor_3 rfl (lv_at hl 2 rfl) ?_
  refine lv_lstore (pc := 4) (lv' := [(6, .long v2), (4, .long v0), (0, .long v0), (2, .long v2)]) hx hb dX10_commonDivisor_4 hl (by decide) rfl (fun ls hl => ?_)
  refine lv_iconst (pc := 6) (v := 0) hx hb dX10_commonDivisor_6 (by decide) ?_
  refine lv_istore (pc := 7) (lv' := [(8, .int 0), (6, .long v2), (4, .long v0), (0, .long v0), (2, .long v2)]) hx hb dX10_commonDivisor_7 hl (by decide) rfl (fun ls hl => ?_)
  have L9 : ∀ (kx : Int64 → Int64 → Int32 → Option (Int64)), (∀ (v4_9 : Int64) (v6_9 : Int64) (v8_9 : Int32) (H : Heap) (locs : List Loc) (ls : Array Slot), va_P D vwCl [] H → va_D A [] → va_S A s.heap H locs → lv_has ls 11 [(4, .long v4_9)] → kx v4_9 v6_9 v8_9 = some res → W p l e rmX10_commonDivisor s m args below meth c H locs 0 0 Q (F0 m 45 ls [])) → ∀ (n : Nat) (v4_9 : Int64) (v6_9 : Int64) (v8_9 : Int32) (H : Heap) (locs : List Loc) (ls : Array Slot), va_P D vwCl [] H → va_D A [] → va_S A s.heap H locs → lv_has ls 11 [(8, .int v8_9), (6, .long v6_9), (4, .long v4_9)] → fX10_commonDivisor_L9 kx n v4_9 v6_9 v8_9 = some res → W p l e rmX10_commonDivisor s m args below meth c H locs 0 0 Q (F0 m 9 ls []) := by
    intro kx hkx n
    induction n with
    | zero => intro v4_9 v6_9 v8_9 H locs ls hP hD hS hl hf; cases hf
    | succ n ih =>
      intro v4_9 v6_9 v8_9 H locs ls hP hD hS hl hf
      rw [fX10_commonDivisor_L9] at hf
      refine lv_iload (pc := 9) hx hb dX10_commonDivisor_9 (lv_at hl 0 rfl) ?_
      refine lv_sipush (pc := 11) (v := 1000) hx hb dX10_commonDivisor_11 (by decide) ?_
      refine lv_icmp_ge (pc := 14) (tgt := 45) hx hb dX10_commonDivisor_14 (by decide) (fun c_14 => ?_) (fun c_14 => ?_)
      · have hf := cm_ip c_14 hf
        exact hkx v4_9 v6_9 v8_9 _ _ _ hP hD hS (lv_sub hl [2] rfl) hf
      · have hf := cm_in c_14 hf
        refine lv_lload (pc := 17) hx hb dX10_commonDivisor_17 (lv_at hl 1 rfl) ?_
        refine lv_lconst (pc := 19) (v := 0) hx hb dX10_commonDivisor_19 (by decide) ?_
        refine W.lcmp (pc := 20) hx hb dX10_commonDivisor_20 ?_
        refine lv_if_eq (pc := 21) (tgt := 45) hx hb dX10_commonDivisor_21 (by decide) (fun c_21 => ?_) (fun c_21 => ?_)
        · have hf := cm_ip c_21 hf
          exact hkx v4_9 v6_9 v8_9 _ _ _ hP hD hS (lv_sub hl [2] rfl) hf
        · have hf := cm_in c_21 hf
          refine lv_lload (pc := 24) hx hb dX10_commonDivisor_24 (lv_at hl 2 rfl) ?_
          refine lv_lload (pc := 26) hx hb dX10_commonDivisor_26 (lv_at hl 1 rfl) ?_
          obtain ⟨z_28, hf⟩ := cm_ob hf
          refine cm_lrem (pc := 28) hx hb dX10_commonDivisor_28 z_28 ?_
          refine lv_lstore (pc := 29) (lv' := [(9, .long (lrm v4_9 v6_9)), (8, .int v8_9), (6, .long v6_9), (4, .long v4_9)]) hx hb dX10_commonDivisor_29 hl (by decide) rfl (fun ls hl => ?_)
          refine lv_lload (pc := 31) hx hb dX10_commonDivisor_31 (lv_at hl 2 rfl) ?_
          refine lv_lstore (pc := 33) (lv' := [(4, .long v6_9), (9, .long (lrm v4_9 v6_9)), (8, .int v8_9), (6, .long v6_9)]) hx hb dX10_commonDivisor_33 hl (by decide) rfl (fun ls hl => ?_)
          refine lv_lload (pc := 35) hx hb dX10_commonDivisor_35 (lv_at hl 1 rfl) ?_
          refine lv_lstore (pc := 37) (lv' := [(6, .long (lrm v4_9 v6_9)), (4, .long v6_9), (9, .long (lrm v4_9 v6_9)), (8, .int v8_9)]) hx hb dX10_commonDivisor_37 hl (by decide) rfl (fun ls hl => ?_)
          refine lv_iinc (pc := 39) (v := (v8_9 + 1)) (lv' := [(8, .int (v8_9 + 1)), (6, .long (lrm v4_9 v6_9)), (4, .long v6_9), (9, .long (lrm v4_9 v6_9))]) hx hb dX10_commonDivisor_39 hl (k := 3) rfl rfl (by decide) rfl (fun ls hl => ?_)
          refine lv_goto (pc := 42) (tgt := 9) hx hb dX10_commonDivisor_42 (by decide) ?_
          exact ih v6_9 (lrm v4_9 v6_9) (v8_9 + 1) _ _ _ hP hD hS (lv_sub hl [0, 1, 2] rfl) hf
  refine L9 _ (fun v4_9 v6_9 v8_9 H locs ls hP hD hS hl hf => ?_) 5000 v0 v2 0 _ _ _ hP hD hS (lv_sub hl [0, 1, 2] rfl) hf
  refine lv_lload (pc := 45) hx hb dX10_commonDivisor_45 (lv_at hl 0 rfl) ?_
  obtain rfl := Option.some.inj hf
  exact cm_lret (pc := 47) hAe hQ hx hb hr hlocks hP hD hS [] (by decide) rfl dX10_commonDivisor_47
def fX10_inLowestTerms (v0 : Int64) (v2 : Int64) (v4 : Int32) : Option (Int64) := Option.bind (fX10_commonDivisor v0 v2) (fun u2 => cm_let ((if v4 = 0 then v0 else v2) : Int64) (fun j9 => (if (lg_cmp u2 1) ≤ 0 then some j9 else if u2 = 0 then none else some (j9 / u2))))
def rmX10_inLowestTerms : Room := { frames := 1, cells := 0, slots := 0, locals := 30 }
set_option maxRecDepth 100000 in
set_option maxHeartbeats 4000000 in
theorem c_X10_inLowestTerms (l : Launch) (D : va_G) (cI cJ cZ : ClassId) (v0 : Int64) (v2 : Int64) (v4 : Int32) (res : Int64) (hf : fX10_inLowestTerms v0 v2 v4 = some res) : Ct l yX10_inLowestTerms (cm_ws yX10_inLowestTerms cX10_inLowestTerms 9 (some .long)) rmX10_inLowestTerms D (cm_T cI cJ cZ) [.long v0, .long v2, .int v4] [] (some (.long res)) [] := by
  refine Ct.of (cc := cX10_inLowestTerms) (maxL := 9) (ret := (some .long)) (by decide) (Nat.le_of_ble_eq_true rfl) ?_
  intro p e s m below meth c ls args A Q hav hAe hQ hx hb hr hml hown hlocks hts hK hP hD hA hS hl
  have hKa := hK.1
  have hl : lv_has ls 9 [(0, .long v0), (2, .long v2), (4, .int v4)] := hl
  unfold fX10_inLowestTerms at hf
  refine lv_lload_n (pc := 0) hx hb dX10_inLowestTerms_0 rfl (lv_at hl 0 rfl) ?_
  refine lv_lload_n (pc := 1) hx hb dX10_inLowestTerms_1 rfl (lv_at hl 1 rfl) ?_
  obtain ⟨u2, hu2, hf⟩ := cm_bd hf
  refine cm_callS (pc := 2) (As := [.long v0, .long v2]) (rest := []) (wr := []) (n := 2) hx hb hml hown hts hK hP hD hS hA (c_X10_commonDivisor l D cI cJ cZ v0 v2 u2 hu2) tw_658 tw_656 tw_657 tw_45 rfl rfl (by decide +kernel) rfl ⟨Nat.le_of_ble_eq_true rfl, Nat.le_of_ble_eq_true rfl⟩ [] [] rfl (by decide) rfl (by decide) (by decide) hl.1 rfl (Nat.le_of_ble_eq_true rfl) dX10_inLowestTerms_2 ⟨Nat.zero_le _, Nat.zero_le _⟩ (fun H locs hP hD hS => ?_)
  have hP : va_P D vwCl [] H := hP
  have hD : va_D A [] := hD
  refine W.eq (g2 := F0 m 5 ls [.long u2]) rfl ?_
  refine lv_lstore (pc := 5) (lv' := [(5, .long u2), (0, .long v0), (2, .long v2), (4, .int v4)]) hx hb dX10_inLowestTerms_5 hl (by decide) rfl (fun ls hl => ?_)
  refine lv_iload (pc := 7) hx hb dX10_inLowestTerms_7 (lv_at hl 3 rfl) ?_
  obtain ⟨j9, hj9, hf⟩ := cm_lt hf
  have J9 : ∀ (H : Heap) (locs : List Loc) (ls : Array Slot), va_P D vwCl [] H → va_D A [] → va_S A s.heap H locs → lv_has ls 9 [(5, .long u2)] → W p l e rmX10_inLowestTerms s m args below meth c H locs 0 0 Q (F0 m 17 ls [.long j9]) := by
    intro H locs ls hP hD hS hl
    refine lv_lstore (pc := 17) (lv' := [(7, .long j9), (5, .long u2)]) hx hb dX10_inLowestTerms_17 hl (by decide) rfl (fun ls hl => ?_)
    refine lv_lload (pc := 19) hx hb dX10_inLowestTerms_19 (lv_at hl 1 rfl) ?_
    refine lv_lconst (pc := 21) (v := 1) hx hb dX10_inLowestTerms_21 (by decide) ?_
    refine W.lcmp (pc := 22) hx hb dX10_inLowestTerms_22 ?_
    refine lv_if_le (pc := 23) (tgt := 34) hx hb dX10_inLowestTerms_23 (by decide) (fun c_23 => ?_) (fun c_23 => ?_)
    · have hf := cm_ip c_23 hf
      refine lv_lload (pc := 34) hx hb dX10_inLowestTerms_34 (lv_at hl 0 rfl) ?_
      obtain rfl := Option.some.inj hf
      exact cm_lret (pc := 36) hAe hQ hx hb hr hlocks hP hD hS [] (by decide) rfl dX10_inLowestTerms_36
    · have hf := cm_in c_23 hf
      refine lv_lload (pc := 26) hx hb dX10_inLowestTerms_26 (lv_at hl 0 rfl) ?_
      refine lv_lload (pc := 28) hx hb dX10_inLowestTerms_28 (lv_at hl 1 rfl) ?_
      obtain ⟨z_30, hf⟩ := cm_ob hf
      refine lv_ldiv (pc := 30) hx hb dX10_inLowestTerms_30 z_30 ?_
      refine lv_goto (pc := 31) (tgt := 36) hx hb dX10_inLowestTerms_31 (by decide) ?_
      obtain rfl := Option.some.inj hf
      exact cm_lret (pc := 36) hAe hQ hx hb hr hlocks hP hD hS [] (by decide) rfl dX10_inLowestTerms_36
  clear hf
  have hf := hj9
  refine lv_if_ne (pc := 9) (tgt := 16) hx hb dX10_inLowestTerms_9 (by decide) (fun c_9 => ?_) (fun c_9 => ?_)
  · have hf := cm_in c_9 hf
    refine lv_lload_n (pc := 16) hx hb dX10_inLowestTerms_16 rfl (lv_at hl 2 rfl) ?_
    obtain rfl := hf
    exact J9 _ _ _ hP hD hS (lv_sub hl [0] rfl)
  · have hf := cm_ip c_9 hf
    refine lv_lload_n (pc := 12) hx hb dX10_inLowestTerms_12 rfl (lv_at hl 1 rfl) ?_
    refine lv_goto (pc := 13) (tgt := 17) hx hb dX10_inLowestTerms_13 (by decide) ?_
    obtain rfl := hf
    exact J9 _ _ _ hP hD hS (lv_sub hl [0] rfl)
def fX10_rung (v1 : Int32) (v2 : Int32) (v3 : Int32) (v4 : Int32) (v5 : Int32) (bells_be : (Nat → Int64)) : Option (Int64 × (Nat → Int64)) := cm_let (fX10_isWithin v1 0 12) (fun u4 => (if u4 = 0 then some ((-1000000000000000002), bells_be) else cm_let (fX10_isWithin v2 1 7) (fun u14 => (if u14 = 0 then some ((-1000000000000000002), bells_be) else cm_let (fX10_isWithin v3 0 (v2 - 1)) (fun u25 => (if u25 = 0 then some ((-1000000000000000002), bells_be) else cm_let (fX10_isWithin v4 0 1) (fun u39 => (if u39 = 0 then some ((-1000000000000000002), bells_be) else cm_let (fX10_isWithin v5 0 1) (fun u49 => (if u49 = 0 then some ((-1000000000000000002), bells_be) else Option.bind ((if v4 = 0 then Option.bind (fX0_waysToRing v1 v2 v3 bells_be) (fun u71 => some (u71.1, u71.2)) else Option.bind (fX10_power (v2 - 1) v1) (fun u81 => some (u81, bells_be))) : Option (Int64 × (Nat → Int64))) (fun j61 => Option.bind (fX10_power v2 v1) (fun u90 => Option.bind (fX10_inLowestTerms j61.1 u90 v5) (fun u95 => some (u95, j61.2))))))))))))))
def rmX10_rung : Room := { frames := 3, cells := 0, slots := 0, locals := 76 }
set_option maxRecDepth 100000 in
set_option maxHeartbeats 4000000 in
theorem c_X10_rung (l : Launch) (D : va_G) (cI cJ cZ : ClassId) (a a_now a_pad a_trial a_sights a_im0 a_im1 a_digits a_voters a_trades a_bells a_bells_ways : Nat) (bells_be : (Nat → Int64)) (v1 : Int32) (v2 : Int32) (v3 : Int32) (v4 : Int32) (v5 : Int32) (res : Int64 × (Nat → Int64)) (hf : fX10_rung v1 v2 v3 v4 v5 bells_be = some res) : Ct l yX10_rung (cm_ws yX10_rung cX10_rung 8 (some .long)) rmX10_rung D (cm_T cI cJ cZ) [.ref a, .int v1, .int v2, .int v3, .int v4, .int v5] [(a, .inr (10, [.ref a_now, .ref a_pad, .ref a_trial, .ref a_sights, .ref a_im0, .ref a_im1, .ref a_digits, .ref a_voters, .ref a_trades, .ref a_bells])), (a_bells, .inr (0, [.ref a_bells_ways])), cm_kJ cJ a_bells_ways 13 bells_be] (some (.long res.1)) [(a, .inr (10, [.ref a_now, .ref a_pad, .ref a_trial, .ref a_sights, .ref a_im0, .ref a_im1, .ref a_digits, .ref a_voters, .ref a_trades, .ref a_bells])), (a_bells, .inr (0, [.ref a_bells_ways])), cm_kJ cJ a_bells_ways 13 res.2] := by
  refine Ct.of (cc := cX10_rung) (maxL := 8) (ret := (some .long)) (by decide) (Nat.le_of_ble_eq_true rfl) ?_
  intro p e s m below meth c ls args A Q hav hAe hQ hx hb hr hml hown hlocks hts hK hP hD hA hS hl
  have hKa := hK.1
  have hl : lv_has ls 8 [(0, .ref a), (1, .int v1), (2, .int v2), (3, .int v3), (4, .int v4), (5, .int v5)] := hl
  unfold fX10_rung at hf
  refine lv_iload_n (pc := 0) hx hb dX10_rung_0 rfl (lv_at hl 1 rfl) ?_
  refine lv_iconst (pc := 1) (v := 0) hx hb dX10_rung_1 (by decide) ?_
  refine lv_bipush (pc := 2) (v := 12) hx hb dX10_rung_2 (by decide) ?_
  obtain ⟨u4, hu4, hf⟩ := cm_lt hf
  refine cm_callS (pc := 4) (As := [.int v1, .int 0, .int 12]) (rest := []) (wr := [(a, .inr (10, [.ref a_now, .ref a_pad, .ref a_trial, .ref a_sights, .ref a_im0, .ref a_im1, .ref a_digits, .ref a_voters, .ref a_trades, .ref a_bells])), (a_bells, .inr (0, [.ref a_bells_ways])), cm_kJ cJ a_bells_ways 13 bells_be]) (n := 3) hx hb hml hown hts hK hP hD hS hA (c_X10_isWithin l D cI cJ cZ v1 0 12 u4 hu4) tw_312 tw_310 tw_311 tw_45 rfl rfl (by decide +kernel) rfl ⟨Nat.le_of_ble_eq_true rfl, Nat.le_of_ble_eq_true rfl⟩ [] [0, 1, 2] rfl (by decide) rfl (by decide) (by decide) hl.1 rfl (Nat.le_of_ble_eq_true rfl) dX10_rung_4 ⟨Nat.zero_le _, Nat.zero_le _⟩ (fun H locs hP hD hS => ?_)
  have hP : va_P D vwCl [(a, .inr (10, [.ref a_now, .ref a_pad, .ref a_trial, .ref a_sights, .ref a_im0, .ref a_im1, .ref a_digits, .ref a_voters, .ref a_trades, .ref a_bells])), (a_bells, .inr (0, [.ref a_bells_ways])), cm_kJ cJ a_bells_ways 13 bells_be] H := hP
  have hD : va_D A [(a, .inr (10, [.ref a_now, .ref a_pad, .ref a_trial, .ref a_sights, .ref a_im0, .ref a_im1, .ref a_digits, .ref a_voters, .ref a_trades, .ref a_bells])), (a_bells, .inr (0, [.ref a_bells_ways])), cm_kJ cJ a_bells_ways 13 bells_be] := hD
  refine W.eq (g2 := F0 m 7 ls [.int u4]) rfl ?_
  refine lv_if_eq (pc := 7) (tgt := 31) hx hb dX10_rung_7 (by decide) (fun c_7 => ?_) (fun c_7 => ?_)
  · have hf := cm_ip c_7 hf
    refine lv_ldc2 (pc := 31) (v := (-1000000000000000002)) hx hb hown (hts _ tw_627) dX10_rung_31 ?_
    obtain rfl := Option.some.inj hf
    exact cm_lret (pc := 34) hAe hQ hx hb hr hlocks hP hD hS [0, 1, 2] (by decide) rfl dX10_rung_34
  · have hf := cm_in c_7 hf
    refine lv_iload_n (pc := 10) hx hb dX10_rung_10 rfl (lv_at hl 2 rfl) ?_
    refine lv_iconst (pc := 11) (v := 1) hx hb dX10_rung_11 (by decide) ?_
    refine lv_bipush (pc := 12) (v := 7) hx hb dX10_rung_12 (by decide) ?_
    obtain ⟨u14, hu14, hf⟩ := cm_lt hf
    refine cm_callS (pc := 14) (As := [.int v2, .int 1, .int 7]) (rest := []) (wr := [(a, .inr (10, [.ref a_now, .ref a_pad, .ref a_trial, .ref a_sights, .ref a_im0, .ref a_im1, .ref a_digits, .ref a_voters, .ref a_trades, .ref a_bells])), (a_bells, .inr (0, [.ref a_bells_ways])), cm_kJ cJ a_bells_ways 13 bells_be]) (n := 3) hx hb hml hown hts hK hP hD hS hA (c_X10_isWithin l D cI cJ cZ v2 1 7 u14 hu14) tw_312 tw_310 tw_311 tw_45 rfl rfl (by decide +kernel) rfl ⟨Nat.le_of_ble_eq_true rfl, Nat.le_of_ble_eq_true rfl⟩ [] [0, 1, 2] rfl (by decide) rfl (by decide) (by decide) hl.1 rfl (Nat.le_of_ble_eq_true rfl) dX10_rung_14 ⟨Nat.zero_le _, Nat.zero_le _⟩ (fun H locs hP hD hS => ?_)
    have hP : va_P D vwCl [(a, .inr (10, [.ref a_now, .ref a_pad, .ref a_trial, .ref a_sights, .ref a_im0, .ref a_im1, .ref a_digits, .ref a_voters, .ref a_trades, .ref a_bells])), (a_bells, .inr (0, [.ref a_bells_ways])), cm_kJ cJ a_bells_ways 13 bells_be] H := hP
    have hD : va_D A [(a, .inr (10, [.ref a_now, .ref a_pad, .ref a_trial, .ref a_sights, .ref a_im0, .ref a_im1, .ref a_digits, .ref a_voters, .ref a_trades, .ref a_bells])), (a_bells, .inr (0, [.ref a_bells_ways])), cm_kJ cJ a_bells_ways 13 bells_be] := hD
    refine W.eq (g2 := F0 m 17 ls [.int u14]) rfl ?_
    refine lv_if_eq (pc := 17) (tgt := 31) hx hb dX10_rung_17 (by decide) (fun c_17 => ?_) (fun c_17 => ?_)
    · have hf := cm_ip c_17 hf
      refine lv_ldc2 (pc := 31) (v := (-1000000000000000002)) hx hb hown (hts _ tw_627) dX10_rung_31 ?_
      obtain rfl := Option.some.inj hf
      exact cm_lret (pc := 34) hAe hQ hx hb hr hlocks hP hD hS [0, 1, 2] (by decide) rfl dX10_rung_34
    · have hf := cm_in c_17 hf
      refine lv_iload_n (pc := 20) hx hb dX10_rung_20 rfl (lv_at hl 3 rfl) ?_
      refine lv_iconst (pc := 21) (v := 0) hx hb dX10_rung_21 (by decide) ?_
      refine lv_iload_n (pc := 22) hx hb dX10_rung_22 rfl (lv_at hl 2 rfl) ?_
      refine lv_iconst (pc := 23) (v := 1) hx hb dX10_rung_23 (by decide) ?_
      refine lv_isub (pc := 24) hx hb dX10_rung_24 ?_
      obtain ⟨u25, hu25, hf⟩ := cm_lt hf
      refine cm_callS (pc := 25) (As := [.int v3, .int 0, .int (v2 - 1)]) (rest := []) (wr := [(a, .inr (10, [.ref a_now, .ref a_pad, .ref a_trial, .ref a_sights, .ref a_im0, .ref a_im1, .ref a_digits, .ref a_voters, .ref a_trades, .ref a_bells])), (a_bells, .inr (0, [.ref a_bells_ways])), cm_kJ cJ a_bells_ways 13 bells_be]) (n := 3) hx hb hml hown hts hK hP hD hS hA (c_X10_isWithin l D cI cJ cZ v3 0 (v2 - 1) u25 hu25) tw_312 tw_310 tw_311 tw_45 rfl rfl (by decide +kernel) rfl ⟨Nat.le_of_ble_eq_true rfl, Nat.le_of_ble_eq_true rfl⟩ [] [0, 1, 2] rfl (by decide) rfl (by decide) (by decide) hl.1 rfl (Nat.le_of_ble_eq_true rfl) dX10_rung_25 ⟨Nat.zero_le _, Nat.zero_le _⟩ (fun H locs hP hD hS => ?_)
      have hP : va_P D vwCl [(a, .inr (10, [.ref a_now, .ref a_pad, .ref a_trial, .ref a_sights, .ref a_im0, .ref a_im1, .ref a_digits, .ref a_voters, .ref a_trades, .ref a_bells])), (a_bells, .inr (0, [.ref a_bells_ways])), cm_kJ cJ a_bells_ways 13 bells_be] H := hP
      have hD : va_D A [(a, .inr (10, [.ref a_now, .ref a_pad, .ref a_trial, .ref a_sights, .ref a_im0, .ref a_im1, .ref a_digits, .ref a_voters, .ref a_trades, .ref a_bells])), (a_bells, .inr (0, [.ref a_bells_ways])), cm_kJ cJ a_bells_ways 13 bells_be] := hD
      refine W.eq (g2 := F0 m 28 ls [.int u25]) rfl ?_
      refine lv_if_ne (pc := 28) (tgt := 35) hx hb dX10_rung_28 (by decide) (fun c_28 => ?_) (fun c_28 => ?_)
      · have hf := cm_in c_28 hf
        refine lv_iload (pc := 35) hx hb dX10_rung_35 (lv_at hl 4 rfl) ?_
        refine lv_iconst (pc := 37) (v := 0) hx hb dX10_rung_37 (by decide) ?_
        refine lv_iconst (pc := 38) (v := 1) hx hb dX10_rung_38 (by decide) ?_
        obtain ⟨u39, hu39, hf⟩ := cm_lt hf
        refine cm_callS (pc := 39) (As := [.int v4, .int 0, .int 1]) (rest := []) (wr := [(a, .inr (10, [.ref a_now, .ref a_pad, .ref a_trial, .ref a_sights, .ref a_im0, .ref a_im1, .ref a_digits, .ref a_voters, .ref a_trades, .ref a_bells])), (a_bells, .inr (0, [.ref a_bells_ways])), cm_kJ cJ a_bells_ways 13 bells_be]) (n := 3) hx hb hml hown hts hK hP hD hS hA (c_X10_isWithin l D cI cJ cZ v4 0 1 u39 hu39) tw_312 tw_310 tw_311 tw_45 rfl rfl (by decide +kernel) rfl ⟨Nat.le_of_ble_eq_true rfl, Nat.le_of_ble_eq_true rfl⟩ [] [0, 1, 2] rfl (by decide) rfl (by decide) (by decide) hl.1 rfl (Nat.le_of_ble_eq_true rfl) dX10_rung_39 ⟨Nat.zero_le _, Nat.zero_le _⟩ (fun H locs hP hD hS => ?_)
        have hP : va_P D vwCl [(a, .inr (10, [.ref a_now, .ref a_pad, .ref a_trial, .ref a_sights, .ref a_im0, .ref a_im1, .ref a_digits, .ref a_voters, .ref a_trades, .ref a_bells])), (a_bells, .inr (0, [.ref a_bells_ways])), cm_kJ cJ a_bells_ways 13 bells_be] H := hP
        have hD : va_D A [(a, .inr (10, [.ref a_now, .ref a_pad, .ref a_trial, .ref a_sights, .ref a_im0, .ref a_im1, .ref a_digits, .ref a_voters, .ref a_trades, .ref a_bells])), (a_bells, .inr (0, [.ref a_bells_ways])), cm_kJ cJ a_bells_ways 13 bells_be] := hD
        refine W.eq (g2 := F0 m 42 ls [.int u39]) rfl ?_
        refine lv_if_eq (pc := 42) (tgt := 55) hx hb dX10_rung_42 (by decide) (fun c_42 => ?_) (fun c_42 => ?_)
        · have hf := cm_ip c_42 hf
          refine lv_ldc2 (pc := 55) (v := (-1000000000000000002)) hx hb hown (hts _ tw_627) dX10_rung_55 ?_
          obtain rfl := Option.some.inj hf
          exact cm_lret (pc := 58) hAe hQ hx hb hr hlocks hP hD hS [0, 1, 2] (by decide) rfl dX10_rung_58
        · have hf := cm_in c_42 hf
          refine lv_iload (pc := 45) hx hb dX10_rung_45 (lv_at hl 5 rfl) ?_
          refine lv_iconst (pc := 47) (v := 0) hx hb dX10_rung_47 (by decide) ?_
          refine lv_iconst (pc := 48) (v := 1) hx hb dX10_rung_48 (by decide) ?_
          obtain ⟨u49, hu49, hf⟩ := cm_lt hf
          refine cm_callS (pc := 49) (As := [.int v5, .int 0, .int 1]) (rest := []) (wr := [(a, .inr (10, [.ref a_now, .ref a_pad, .ref a_trial, .ref a_sights, .ref a_im0, .ref a_im1, .ref a_digits, .ref a_voters, .ref a_trades, .ref a_bells])), (a_bells, .inr (0, [.ref a_bells_ways])), cm_kJ cJ a_bells_ways 13 bells_be]) (n := 3) hx hb hml hown hts hK hP hD hS hA (c_X10_isWithin l D cI cJ cZ v5 0 1 u49 hu49) tw_312 tw_310 tw_311 tw_45 rfl rfl (by decide +kernel) rfl ⟨Nat.le_of_ble_eq_true rfl, Nat.le_of_ble_eq_true rfl⟩ [] [0, 1, 2] rfl (by decide) rfl (by decide) (by decide) hl.1 rfl (Nat.le_of_ble_eq_true rfl) dX10_rung_49 ⟨Nat.zero_le _, Nat.zero_le _⟩ (fun H locs hP hD hS => ?_)
          have hP : va_P D vwCl [(a, .inr (10, [.ref a_now, .ref a_pad, .ref a_trial, .ref a_sights, .ref a_im0, .ref a_im1, .ref a_digits, .ref a_voters, .ref a_trades, .ref a_bells])), (a_bells, .inr (0, [.ref a_bells_ways])), cm_kJ cJ a_bells_ways 13 bells_be] H := hP
          have hD : va_D A [(a, .inr (10, [.ref a_now, .ref a_pad, .ref a_trial, .ref a_sights, .ref a_im0, .ref a_im1, .ref a_digits, .ref a_voters, .ref a_trades, .ref a_bells])), (a_bells, .inr (0, [.ref a_bells_ways])), cm_kJ cJ a_bells_ways 13 bells_be] := hD
          refine W.eq (g2 := F0 m 52 ls [.int u49]) rfl ?_
          refine lv_if_ne (pc := 52) (tgt := 59) hx hb dX10_rung_52 (by decide) (fun c_52 => ?_) (fun c_52 => ?_)
          · have hf := cm_in c_52 hf
            refine lv_iload (pc := 59) hx hb dX10_rung_59 (lv_at hl 4 rfl) ?_
            obtain ⟨j61, hj61, hf⟩ := cm_bd hf
            have J61 : ∀ (H : Heap) (locs : List Loc) (ls : Array Slot), va_P D vwCl [(a, .inr (10, [.ref a_now, .ref a_pad, .ref a_trial, .ref a_sights, .ref a_im0, .ref a_im1, .ref a_digits, .ref a_voters, .ref a_trades, .ref a_bells])), (a_bells, .inr (0, [.ref a_bells_ways])), cm_kJ cJ a_bells_ways 13 j61.2] H → va_D A [(a, .inr (10, [.ref a_now, .ref a_pad, .ref a_trial, .ref a_sights, .ref a_im0, .ref a_im1, .ref a_digits, .ref a_voters, .ref a_trades, .ref a_bells])), (a_bells, .inr (0, [.ref a_bells_ways])), cm_kJ cJ a_bells_ways 13 j61.2] → va_S A s.heap H locs → lv_has ls 8 [(1, .int v1), (2, .int v2), (5, .int v5)] → W p l e rmX10_rung s m args below meth c H locs 0 0 Q (F0 m 84 ls [.long j61.1]) := by
              intro H locs ls hP hD hS hl
              refine lv_lstore (pc := 84) (lv' := [(6, .long j61.1), (1, .int v1), (2, .int v2), (5, .int v5)]) hx hb dX10_rung_84 hl (by decide) rfl (fun ls hl => ?_)
              refine lv_lload (pc := 86) hx hb dX10_rung_86 (lv_at hl 0 rfl) ?_
              refine lv_iload_n (pc := 88) hx hb dX10_rung_88 rfl (lv_at hl 2 rfl) ?_
              refine lv_iload_n (pc := 89) hx hb dX10_rung_89 rfl (lv_at hl 1 rfl) ?_
              obtain ⟨u90, hu90, hf⟩ := cm_bd hf
              refine cm_callS (pc := 90) (As := [.int v2, .int v1]) (rest := [.long j61.1]) (wr := [(a, .inr (10, [.ref a_now, .ref a_pad, .ref a_trial, .ref a_sights, .ref a_im0, .ref a_im1, .ref a_digits, .ref a_voters, .ref a_trades, .ref a_bells])), (a_bells, .inr (0, [.ref a_bells_ways])), cm_kJ cJ a_bells_ways 13 j61.2]) (n := 2) hx hb hml hown hts hK hP hD hS hA (c_X10_power l D cI cJ cZ v2 v1 u90 hu90) tw_652 tw_650 tw_651 tw_45 rfl rfl (by decide +kernel) rfl ⟨Nat.le_of_ble_eq_true rfl, Nat.le_of_ble_eq_true rfl⟩ [] [0, 1, 2] rfl (by decide) rfl (by decide) (by decide) hl.1 rfl (Nat.le_of_ble_eq_true rfl) dX10_rung_90 ⟨Nat.zero_le _, Nat.zero_le _⟩ (fun H locs hP hD hS => ?_)
              have hP : va_P D vwCl [(a, .inr (10, [.ref a_now, .ref a_pad, .ref a_trial, .ref a_sights, .ref a_im0, .ref a_im1, .ref a_digits, .ref a_voters, .ref a_trades, .ref a_bells])), (a_bells, .inr (0, [.ref a_bells_ways])), cm_kJ cJ a_bells_ways 13 j61.2] H := hP
              have hD : va_D A [(a, .inr (10, [.ref a_now, .ref a_pad, .ref a_trial, .ref a_sights, .ref a_im0, .ref a_im1, .ref a_digits, .ref a_voters, .ref a_trades, .ref a_bells])), (a_bells, .inr (0, [.ref a_bells_ways])), cm_kJ cJ a_bells_ways 13 j61.2] := hD
              refine W.eq (g2 := F0 m 93 ls [.long u90, .long j61.1]) rfl ?_
              refine lv_iload (pc := 93) hx hb dX10_rung_93 (lv_at hl 3 rfl) ?_
              obtain ⟨u95, hu95, hf⟩ := cm_bd hf
              refine cm_callS (pc := 95) (As := [.long j61.1, .long u90, .int v5]) (rest := []) (wr := [(a, .inr (10, [.ref a_now, .ref a_pad, .ref a_trial, .ref a_sights, .ref a_im0, .ref a_im1, .ref a_digits, .ref a_voters, .ref a_trades, .ref a_bells])), (a_bells, .inr (0, [.ref a_bells_ways])), cm_kJ cJ a_bells_ways 13 j61.2]) (n := 3) hx hb hml hown hts hK hP hD hS hA (c_X10_inLowestTerms l D cI cJ cZ j61.1 u90 v5 u95 hu95) tw_655 tw_653 tw_654 tw_45 rfl rfl (by decide +kernel) rfl ⟨Nat.le_of_ble_eq_true rfl, Nat.le_of_ble_eq_true rfl⟩ [] [0, 1, 2] rfl (by decide) rfl (by decide) (by decide) hl.1 rfl (Nat.le_of_ble_eq_true rfl) dX10_rung_95 ⟨Nat.zero_le _, Nat.zero_le _⟩ (fun H locs hP hD hS => ?_)
              have hP : va_P D vwCl [(a, .inr (10, [.ref a_now, .ref a_pad, .ref a_trial, .ref a_sights, .ref a_im0, .ref a_im1, .ref a_digits, .ref a_voters, .ref a_trades, .ref a_bells])), (a_bells, .inr (0, [.ref a_bells_ways])), cm_kJ cJ a_bells_ways 13 j61.2] H := hP
              have hD : va_D A [(a, .inr (10, [.ref a_now, .ref a_pad, .ref a_trial, .ref a_sights, .ref a_im0, .ref a_im1, .ref a_digits, .ref a_voters, .ref a_trades, .ref a_bells])), (a_bells, .inr (0, [.ref a_bells_ways])), cm_kJ cJ a_bells_ways 13 j61.2] := hD
              refine W.eq (g2 := F0 m 98 ls [.long u95]) rfl ?_
              obtain rfl := Option.some.inj hf
              exact cm_lret (pc := 98) hAe hQ hx hb hr hlocks hP hD hS [0, 1, 2] (by decide) rfl dX10_rung_98
            clear hf
            have hf := hj61
            refine lv_if_ne (pc := 61) (tgt := 77) hx hb dX10_rung_61 (by decide) (fun c_61 => ?_) (fun c_61 => ?_)
            · have hf := cm_in c_61 hf
              refine lv_iload_n (pc := 77) hx hb dX10_rung_77 rfl (lv_at hl 2 rfl) ?_
              refine lv_iconst (pc := 78) (v := 1) hx hb dX10_rung_78 (by decide) ?_
              refine lv_isub (pc := 79) hx hb dX10_rung_79 ?_
              refine lv_iload_n (pc := 80) hx hb dX10_rung_80 rfl (lv_at hl 1 rfl) ?_
              obtain ⟨u81, hu81, hf⟩ := cm_bd hf
              refine cm_callS (pc := 81) (As := [.int (v2 - 1), .int v1]) (rest := []) (wr := [(a, .inr (10, [.ref a_now, .ref a_pad, .ref a_trial, .ref a_sights, .ref a_im0, .ref a_im1, .ref a_digits, .ref a_voters, .ref a_trades, .ref a_bells])), (a_bells, .inr (0, [.ref a_bells_ways])), cm_kJ cJ a_bells_ways 13 bells_be]) (n := 2) hx hb hml hown hts hK hP hD hS hA (c_X10_power l D cI cJ cZ (v2 - 1) v1 u81 hu81) tw_652 tw_650 tw_651 tw_45 rfl rfl (by decide +kernel) rfl ⟨Nat.le_of_ble_eq_true rfl, Nat.le_of_ble_eq_true rfl⟩ [] [0, 1, 2] rfl (by decide) rfl (by decide) (by decide) hl.1 rfl (Nat.le_of_ble_eq_true rfl) dX10_rung_81 ⟨Nat.zero_le _, Nat.zero_le _⟩ (fun H locs hP hD hS => ?_)
              have hP : va_P D vwCl [(a, .inr (10, [.ref a_now, .ref a_pad, .ref a_trial, .ref a_sights, .ref a_im0, .ref a_im1, .ref a_digits, .ref a_voters, .ref a_trades, .ref a_bells])), (a_bells, .inr (0, [.ref a_bells_ways])), cm_kJ cJ a_bells_ways 13 bells_be] H := hP
              have hD : va_D A [(a, .inr (10, [.ref a_now, .ref a_pad, .ref a_trial, .ref a_sights, .ref a_im0, .ref a_im1, .ref a_digits, .ref a_voters, .ref a_trades, .ref a_bells])), (a_bells, .inr (0, [.ref a_bells_ways])), cm_kJ cJ a_bells_ways 13 bells_be] := hD
              refine W.eq (g2 := F0 m 84 ls [.long u81]) rfl ?_
              obtain rfl := Option.some.inj hf
              exact J61 _ _ _ hP hD hS (lv_sub hl [1, 2, 5] rfl)
            · have hf := cm_ip c_61 hf
              refine lv_aload_n (pc := 64) hx hb dX10_rung_64 rfl (lv_at hl 0 rfl) ?_
              refine va_get (pc := 65) (D := D) (ci := 10) (v := .ref a_bells) (C := RX10) (T := TX10) (N := 10) hx hb hts in_X10 hown hKa hP 0 rfl rfl 9 (by decide) (hts _ tw_278) (fun _ h9 => h9) rfl dX10_rung_65 ?_
              refine lv_iload_n (pc := 68) hx hb dX10_rung_68 rfl (lv_at hl 1 rfl) ?_
              refine lv_iload_n (pc := 69) hx hb dX10_rung_69 rfl (lv_at hl 2 rfl) ?_
              refine lv_iload_n (pc := 70) hx hb dX10_rung_70 rfl (lv_at hl 3 rfl) ?_
              obtain ⟨u71, hu71, hf⟩ := cm_bd hf
              refine cm_callV (pc := 71) (As := [.int v1, .int v2, .int v3]) (rest := []) (wr := [(a, .inr (10, [.ref a_now, .ref a_pad, .ref a_trial, .ref a_sights, .ref a_im0, .ref a_im1, .ref a_digits, .ref a_voters, .ref a_trades, .ref a_bells]))]) (ci := 0) (q0 := 1) (n := 3) hx hb hml hown hts hK hP hD hS hA (c_X0_waysToRing l D cI cJ cZ a_bells a_bells_ways bells_be v1 v2 v3 u71 hu71) tw_631 tw_628 tw_629 tw_630 tw_55 rfl rfl (by decide +kernel) rfl ⟨Nat.le_of_ble_eq_true rfl, Nat.le_of_ble_eq_true rfl⟩ [1, 2] [0] rfl (by decide) rfl (by decide) (by decide) rfl rfl rfl hl.1 rfl (Nat.le_of_ble_eq_true rfl) dX10_rung_71 ⟨Nat.zero_le _, Nat.zero_le _⟩ (fun H locs hP hD hS => ?_)
              have hP : va_P D vwCl [(a, .inr (10, [.ref a_now, .ref a_pad, .ref a_trial, .ref a_sights, .ref a_im0, .ref a_im1, .ref a_digits, .ref a_voters, .ref a_trades, .ref a_bells])), (a_bells, .inr (0, [.ref a_bells_ways])), cm_kJ cJ a_bells_ways 13 u71.2] H := hP
              have hD : va_D A [(a, .inr (10, [.ref a_now, .ref a_pad, .ref a_trial, .ref a_sights, .ref a_im0, .ref a_im1, .ref a_digits, .ref a_voters, .ref a_trades, .ref a_bells])), (a_bells, .inr (0, [.ref a_bells_ways])), cm_kJ cJ a_bells_ways 13 u71.2] := hD
              refine W.eq (g2 := F0 m 74 ls [.long u71.1]) rfl ?_
              refine lv_goto (pc := 74) (tgt := 84) hx hb dX10_rung_74 (by decide) ?_
              obtain rfl := Option.some.inj hf
              exact J61 _ _ _ hP hD hS (lv_sub hl [1, 2, 5] rfl)
          · have hf := cm_ip c_52 hf
            refine lv_ldc2 (pc := 55) (v := (-1000000000000000002)) hx hb hown (hts _ tw_627) dX10_rung_55 ?_
            obtain rfl := Option.some.inj hf
            exact cm_lret (pc := 58) hAe hQ hx hb hr hlocks hP hD hS [0, 1, 2] (by decide) rfl dX10_rung_58
      · have hf := cm_ip c_28 hf
        refine lv_ldc2 (pc := 31) (v := (-1000000000000000002)) hx hb hown (hts _ tw_627) dX10_rung_31 ?_
        obtain rfl := Option.some.inj hf
        exact cm_lret (pc := 34) hAe hQ hx hb hr hlocks hP hD hS [0, 1, 2] (by decide) rfl dX10_rung_34
def fX1_actByDraw (v1 : Int32) (v2 : Int32) (v3 : Int32) (bo : SBO) : Option (SBO) := (if v2 = 0 then Option.bind (fX1_attempt 0 v1 (irm v3 7) bo) (fun u47 => some u47.2) else (if v2 = 1 then Option.bind (fX1_attempt 0 v1 (irm v3 7) bo) (fun u47 => some u47.2) else (if v2 = 2 then Option.bind (fX1_attempt 0 v1 (-1) bo) (fun u58 => some u58.2) else (if v2 = 3 then Option.bind (fX1_attempt 2 v1 (irm v3 8) bo) (fun u72 => some u72.2) else (if v2 = 4 then Option.bind (fX1_attempt 3 v1 (irm v3 8) bo) (fun u86 => some u86.2) else (if v2 = 5 then cm_let ((if (irm v3 2) = 0 then 1 else 4) : Int32) (fun j97 => Option.bind (fX1_attempt j97 v1 (irm v3 4) bo) (fun u109 => some u109.2)) else Option.bind (fX1_attempt 5 v1 0 bo) (fun u120 => some u120.2)))))))
def rmX1_actByDraw : Room := { frames := 4, cells := 0, slots := 0, locals := 87 }
set_option maxRecDepth 100000 in
set_option maxHeartbeats 4000000 in
theorem c_X1_actByDraw (l : Launch) (D : va_G) (cI cJ cZ : ClassId) (a a_thinks a_sure a_coin a_far a_chalk : Nat) (bo : SBO) (v1 : Int32) (v2 : Int32) (v3 : Int32) (res : SBO) (hf : fX1_actByDraw v1 v2 v3 bo = some res) : Ct l yX1_actByDraw (cm_ws yX1_actByDraw cX1_actByDraw 4 none) rmX1_actByDraw D (cm_T cI cJ cZ) [.ref a, .int v1, .int v2, .int v3] [(a, .inr (1, [.ref a_thinks, .ref a_sure, .ref a_coin, .ref a_far, .ref a_chalk, .int bo.2.2.2.2.2.1, .int bo.2.2.2.2.2.2.1, .int bo.2.2.2.2.2.2.2.1, .int bo.2.2.2.2.2.2.2.2])), cm_kI cI a_thinks 8 bo.1, cm_kI cI a_sure 8 bo.2.1, cm_kI cI a_coin 8 bo.2.2.1, cm_kI cI a_far 4 bo.2.2.2.1, cm_kI cI a_chalk 7 bo.2.2.2.2.1] none [(a, .inr (1, [.ref a_thinks, .ref a_sure, .ref a_coin, .ref a_far, .ref a_chalk, .int res.2.2.2.2.2.1, .int res.2.2.2.2.2.2.1, .int res.2.2.2.2.2.2.2.1, .int res.2.2.2.2.2.2.2.2])), cm_kI cI a_thinks 8 res.1, cm_kI cI a_sure 8 res.2.1, cm_kI cI a_coin 8 res.2.2.1, cm_kI cI a_far 4 res.2.2.2.1, cm_kI cI a_chalk 7 res.2.2.2.2.1] := by
  refine Ct.of (cc := cX1_actByDraw) (maxL := 4) (ret := none) (by decide) (Nat.le_of_ble_eq_true rfl) ?_
  intro p e s m below meth c ls args A Q hav hAe hQ hx hb hr hml hown hlocks hts hK hP hD hA hS hl
  have hKa := hK.1
  have hl : lv_has ls 4 [(0, .ref a), (1, .int v1), (2, .int v2), (3, .int v3)] := hl
  unfold fX1_actByDraw at hf
  refine lv_iload_n (pc := 0) hx hb dX1_actByDraw_0 rfl (lv_at hl 2 rfl) ?_
  refine cm_em (v2 = 0) (fun c_1_0 => ?_) (fun c_1_0 => ?_)
  · have hf := cm_ip c_1_0 hf
    refine lv_tableIn (pc := 1) (off := 39) (tgt := 40) hx hb dX1_actByDraw_1 (by rw [c_1_0]; decide) (by rw [c_1_0]; decide) (by rw [c_1_0]; rfl) (by decide) ?_
    refine lv_aload_n (pc := 40) hx hb dX1_actByDraw_40 rfl (lv_at hl 0 rfl) ?_
    refine lv_iconst (pc := 41) (v := 0) hx hb dX1_actByDraw_41 (by decide) ?_
    refine lv_iload_n (pc := 42) hx hb dX1_actByDraw_42 rfl (lv_at hl 1 rfl) ?_
    refine lv_iload_n (pc := 43) hx hb dX1_actByDraw_43 rfl (lv_at hl 3 rfl) ?_
    refine lv_bipush (pc := 44) (v := 7) hx hb dX1_actByDraw_44 (by decide) ?_
    refine cm_irem (pc := 46) hx hb dX1_actByDraw_46 (by decide) ?_
    obtain ⟨u47, hu47, hf⟩ := cm_bd hf
    refine cm_callV (pc := 47) (As := [.int 0, .int v1, .int (irm v3 7)]) (rest := []) (wr := []) (ci := 1) (q0 := 0) (n := 3) hx hb hml hown hts hK hP hD hS hA (c_X1_attempt l D cI cJ cZ a a_thinks a_sure a_coin a_far a_chalk bo 0 v1 (irm v3 7) u47 hu47) tw_402 tw_672 tw_400 tw_401 tw_46 rfl rfl (by decide +kernel) rfl ⟨Nat.le_of_ble_eq_true rfl, Nat.le_of_ble_eq_true rfl⟩ [0, 1, 2, 3, 4, 5] [] rfl (by decide) rfl (by decide) (by decide) rfl rfl rfl hl.1 rfl (Nat.le_of_ble_eq_true rfl) dX1_actByDraw_47 ⟨Nat.zero_le _, Nat.zero_le _⟩ (fun H locs hP hD hS => ?_)
    have hP : va_P D vwCl [(a, .inr (1, [.ref a_thinks, .ref a_sure, .ref a_coin, .ref a_far, .ref a_chalk, .int u47.2.2.2.2.2.2.1, .int u47.2.2.2.2.2.2.2.1, .int u47.2.2.2.2.2.2.2.2.1, .int u47.2.2.2.2.2.2.2.2.2])), cm_kI cI a_thinks 8 u47.2.1, cm_kI cI a_sure 8 u47.2.2.1, cm_kI cI a_coin 8 u47.2.2.2.1, cm_kI cI a_far 4 u47.2.2.2.2.1, cm_kI cI a_chalk 7 u47.2.2.2.2.2.1] H := hP
    have hD : va_D A [(a, .inr (1, [.ref a_thinks, .ref a_sure, .ref a_coin, .ref a_far, .ref a_chalk, .int u47.2.2.2.2.2.2.1, .int u47.2.2.2.2.2.2.2.1, .int u47.2.2.2.2.2.2.2.2.1, .int u47.2.2.2.2.2.2.2.2.2])), cm_kI cI a_thinks 8 u47.2.1, cm_kI cI a_sure 8 u47.2.2.1, cm_kI cI a_coin 8 u47.2.2.2.1, cm_kI cI a_far 4 u47.2.2.2.2.1, cm_kI cI a_chalk 7 u47.2.2.2.2.2.1] := hD
    refine W.eq (g2 := F0 m 50 ls [.int u47.1]) rfl ?_
    refine lv_pop (pc := 50) hx hb dX1_actByDraw_50 rfl ?_
    refine lv_goto (pc := 51) (tgt := 124) hx hb dX1_actByDraw_51 (by decide) ?_
    obtain rfl := Option.some.inj hf
    exact cm_vret (pc := 124) hAe hQ hx hb hr hlocks hP hD hS [0, 1, 2, 3, 4, 5] (by decide) rfl dX1_actByDraw_124
  · have hf := cm_in c_1_0 hf
    refine cm_em (v2 = 1) (fun c_1_1 => ?_) (fun c_1_1 => ?_)
    · have hf := cm_ip c_1_1 hf
      refine lv_tableIn (pc := 1) (off := 39) (tgt := 40) hx hb dX1_actByDraw_1 (by rw [c_1_1]; decide) (by rw [c_1_1]; decide) (by rw [c_1_1]; rfl) (by decide) ?_
      refine lv_aload_n (pc := 40) hx hb dX1_actByDraw_40 rfl (lv_at hl 0 rfl) ?_
      refine lv_iconst (pc := 41) (v := 0) hx hb dX1_actByDraw_41 (by decide) ?_
      refine lv_iload_n (pc := 42) hx hb dX1_actByDraw_42 rfl (lv_at hl 1 rfl) ?_
      refine lv_iload_n (pc := 43) hx hb dX1_actByDraw_43 rfl (lv_at hl 3 rfl) ?_
      refine lv_bipush (pc := 44) (v := 7) hx hb dX1_actByDraw_44 (by decide) ?_
      refine cm_irem (pc := 46) hx hb dX1_actByDraw_46 (by decide) ?_
      obtain ⟨u47, hu47, hf⟩ := cm_bd hf
      refine cm_callV (pc := 47) (As := [.int 0, .int v1, .int (irm v3 7)]) (rest := []) (wr := []) (ci := 1) (q0 := 0) (n := 3) hx hb hml hown hts hK hP hD hS hA (c_X1_attempt l D cI cJ cZ a a_thinks a_sure a_coin a_far a_chalk bo 0 v1 (irm v3 7) u47 hu47) tw_402 tw_672 tw_400 tw_401 tw_46 rfl rfl (by decide +kernel) rfl ⟨Nat.le_of_ble_eq_true rfl, Nat.le_of_ble_eq_true rfl⟩ [0, 1, 2, 3, 4, 5] [] rfl (by decide) rfl (by decide) (by decide) rfl rfl rfl hl.1 rfl (Nat.le_of_ble_eq_true rfl) dX1_actByDraw_47 ⟨Nat.zero_le _, Nat.zero_le _⟩ (fun H locs hP hD hS => ?_)
      have hP : va_P D vwCl [(a, .inr (1, [.ref a_thinks, .ref a_sure, .ref a_coin, .ref a_far, .ref a_chalk, .int u47.2.2.2.2.2.2.1, .int u47.2.2.2.2.2.2.2.1, .int u47.2.2.2.2.2.2.2.2.1, .int u47.2.2.2.2.2.2.2.2.2])), cm_kI cI a_thinks 8 u47.2.1, cm_kI cI a_sure 8 u47.2.2.1, cm_kI cI a_coin 8 u47.2.2.2.1, cm_kI cI a_far 4 u47.2.2.2.2.1, cm_kI cI a_chalk 7 u47.2.2.2.2.2.1] H := hP
      have hD : va_D A [(a, .inr (1, [.ref a_thinks, .ref a_sure, .ref a_coin, .ref a_far, .ref a_chalk, .int u47.2.2.2.2.2.2.1, .int u47.2.2.2.2.2.2.2.1, .int u47.2.2.2.2.2.2.2.2.1, .int u47.2.2.2.2.2.2.2.2.2])), cm_kI cI a_thinks 8 u47.2.1, cm_kI cI a_sure 8 u47.2.2.1, cm_kI cI a_coin 8 u47.2.2.2.1, cm_kI cI a_far 4 u47.2.2.2.2.1, cm_kI cI a_chalk 7 u47.2.2.2.2.2.1] := hD
      refine W.eq (g2 := F0 m 50 ls [.int u47.1]) rfl ?_
      refine lv_pop (pc := 50) hx hb dX1_actByDraw_50 rfl ?_
      refine lv_goto (pc := 51) (tgt := 124) hx hb dX1_actByDraw_51 (by decide) ?_
      obtain rfl := Option.some.inj hf
      exact cm_vret (pc := 124) hAe hQ hx hb hr hlocks hP hD hS [0, 1, 2, 3, 4, 5] (by decide) rfl dX1_actByDraw_124
    · have hf := cm_in c_1_1 hf
      refine cm_em (v2 = 2) (fun c_1_2 => ?_) (fun c_1_2 => ?_)
      · have hf := cm_ip c_1_2 hf
        refine lv_tableIn (pc := 1) (off := 53) (tgt := 54) hx hb dX1_actByDraw_1 (by rw [c_1_2]; decide) (by rw [c_1_2]; decide) (by rw [c_1_2]; rfl) (by decide) ?_
        refine lv_aload_n (pc := 54) hx hb dX1_actByDraw_54 rfl (lv_at hl 0 rfl) ?_
        refine lv_iconst (pc := 55) (v := 0) hx hb dX1_actByDraw_55 (by decide) ?_
        refine lv_iload_n (pc := 56) hx hb dX1_actByDraw_56 rfl (lv_at hl 1 rfl) ?_
        refine lv_iconst (pc := 57) (v := (-1)) hx hb dX1_actByDraw_57 (by decide) ?_
        obtain ⟨u58, hu58, hf⟩ := cm_bd hf
        refine cm_callV (pc := 58) (As := [.int 0, .int v1, .int (-1)]) (rest := []) (wr := []) (ci := 1) (q0 := 0) (n := 3) hx hb hml hown hts hK hP hD hS hA (c_X1_attempt l D cI cJ cZ a a_thinks a_sure a_coin a_far a_chalk bo 0 v1 (-1) u58 hu58) tw_402 tw_672 tw_400 tw_401 tw_46 rfl rfl (by decide +kernel) rfl ⟨Nat.le_of_ble_eq_true rfl, Nat.le_of_ble_eq_true rfl⟩ [0, 1, 2, 3, 4, 5] [] rfl (by decide) rfl (by decide) (by decide) rfl rfl rfl hl.1 rfl (Nat.le_of_ble_eq_true rfl) dX1_actByDraw_58 ⟨Nat.zero_le _, Nat.zero_le _⟩ (fun H locs hP hD hS => ?_)
        have hP : va_P D vwCl [(a, .inr (1, [.ref a_thinks, .ref a_sure, .ref a_coin, .ref a_far, .ref a_chalk, .int u58.2.2.2.2.2.2.1, .int u58.2.2.2.2.2.2.2.1, .int u58.2.2.2.2.2.2.2.2.1, .int u58.2.2.2.2.2.2.2.2.2])), cm_kI cI a_thinks 8 u58.2.1, cm_kI cI a_sure 8 u58.2.2.1, cm_kI cI a_coin 8 u58.2.2.2.1, cm_kI cI a_far 4 u58.2.2.2.2.1, cm_kI cI a_chalk 7 u58.2.2.2.2.2.1] H := hP
        have hD : va_D A [(a, .inr (1, [.ref a_thinks, .ref a_sure, .ref a_coin, .ref a_far, .ref a_chalk, .int u58.2.2.2.2.2.2.1, .int u58.2.2.2.2.2.2.2.1, .int u58.2.2.2.2.2.2.2.2.1, .int u58.2.2.2.2.2.2.2.2.2])), cm_kI cI a_thinks 8 u58.2.1, cm_kI cI a_sure 8 u58.2.2.1, cm_kI cI a_coin 8 u58.2.2.2.1, cm_kI cI a_far 4 u58.2.2.2.2.1, cm_kI cI a_chalk 7 u58.2.2.2.2.2.1] := hD
        refine W.eq (g2 := F0 m 61 ls [.int u58.1]) rfl ?_
        refine lv_pop (pc := 61) hx hb dX1_actByDraw_61 rfl ?_
        refine lv_goto (pc := 62) (tgt := 124) hx hb dX1_actByDraw_62 (by decide) ?_
        obtain rfl := Option.some.inj hf
        exact cm_vret (pc := 124) hAe hQ hx hb hr hlocks hP hD hS [0, 1, 2, 3, 4, 5] (by decide) rfl dX1_actByDraw_124
      · have hf := cm_in c_1_2 hf
        refine cm_em (v2 = 3) (fun c_1_3 => ?_) (fun c_1_3 => ?_)
        · have hf := cm_ip c_1_3 hf
          refine lv_tableIn (pc := 1) (off := 64) (tgt := 65) hx hb dX1_actByDraw_1 (by rw [c_1_3]; decide) (by rw [c_1_3]; decide) (by rw [c_1_3]; rfl) (by decide) ?_
          refine lv_aload_n (pc := 65) hx hb dX1_actByDraw_65 rfl (lv_at hl 0 rfl) ?_
          refine lv_iconst (pc := 66) (v := 2) hx hb dX1_actByDraw_66 (by decide) ?_
          refine lv_iload_n (pc := 67) hx hb dX1_actByDraw_67 rfl (lv_at hl 1 rfl) ?_
          refine lv_iload_n (pc := 68) hx hb dX1_actByDraw_68 rfl (lv_at hl 3 rfl) ?_
          refine lv_bipush (pc := 69) (v := 8) hx hb dX1_actByDraw_69 (by decide) ?_
          refine cm_irem (pc := 71) hx hb dX1_actByDraw_71 (by decide) ?_
          obtain ⟨u72, hu72, hf⟩ := cm_bd hf
          refine cm_callV (pc := 72) (As := [.int 2, .int v1, .int (irm v3 8)]) (rest := []) (wr := []) (ci := 1) (q0 := 0) (n := 3) hx hb hml hown hts hK hP hD hS hA (c_X1_attempt l D cI cJ cZ a a_thinks a_sure a_coin a_far a_chalk bo 2 v1 (irm v3 8) u72 hu72) tw_402 tw_672 tw_400 tw_401 tw_46 rfl rfl (by decide +kernel) rfl ⟨Nat.le_of_ble_eq_true rfl, Nat.le_of_ble_eq_true rfl⟩ [0, 1, 2, 3, 4, 5] [] rfl (by decide) rfl (by decide) (by decide) rfl rfl rfl hl.1 rfl (Nat.le_of_ble_eq_true rfl) dX1_actByDraw_72 ⟨Nat.zero_le _, Nat.zero_le _⟩ (fun H locs hP hD hS => ?_)
          have hP : va_P D vwCl [(a, .inr (1, [.ref a_thinks, .ref a_sure, .ref a_coin, .ref a_far, .ref a_chalk, .int u72.2.2.2.2.2.2.1, .int u72.2.2.2.2.2.2.2.1, .int u72.2.2.2.2.2.2.2.2.1, .int u72.2.2.2.2.2.2.2.2.2])), cm_kI cI a_thinks 8 u72.2.1, cm_kI cI a_sure 8 u72.2.2.1, cm_kI cI a_coin 8 u72.2.2.2.1, cm_kI cI a_far 4 u72.2.2.2.2.1, cm_kI cI a_chalk 7 u72.2.2.2.2.2.1] H := hP
          have hD : va_D A [(a, .inr (1, [.ref a_thinks, .ref a_sure, .ref a_coin, .ref a_far, .ref a_chalk, .int u72.2.2.2.2.2.2.1, .int u72.2.2.2.2.2.2.2.1, .int u72.2.2.2.2.2.2.2.2.1, .int u72.2.2.2.2.2.2.2.2.2])), cm_kI cI a_thinks 8 u72.2.1, cm_kI cI a_sure 8 u72.2.2.1, cm_kI cI a_coin 8 u72.2.2.2.1, cm_kI cI a_far 4 u72.2.2.2.2.1, cm_kI cI a_chalk 7 u72.2.2.2.2.2.1] := hD
          refine W.eq (g2 := F0 m 75 ls [.int u72.1]) rfl ?_
          refine lv_pop (pc := 75) hx hb dX1_actByDraw_75 rfl ?_
          refine lv_goto (pc := 76) (tgt := 124) hx hb dX1_actByDraw_76 (by decide) ?_
          obtain rfl := Option.some.inj hf
          exact cm_vret (pc := 124) hAe hQ hx hb hr hlocks hP hD hS [0, 1, 2, 3, 4, 5] (by decide) rfl dX1_actByDraw_124
        · have hf := cm_in c_1_3 hf
          refine cm_em (v2 = 4) (fun c_1_4 => ?_) (fun c_1_4 => ?_)
          · have hf := cm_ip c_1_4 hf
            refine lv_tableIn (pc := 1) (off := 78) (tgt := 79) hx hb dX1_actByDraw_1 (by rw [c_1_4]; decide) (by rw [c_1_4]; decide) (by rw [c_1_4]; rfl) (by decide) ?_
            refine lv_aload_n (pc := 79) hx hb dX1_actByDraw_79 rfl (lv_at hl 0 rfl) ?_
            refine lv_iconst (pc := 80) (v := 3) hx hb dX1_actByDraw_80 (by decide) ?_
            refine lv_iload_n (pc := 81) hx hb dX1_actByDraw_81 rfl (lv_at hl 1 rfl) ?_
            refine lv_iload_n (pc := 82) hx hb dX1_actByDraw_82 rfl (lv_at hl 3 rfl) ?_
            refine lv_bipush (pc := 83) (v := 8) hx hb dX1_actByDraw_83 (by decide) ?_
            refine cm_irem (pc := 85) hx hb dX1_actByDraw_85 (by decide) ?_
            obtain ⟨u86, hu86, hf⟩ := cm_bd hf
            refine cm_callV (pc := 86) (As := [.int 3, .int v1, .int (irm v3 8)]) (rest := []) (wr := []) (ci := 1) (q0 := 0) (n := 3) hx hb hml hown hts hK hP hD hS hA (c_X1_attempt l D cI cJ cZ a a_thinks a_sure a_coin a_far a_chalk bo 3 v1 (irm v3 8) u86 hu86) tw_402 tw_672 tw_400 tw_401 tw_46 rfl rfl (by decide +kernel) rfl ⟨Nat.le_of_ble_eq_true rfl, Nat.le_of_ble_eq_true rfl⟩ [0, 1, 2, 3, 4, 5] [] rfl (by decide) rfl (by decide) (by decide) rfl rfl rfl hl.1 rfl (Nat.le_of_ble_eq_true rfl) dX1_actByDraw_86 ⟨Nat.zero_le _, Nat.zero_le _⟩ (fun H locs hP hD hS => ?_)
            have hP : va_P D vwCl [(a, .inr (1, [.ref a_thinks, .ref a_sure, .ref a_coin, .ref a_far, .ref a_chalk, .int u86.2.2.2.2.2.2.1, .int u86.2.2.2.2.2.2.2.1, .int u86.2.2.2.2.2.2.2.2.1, .int u86.2.2.2.2.2.2.2.2.2])), cm_kI cI a_thinks 8 u86.2.1, cm_kI cI a_sure 8 u86.2.2.1, cm_kI cI a_coin 8 u86.2.2.2.1, cm_kI cI a_far 4 u86.2.2.2.2.1, cm_kI cI a_chalk 7 u86.2.2.2.2.2.1] H := hP
            have hD : va_D A [(a, .inr (1, [.ref a_thinks, .ref a_sure, .ref a_coin, .ref a_far, .ref a_chalk, .int u86.2.2.2.2.2.2.1, .int u86.2.2.2.2.2.2.2.1, .int u86.2.2.2.2.2.2.2.2.1, .int u86.2.2.2.2.2.2.2.2.2])), cm_kI cI a_thinks 8 u86.2.1, cm_kI cI a_sure 8 u86.2.2.1, cm_kI cI a_coin 8 u86.2.2.2.1, cm_kI cI a_far 4 u86.2.2.2.2.1, cm_kI cI a_chalk 7 u86.2.2.2.2.2.1] := hD
            refine W.eq (g2 := F0 m 89 ls [.int u86.1]) rfl ?_
            refine lv_pop (pc := 89) hx hb dX1_actByDraw_89 rfl ?_
            refine lv_goto (pc := 90) (tgt := 124) hx hb dX1_actByDraw_90 (by decide) ?_
            obtain rfl := Option.some.inj hf
            exact cm_vret (pc := 124) hAe hQ hx hb hr hlocks hP hD hS [0, 1, 2, 3, 4, 5] (by decide) rfl dX1_actByDraw_124
          · have hf := cm_in c_1_4 hf
            refine cm_em (v2 = 5) (fun c_1_5 => ?_) (fun c_1_5 => ?_)
            · have hf := cm_ip c_1_5 hf
              refine lv_tableIn (pc := 1) (off := 92) (tgt := 93) hx hb dX1_actByDraw_1 (by rw [c_1_5]; decide) (by rw [c_1_5]; decide) (by rw [c_1_5]; rfl) (by decide) ?_
              refine lv_aload_n (pc := 93) hx hb dX1_actByDraw_93 rfl (lv_at hl 0 rfl) ?_
              refine lv_iload_n (pc := 94) hx hb dX1_actByDraw_94 rfl (lv_at hl 3 rfl) ?_
              refine lv_iconst (pc := 95) (v := 2) hx hb dX1_actByDraw_95 (by decide) ?_
              refine cm_irem (pc := 96) hx hb dX1_actByDraw_96 (by decide) ?_
              obtain ⟨j97, hj97, hf⟩ := cm_lt hf
              have J97 : ∀ (H : Heap) (locs : List Loc) (ls : Array Slot), va_P D vwCl [(a, .inr (1, [.ref a_thinks, .ref a_sure, .ref a_coin, .ref a_far, .ref a_chalk, .int bo.2.2.2.2.2.1, .int bo.2.2.2.2.2.2.1, .int bo.2.2.2.2.2.2.2.1, .int bo.2.2.2.2.2.2.2.2])), cm_kI cI a_thinks 8 bo.1, cm_kI cI a_sure 8 bo.2.1, cm_kI cI a_coin 8 bo.2.2.1, cm_kI cI a_far 4 bo.2.2.2.1, cm_kI cI a_chalk 7 bo.2.2.2.2.1] H → va_D A [(a, .inr (1, [.ref a_thinks, .ref a_sure, .ref a_coin, .ref a_far, .ref a_chalk, .int bo.2.2.2.2.2.1, .int bo.2.2.2.2.2.2.1, .int bo.2.2.2.2.2.2.2.1, .int bo.2.2.2.2.2.2.2.2])), cm_kI cI a_thinks 8 bo.1, cm_kI cI a_sure 8 bo.2.1, cm_kI cI a_coin 8 bo.2.2.1, cm_kI cI a_far 4 bo.2.2.2.1, cm_kI cI a_chalk 7 bo.2.2.2.2.1] → va_S A s.heap H locs → lv_has ls 4 [(1, .int v1), (3, .int v3)] → W p l e rmX1_actByDraw s m args below meth c H locs 0 0 Q (F0 m 105 ls [.int j97, .ref a]) := by
                intro H locs ls hP hD hS hl
                refine lv_iload_n (pc := 105) hx hb dX1_actByDraw_105 rfl (lv_at hl 0 rfl) ?_
                refine lv_iload_n (pc := 106) hx hb dX1_actByDraw_106 rfl (lv_at hl 1 rfl) ?_
                refine lv_iconst (pc := 107) (v := 4) hx hb dX1_actByDraw_107 (by decide) ?_
                refine cm_irem (pc := 108) hx hb dX1_actByDraw_108 (by decide) ?_
                obtain ⟨u109, hu109, hf⟩ := cm_bd hf
                refine cm_callV (pc := 109) (As := [.int j97, .int v1, .int (irm v3 4)]) (rest := []) (wr := []) (ci := 1) (q0 := 0) (n := 3) hx hb hml hown hts hK hP hD hS hA (c_X1_attempt l D cI cJ cZ a a_thinks a_sure a_coin a_far a_chalk bo j97 v1 (irm v3 4) u109 hu109) tw_402 tw_672 tw_400 tw_401 tw_46 rfl rfl (by decide +kernel) rfl ⟨Nat.le_of_ble_eq_true rfl, Nat.le_of_ble_eq_true rfl⟩ [0, 1, 2, 3, 4, 5] [] rfl (by decide) rfl (by decide) (by decide) rfl rfl rfl hl.1 rfl (Nat.le_of_ble_eq_true rfl) dX1_actByDraw_109 ⟨Nat.zero_le _, Nat.zero_le _⟩ (fun H locs hP hD hS => ?_)
                have hP : va_P D vwCl [(a, .inr (1, [.ref a_thinks, .ref a_sure, .ref a_coin, .ref a_far, .ref a_chalk, .int u109.2.2.2.2.2.2.1, .int u109.2.2.2.2.2.2.2.1, .int u109.2.2.2.2.2.2.2.2.1, .int u109.2.2.2.2.2.2.2.2.2])), cm_kI cI a_thinks 8 u109.2.1, cm_kI cI a_sure 8 u109.2.2.1, cm_kI cI a_coin 8 u109.2.2.2.1, cm_kI cI a_far 4 u109.2.2.2.2.1, cm_kI cI a_chalk 7 u109.2.2.2.2.2.1] H := hP
                have hD : va_D A [(a, .inr (1, [.ref a_thinks, .ref a_sure, .ref a_coin, .ref a_far, .ref a_chalk, .int u109.2.2.2.2.2.2.1, .int u109.2.2.2.2.2.2.2.1, .int u109.2.2.2.2.2.2.2.2.1, .int u109.2.2.2.2.2.2.2.2.2])), cm_kI cI a_thinks 8 u109.2.1, cm_kI cI a_sure 8 u109.2.2.1, cm_kI cI a_coin 8 u109.2.2.2.1, cm_kI cI a_far 4 u109.2.2.2.2.1, cm_kI cI a_chalk 7 u109.2.2.2.2.2.1] := hD
                refine W.eq (g2 := F0 m 112 ls [.int u109.1]) rfl ?_
                refine lv_pop (pc := 112) hx hb dX1_actByDraw_112 rfl ?_
                refine lv_goto (pc := 113) (tgt := 124) hx hb dX1_actByDraw_113 (by decide) ?_
                obtain rfl := Option.some.inj hf
                exact cm_vret (pc := 124) hAe hQ hx hb hr hlocks hP hD hS [0, 1, 2, 3, 4, 5] (by decide) rfl dX1_actByDraw_124
              clear hf
              have hf := hj97
              refine lv_if_ne (pc := 97) (tgt := 104) hx hb dX1_actByDraw_97 (by decide) (fun c_97 => ?_) (fun c_97 => ?_)
              · have hf := cm_in c_97 hf
                refine lv_iconst (pc := 104) (v := 4) hx hb dX1_actByDraw_104 (by decide) ?_
                obtain rfl := hf
                exact J97 _ _ _ hP hD hS (lv_sub hl [1, 3] rfl)
              · have hf := cm_ip c_97 hf
                refine lv_iconst (pc := 100) (v := 1) hx hb dX1_actByDraw_100 (by decide) ?_
                refine lv_goto (pc := 101) (tgt := 105) hx hb dX1_actByDraw_101 (by decide) ?_
                obtain rfl := hf
                exact J97 _ _ _ hP hD hS (lv_sub hl [1, 3] rfl)
            · have hf := cm_in c_1_5 hf
              refine lv_tableOut (pc := 1) (tgt := 116) hx hb dX1_actByDraw_1 (by have h0 := cm_nt (z := 0) (by decide) c_1_0; have h1 := cm_nt (z := 1) (by decide) c_1_1; have h2 := cm_nt (z := 2) (by decide) c_1_2; have h3 := cm_nt (z := 3) (by decide) c_1_3; have h4 := cm_nt (z := 4) (by decide) c_1_4; have h5 := cm_nt (z := 5) (by decide) c_1_5; omega) (by decide) ?_
              refine lv_aload_n (pc := 116) hx hb dX1_actByDraw_116 rfl (lv_at hl 0 rfl) ?_
              refine lv_iconst (pc := 117) (v := 5) hx hb dX1_actByDraw_117 (by decide) ?_
              refine lv_iload_n (pc := 118) hx hb dX1_actByDraw_118 rfl (lv_at hl 1 rfl) ?_
              refine lv_iconst (pc := 119) (v := 0) hx hb dX1_actByDraw_119 (by decide) ?_
              obtain ⟨u120, hu120, hf⟩ := cm_bd hf
              refine cm_callV (pc := 120) (As := [.int 5, .int v1, .int 0]) (rest := []) (wr := []) (ci := 1) (q0 := 0) (n := 3) hx hb hml hown hts hK hP hD hS hA (c_X1_attempt l D cI cJ cZ a a_thinks a_sure a_coin a_far a_chalk bo 5 v1 0 u120 hu120) tw_402 tw_672 tw_400 tw_401 tw_46 rfl rfl (by decide +kernel) rfl ⟨Nat.le_of_ble_eq_true rfl, Nat.le_of_ble_eq_true rfl⟩ [0, 1, 2, 3, 4, 5] [] rfl (by decide) rfl (by decide) (by decide) rfl rfl rfl hl.1 rfl (Nat.le_of_ble_eq_true rfl) dX1_actByDraw_120 ⟨Nat.zero_le _, Nat.zero_le _⟩ (fun H locs hP hD hS => ?_)
              have hP : va_P D vwCl [(a, .inr (1, [.ref a_thinks, .ref a_sure, .ref a_coin, .ref a_far, .ref a_chalk, .int u120.2.2.2.2.2.2.1, .int u120.2.2.2.2.2.2.2.1, .int u120.2.2.2.2.2.2.2.2.1, .int u120.2.2.2.2.2.2.2.2.2])), cm_kI cI a_thinks 8 u120.2.1, cm_kI cI a_sure 8 u120.2.2.1, cm_kI cI a_coin 8 u120.2.2.2.1, cm_kI cI a_far 4 u120.2.2.2.2.1, cm_kI cI a_chalk 7 u120.2.2.2.2.2.1] H := hP
              have hD : va_D A [(a, .inr (1, [.ref a_thinks, .ref a_sure, .ref a_coin, .ref a_far, .ref a_chalk, .int u120.2.2.2.2.2.2.1, .int u120.2.2.2.2.2.2.2.1, .int u120.2.2.2.2.2.2.2.2.1, .int u120.2.2.2.2.2.2.2.2.2])), cm_kI cI a_thinks 8 u120.2.1, cm_kI cI a_sure 8 u120.2.2.1, cm_kI cI a_coin 8 u120.2.2.2.1, cm_kI cI a_far 4 u120.2.2.2.2.1, cm_kI cI a_chalk 7 u120.2.2.2.2.2.1] := hD
              refine W.eq (g2 := F0 m 123 ls [.int u120.1]) rfl ?_
              refine lv_pop (pc := 123) hx hb dX1_actByDraw_123 rfl ?_
              obtain rfl := Option.some.inj hf
              exact cm_vret (pc := 124) hAe hQ hx hb hr hlocks hP hD hS [0, 1, 2, 3, 4, 5] (by decide) rfl dX1_actByDraw_124
def fX1_liveByDraws_L5 (v2 : Int32) (kx : Int32 → Int32 → SBO → Option (SBO)) : Nat → Int32 → Int32 → SBO → Option (SBO)
  | 0, _, _, _ => none
  | n + 1, v3_5, v4_5, bo_5 => (if v2 ≤ v4_5 then kx v3_5 v4_5 bo_5 else Option.bind (fX1_actByDraw (irm (irm ((75 * v3_5) + 74) 65537) 8) (irm ((irm ((75 * v3_5) + 74) 65537) / 8) 8) ((irm ((75 * v3_5) + 74) 65537) / 64) bo_5) (fun u38 => fX1_liveByDraws_L5 v2 kx n (irm ((75 * v3_5) + 74) 65537) (v4_5 + 1) u38))
def fX1_liveByDraws (v1 : Int32) (v2 : Int32) (bo : SBO) : Option (SBO) := fX1_liveByDraws_L5 v2 (fun v3_5 v4_5 bo_5 => some bo_5) 5000 v1 0 bo
def rmX1_liveByDraws : Room := { frames := 5, cells := 0, slots := 0, locals := 110 }
set_option maxRecDepth 100000 in
set_option maxHeartbeats 4000000 in
theorem c_X1_liveByDraws (l : Launch) (D : va_G) (cI cJ cZ : ClassId) (a a_thinks a_sure a_coin a_far a_chalk : Nat) (bo : SBO) (v1 : Int32) (v2 : Int32) (res : SBO) (hf : fX1_liveByDraws v1 v2 bo = some res) : Ct l yX1_liveByDraws (cm_ws yX1_liveByDraws cX1_liveByDraws 5 none) rmX1_liveByDraws D (cm_T cI cJ cZ) [.ref a, .int v1, .int v2] [(a, .inr (1, [.ref a_thinks, .ref a_sure, .ref a_coin, .ref a_far, .ref a_chalk, .int bo.2.2.2.2.2.1, .int bo.2.2.2.2.2.2.1, .int bo.2.2.2.2.2.2.2.1, .int bo.2.2.2.2.2.2.2.2])), cm_kI cI a_thinks 8 bo.1, cm_kI cI a_sure 8 bo.2.1, cm_kI cI a_coin 8 bo.2.2.1, cm_kI cI a_far 4 bo.2.2.2.1, cm_kI cI a_chalk 7 bo.2.2.2.2.1] none [(a, .inr (1, [.ref a_thinks, .ref a_sure, .ref a_coin, .ref a_far, .ref a_chalk, .int res.2.2.2.2.2.1, .int res.2.2.2.2.2.2.1, .int res.2.2.2.2.2.2.2.1, .int res.2.2.2.2.2.2.2.2])), cm_kI cI a_thinks 8 res.1, cm_kI cI a_sure 8 res.2.1, cm_kI cI a_coin 8 res.2.2.1, cm_kI cI a_far 4 res.2.2.2.1, cm_kI cI a_chalk 7 res.2.2.2.2.1] := by
  refine Ct.of (cc := cX1_liveByDraws) (maxL := 5) (ret := none) (by decide) (Nat.le_of_ble_eq_true rfl) ?_
  intro p e s m below meth c ls args A Q hav hAe hQ hx hb hr hml hown hlocks hts hK hP hD hA hS hl
  have hKa := hK.1
  have hl : lv_has ls 5 [(0, .ref a), (1, .int v1), (2, .int v2)] := hl
  unfold fX1_liveByDraws at hf
  refine lv_iload_n (pc := 0) hx hb dX1_liveByDraws_0 rfl (lv_at hl 1 rfl) ?_
  refine lv_istore_n (pc := 1) (lv' := [(3, .int v1), (0, .ref a), (1, .int v1), (2, .int v2)]) hx hb dX1_liveByDraws_1 rfl hl (by decide) rfl (fun ls hl => ?_)
  refine lv_iconst (pc := 2) (v := 0) hx hb dX1_liveByDraws_2 (by decide) ?_
  refine lv_istore (pc := 3) (lv' := [(4, .int 0), (3, .int v1), (0, .ref a), (1, .int v1), (2, .int v2)]) hx hb dX1_liveByDraws_3 hl (by decide) rfl (fun ls hl => ?_)
  have L5 : ∀ (kx : Int32 → Int32 → SBO → Option (SBO)), (∀ (v3_5 : Int32) (v4_5 : Int32) (bo_5 : SBO) (H : Heap) (locs : List Loc) (ls : Array Slot), va_P D vwCl [(a, .inr (1, [.ref a_thinks, .ref a_sure, .ref a_coin, .ref a_far, .ref a_chalk, .int bo_5.2.2.2.2.2.1, .int bo_5.2.2.2.2.2.2.1, .int bo_5.2.2.2.2.2.2.2.1, .int bo_5.2.2.2.2.2.2.2.2])), cm_kI cI a_thinks 8 bo_5.1, cm_kI cI a_sure 8 bo_5.2.1, cm_kI cI a_coin 8 bo_5.2.2.1, cm_kI cI a_far 4 bo_5.2.2.2.1, cm_kI cI a_chalk 7 bo_5.2.2.2.2.1] H → va_D A [(a, .inr (1, [.ref a_thinks, .ref a_sure, .ref a_coin, .ref a_far, .ref a_chalk, .int bo_5.2.2.2.2.2.1, .int bo_5.2.2.2.2.2.2.1, .int bo_5.2.2.2.2.2.2.2.1, .int bo_5.2.2.2.2.2.2.2.2])), cm_kI cI a_thinks 8 bo_5.1, cm_kI cI a_sure 8 bo_5.2.1, cm_kI cI a_coin 8 bo_5.2.2.1, cm_kI cI a_far 4 bo_5.2.2.2.1, cm_kI cI a_chalk 7 bo_5.2.2.2.2.1] → va_S A s.heap H locs → lv_has ls 5 [] → kx v3_5 v4_5 bo_5 = some res → W p l e rmX1_liveByDraws s m args below meth c H locs 0 0 Q (F0 m 47 ls [])) → ∀ (n : Nat) (v3_5 : Int32) (v4_5 : Int32) (bo_5 : SBO) (H : Heap) (locs : List Loc) (ls : Array Slot), va_P D vwCl [(a, .inr (1, [.ref a_thinks, .ref a_sure, .ref a_coin, .ref a_far, .ref a_chalk, .int bo_5.2.2.2.2.2.1, .int bo_5.2.2.2.2.2.2.1, .int bo_5.2.2.2.2.2.2.2.1, .int bo_5.2.2.2.2.2.2.2.2])), cm_kI cI a_thinks 8 bo_5.1, cm_kI cI a_sure 8 bo_5.2.1, cm_kI cI a_coin 8 bo_5.2.2.1, cm_kI cI a_far 4 bo_5.2.2.2.1, cm_kI cI a_chalk 7 bo_5.2.2.2.2.1] H → va_D A [(a, .inr (1, [.ref a_thinks, .ref a_sure, .ref a_coin, .ref a_far, .ref a_chalk, .int bo_5.2.2.2.2.2.1, .int bo_5.2.2.2.2.2.2.1, .int bo_5.2.2.2.2.2.2.2.1, .int bo_5.2.2.2.2.2.2.2.2])), cm_kI cI a_thinks 8 bo_5.1, cm_kI cI a_sure 8 bo_5.2.1, cm_kI cI a_coin 8 bo_5.2.2.1, cm_kI cI a_far 4 bo_5.2.2.2.1, cm_kI cI a_chalk 7 bo_5.2.2.2.2.1] → va_S A s.heap H locs → lv_has ls 5 [(4, .int v4_5), (3, .int v3_5), (0, .ref a), (2, .int v2)] → fX1_liveByDraws_L5 v2 kx n v3_5 v4_5 bo_5 = some res → W p l e rmX1_liveByDraws s m args below meth c H locs 0 0 Q (F0 m 5 ls []) := by
    intro kx hkx n
    induction n with
    | zero => intro v3_5 v4_5 bo_5 H locs ls hP hD hS hl hf; cases hf
    | succ n ih =>
      intro v3_5 v4_5 bo_5 H locs ls hP hD hS hl hf
      rw [fX1_liveByDraws_L5] at hf
      refine lv_iload (pc := 5) hx hb dX1_liveByDraws_5 (lv_at hl 0 rfl) ?_
      refine lv_iload_n (pc := 7) hx hb dX1_liveByDraws_7 rfl (lv_at hl 3 rfl) ?_
      refine lv_icmp_ge (pc := 8) (tgt := 47) hx hb dX1_liveByDraws_8 (by decide) (fun c_8 => ?_) (fun c_8 => ?_)
      · have hf := cm_ip c_8 hf
        exact hkx v3_5 v4_5 bo_5 _ _ _ hP hD hS (lv_sub hl [] rfl) hf
      · have hf := cm_in c_8 hf
        refine lv_bipush (pc := 11) (v := 75) hx hb dX1_liveByDraws_11 (by decide) ?_
        refine lv_iload_n (pc := 13) hx hb dX1_liveByDraws_13 rfl (lv_at hl 1 rfl) ?_
        refine lv_imul (pc := 14) hx hb dX1_liveByDraws_14 ?_
        refine lv_bipush (pc := 15) (v := 74) hx hb dX1_liveByDraws_15 (by decide) ?_
        refine lv_iadd (pc := 17) hx hb dX1_liveByDraws_17 ?_
        refine lv_ldc (pc := 18) (v := 65537) hx hb hown (hts _ tw_667) dX1_liveByDraws_18 ?_
        refine cm_irem (pc := 20) hx hb dX1_liveByDraws_20 (by decide) ?_
        refine lv_istore_n (pc := 21) (lv' := [(3, .int (irm ((75 * v3_5) + 74) 65537)), (4, .int v4_5), (0, .ref a), (2, .int v2)]) hx hb dX1_liveByDraws_21 rfl hl (by decide) rfl (fun ls hl => ?_)
        refine lv_aload_n (pc := 22) hx hb dX1_liveByDraws_22 rfl (lv_at hl 2 rfl) ?_
        refine lv_iload_n (pc := 23) hx hb dX1_liveByDraws_23 rfl (lv_at hl 0 rfl) ?_
        refine lv_bipush (pc := 24) (v := 8) hx hb dX1_liveByDraws_24 (by decide) ?_
        refine cm_irem (pc := 26) hx hb dX1_liveByDraws_26 (by decide) ?_
        refine lv_iload_n (pc := 27) hx hb dX1_liveByDraws_27 rfl (lv_at hl 0 rfl) ?_
        refine lv_bipush (pc := 28) (v := 8) hx hb dX1_liveByDraws_28 (by decide) ?_
        refine lv_idiv (pc := 30) hx hb dX1_liveByDraws_30 (by decide) ?_
        refine lv_bipush (pc := 31) (v := 8) hx hb dX1_liveByDraws_31 (by decide) ?_
        refine cm_irem (pc := 33) hx hb dX1_liveByDraws_33 (by decide) ?_
        refine lv_iload_n (pc := 34) hx hb dX1_liveByDraws_34 rfl (lv_at hl 0 rfl) ?_
        refine lv_bipush (pc := 35) (v := 64) hx hb dX1_liveByDraws_35 (by decide) ?_
        refine lv_idiv (pc := 37) hx hb dX1_liveByDraws_37 (by decide) ?_
        obtain ⟨u38, hu38, hf⟩ := cm_bd hf
        refine cm_callV (pc := 38) (As := [.int (irm (irm ((75 * v3_5) + 74) 65537) 8), .int (irm ((irm ((75 * v3_5) + 74) 65537) / 8) 8), .int ((irm ((75 * v3_5) + 74) 65537) / 64)]) (rest := []) (wr := []) (ci := 1) (q0 := 0) (n := 3) hx hb hml hown hts hK hP hD hS hA (c_X1_actByDraw l D cI cJ cZ a a_thinks a_sure a_coin a_far a_chalk bo_5 (irm (irm ((75 * v3_5) + 74) 65537) 8) (irm ((irm ((75 * v3_5) + 74) 65537) / 8) 8) ((irm ((75 * v3_5) + 74) 65537) / 64) u38 hu38) tw_671 tw_668 tw_670 tw_25 tw_46 rfl rfl (by decide +kernel) rfl ⟨Nat.le_of_ble_eq_true rfl, Nat.le_of_ble_eq_true rfl⟩ [0, 1, 2, 3, 4, 5] [] rfl (by decide) rfl (by decide) (by decide) rfl rfl rfl hl.1 rfl (Nat.le_of_ble_eq_true rfl) dX1_liveByDraws_38 ⟨Nat.zero_le _, Nat.zero_le _⟩ (fun H locs hP hD hS => ?_)
        have hP : va_P D vwCl [(a, .inr (1, [.ref a_thinks, .ref a_sure, .ref a_coin, .ref a_far, .ref a_chalk, .int u38.2.2.2.2.2.1, .int u38.2.2.2.2.2.2.1, .int u38.2.2.2.2.2.2.2.1, .int u38.2.2.2.2.2.2.2.2])), cm_kI cI a_thinks 8 u38.1, cm_kI cI a_sure 8 u38.2.1, cm_kI cI a_coin 8 u38.2.2.1, cm_kI cI a_far 4 u38.2.2.2.1, cm_kI cI a_chalk 7 u38.2.2.2.2.1] H := hP
        have hD : va_D A [(a, .inr (1, [.ref a_thinks, .ref a_sure, .ref a_coin, .ref a_far, .ref a_chalk, .int u38.2.2.2.2.2.1, .int u38.2.2.2.2.2.2.1, .int u38.2.2.2.2.2.2.2.1, .int u38.2.2.2.2.2.2.2.2])), cm_kI cI a_thinks 8 u38.1, cm_kI cI a_sure 8 u38.2.1, cm_kI cI a_coin 8 u38.2.2.1, cm_kI cI a_far 4 u38.2.2.2.1, cm_kI cI a_chalk 7 u38.2.2.2.2.1] := hD
        refine W.eq (g2 := F0 m 41 ls []) rfl ?_
        refine lv_iinc (pc := 41) (v := (v4_5 + 1)) (lv' := [(4, .int (v4_5 + 1)), (3, .int (irm ((75 * v3_5) + 74) 65537)), (0, .ref a), (2, .int v2)]) hx hb dX1_liveByDraws_41 hl (k := 1) rfl rfl (by decide) rfl (fun ls hl => ?_)
        refine lv_goto (pc := 44) (tgt := 5) hx hb dX1_liveByDraws_44 (by decide) ?_
        exact ih (irm ((75 * v3_5) + 74) 65537) (v4_5 + 1) u38 _ _ _ hP hD hS (lv_sub hl [0, 1, 2, 3] rfl) hf
  refine L5 _ (fun v3_5 v4_5 bo_5 H locs ls hP hD hS hl hf => ?_) 5000 v1 0 bo _ _ _ hP hD hS (lv_sub hl [0, 1, 2, 4] rfl) hf
  obtain rfl := Option.some.inj hf
  exact cm_vret (pc := 47) hAe hQ hx hb hr hlocks hP hD hS [0, 1, 2, 3, 4, 5] (by decide) rfl dX1_liveByDraws_47
def fX10_year (v1 : Int32) (v2 : Int32) (v3 : Int32) (now_bo : SBO) (trial_borough_bo : SBO) : Option (Int32 × SBO) := cm_let (fX10_isWithin v1 0 9999) (fun u5 => (if u5 = 0 then some ((-2), trial_borough_bo) else cm_let (fX10_isWithin v2 1 99) (fun u15 => (if u15 = 0 then some ((-2), trial_borough_bo) else cm_let (fX10_isWithin v3 0 2) (fun u24 => (if u24 = 0 then some ((-2), trial_borough_bo) else Option.bind (fX1_copyFrom trial_borough_bo now_bo) (fun u48 => Option.bind (fX1_liveByDraws v1 v2 u48) (fun u55 => (if v3 = 0 then some ((u55.2.2.2.2.2.2.2.1 - now_bo.2.2.2.2.2.2.2.1), u55) else (if v3 = 1 then some ((u55.2.2.1 0), u55) else some ((u55.2.2.2.2.2.2.2.2 - now_bo.2.2.2.2.2.2.2.2), u55)))))))))))
def rmX10_year : Room := { frames := 6, cells := 0, slots := 0, locals := 134 }
set_option maxRecDepth 100000 in
set_option maxHeartbeats 4000000 in
theorem c_X10_year (l : Launch) (D : va_G) (cI cJ cZ : ClassId) (a a_now a_pad a_trial a_sights a_im0 a_im1 a_digits a_voters a_trades a_bells a_now_thinks a_now_sure a_now_coin a_now_far a_now_chalk a_trial_borough a_trial_reader a_trial_borough_thinks a_trial_borough_sure a_trial_borough_coin a_trial_borough_far a_trial_borough_chalk : Nat) (now_bo : SBO) (trial_tr : STR) (trial_borough_bo : SBO) (v1 : Int32) (v2 : Int32) (v3 : Int32) (res : Int32 × SBO) (hf : fX10_year v1 v2 v3 now_bo trial_borough_bo = some res) : Ct l yX10_year (cm_ws yX10_year cX10_year 5 (some .int)) rmX10_year D (cm_T cI cJ cZ) [.ref a, .int v1, .int v2, .int v3] [(a, .inr (10, [.ref a_now, .ref a_pad, .ref a_trial, .ref a_sights, .ref a_im0, .ref a_im1, .ref a_digits, .ref a_voters, .ref a_trades, .ref a_bells])), (a_now, .inr (1, [.ref a_now_thinks, .ref a_now_sure, .ref a_now_coin, .ref a_now_far, .ref a_now_chalk, .int now_bo.2.2.2.2.2.1, .int now_bo.2.2.2.2.2.2.1, .int now_bo.2.2.2.2.2.2.2.1, .int now_bo.2.2.2.2.2.2.2.2])), cm_kI cI a_now_thinks 8 now_bo.1, cm_kI cI a_now_sure 8 now_bo.2.1, cm_kI cI a_now_coin 8 now_bo.2.2.1, cm_kI cI a_now_far 4 now_bo.2.2.2.1, cm_kI cI a_now_chalk 7 now_bo.2.2.2.2.1, (a_trial, .inr (8, [.ref a_trial_borough, .ref a_trial_reader, .int trial_tr.1, .int trial_tr.2.1, .int trial_tr.2.2])), (a_trial_borough, .inr (1, [.ref a_trial_borough_thinks, .ref a_trial_borough_sure, .ref a_trial_borough_coin, .ref a_trial_borough_far, .ref a_trial_borough_chalk, .int trial_borough_bo.2.2.2.2.2.1, .int trial_borough_bo.2.2.2.2.2.2.1, .int trial_borough_bo.2.2.2.2.2.2.2.1, .int trial_borough_bo.2.2.2.2.2.2.2.2])), cm_kI cI a_trial_borough_thinks 8 trial_borough_bo.1, cm_kI cI a_trial_borough_sure 8 trial_borough_bo.2.1, cm_kI cI a_trial_borough_coin 8 trial_borough_bo.2.2.1, cm_kI cI a_trial_borough_far 4 trial_borough_bo.2.2.2.1, cm_kI cI a_trial_borough_chalk 7 trial_borough_bo.2.2.2.2.1] (some (.int res.1)) [(a, .inr (10, [.ref a_now, .ref a_pad, .ref a_trial, .ref a_sights, .ref a_im0, .ref a_im1, .ref a_digits, .ref a_voters, .ref a_trades, .ref a_bells])), (a_now, .inr (1, [.ref a_now_thinks, .ref a_now_sure, .ref a_now_coin, .ref a_now_far, .ref a_now_chalk, .int now_bo.2.2.2.2.2.1, .int now_bo.2.2.2.2.2.2.1, .int now_bo.2.2.2.2.2.2.2.1, .int now_bo.2.2.2.2.2.2.2.2])), cm_kI cI a_now_thinks 8 now_bo.1, cm_kI cI a_now_sure 8 now_bo.2.1, cm_kI cI a_now_coin 8 now_bo.2.2.1, cm_kI cI a_now_far 4 now_bo.2.2.2.1, cm_kI cI a_now_chalk 7 now_bo.2.2.2.2.1, (a_trial, .inr (8, [.ref a_trial_borough, .ref a_trial_reader, .int trial_tr.1, .int trial_tr.2.1, .int trial_tr.2.2])), (a_trial_borough, .inr (1, [.ref a_trial_borough_thinks, .ref a_trial_borough_sure, .ref a_trial_borough_coin, .ref a_trial_borough_far, .ref a_trial_borough_chalk, .int res.2.2.2.2.2.2.1, .int res.2.2.2.2.2.2.2.1, .int res.2.2.2.2.2.2.2.2.1, .int res.2.2.2.2.2.2.2.2.2])), cm_kI cI a_trial_borough_thinks 8 res.2.1, cm_kI cI a_trial_borough_sure 8 res.2.2.1, cm_kI cI a_trial_borough_coin 8 res.2.2.2.1, cm_kI cI a_trial_borough_far 4 res.2.2.2.2.1, cm_kI cI a_trial_borough_chalk 7 res.2.2.2.2.2.1] := by
  refine Ct.of (cc := cX10_year) (maxL := 5) (ret := (some .int)) (by decide) (Nat.le_of_ble_eq_true rfl) ?_
  intro p e s m below meth c ls args A Q hav hAe hQ hx hb hr hml hown hlocks hts hK hP hD hA hS hl
  have hKa := hK.1
  have hl : lv_has ls 5 [(0, .ref a), (1, .int v1), (2, .int v2), (3, .int v3)] := hl
  unfold fX10_year at hf
  refine lv_iload_n (pc := 0) hx hb dX10_year_0 rfl (lv_at hl 1 rfl) ?_
  refine lv_iconst (pc := 1) (v := 0) hx hb dX10_year_1 (by decide) ?_
  refine lv_sipush (pc := 2) (v := 9999) hx hb dX10_year_2 (by decide) ?_
  obtain ⟨u5, hu5, hf⟩ := cm_lt hf
  refine cm_callS (pc := 5) (As := [.int v1, .int 0, .int 9999]) (rest := []) (wr := [(a, .inr (10, [.ref a_now, .ref a_pad, .ref a_trial, .ref a_sights, .ref a_im0, .ref a_im1, .ref a_digits, .ref a_voters, .ref a_trades, .ref a_bells])), (a_now, .inr (1, [.ref a_now_thinks, .ref a_now_sure, .ref a_now_coin, .ref a_now_far, .ref a_now_chalk, .int now_bo.2.2.2.2.2.1, .int now_bo.2.2.2.2.2.2.1, .int now_bo.2.2.2.2.2.2.2.1, .int now_bo.2.2.2.2.2.2.2.2])), cm_kI cI a_now_thinks 8 now_bo.1, cm_kI cI a_now_sure 8 now_bo.2.1, cm_kI cI a_now_coin 8 now_bo.2.2.1, cm_kI cI a_now_far 4 now_bo.2.2.2.1, cm_kI cI a_now_chalk 7 now_bo.2.2.2.2.1, (a_trial, .inr (8, [.ref a_trial_borough, .ref a_trial_reader, .int trial_tr.1, .int trial_tr.2.1, .int trial_tr.2.2])), (a_trial_borough, .inr (1, [.ref a_trial_borough_thinks, .ref a_trial_borough_sure, .ref a_trial_borough_coin, .ref a_trial_borough_far, .ref a_trial_borough_chalk, .int trial_borough_bo.2.2.2.2.2.1, .int trial_borough_bo.2.2.2.2.2.2.1, .int trial_borough_bo.2.2.2.2.2.2.2.1, .int trial_borough_bo.2.2.2.2.2.2.2.2])), cm_kI cI a_trial_borough_thinks 8 trial_borough_bo.1, cm_kI cI a_trial_borough_sure 8 trial_borough_bo.2.1, cm_kI cI a_trial_borough_coin 8 trial_borough_bo.2.2.1, cm_kI cI a_trial_borough_far 4 trial_borough_bo.2.2.2.1, cm_kI cI a_trial_borough_chalk 7 trial_borough_bo.2.2.2.2.1]) (n := 3) hx hb hml hown hts hK hP hD hS hA (c_X10_isWithin l D cI cJ cZ v1 0 9999 u5 hu5) tw_312 tw_310 tw_311 tw_45 rfl rfl (by decide +kernel) rfl ⟨Nat.le_of_ble_eq_true rfl, Nat.le_of_ble_eq_true rfl⟩ [] [0, 1, 2, 3, 4, 5, 6, 7, 8, 9, 10, 11, 12, 13] rfl (by decide) rfl (by decide) (by decide) hl.1 rfl (Nat.le_of_ble_eq_true rfl) dX10_year_5 ⟨Nat.zero_le _, Nat.zero_le _⟩ (fun H locs hP hD hS => ?_)
  have hP : va_P D vwCl [(a, .inr (10, [.ref a_now, .ref a_pad, .ref a_trial, .ref a_sights, .ref a_im0, .ref a_im1, .ref a_digits, .ref a_voters, .ref a_trades, .ref a_bells])), (a_now, .inr (1, [.ref a_now_thinks, .ref a_now_sure, .ref a_now_coin, .ref a_now_far, .ref a_now_chalk, .int now_bo.2.2.2.2.2.1, .int now_bo.2.2.2.2.2.2.1, .int now_bo.2.2.2.2.2.2.2.1, .int now_bo.2.2.2.2.2.2.2.2])), cm_kI cI a_now_thinks 8 now_bo.1, cm_kI cI a_now_sure 8 now_bo.2.1, cm_kI cI a_now_coin 8 now_bo.2.2.1, cm_kI cI a_now_far 4 now_bo.2.2.2.1, cm_kI cI a_now_chalk 7 now_bo.2.2.2.2.1, (a_trial, .inr (8, [.ref a_trial_borough, .ref a_trial_reader, .int trial_tr.1, .int trial_tr.2.1, .int trial_tr.2.2])), (a_trial_borough, .inr (1, [.ref a_trial_borough_thinks, .ref a_trial_borough_sure, .ref a_trial_borough_coin, .ref a_trial_borough_far, .ref a_trial_borough_chalk, .int trial_borough_bo.2.2.2.2.2.1, .int trial_borough_bo.2.2.2.2.2.2.1, .int trial_borough_bo.2.2.2.2.2.2.2.1, .int trial_borough_bo.2.2.2.2.2.2.2.2])), cm_kI cI a_trial_borough_thinks 8 trial_borough_bo.1, cm_kI cI a_trial_borough_sure 8 trial_borough_bo.2.1, cm_kI cI a_trial_borough_coin 8 trial_borough_bo.2.2.1, cm_kI cI a_trial_borough_far 4 trial_borough_bo.2.2.2.1, cm_kI cI a_trial_borough_chalk 7 trial_borough_bo.2.2.2.2.1] H := hP
  have hD : va_D A [(a, .inr (10, [.ref a_now, .ref a_pad, .ref a_trial, .ref a_sights, .ref a_im0, .ref a_im1, .ref a_digits, .ref a_voters, .ref a_trades, .ref a_bells])), (a_now, .inr (1, [.ref a_now_thinks, .ref a_now_sure, .ref a_now_coin, .ref a_now_far, .ref a_now_chalk, .int now_bo.2.2.2.2.2.1, .int now_bo.2.2.2.2.2.2.1, .int now_bo.2.2.2.2.2.2.2.1, .int now_bo.2.2.2.2.2.2.2.2])), cm_kI cI a_now_thinks 8 now_bo.1, cm_kI cI a_now_sure 8 now_bo.2.1, cm_kI cI a_now_coin 8 now_bo.2.2.1, cm_kI cI a_now_far 4 now_bo.2.2.2.1, cm_kI cI a_now_chalk 7 now_bo.2.2.2.2.1, (a_trial, .inr (8, [.ref a_trial_borough, .ref a_trial_reader, .int trial_tr.1, .int trial_tr.2.1, .int trial_tr.2.2])), (a_trial_borough, .inr (1, [.ref a_trial_borough_thinks, .ref a_trial_borough_sure, .ref a_trial_borough_coin, .ref a_trial_borough_far, .ref a_trial_borough_chalk, .int trial_borough_bo.2.2.2.2.2.1, .int trial_borough_bo.2.2.2.2.2.2.1, .int trial_borough_bo.2.2.2.2.2.2.2.1, .int trial_borough_bo.2.2.2.2.2.2.2.2])), cm_kI cI a_trial_borough_thinks 8 trial_borough_bo.1, cm_kI cI a_trial_borough_sure 8 trial_borough_bo.2.1, cm_kI cI a_trial_borough_coin 8 trial_borough_bo.2.2.1, cm_kI cI a_trial_borough_far 4 trial_borough_bo.2.2.2.1, cm_kI cI a_trial_borough_chalk 7 trial_borough_bo.2.2.2.2.1] := hD
  refine W.eq (g2 := F0 m 8 ls [.int u5]) rfl ?_
  refine lv_if_eq (pc := 8) (tgt := 30) hx hb dX10_year_8 (by decide) (fun c_8 => ?_) (fun c_8 => ?_)
  · have hf := cm_ip c_8 hf
    refine lv_bipush (pc := 30) (v := (-2)) hx hb dX10_year_30 (by decide) ?_
    obtain rfl := Option.some.inj hf
    exact cm_iret (pc := 32) hAe hQ hx hb hr hlocks hP hD hS [0, 1, 2, 3, 4, 5, 6, 7, 8, 9, 10, 11, 12, 13] (by decide) rfl dX10_year_32
  · have hf := cm_in c_8 hf
    refine lv_iload_n (pc := 11) hx hb dX10_year_11 rfl (lv_at hl 2 rfl) ?_
    refine lv_iconst (pc := 12) (v := 1) hx hb dX10_year_12 (by decide) ?_
    refine lv_bipush (pc := 13) (v := 99) hx hb dX10_year_13 (by decide) ?_
    obtain ⟨u15, hu15, hf⟩ := cm_lt hf
    refine cm_callS (pc := 15) (As := [.int v2, .int 1, .int 99]) (rest := []) (wr := [(a, .inr (10, [.ref a_now, .ref a_pad, .ref a_trial, .ref a_sights, .ref a_im0, .ref a_im1, .ref a_digits, .ref a_voters, .ref a_trades, .ref a_bells])), (a_now, .inr (1, [.ref a_now_thinks, .ref a_now_sure, .ref a_now_coin, .ref a_now_far, .ref a_now_chalk, .int now_bo.2.2.2.2.2.1, .int now_bo.2.2.2.2.2.2.1, .int now_bo.2.2.2.2.2.2.2.1, .int now_bo.2.2.2.2.2.2.2.2])), cm_kI cI a_now_thinks 8 now_bo.1, cm_kI cI a_now_sure 8 now_bo.2.1, cm_kI cI a_now_coin 8 now_bo.2.2.1, cm_kI cI a_now_far 4 now_bo.2.2.2.1, cm_kI cI a_now_chalk 7 now_bo.2.2.2.2.1, (a_trial, .inr (8, [.ref a_trial_borough, .ref a_trial_reader, .int trial_tr.1, .int trial_tr.2.1, .int trial_tr.2.2])), (a_trial_borough, .inr (1, [.ref a_trial_borough_thinks, .ref a_trial_borough_sure, .ref a_trial_borough_coin, .ref a_trial_borough_far, .ref a_trial_borough_chalk, .int trial_borough_bo.2.2.2.2.2.1, .int trial_borough_bo.2.2.2.2.2.2.1, .int trial_borough_bo.2.2.2.2.2.2.2.1, .int trial_borough_bo.2.2.2.2.2.2.2.2])), cm_kI cI a_trial_borough_thinks 8 trial_borough_bo.1, cm_kI cI a_trial_borough_sure 8 trial_borough_bo.2.1, cm_kI cI a_trial_borough_coin 8 trial_borough_bo.2.2.1, cm_kI cI a_trial_borough_far 4 trial_borough_bo.2.2.2.1, cm_kI cI a_trial_borough_chalk 7 trial_borough_bo.2.2.2.2.1]) (n := 3) hx hb hml hown hts hK hP hD hS hA (c_X10_isWithin l D cI cJ cZ v2 1 99 u15 hu15) tw_312 tw_310 tw_311 tw_45 rfl rfl (by decide +kernel) rfl ⟨Nat.le_of_ble_eq_true rfl, Nat.le_of_ble_eq_true rfl⟩ [] [0, 1, 2, 3, 4, 5, 6, 7, 8, 9, 10, 11, 12, 13] rfl (by decide) rfl (by decide) (by decide) hl.1 rfl (Nat.le_of_ble_eq_true rfl) dX10_year_15 ⟨Nat.zero_le _, Nat.zero_le _⟩ (fun H locs hP hD hS => ?_)
    have hP : va_P D vwCl [(a, .inr (10, [.ref a_now, .ref a_pad, .ref a_trial, .ref a_sights, .ref a_im0, .ref a_im1, .ref a_digits, .ref a_voters, .ref a_trades, .ref a_bells])), (a_now, .inr (1, [.ref a_now_thinks, .ref a_now_sure, .ref a_now_coin, .ref a_now_far, .ref a_now_chalk, .int now_bo.2.2.2.2.2.1, .int now_bo.2.2.2.2.2.2.1, .int now_bo.2.2.2.2.2.2.2.1, .int now_bo.2.2.2.2.2.2.2.2])), cm_kI cI a_now_thinks 8 now_bo.1, cm_kI cI a_now_sure 8 now_bo.2.1, cm_kI cI a_now_coin 8 now_bo.2.2.1, cm_kI cI a_now_far 4 now_bo.2.2.2.1, cm_kI cI a_now_chalk 7 now_bo.2.2.2.2.1, (a_trial, .inr (8, [.ref a_trial_borough, .ref a_trial_reader, .int trial_tr.1, .int trial_tr.2.1, .int trial_tr.2.2])), (a_trial_borough, .inr (1, [.ref a_trial_borough_thinks, .ref a_trial_borough_sure, .ref a_trial_borough_coin, .ref a_trial_borough_far, .ref a_trial_borough_chalk, .int trial_borough_bo.2.2.2.2.2.1, .int trial_borough_bo.2.2.2.2.2.2.1, .int trial_borough_bo.2.2.2.2.2.2.2.1, .int trial_borough_bo.2.2.2.2.2.2.2.2])), cm_kI cI a_trial_borough_thinks 8 trial_borough_bo.1, cm_kI cI a_trial_borough_sure 8 trial_borough_bo.2.1, cm_kI cI a_trial_borough_coin 8 trial_borough_bo.2.2.1, cm_kI cI a_trial_borough_far 4 trial_borough_bo.2.2.2.1, cm_kI cI a_trial_borough_chalk 7 trial_borough_bo.2.2.2.2.1] H := hP
    have hD : va_D A [(a, .inr (10, [.ref a_now, .ref a_pad, .ref a_trial, .ref a_sights, .ref a_im0, .ref a_im1, .ref a_digits, .ref a_voters, .ref a_trades, .ref a_bells])), (a_now, .inr (1, [.ref a_now_thinks, .ref a_now_sure, .ref a_now_coin, .ref a_now_far, .ref a_now_chalk, .int now_bo.2.2.2.2.2.1, .int now_bo.2.2.2.2.2.2.1, .int now_bo.2.2.2.2.2.2.2.1, .int now_bo.2.2.2.2.2.2.2.2])), cm_kI cI a_now_thinks 8 now_bo.1, cm_kI cI a_now_sure 8 now_bo.2.1, cm_kI cI a_now_coin 8 now_bo.2.2.1, cm_kI cI a_now_far 4 now_bo.2.2.2.1, cm_kI cI a_now_chalk 7 now_bo.2.2.2.2.1, (a_trial, .inr (8, [.ref a_trial_borough, .ref a_trial_reader, .int trial_tr.1, .int trial_tr.2.1, .int trial_tr.2.2])), (a_trial_borough, .inr (1, [.ref a_trial_borough_thinks, .ref a_trial_borough_sure, .ref a_trial_borough_coin, .ref a_trial_borough_far, .ref a_trial_borough_chalk, .int trial_borough_bo.2.2.2.2.2.1, .int trial_borough_bo.2.2.2.2.2.2.1, .int trial_borough_bo.2.2.2.2.2.2.2.1, .int trial_borough_bo.2.2.2.2.2.2.2.2])), cm_kI cI a_trial_borough_thinks 8 trial_borough_bo.1, cm_kI cI a_trial_borough_sure 8 trial_borough_bo.2.1, cm_kI cI a_trial_borough_coin 8 trial_borough_bo.2.2.1, cm_kI cI a_trial_borough_far 4 trial_borough_bo.2.2.2.1, cm_kI cI a_trial_borough_chalk 7 trial_borough_bo.2.2.2.2.1] := hD
    refine W.eq (g2 := F0 m 18 ls [.int u15]) rfl ?_
    refine lv_if_eq (pc := 18) (tgt := 30) hx hb dX10_year_18 (by decide) (fun c_18 => ?_) (fun c_18 => ?_)
    · have hf := cm_ip c_18 hf
      refine lv_bipush (pc := 30) (v := (-2)) hx hb dX10_year_30 (by decide) ?_
      obtain rfl := Option.some.inj hf
      exact cm_iret (pc := 32) hAe hQ hx hb hr hlocks hP hD hS [0, 1, 2, 3, 4, 5, 6, 7, 8, 9, 10, 11, 12, 13] (by decide) rfl dX10_year_32
    · have hf := cm_in c_18 hf
      refine lv_iload_n (pc := 21) hx hb dX10_year_21 rfl (lv_at hl 3 rfl) ?_
      refine lv_iconst (pc := 22) (v := 0) hx hb dX10_year_22 (by decide) ?_
      refine lv_iconst (pc := 23) (v := 2) hx hb dX10_year_23 (by decide) ?_
      obtain ⟨u24, hu24, hf⟩ := cm_lt hf
      refine cm_callS (pc := 24) (As := [.int v3, .int 0, .int 2]) (rest := []) (wr := [(a, .inr (10, [.ref a_now, .ref a_pad, .ref a_trial, .ref a_sights, .ref a_im0, .ref a_im1, .ref a_digits, .ref a_voters, .ref a_trades, .ref a_bells])), (a_now, .inr (1, [.ref a_now_thinks, .ref a_now_sure, .ref a_now_coin, .ref a_now_far, .ref a_now_chalk, .int now_bo.2.2.2.2.2.1, .int now_bo.2.2.2.2.2.2.1, .int now_bo.2.2.2.2.2.2.2.1, .int now_bo.2.2.2.2.2.2.2.2])), cm_kI cI a_now_thinks 8 now_bo.1, cm_kI cI a_now_sure 8 now_bo.2.1, cm_kI cI a_now_coin 8 now_bo.2.2.1, cm_kI cI a_now_far 4 now_bo.2.2.2.1, cm_kI cI a_now_chalk 7 now_bo.2.2.2.2.1, (a_trial, .inr (8, [.ref a_trial_borough, .ref a_trial_reader, .int trial_tr.1, .int trial_tr.2.1, .int trial_tr.2.2])), (a_trial_borough, .inr (1, [.ref a_trial_borough_thinks, .ref a_trial_borough_sure, .ref a_trial_borough_coin, .ref a_trial_borough_far, .ref a_trial_borough_chalk, .int trial_borough_bo.2.2.2.2.2.1, .int trial_borough_bo.2.2.2.2.2.2.1, .int trial_borough_bo.2.2.2.2.2.2.2.1, .int trial_borough_bo.2.2.2.2.2.2.2.2])), cm_kI cI a_trial_borough_thinks 8 trial_borough_bo.1, cm_kI cI a_trial_borough_sure 8 trial_borough_bo.2.1, cm_kI cI a_trial_borough_coin 8 trial_borough_bo.2.2.1, cm_kI cI a_trial_borough_far 4 trial_borough_bo.2.2.2.1, cm_kI cI a_trial_borough_chalk 7 trial_borough_bo.2.2.2.2.1]) (n := 3) hx hb hml hown hts hK hP hD hS hA (c_X10_isWithin l D cI cJ cZ v3 0 2 u24 hu24) tw_312 tw_310 tw_311 tw_45 rfl rfl (by decide +kernel) rfl ⟨Nat.le_of_ble_eq_true rfl, Nat.le_of_ble_eq_true rfl⟩ [] [0, 1, 2, 3, 4, 5, 6, 7, 8, 9, 10, 11, 12, 13] rfl (by decide) rfl (by decide) (by decide) hl.1 rfl (Nat.le_of_ble_eq_true rfl) dX10_year_24 ⟨Nat.zero_le _, Nat.zero_le _⟩ (fun H locs hP hD hS => ?_)
      have hP : va_P D vwCl [(a, .inr (10, [.ref a_now, .ref a_pad, .ref a_trial, .ref a_sights, .ref a_im0, .ref a_im1, .ref a_digits, .ref a_voters, .ref a_trades, .ref a_bells])), (a_now, .inr (1, [.ref a_now_thinks, .ref a_now_sure, .ref a_now_coin, .ref a_now_far, .ref a_now_chalk, .int now_bo.2.2.2.2.2.1, .int now_bo.2.2.2.2.2.2.1, .int now_bo.2.2.2.2.2.2.2.1, .int now_bo.2.2.2.2.2.2.2.2])), cm_kI cI a_now_thinks 8 now_bo.1, cm_kI cI a_now_sure 8 now_bo.2.1, cm_kI cI a_now_coin 8 now_bo.2.2.1, cm_kI cI a_now_far 4 now_bo.2.2.2.1, cm_kI cI a_now_chalk 7 now_bo.2.2.2.2.1, (a_trial, .inr (8, [.ref a_trial_borough, .ref a_trial_reader, .int trial_tr.1, .int trial_tr.2.1, .int trial_tr.2.2])), (a_trial_borough, .inr (1, [.ref a_trial_borough_thinks, .ref a_trial_borough_sure, .ref a_trial_borough_coin, .ref a_trial_borough_far, .ref a_trial_borough_chalk, .int trial_borough_bo.2.2.2.2.2.1, .int trial_borough_bo.2.2.2.2.2.2.1, .int trial_borough_bo.2.2.2.2.2.2.2.1, .int trial_borough_bo.2.2.2.2.2.2.2.2])), cm_kI cI a_trial_borough_thinks 8 trial_borough_bo.1, cm_kI cI a_trial_borough_sure 8 trial_borough_bo.2.1, cm_kI cI a_trial_borough_coin 8 trial_borough_bo.2.2.1, cm_kI cI a_trial_borough_far 4 trial_borough_bo.2.2.2.1, cm_kI cI a_trial_borough_chalk 7 trial_borough_bo.2.2.2.2.1] H := hP
      have hD : va_D A [(a, .inr (10, [.ref a_now, .ref a_pad, .ref a_trial, .ref a_sights, .ref a_im0, .ref a_im1, .ref a_digits, .ref a_voters, .ref a_trades, .ref a_bells])), (a_now, .inr (1, [.ref a_now_thinks, .ref a_now_sure, .ref a_now_coin, .ref a_now_far, .ref a_now_chalk, .int now_bo.2.2.2.2.2.1, .int now_bo.2.2.2.2.2.2.1, .int now_bo.2.2.2.2.2.2.2.1, .int now_bo.2.2.2.2.2.2.2.2])), cm_kI cI a_now_thinks 8 now_bo.1, cm_kI cI a_now_sure 8 now_bo.2.1, cm_kI cI a_now_coin 8 now_bo.2.2.1, cm_kI cI a_now_far 4 now_bo.2.2.2.1, cm_kI cI a_now_chalk 7 now_bo.2.2.2.2.1, (a_trial, .inr (8, [.ref a_trial_borough, .ref a_trial_reader, .int trial_tr.1, .int trial_tr.2.1, .int trial_tr.2.2])), (a_trial_borough, .inr (1, [.ref a_trial_borough_thinks, .ref a_trial_borough_sure, .ref a_trial_borough_coin, .ref a_trial_borough_far, .ref a_trial_borough_chalk, .int trial_borough_bo.2.2.2.2.2.1, .int trial_borough_bo.2.2.2.2.2.2.1, .int trial_borough_bo.2.2.2.2.2.2.2.1, .int trial_borough_bo.2.2.2.2.2.2.2.2])), cm_kI cI a_trial_borough_thinks 8 trial_borough_bo.1, cm_kI cI a_trial_borough_sure 8 trial_borough_bo.2.1, cm_kI cI a_trial_borough_coin 8 trial_borough_bo.2.2.1, cm_kI cI a_trial_borough_far 4 trial_borough_bo.2.2.2.1, cm_kI cI a_trial_borough_chalk 7 trial_borough_bo.2.2.2.2.1] := hD
      refine W.eq (g2 := F0 m 27 ls [.int u24]) rfl ?_
      refine lv_if_ne (pc := 27) (tgt := 33) hx hb dX10_year_27 (by decide) (fun c_27 => ?_) (fun c_27 => ?_)
      · have hf := cm_in c_27 hf
        refine lv_aload_n (pc := 33) hx hb dX10_year_33 rfl (lv_at hl 0 rfl) ?_
        refine va_get (pc := 34) (D := D) (ci := 10) (v := .ref a_trial) (C := RX10) (T := TX10) (N := 10) hx hb hts in_X10 hown hKa hP 0 rfl rfl 2 (by decide) (hts _ tw_271) (fun _ h9 => h9) rfl dX10_year_34 ?_
        refine va_get (pc := 37) (D := D) (ci := 8) (v := .ref a_trial_borough) (C := RX8) (T := TX8) (N := 5) hx hb hts in_X8 hown hKa hP 7 rfl rfl 0 (by decide) (hts _ tw_161) (fun _ h9 => h9) rfl dX10_year_37 ?_
        refine lv_astore (pc := 40) (lv' := [(4, .ref a_trial_borough), (0, .ref a), (1, .int v1), (2, .int v2), (3, .int v3)]) hx hb dX10_year_40 hl (by decide) rfl (fun ls hl => ?_)
        refine lv_aload (pc := 42) hx hb dX10_year_42 (lv_at hl 0 rfl) ?_
        refine lv_aload_n (pc := 44) hx hb dX10_year_44 rfl (lv_at hl 1 rfl) ?_
        refine va_get (pc := 45) (D := D) (ci := 10) (v := .ref a_now) (C := RX10) (T := TX10) (N := 10) hx hb hts in_X10 hown hKa hP 0 rfl rfl 0 (by decide) (hts _ tw_269) (fun _ h9 => h9) rfl dX10_year_45 ?_
        obtain ⟨u48, hu48, hf⟩ := cm_bd hf
        refine cm_callV (pc := 48) (As := [.ref a_now]) (rest := []) (wr := [(a, .inr (10, [.ref a_now, .ref a_pad, .ref a_trial, .ref a_sights, .ref a_im0, .ref a_im1, .ref a_digits, .ref a_voters, .ref a_trades, .ref a_bells])), (a_trial, .inr (8, [.ref a_trial_borough, .ref a_trial_reader, .int trial_tr.1, .int trial_tr.2.1, .int trial_tr.2.2]))]) (ci := 1) (q0 := 8) (n := 1) hx hb hml hown hts hK hP hD hS hA (c_X1_copyFrom l D cI cJ cZ a_trial_borough a_trial_borough_thinks a_trial_borough_sure a_trial_borough_coin a_trial_borough_far a_trial_borough_chalk a_now a_now_thinks a_now_sure a_now_coin a_now_far a_now_chalk trial_borough_bo now_bo u48 hu48) tw_394 tw_459 tw_392 tw_393 tw_46 rfl rfl (by decide +kernel) rfl ⟨Nat.le_of_ble_eq_true rfl, Nat.le_of_ble_eq_true rfl⟩ [8, 9, 10, 11, 12, 13, 1, 2, 3, 4, 5, 6] [0, 7] rfl (by decide) rfl (by decide) (by decide) rfl rfl rfl hl.1 rfl (Nat.le_of_ble_eq_true rfl) dX10_year_48 ⟨Nat.zero_le _, Nat.zero_le _⟩ (fun H locs hP hD hS => ?_)
        have hP : va_P D vwCl [(a, .inr (10, [.ref a_now, .ref a_pad, .ref a_trial, .ref a_sights, .ref a_im0, .ref a_im1, .ref a_digits, .ref a_voters, .ref a_trades, .ref a_bells])), (a_trial, .inr (8, [.ref a_trial_borough, .ref a_trial_reader, .int trial_tr.1, .int trial_tr.2.1, .int trial_tr.2.2])), (a_trial_borough, .inr (1, [.ref a_trial_borough_thinks, .ref a_trial_borough_sure, .ref a_trial_borough_coin, .ref a_trial_borough_far, .ref a_trial_borough_chalk, .int u48.2.2.2.2.2.1, .int u48.2.2.2.2.2.2.1, .int u48.2.2.2.2.2.2.2.1, .int u48.2.2.2.2.2.2.2.2])), cm_kI cI a_trial_borough_thinks 8 u48.1, cm_kI cI a_trial_borough_sure 8 u48.2.1, cm_kI cI a_trial_borough_coin 8 u48.2.2.1, cm_kI cI a_trial_borough_far 4 u48.2.2.2.1, cm_kI cI a_trial_borough_chalk 7 u48.2.2.2.2.1, (a_now, .inr (1, [.ref a_now_thinks, .ref a_now_sure, .ref a_now_coin, .ref a_now_far, .ref a_now_chalk, .int now_bo.2.2.2.2.2.1, .int now_bo.2.2.2.2.2.2.1, .int now_bo.2.2.2.2.2.2.2.1, .int now_bo.2.2.2.2.2.2.2.2])), cm_kI cI a_now_thinks 8 now_bo.1, cm_kI cI a_now_sure 8 now_bo.2.1, cm_kI cI a_now_coin 8 now_bo.2.2.1, cm_kI cI a_now_far 4 now_bo.2.2.2.1, cm_kI cI a_now_chalk 7 now_bo.2.2.2.2.1] H := hP
        have hD : va_D A [(a, .inr (10, [.ref a_now, .ref a_pad, .ref a_trial, .ref a_sights, .ref a_im0, .ref a_im1, .ref a_digits, .ref a_voters, .ref a_trades, .ref a_bells])), (a_trial, .inr (8, [.ref a_trial_borough, .ref a_trial_reader, .int trial_tr.1, .int trial_tr.2.1, .int trial_tr.2.2])), (a_trial_borough, .inr (1, [.ref a_trial_borough_thinks, .ref a_trial_borough_sure, .ref a_trial_borough_coin, .ref a_trial_borough_far, .ref a_trial_borough_chalk, .int u48.2.2.2.2.2.1, .int u48.2.2.2.2.2.2.1, .int u48.2.2.2.2.2.2.2.1, .int u48.2.2.2.2.2.2.2.2])), cm_kI cI a_trial_borough_thinks 8 u48.1, cm_kI cI a_trial_borough_sure 8 u48.2.1, cm_kI cI a_trial_borough_coin 8 u48.2.2.1, cm_kI cI a_trial_borough_far 4 u48.2.2.2.1, cm_kI cI a_trial_borough_chalk 7 u48.2.2.2.2.1, (a_now, .inr (1, [.ref a_now_thinks, .ref a_now_sure, .ref a_now_coin, .ref a_now_far, .ref a_now_chalk, .int now_bo.2.2.2.2.2.1, .int now_bo.2.2.2.2.2.2.1, .int now_bo.2.2.2.2.2.2.2.1, .int now_bo.2.2.2.2.2.2.2.2])), cm_kI cI a_now_thinks 8 now_bo.1, cm_kI cI a_now_sure 8 now_bo.2.1, cm_kI cI a_now_coin 8 now_bo.2.2.1, cm_kI cI a_now_far 4 now_bo.2.2.2.1, cm_kI cI a_now_chalk 7 now_bo.2.2.2.2.1] := hD
        refine W.eq (g2 := F0 m 51 ls []) rfl ?_
        refine lv_aload (pc := 51) hx hb dX10_year_51 (lv_at hl 0 rfl) ?_
        refine lv_iload_n (pc := 53) hx hb dX10_year_53 rfl (lv_at hl 2 rfl) ?_
        refine lv_iload_n (pc := 54) hx hb dX10_year_54 rfl (lv_at hl 3 rfl) ?_
        obtain ⟨u55, hu55, hf⟩ := cm_bd hf
        refine cm_callV (pc := 55) (As := [.int v1, .int v2]) (rest := []) (wr := [(a, .inr (10, [.ref a_now, .ref a_pad, .ref a_trial, .ref a_sights, .ref a_im0, .ref a_im1, .ref a_digits, .ref a_voters, .ref a_trades, .ref a_bells])), (a_trial, .inr (8, [.ref a_trial_borough, .ref a_trial_reader, .int trial_tr.1, .int trial_tr.2.1, .int trial_tr.2.2])), (a_now, .inr (1, [.ref a_now_thinks, .ref a_now_sure, .ref a_now_coin, .ref a_now_far, .ref a_now_chalk, .int now_bo.2.2.2.2.2.1, .int now_bo.2.2.2.2.2.2.1, .int now_bo.2.2.2.2.2.2.2.1, .int now_bo.2.2.2.2.2.2.2.2])), cm_kI cI a_now_thinks 8 now_bo.1, cm_kI cI a_now_sure 8 now_bo.2.1, cm_kI cI a_now_coin 8 now_bo.2.2.1, cm_kI cI a_now_far 4 now_bo.2.2.2.1, cm_kI cI a_now_chalk 7 now_bo.2.2.2.2.1]) (ci := 1) (q0 := 2) (n := 2) hx hb hml hown hts hK hP hD hS hA (c_X1_liveByDraws l D cI cJ cZ a_trial_borough a_trial_borough_thinks a_trial_borough_sure a_trial_borough_coin a_trial_borough_far a_trial_borough_chalk u48 v1 v2 u55 hu55) tw_666 tw_663 tw_664 tw_665 tw_46 rfl rfl (by decide +kernel) rfl ⟨Nat.le_of_ble_eq_true rfl, Nat.le_of_ble_eq_true rfl⟩ [2, 3, 4, 5, 6, 7] [0, 1, 8, 9, 10, 11, 12, 13] rfl (by decide) rfl (by decide) (by decide) rfl rfl rfl hl.1 rfl (Nat.le_of_ble_eq_true rfl) dX10_year_55 ⟨Nat.zero_le _, Nat.zero_le _⟩ (fun H locs hP hD hS => ?_)
        have hP : va_P D vwCl [(a, .inr (10, [.ref a_now, .ref a_pad, .ref a_trial, .ref a_sights, .ref a_im0, .ref a_im1, .ref a_digits, .ref a_voters, .ref a_trades, .ref a_bells])), (a_trial, .inr (8, [.ref a_trial_borough, .ref a_trial_reader, .int trial_tr.1, .int trial_tr.2.1, .int trial_tr.2.2])), (a_now, .inr (1, [.ref a_now_thinks, .ref a_now_sure, .ref a_now_coin, .ref a_now_far, .ref a_now_chalk, .int now_bo.2.2.2.2.2.1, .int now_bo.2.2.2.2.2.2.1, .int now_bo.2.2.2.2.2.2.2.1, .int now_bo.2.2.2.2.2.2.2.2])), cm_kI cI a_now_thinks 8 now_bo.1, cm_kI cI a_now_sure 8 now_bo.2.1, cm_kI cI a_now_coin 8 now_bo.2.2.1, cm_kI cI a_now_far 4 now_bo.2.2.2.1, cm_kI cI a_now_chalk 7 now_bo.2.2.2.2.1, (a_trial_borough, .inr (1, [.ref a_trial_borough_thinks, .ref a_trial_borough_sure, .ref a_trial_borough_coin, .ref a_trial_borough_far, .ref a_trial_borough_chalk, .int u55.2.2.2.2.2.1, .int u55.2.2.2.2.2.2.1, .int u55.2.2.2.2.2.2.2.1, .int u55.2.2.2.2.2.2.2.2])), cm_kI cI a_trial_borough_thinks 8 u55.1, cm_kI cI a_trial_borough_sure 8 u55.2.1, cm_kI cI a_trial_borough_coin 8 u55.2.2.1, cm_kI cI a_trial_borough_far 4 u55.2.2.2.1, cm_kI cI a_trial_borough_chalk 7 u55.2.2.2.2.1] H := hP
        have hD : va_D A [(a, .inr (10, [.ref a_now, .ref a_pad, .ref a_trial, .ref a_sights, .ref a_im0, .ref a_im1, .ref a_digits, .ref a_voters, .ref a_trades, .ref a_bells])), (a_trial, .inr (8, [.ref a_trial_borough, .ref a_trial_reader, .int trial_tr.1, .int trial_tr.2.1, .int trial_tr.2.2])), (a_now, .inr (1, [.ref a_now_thinks, .ref a_now_sure, .ref a_now_coin, .ref a_now_far, .ref a_now_chalk, .int now_bo.2.2.2.2.2.1, .int now_bo.2.2.2.2.2.2.1, .int now_bo.2.2.2.2.2.2.2.1, .int now_bo.2.2.2.2.2.2.2.2])), cm_kI cI a_now_thinks 8 now_bo.1, cm_kI cI a_now_sure 8 now_bo.2.1, cm_kI cI a_now_coin 8 now_bo.2.2.1, cm_kI cI a_now_far 4 now_bo.2.2.2.1, cm_kI cI a_now_chalk 7 now_bo.2.2.2.2.1, (a_trial_borough, .inr (1, [.ref a_trial_borough_thinks, .ref a_trial_borough_sure, .ref a_trial_borough_coin, .ref a_trial_borough_far, .ref a_trial_borough_chalk, .int u55.2.2.2.2.2.1, .int u55.2.2.2.2.2.2.1, .int u55.2.2.2.2.2.2.2.1, .int u55.2.2.2.2.2.2.2.2])), cm_kI cI a_trial_borough_thinks 8 u55.1, cm_kI cI a_trial_borough_sure 8 u55.2.1, cm_kI cI a_trial_borough_coin 8 u55.2.2.1, cm_kI cI a_trial_borough_far 4 u55.2.2.2.1, cm_kI cI a_trial_borough_chalk 7 u55.2.2.2.2.1] := hD
        refine W.eq (g2 := F0 m 58 ls []) rfl ?_
        refine lv_iload_n (pc := 58) hx hb dX10_year_58 rfl (lv_at hl 4 rfl) ?_
        refine cm_em (v3 = 0) (fun c_59_0 => ?_) (fun c_59_0 => ?_)
        · have hf := cm_ip c_59_0 hf
          refine lv_lookup (pc := 59) (off := 25) (tgt := 84) hx hb dX10_year_59 (by decide) (by rw [c_59_0]; decide) (by decide) ?_
          refine lv_aload (pc := 84) hx hb dX10_year_84 (lv_at hl 0 rfl) ?_
          refine va_get (pc := 86) (D := D) (ci := 1) (v := .int u55.2.2.2.2.2.2.2.1) (C := RX1) (T := TX1) (N := 9) hx hb hts in_X1 hown hKa hP 8 rfl rfl 7 (by decide) (hts _ tw_86) (fun _ h9 => h9) rfl dX10_year_86 ?_
          refine lv_aload_n (pc := 89) hx hb dX10_year_89 rfl (lv_at hl 1 rfl) ?_
          refine va_get (pc := 90) (D := D) (ci := 10) (v := .ref a_now) (C := RX10) (T := TX10) (N := 10) hx hb hts in_X10 hown hKa hP 0 rfl rfl 0 (by decide) (hts _ tw_269) (fun _ h9 => h9) rfl dX10_year_90 ?_
          refine va_get (pc := 93) (D := D) (ci := 1) (v := .int now_bo.2.2.2.2.2.2.2.1) (C := RX1) (T := TX1) (N := 9) hx hb hts in_X1 hown hKa hP 2 rfl rfl 7 (by decide) (hts _ tw_86) (fun _ h9 => h9) rfl dX10_year_93 ?_
          refine lv_isub (pc := 96) hx hb dX10_year_96 ?_
          obtain rfl := Option.some.inj hf
          exact cm_iret (pc := 97) hAe hQ hx hb hr hlocks hP hD hS [0, 2, 3, 4, 5, 6, 7, 1, 8, 9, 10, 11, 12, 13] (by decide) rfl dX10_year_97
        · have hf := cm_in c_59_0 hf
          refine cm_em (v3 = 1) (fun c_59_1 => ?_) (fun c_59_1 => ?_)
          · have hf := cm_ip c_59_1 hf
            refine lv_lookup (pc := 59) (off := 39) (tgt := 98) hx hb dX10_year_59 (by decide) (by rw [c_59_1]; decide) (by decide) ?_
            refine lv_aload (pc := 98) hx hb dX10_year_98 (lv_at hl 0 rfl) ?_
            refine va_get (pc := 100) (D := D) (ci := 1) (v := .ref a_trial_borough_coin) (C := RX1) (T := TX1) (N := 9) hx hb hts in_X1 hown hKa hP 8 rfl rfl 2 (by decide) (hts _ tw_77) (fun _ h9 => h9) rfl dX10_year_100 ?_
            refine lv_iconst (pc := 103) (v := 0) hx hb dX10_year_103 (by decide) ?_
            refine cm_iald (pc := 104) hx hb hKa hP 11 0 rfl rfl 0 rfl (by decide) dX10_year_104 ?_
            obtain rfl := Option.some.inj hf
            exact cm_iret (pc := 105) hAe hQ hx hb hr hlocks hP hD hS [0, 2, 3, 4, 5, 6, 7, 1, 8, 9, 10, 11, 12, 13] (by decide) rfl dX10_year_105
          · have hf := cm_in c_59_1 hf
            refine lv_lookup (pc := 59) (off := 47) (tgt := 106) hx hb dX10_year_59 (by decide) (by have h0 := cm_nt (z := 0) (by decide) c_59_0; have h1 := cm_nt (z := 1) (by decide) c_59_1; simp [Op.lookupswitch.offset, Ne.symm h0, Ne.symm h1]) (by decide) ?_
            refine lv_aload (pc := 106) hx hb dX10_year_106 (lv_at hl 0 rfl) ?_
            refine va_get (pc := 108) (D := D) (ci := 1) (v := .int u55.2.2.2.2.2.2.2.2) (C := RX1) (T := TX1) (N := 9) hx hb hts in_X1 hown hKa hP 8 rfl rfl 8 (by decide) (hts _ tw_89) (fun _ h9 => h9) rfl dX10_year_108 ?_
            refine lv_aload_n (pc := 111) hx hb dX10_year_111 rfl (lv_at hl 1 rfl) ?_
            refine va_get (pc := 112) (D := D) (ci := 10) (v := .ref a_now) (C := RX10) (T := TX10) (N := 10) hx hb hts in_X10 hown hKa hP 0 rfl rfl 0 (by decide) (hts _ tw_269) (fun _ h9 => h9) rfl dX10_year_112 ?_
            refine va_get (pc := 115) (D := D) (ci := 1) (v := .int now_bo.2.2.2.2.2.2.2.2) (C := RX1) (T := TX1) (N := 9) hx hb hts in_X1 hown hKa hP 2 rfl rfl 8 (by decide) (hts _ tw_89) (fun _ h9 => h9) rfl dX10_year_115 ?_
            refine lv_isub (pc := 118) hx hb dX10_year_118 ?_
            obtain rfl := Option.some.inj hf
            exact cm_iret (pc := 119) hAe hQ hx hb hr hlocks hP hD hS [0, 2, 3, 4, 5, 6, 7, 1, 8, 9, 10, 11, 12, 13] (by decide) rfl dX10_year_119
      · have hf := cm_ip c_27 hf
        refine lv_bipush (pc := 30) (v := (-2)) hx hb dX10_year_30 (by decide) ?_
        obtain rfl := Option.some.inj hf
        exact cm_iret (pc := 32) hAe hQ hx hb hr hlocks hP hD hS [0, 1, 2, 3, 4, 5, 6, 7, 8, 9, 10, 11, 12, 13] (by decide) rfl dX10_year_32
def fX10_imageOf (v1 : Int32) (a_im0 : Nat) (a_im1 : Nat) : Nat := (if v1 = 0 then a_im0 else a_im1)
def rmX10_imageOf : Room := { frames := 0, cells := 0, slots := 0, locals := 0 }
set_option maxRecDepth 100000 in
set_option maxHeartbeats 4000000 in
theorem c_X10_imageOf (l : Launch) (D : va_G) (cI cJ cZ : ClassId) (a a_now a_pad a_trial a_sights a_im0 a_im1 a_digits a_voters a_trades a_bells : Nat) (v1 : Int32) (res : Nat) (hf : fX10_imageOf v1 a_im0 a_im1 = res) : Ct l yX10_imageOf (cm_ws yX10_imageOf cX10_imageOf 2 (some (.object "ChalkMarket$Image"))) rmX10_imageOf D (cm_T cI cJ cZ) [.ref a, .int v1] [(a, .inr (10, [.ref a_now, .ref a_pad, .ref a_trial, .ref a_sights, .ref a_im0, .ref a_im1, .ref a_digits, .ref a_voters, .ref a_trades, .ref a_bells]))] (some (.ref res)) [(a, .inr (10, [.ref a_now, .ref a_pad, .ref a_trial, .ref a_sights, .ref a_im0, .ref a_im1, .ref a_digits, .ref a_voters, .ref a_trades, .ref a_bells]))] := by
  refine Ct.of (cc := cX10_imageOf) (maxL := 2) (ret := (some (.object "ChalkMarket$Image"))) (by decide) (Nat.le_of_ble_eq_true rfl) ?_
  intro p e s m below meth c ls args A Q hav hAe hQ hx hb hr hml hown hlocks hts hK hP hD hA hS hl
  have hKa := hK.1
  have hl : lv_has ls 2 [(0, .ref a), (1, .int v1)] := hl
  unfold fX10_imageOf at hf
  refine lv_iload_n (pc := 0) hx hb dX10_imageOf_0 rfl (lv_at hl 1 rfl) ?_
  refine lv_if_ne (pc := 1) (tgt := 11) hx hb dX10_imageOf_1 (by decide) (fun c_1 => ?_) (fun c_1 => ?_)
  · have hf := cm_in c_1 hf
    refine lv_aload_n (pc := 11) hx hb dX10_imageOf_11 rfl (lv_at hl 0 rfl) ?_
    refine va_get (pc := 12) (D := D) (ci := 10) (v := .ref a_im1) (C := RX10) (T := TX10) (N := 10) hx hb hts in_X10 hown hKa hP 0 rfl rfl 5 (by decide) (hts _ tw_274) (fun _ h9 => h9) rfl dX10_imageOf_12 ?_
    obtain rfl := hf
    exact cm_aret (pc := 15) hAe hQ hx hb hr hlocks hP hD hS [0] (by decide) rfl dX10_imageOf_15
  · have hf := cm_ip c_1 hf
    refine lv_aload_n (pc := 4) hx hb dX10_imageOf_4 rfl (lv_at hl 0 rfl) ?_
    refine va_get (pc := 5) (D := D) (ci := 10) (v := .ref a_im0) (C := RX10) (T := TX10) (N := 10) hx hb hts in_X10 hown hKa hP 0 rfl rfl 4 (by decide) (hts _ tw_273) (fun _ h9 => h9) rfl dX10_imageOf_5 ?_
    refine lv_goto (pc := 8) (tgt := 15) hx hb dX10_imageOf_8 (by decide) ?_
    obtain rfl := hf
    exact cm_aret (pc := 15) hAe hQ hx hb hr hlocks hP hD hS [0] (by decide) rfl dX10_imageOf_15
def fX6_copyFrom_L2 (p1_si : SSI) (kx : Int32 → SSI → Option (SSI)) : Nat → Int32 → SSI → Option (SSI)
  | 0, _, _ => none
  | n + 1, v2_2, si_2 => (if 8 ≤ v2_2 then kx v2_2 si_2 else if v2_2 < 0 ∨ 8 ≤ v2_2.toNatClampNeg then none else if v2_2 < 0 ∨ 8 ≤ v2_2.toNatClampNeg then none else if v2_2 < 0 ∨ 8 ≤ v2_2.toNatClampNeg then none else if v2_2 < 0 ∨ 8 ≤ v2_2.toNatClampNeg then none else fX6_copyFrom_L2 p1_si kx n (v2_2 + 1) ((upd si_2.1 v2_2.toNatClampNeg (p1_si.1 v2_2.toNatClampNeg)), (upd si_2.2.1 v2_2.toNatClampNeg (p1_si.2.1 v2_2.toNatClampNeg)), si_2.2.2.1, si_2.2.2.2))
def fX6_copyFrom (si : SSI) (p1_si : SSI) : Option (SSI) := fX6_copyFrom_L2 p1_si (fun v2_2 si_2 => some (si_2.1, si_2.2.1, si_2.2.2.1, p1_si.2.2.2)) 5000 0 si
def rmX6_copyFrom : Room := { frames := 0, cells := 0, slots := 0, locals := 0 }
set_option maxRecDepth 100000 in
set_option maxHeartbeats 4000000 in
theorem c_X6_copyFrom (l : Launch) (D : va_G) (cI cJ cZ : ClassId) (a a_leads a_answers a_slatesByGap a_p1 a_p1_leads a_p1_answers a_p1_slatesByGap : Nat) (si : SSI) (p1_si : SSI) (res : SSI) (hf : fX6_copyFrom si p1_si = some res) : Ct l yX6_copyFrom (cm_ws yX6_copyFrom cX6_copyFrom 3 none) rmX6_copyFrom D (cm_T cI cJ cZ) [.ref a, .ref a_p1] [(a, .inr (6, [.ref a_leads, .ref a_answers, .ref a_slatesByGap, .int si.2.2.2])), cm_kI cI a_leads 8 si.1, cm_kI cI a_answers 8 si.2.1, cm_kI cI a_slatesByGap 17 si.2.2.1, (a_p1, .inr (6, [.ref a_p1_leads, .ref a_p1_answers, .ref a_p1_slatesByGap, .int p1_si.2.2.2])), cm_kI cI a_p1_leads 8 p1_si.1, cm_kI cI a_p1_answers 8 p1_si.2.1, cm_kI cI a_p1_slatesByGap 17 p1_si.2.2.1] none [(a, .inr (6, [.ref a_leads, .ref a_answers, .ref a_slatesByGap, .int res.2.2.2])), cm_kI cI a_leads 8 res.1, cm_kI cI a_answers 8 res.2.1, cm_kI cI a_slatesByGap 17 res.2.2.1, (a_p1, .inr (6, [.ref a_p1_leads, .ref a_p1_answers, .ref a_p1_slatesByGap, .int p1_si.2.2.2])), cm_kI cI a_p1_leads 8 p1_si.1, cm_kI cI a_p1_answers 8 p1_si.2.1, cm_kI cI a_p1_slatesByGap 17 p1_si.2.2.1] := by
  refine Ct.of (cc := cX6_copyFrom) (maxL := 3) (ret := none) (by decide) (Nat.le_of_ble_eq_true rfl) ?_
  intro p e s m below meth c ls args A Q hav hAe hQ hx hb hr hml hown hlocks hts hK hP hD hA hS hl
  have hKa := hK.1
  have hl : lv_has ls 3 [(0, .ref a), (1, .ref a_p1)] := hl
  unfold fX6_copyFrom at hf
  refine lv_iconst (pc := 0) (v := 0) hx hb dX6_copyFrom_0 (by decide) ?_
  refine lv_istore_n (pc := 1) (lv' := [(2, .int 0), (0, .ref a), (1, .ref a_p1)]) hx hb dX6_copyFrom_1 rfl hl (by decide) rfl (fun ls hl => ?_)
  have L2 : ∀ (kx : Int32 → SSI → Option (SSI)), (∀ (v2_2 : Int32) (si_2 : SSI) (H : Heap) (locs : List Loc) (ls : Array Slot), va_P D vwCl [(a, .inr (6, [.ref a_leads, .ref a_answers, .ref a_slatesByGap, .int si_2.2.2.2])), cm_kI cI a_leads 8 si_2.1, cm_kI cI a_answers 8 si_2.2.1, cm_kI cI a_slatesByGap 17 si_2.2.2.1, (a_p1, .inr (6, [.ref a_p1_leads, .ref a_p1_answers, .ref a_p1_slatesByGap, .int p1_si.2.2.2])), cm_kI cI a_p1_leads 8 p1_si.1, cm_kI cI a_p1_answers 8 p1_si.2.1, cm_kI cI a_p1_slatesByGap 17 p1_si.2.2.1] H → va_D A [(a, .inr (6, [.ref a_leads, .ref a_answers, .ref a_slatesByGap, .int si_2.2.2.2])), cm_kI cI a_leads 8 si_2.1, cm_kI cI a_answers 8 si_2.2.1, cm_kI cI a_slatesByGap 17 si_2.2.2.1, (a_p1, .inr (6, [.ref a_p1_leads, .ref a_p1_answers, .ref a_p1_slatesByGap, .int p1_si.2.2.2])), cm_kI cI a_p1_leads 8 p1_si.1, cm_kI cI a_p1_answers 8 p1_si.2.1, cm_kI cI a_p1_slatesByGap 17 p1_si.2.2.1] → va_S A s.heap H locs → lv_has ls 3 [(0, .ref a), (1, .ref a_p1)] → kx v2_2 si_2 = some res → W p l e rmX6_copyFrom s m args below meth c H locs 0 0 Q (F0 m 38 ls [])) → ∀ (n : Nat) (v2_2 : Int32) (si_2 : SSI) (H : Heap) (locs : List Loc) (ls : Array Slot), va_P D vwCl [(a, .inr (6, [.ref a_leads, .ref a_answers, .ref a_slatesByGap, .int si_2.2.2.2])), cm_kI cI a_leads 8 si_2.1, cm_kI cI a_answers 8 si_2.2.1, cm_kI cI a_slatesByGap 17 si_2.2.2.1, (a_p1, .inr (6, [.ref a_p1_leads, .ref a_p1_answers, .ref a_p1_slatesByGap, .int p1_si.2.2.2])), cm_kI cI a_p1_leads 8 p1_si.1, cm_kI cI a_p1_answers 8 p1_si.2.1, cm_kI cI a_p1_slatesByGap 17 p1_si.2.2.1] H → va_D A [(a, .inr (6, [.ref a_leads, .ref a_answers, .ref a_slatesByGap, .int si_2.2.2.2])), cm_kI cI a_leads 8 si_2.1, cm_kI cI a_answers 8 si_2.2.1, cm_kI cI a_slatesByGap 17 si_2.2.2.1, (a_p1, .inr (6, [.ref a_p1_leads, .ref a_p1_answers, .ref a_p1_slatesByGap, .int p1_si.2.2.2])), cm_kI cI a_p1_leads 8 p1_si.1, cm_kI cI a_p1_answers 8 p1_si.2.1, cm_kI cI a_p1_slatesByGap 17 p1_si.2.2.1] → va_S A s.heap H locs → lv_has ls 3 [(2, .int v2_2), (0, .ref a), (1, .ref a_p1)] → fX6_copyFrom_L2 p1_si kx n v2_2 si_2 = some res → W p l e rmX6_copyFrom s m args below meth c H locs 0 0 Q (F0 m 2 ls []) := by
    intro kx hkx n
    induction n with
    | zero => intro v2_2 si_2 H locs ls hP hD hS hl hf; cases hf
    | succ n ih =>
      intro v2_2 si_2 H locs ls hP hD hS hl hf
      rw [fX6_copyFrom_L2] at hf
      refine lv_iload_n (pc := 2) hx hb dX6_copyFrom_2 rfl (lv_at hl 0 rfl) ?_
      refine lv_bipush (pc := 3) (v := 8) hx hb dX6_copyFrom_3 (by decide) ?_
      refine lv_icmp_ge (pc := 5) (tgt := 38) hx hb dX6_copyFrom_5 (by decide) (fun c_5 => ?_) (fun c_5 => ?_)
      · have hf := cm_ip c_5 hf
        exact hkx v2_2 si_2 _ _ _ hP hD hS (lv_sub hl [1, 2] rfl) hf
      · have hf := cm_in c_5 hf
        refine lv_aload_n (pc := 8) hx hb dX6_copyFrom_8 rfl (lv_at hl 1 rfl) ?_
        refine va_get (pc := 9) (D := D) (ci := 6) (v := .ref a_leads) (C := RX6) (T := TX6) (N := 4) hx hb hts in_X6 hown hKa hP 0 rfl rfl 0 (by decide) (hts _ tw_186) (fun _ h9 => h9) rfl dX6_copyFrom_9 ?_
        refine lv_iload_n (pc := 12) hx hb dX6_copyFrom_12 rfl (lv_at hl 0 rfl) ?_
        refine lv_aload_n (pc := 13) hx hb dX6_copyFrom_13 rfl (lv_at hl 2 rfl) ?_
        refine va_get (pc := 14) (D := D) (ci := 6) (v := .ref a_p1_leads) (C := RX6) (T := TX6) (N := 4) hx hb hts in_X6 hown hKa hP 4 rfl rfl 0 (by decide) (hts _ tw_186) (fun _ h9 => h9) rfl dX6_copyFrom_14 ?_
        refine lv_iload_n (pc := 17) hx hb dX6_copyFrom_17 rfl (lv_at hl 0 rfl) ?_
        obtain ⟨b_18, hf⟩ := cm_ob hf
        refine va_iald (pc := 18) hx hb hKa hP 5 0 rfl rfl b_18 dX6_copyFrom_18 ?_
        obtain ⟨b_19, hf⟩ := cm_ob hf
        refine va_iast (pc := 19) hx hb hKa hP hD hS 1 0 rfl rfl b_19 dX6_copyFrom_19 (fun H locs hP hD hS => ?_)
        have hP : va_P D vwCl [(a, .inr (6, [.ref a_leads, .ref a_answers, .ref a_slatesByGap, .int si_2.2.2.2])), cm_kI cI a_leads 8 (upd si_2.1 v2_2.toNatClampNeg (p1_si.1 v2_2.toNatClampNeg)), cm_kI cI a_answers 8 si_2.2.1, cm_kI cI a_slatesByGap 17 si_2.2.2.1, (a_p1, .inr (6, [.ref a_p1_leads, .ref a_p1_answers, .ref a_p1_slatesByGap, .int p1_si.2.2.2])), cm_kI cI a_p1_leads 8 p1_si.1, cm_kI cI a_p1_answers 8 p1_si.2.1, cm_kI cI a_p1_slatesByGap 17 p1_si.2.2.1] H := hP
        have hD : va_D A [(a, .inr (6, [.ref a_leads, .ref a_answers, .ref a_slatesByGap, .int si_2.2.2.2])), cm_kI cI a_leads 8 (upd si_2.1 v2_2.toNatClampNeg (p1_si.1 v2_2.toNatClampNeg)), cm_kI cI a_answers 8 si_2.2.1, cm_kI cI a_slatesByGap 17 si_2.2.2.1, (a_p1, .inr (6, [.ref a_p1_leads, .ref a_p1_answers, .ref a_p1_slatesByGap, .int p1_si.2.2.2])), cm_kI cI a_p1_leads 8 p1_si.1, cm_kI cI a_p1_answers 8 p1_si.2.1, cm_kI cI a_p1_slatesByGap 17 p1_si.2.2.1] := hD
        refine lv_aload_n (pc := 20) hx hb dX6_copyFrom_20 rfl (lv_at hl 1 rfl) ?_
        refine va_get (pc := 21) (D := D) (ci := 6) (v := .ref a_answers) (C := RX6) (T := TX6) (N := 4) hx hb hts in_X6 hown hKa hP 0 rfl rfl 1 (by decide) (hts _ tw_187) (fun _ h9 => h9) rfl dX6_copyFrom_21 ?_
        refine lv_iload_n (pc := 24) hx hb dX6_copyFrom_24 rfl (lv_at hl 0 rfl) ?_
        refine lv_aload_n (pc := 25) hx hb dX6_copyFrom_25 rfl (lv_at hl 2 rfl) ?_
        refine va_get (pc := 26) (D := D) (ci := 6) (v := .ref a_p1_answers) (C := RX6) (T := TX6) (N := 4) hx hb hts in_X6 hown hKa hP 4 rfl rfl 1 (by decide) (hts _ tw_187) (fun _ h9 => h9) rfl dX6_copyFrom_26 ?_
        refine lv_iload_n (pc := 29) hx hb dX6_copyFrom_29 rfl (lv_at hl 0 rfl) ?_
        obtain ⟨b_30, hf⟩ := cm_ob hf
        refine va_iald (pc := 30) hx hb hKa hP 6 0 rfl rfl b_30 dX6_copyFrom_30 ?_
        obtain ⟨b_31, hf⟩ := cm_ob hf
        refine va_iast (pc := 31) hx hb hKa hP hD hS 2 0 rfl rfl b_31 dX6_copyFrom_31 (fun H locs hP hD hS => ?_)
        have hP : va_P D vwCl [(a, .inr (6, [.ref a_leads, .ref a_answers, .ref a_slatesByGap, .int si_2.2.2.2])), cm_kI cI a_leads 8 (upd si_2.1 v2_2.toNatClampNeg (p1_si.1 v2_2.toNatClampNeg)), cm_kI cI a_answers 8 (upd si_2.2.1 v2_2.toNatClampNeg (p1_si.2.1 v2_2.toNatClampNeg)), cm_kI cI a_slatesByGap 17 si_2.2.2.1, (a_p1, .inr (6, [.ref a_p1_leads, .ref a_p1_answers, .ref a_p1_slatesByGap, .int p1_si.2.2.2])), cm_kI cI a_p1_leads 8 p1_si.1, cm_kI cI a_p1_answers 8 p1_si.2.1, cm_kI cI a_p1_slatesByGap 17 p1_si.2.2.1] H := hP
        have hD : va_D A [(a, .inr (6, [.ref a_leads, .ref a_answers, .ref a_slatesByGap, .int si_2.2.2.2])), cm_kI cI a_leads 8 (upd si_2.1 v2_2.toNatClampNeg (p1_si.1 v2_2.toNatClampNeg)), cm_kI cI a_answers 8 (upd si_2.2.1 v2_2.toNatClampNeg (p1_si.2.1 v2_2.toNatClampNeg)), cm_kI cI a_slatesByGap 17 si_2.2.2.1, (a_p1, .inr (6, [.ref a_p1_leads, .ref a_p1_answers, .ref a_p1_slatesByGap, .int p1_si.2.2.2])), cm_kI cI a_p1_leads 8 p1_si.1, cm_kI cI a_p1_answers 8 p1_si.2.1, cm_kI cI a_p1_slatesByGap 17 p1_si.2.2.1] := hD
        refine lv_iinc (pc := 32) (v := (v2_2 + 1)) (lv' := [(2, .int (v2_2 + 1)), (0, .ref a), (1, .ref a_p1)]) hx hb dX6_copyFrom_32 hl (k := 0) rfl rfl (by decide) rfl (fun ls hl => ?_)
        refine lv_goto (pc := 35) (tgt := 2) hx hb dX6_copyFrom_35 (by decide) ?_
        exact ih (v2_2 + 1) ((upd si_2.1 v2_2.toNatClampNeg (p1_si.1 v2_2.toNatClampNeg)), (upd si_2.2.1 v2_2.toNatClampNeg (p1_si.2.1 v2_2.toNatClampNeg)), si_2.2.2.1, si_2.2.2.2) _ _ _ hP hD hS (lv_sub hl [0, 1, 2] rfl) hf
  refine L2 _ (fun v2_2 si_2 H locs ls hP hD hS hl hf => ?_) 5000 0 si _ _ _ hP hD hS (lv_sub hl [0, 1, 2] rfl) hf
  refine lv_aload_n (pc := 38) hx hb dX6_copyFrom_38 rfl (lv_at hl 0 rfl) ?_
  refine lv_aload_n (pc := 39) hx hb dX6_copyFrom_39 rfl (lv_at hl 1 rfl) ?_
  refine va_get (pc := 40) (D := D) (ci := 6) (v := .int p1_si.2.2.2) (C := RX6) (T := TX6) (N := 4) hx hb hts in_X6 hown hKa hP 4 rfl rfl 3 (by decide) (hts _ tw_189) (fun _ h9 => h9) rfl dX6_copyFrom_40 ?_
  refine va_put (pc := 43) (D := D) (ci := 6) (v := .int p1_si.2.2.2) (ty := .int) (C := RX6) (T := TX6) (N := 4) hx hb hts in_X6 tyX6 tyX6_ok nmX6 hown hKa hP hD hS 0 rfl rfl 3 (by decide) (hts _ tw_189) (fun _ h9 => h9) rfl (by decide +kernel) rfl rfl (Nat.le_of_ble_eq_true rfl) dX6_copyFrom_43 (fun H locs hP hD hS => ?_)
  have hP : va_P D vwCl [(a, .inr (6, [.ref a_leads, .ref a_answers, .ref a_slatesByGap, .int p1_si.2.2.2])), cm_kI cI a_leads 8 si_2.1, cm_kI cI a_answers 8 si_2.2.1, cm_kI cI a_slatesByGap 17 si_2.2.2.1, (a_p1, .inr (6, [.ref a_p1_leads, .ref a_p1_answers, .ref a_p1_slatesByGap, .int p1_si.2.2.2])), cm_kI cI a_p1_leads 8 p1_si.1, cm_kI cI a_p1_answers 8 p1_si.2.1, cm_kI cI a_p1_slatesByGap 17 p1_si.2.2.1] H := hP
  have hD : va_D A [(a, .inr (6, [.ref a_leads, .ref a_answers, .ref a_slatesByGap, .int p1_si.2.2.2])), cm_kI cI a_leads 8 si_2.1, cm_kI cI a_answers 8 si_2.2.1, cm_kI cI a_slatesByGap 17 si_2.2.2.1, (a_p1, .inr (6, [.ref a_p1_leads, .ref a_p1_answers, .ref a_p1_slatesByGap, .int p1_si.2.2.2])), cm_kI cI a_p1_leads 8 p1_si.1, cm_kI cI a_p1_answers 8 p1_si.2.1, cm_kI cI a_p1_slatesByGap 17 p1_si.2.2.1] := hD
  obtain rfl := Option.some.inj hf
  exact cm_vret (pc := 46) hAe hQ hx hb hr hlocks hP hD hS [0, 1, 2, 3, 4, 5, 6, 7] (by decide) rfl dX6_copyFrom_46
def fX2_keep (ik : Int32) (borough_bo : SBO) (sights_si : SSI) (p1_bo : SBO) (p2_si : SSI) : Option (Int32 × SBO × SSI) := Option.bind (fX1_copyFrom borough_bo p1_bo) (fun u5 => Option.bind (fX6_copyFrom sights_si p2_si) (fun u13 => some (1, u5, u13)))
def rmX2_keep : Room := { frames := 1, cells := 0, slots := 0, locals := 22 }
set_option maxRecDepth 100000 in
set_option maxHeartbeats 4000000 in
theorem c_X2_keep (l : Launch) (D : va_G) (cI cJ cZ : ClassId) (a a_borough a_sights a_borough_thinks a_borough_sure a_borough_coin a_borough_far a_borough_chalk a_sights_leads a_sights_answers a_sights_slatesByGap a_p1 a_p1_thinks a_p1_sure a_p1_coin a_p1_far a_p1_chalk a_p2 a_p2_leads a_p2_answers a_p2_slatesByGap : Nat) (ik : Int32) (borough_bo : SBO) (sights_si : SSI) (p1_bo : SBO) (p2_si : SSI) (res : Int32 × SBO × SSI) (hf : fX2_keep ik borough_bo sights_si p1_bo p2_si = some res) : Ct l yX2_keep (cm_ws yX2_keep cX2_keep 3 none) rmX2_keep D (cm_T cI cJ cZ) [.ref a, .ref a_p1, .ref a_p2] [(a, .inr (2, [.ref a_borough, .ref a_sights, .int ik])), (a_borough, .inr (1, [.ref a_borough_thinks, .ref a_borough_sure, .ref a_borough_coin, .ref a_borough_far, .ref a_borough_chalk, .int borough_bo.2.2.2.2.2.1, .int borough_bo.2.2.2.2.2.2.1, .int borough_bo.2.2.2.2.2.2.2.1, .int borough_bo.2.2.2.2.2.2.2.2])), cm_kI cI a_borough_thinks 8 borough_bo.1, cm_kI cI a_borough_sure 8 borough_bo.2.1, cm_kI cI a_borough_coin 8 borough_bo.2.2.1, cm_kI cI a_borough_far 4 borough_bo.2.2.2.1, cm_kI cI a_borough_chalk 7 borough_bo.2.2.2.2.1, (a_sights, .inr (6, [.ref a_sights_leads, .ref a_sights_answers, .ref a_sights_slatesByGap, .int sights_si.2.2.2])), cm_kI cI a_sights_leads 8 sights_si.1, cm_kI cI a_sights_answers 8 sights_si.2.1, cm_kI cI a_sights_slatesByGap 17 sights_si.2.2.1, (a_p1, .inr (1, [.ref a_p1_thinks, .ref a_p1_sure, .ref a_p1_coin, .ref a_p1_far, .ref a_p1_chalk, .int p1_bo.2.2.2.2.2.1, .int p1_bo.2.2.2.2.2.2.1, .int p1_bo.2.2.2.2.2.2.2.1, .int p1_bo.2.2.2.2.2.2.2.2])), cm_kI cI a_p1_thinks 8 p1_bo.1, cm_kI cI a_p1_sure 8 p1_bo.2.1, cm_kI cI a_p1_coin 8 p1_bo.2.2.1, cm_kI cI a_p1_far 4 p1_bo.2.2.2.1, cm_kI cI a_p1_chalk 7 p1_bo.2.2.2.2.1, (a_p2, .inr (6, [.ref a_p2_leads, .ref a_p2_answers, .ref a_p2_slatesByGap, .int p2_si.2.2.2])), cm_kI cI a_p2_leads 8 p2_si.1, cm_kI cI a_p2_answers 8 p2_si.2.1, cm_kI cI a_p2_slatesByGap 17 p2_si.2.2.1] none [(a, .inr (2, [.ref a_borough, .ref a_sights, .int res.1])), (a_borough, .inr (1, [.ref a_borough_thinks, .ref a_borough_sure, .ref a_borough_coin, .ref a_borough_far, .ref a_borough_chalk, .int res.2.1.2.2.2.2.2.1, .int res.2.1.2.2.2.2.2.2.1, .int res.2.1.2.2.2.2.2.2.2.1, .int res.2.1.2.2.2.2.2.2.2.2])), cm_kI cI a_borough_thinks 8 res.2.1.1, cm_kI cI a_borough_sure 8 res.2.1.2.1, cm_kI cI a_borough_coin 8 res.2.1.2.2.1, cm_kI cI a_borough_far 4 res.2.1.2.2.2.1, cm_kI cI a_borough_chalk 7 res.2.1.2.2.2.2.1, (a_sights, .inr (6, [.ref a_sights_leads, .ref a_sights_answers, .ref a_sights_slatesByGap, .int res.2.2.2.2.2])), cm_kI cI a_sights_leads 8 res.2.2.1, cm_kI cI a_sights_answers 8 res.2.2.2.1, cm_kI cI a_sights_slatesByGap 17 res.2.2.2.2.1, (a_p1, .inr (1, [.ref a_p1_thinks, .ref a_p1_sure, .ref a_p1_coin, .ref a_p1_far, .ref a_p1_chalk, .int p1_bo.2.2.2.2.2.1, .int p1_bo.2.2.2.2.2.2.1, .int p1_bo.2.2.2.2.2.2.2.1, .int p1_bo.2.2.2.2.2.2.2.2])), cm_kI cI a_p1_thinks 8 p1_bo.1, cm_kI cI a_p1_sure 8 p1_bo.2.1, cm_kI cI a_p1_coin 8 p1_bo.2.2.1, cm_kI cI a_p1_far 4 p1_bo.2.2.2.1, cm_kI cI a_p1_chalk 7 p1_bo.2.2.2.2.1, (a_p2, .inr (6, [.ref a_p2_leads, .ref a_p2_answers, .ref a_p2_slatesByGap, .int p2_si.2.2.2])), cm_kI cI a_p2_leads 8 p2_si.1, cm_kI cI a_p2_answers 8 p2_si.2.1, cm_kI cI a_p2_slatesByGap 17 p2_si.2.2.1] := by
  refine Ct.of (cc := cX2_keep) (maxL := 3) (ret := none) (by decide) (Nat.le_of_ble_eq_true rfl) ?_
  intro p e s m below meth c ls args A Q hav hAe hQ hx hb hr hml hown hlocks hts hK hP hD hA hS hl
  have hKa := hK.1
  have hl : lv_has ls 3 [(0, .ref a), (1, .ref a_p1), (2, .ref a_p2)] := hl
  unfold fX2_keep at hf
  refine lv_aload_n (pc := 0) hx hb dX2_keep_0 rfl (lv_at hl 0 rfl) ?_
  refine va_get (pc := 1) (D := D) (ci := 2) (v := .ref a_borough) (C := RX2) (T := TX2) (N := 3) hx hb hts in_X2 hown hKa hP 0 rfl rfl 0 (by decide) (hts _ tw_210) (fun _ h9 => h9) rfl dX2_keep_1 ?_
  refine lv_aload_n (pc := 4) hx hb dX2_keep_4 rfl (lv_at hl 1 rfl) ?_
  obtain ⟨u5, hu5, hf⟩ := cm_bd hf
  refine cm_callV (pc := 5) (As := [.ref a_p1]) (rest := []) (wr := [(a, .inr (2, [.ref a_borough, .ref a_sights, .int ik])), (a_sights, .inr (6, [.ref a_sights_leads, .ref a_sights_answers, .ref a_sights_slatesByGap, .int sights_si.2.2.2])), cm_kI cI a_sights_leads 8 sights_si.1, cm_kI cI a_sights_answers 8 sights_si.2.1, cm_kI cI a_sights_slatesByGap 17 sights_si.2.2.1, (a_p2, .inr (6, [.ref a_p2_leads, .ref a_p2_answers, .ref a_p2_slatesByGap, .int p2_si.2.2.2])), cm_kI cI a_p2_leads 8 p2_si.1, cm_kI cI a_p2_answers 8 p2_si.2.1, cm_kI cI a_p2_slatesByGap 17 p2_si.2.2.1]) (ci := 1) (q0 := 1) (n := 1) hx hb hml hown hts hK hP hD hS hA (c_X1_copyFrom l D cI cJ cZ a_borough a_borough_thinks a_borough_sure a_borough_coin a_borough_far a_borough_chalk a_p1 a_p1_thinks a_p1_sure a_p1_coin a_p1_far a_p1_chalk borough_bo p1_bo u5 hu5) tw_394 tw_685 tw_392 tw_393 tw_46 rfl rfl (by decide +kernel) rfl ⟨Nat.le_of_ble_eq_true rfl, Nat.le_of_ble_eq_true rfl⟩ [1, 2, 3, 4, 5, 6, 11, 12, 13, 14, 15, 16] [0, 7, 8, 9, 10, 17, 18, 19, 20] rfl (by decide) rfl (by decide) (by decide) rfl rfl rfl hl.1 rfl (Nat.le_of_ble_eq_true rfl) dX2_keep_5 ⟨Nat.zero_le _, Nat.zero_le _⟩ (fun H locs hP hD hS => ?_)
  have hP : va_P D vwCl [(a, .inr (2, [.ref a_borough, .ref a_sights, .int ik])), (a_sights, .inr (6, [.ref a_sights_leads, .ref a_sights_answers, .ref a_sights_slatesByGap, .int sights_si.2.2.2])), cm_kI cI a_sights_leads 8 sights_si.1, cm_kI cI a_sights_answers 8 sights_si.2.1, cm_kI cI a_sights_slatesByGap 17 sights_si.2.2.1, (a_p2, .inr (6, [.ref a_p2_leads, .ref a_p2_answers, .ref a_p2_slatesByGap, .int p2_si.2.2.2])), cm_kI cI a_p2_leads 8 p2_si.1, cm_kI cI a_p2_answers 8 p2_si.2.1, cm_kI cI a_p2_slatesByGap 17 p2_si.2.2.1, (a_borough, .inr (1, [.ref a_borough_thinks, .ref a_borough_sure, .ref a_borough_coin, .ref a_borough_far, .ref a_borough_chalk, .int u5.2.2.2.2.2.1, .int u5.2.2.2.2.2.2.1, .int u5.2.2.2.2.2.2.2.1, .int u5.2.2.2.2.2.2.2.2])), cm_kI cI a_borough_thinks 8 u5.1, cm_kI cI a_borough_sure 8 u5.2.1, cm_kI cI a_borough_coin 8 u5.2.2.1, cm_kI cI a_borough_far 4 u5.2.2.2.1, cm_kI cI a_borough_chalk 7 u5.2.2.2.2.1, (a_p1, .inr (1, [.ref a_p1_thinks, .ref a_p1_sure, .ref a_p1_coin, .ref a_p1_far, .ref a_p1_chalk, .int p1_bo.2.2.2.2.2.1, .int p1_bo.2.2.2.2.2.2.1, .int p1_bo.2.2.2.2.2.2.2.1, .int p1_bo.2.2.2.2.2.2.2.2])), cm_kI cI a_p1_thinks 8 p1_bo.1, cm_kI cI a_p1_sure 8 p1_bo.2.1, cm_kI cI a_p1_coin 8 p1_bo.2.2.1, cm_kI cI a_p1_far 4 p1_bo.2.2.2.1, cm_kI cI a_p1_chalk 7 p1_bo.2.2.2.2.1] H := hP
  have hD : va_D A [(a, .inr (2, [.ref a_borough, .ref a_sights, .int ik])), (a_sights, .inr (6, [.ref a_sights_leads, .ref a_sights_answers, .ref a_sights_slatesByGap, .int sights_si.2.2.2])), cm_kI cI a_sights_leads 8 sights_si.1, cm_kI cI a_sights_answers 8 sights_si.2.1, cm_kI cI a_sights_slatesByGap 17 sights_si.2.2.1, (a_p2, .inr (6, [.ref a_p2_leads, .ref a_p2_answers, .ref a_p2_slatesByGap, .int p2_si.2.2.2])), cm_kI cI a_p2_leads 8 p2_si.1, cm_kI cI a_p2_answers 8 p2_si.2.1, cm_kI cI a_p2_slatesByGap 17 p2_si.2.2.1, (a_borough, .inr (1, [.ref a_borough_thinks, .ref a_borough_sure, .ref a_borough_coin, .ref a_borough_far, .ref a_borough_chalk, .int u5.2.2.2.2.2.1, .int u5.2.2.2.2.2.2.1, .int u5.2.2.2.2.2.2.2.1, .int u5.2.2.2.2.2.2.2.2])), cm_kI cI a_borough_thinks 8 u5.1, cm_kI cI a_borough_sure 8 u5.2.1, cm_kI cI a_borough_coin 8 u5.2.2.1, cm_kI cI a_borough_far 4 u5.2.2.2.1, cm_kI cI a_borough_chalk 7 u5.2.2.2.2.1, (a_p1, .inr (1, [.ref a_p1_thinks, .ref a_p1_sure, .ref a_p1_coin, .ref a_p1_far, .ref a_p1_chalk, .int p1_bo.2.2.2.2.2.1, .int p1_bo.2.2.2.2.2.2.1, .int p1_bo.2.2.2.2.2.2.2.1, .int p1_bo.2.2.2.2.2.2.2.2])), cm_kI cI a_p1_thinks 8 p1_bo.1, cm_kI cI a_p1_sure 8 p1_bo.2.1, cm_kI cI a_p1_coin 8 p1_bo.2.2.1, cm_kI cI a_p1_far 4 p1_bo.2.2.2.1, cm_kI cI a_p1_chalk 7 p1_bo.2.2.2.2.1] := hD
  refine W.eq (g2 := F0 m 8 ls []) rfl ?_
  refine lv_aload_n (pc := 8) hx hb dX2_keep_8 rfl (lv_at hl 0 rfl) ?_
  refine va_get (pc := 9) (D := D) (ci := 2) (v := .ref a_sights) (C := RX2) (T := TX2) (N := 3) hx hb hts in_X2 hown hKa hP 0 rfl rfl 1 (by decide) (hts _ tw_211) (fun _ h9 => h9) rfl dX2_keep_9 ?_
  refine lv_aload_n (pc := 12) hx hb dX2_keep_12 rfl (lv_at hl 2 rfl) ?_
  obtain ⟨u13, hu13, hf⟩ := cm_bd hf
  refine cm_callV (pc := 13) (As := [.ref a_p2]) (rest := []) (wr := [(a, .inr (2, [.ref a_borough, .ref a_sights, .int ik])), (a_borough, .inr (1, [.ref a_borough_thinks, .ref a_borough_sure, .ref a_borough_coin, .ref a_borough_far, .ref a_borough_chalk, .int u5.2.2.2.2.2.1, .int u5.2.2.2.2.2.2.1, .int u5.2.2.2.2.2.2.2.1, .int u5.2.2.2.2.2.2.2.2])), cm_kI cI a_borough_thinks 8 u5.1, cm_kI cI a_borough_sure 8 u5.2.1, cm_kI cI a_borough_coin 8 u5.2.2.1, cm_kI cI a_borough_far 4 u5.2.2.2.1, cm_kI cI a_borough_chalk 7 u5.2.2.2.2.1, (a_p1, .inr (1, [.ref a_p1_thinks, .ref a_p1_sure, .ref a_p1_coin, .ref a_p1_far, .ref a_p1_chalk, .int p1_bo.2.2.2.2.2.1, .int p1_bo.2.2.2.2.2.2.1, .int p1_bo.2.2.2.2.2.2.2.1, .int p1_bo.2.2.2.2.2.2.2.2])), cm_kI cI a_p1_thinks 8 p1_bo.1, cm_kI cI a_p1_sure 8 p1_bo.2.1, cm_kI cI a_p1_coin 8 p1_bo.2.2.1, cm_kI cI a_p1_far 4 p1_bo.2.2.2.1, cm_kI cI a_p1_chalk 7 p1_bo.2.2.2.2.1]) (ci := 6) (q0 := 1) (n := 1) hx hb hml hown hts hK hP hD hS hA (c_X6_copyFrom l D cI cJ cZ a_sights a_sights_leads a_sights_answers a_sights_slatesByGap a_p2 a_p2_leads a_p2_answers a_p2_slatesByGap sights_si p2_si u13 hu13) tw_689 tw_686 tw_687 tw_688 tw_50 rfl rfl (by decide +kernel) rfl ⟨Nat.le_of_ble_eq_true rfl, Nat.le_of_ble_eq_true rfl⟩ [1, 2, 3, 4, 5, 6, 7, 8] [0, 9, 10, 11, 12, 13, 14, 15, 16, 17, 18, 19, 20] rfl (by decide) rfl (by decide) (by decide) rfl rfl rfl hl.1 rfl (Nat.le_of_ble_eq_true rfl) dX2_keep_13 ⟨Nat.zero_le _, Nat.zero_le _⟩ (fun H locs hP hD hS => ?_)
  have hP : va_P D vwCl [(a, .inr (2, [.ref a_borough, .ref a_sights, .int ik])), (a_borough, .inr (1, [.ref a_borough_thinks, .ref a_borough_sure, .ref a_borough_coin, .ref a_borough_far, .ref a_borough_chalk, .int u5.2.2.2.2.2.1, .int u5.2.2.2.2.2.2.1, .int u5.2.2.2.2.2.2.2.1, .int u5.2.2.2.2.2.2.2.2])), cm_kI cI a_borough_thinks 8 u5.1, cm_kI cI a_borough_sure 8 u5.2.1, cm_kI cI a_borough_coin 8 u5.2.2.1, cm_kI cI a_borough_far 4 u5.2.2.2.1, cm_kI cI a_borough_chalk 7 u5.2.2.2.2.1, (a_p1, .inr (1, [.ref a_p1_thinks, .ref a_p1_sure, .ref a_p1_coin, .ref a_p1_far, .ref a_p1_chalk, .int p1_bo.2.2.2.2.2.1, .int p1_bo.2.2.2.2.2.2.1, .int p1_bo.2.2.2.2.2.2.2.1, .int p1_bo.2.2.2.2.2.2.2.2])), cm_kI cI a_p1_thinks 8 p1_bo.1, cm_kI cI a_p1_sure 8 p1_bo.2.1, cm_kI cI a_p1_coin 8 p1_bo.2.2.1, cm_kI cI a_p1_far 4 p1_bo.2.2.2.1, cm_kI cI a_p1_chalk 7 p1_bo.2.2.2.2.1, (a_sights, .inr (6, [.ref a_sights_leads, .ref a_sights_answers, .ref a_sights_slatesByGap, .int u13.2.2.2])), cm_kI cI a_sights_leads 8 u13.1, cm_kI cI a_sights_answers 8 u13.2.1, cm_kI cI a_sights_slatesByGap 17 u13.2.2.1, (a_p2, .inr (6, [.ref a_p2_leads, .ref a_p2_answers, .ref a_p2_slatesByGap, .int p2_si.2.2.2])), cm_kI cI a_p2_leads 8 p2_si.1, cm_kI cI a_p2_answers 8 p2_si.2.1, cm_kI cI a_p2_slatesByGap 17 p2_si.2.2.1] H := hP
  have hD : va_D A [(a, .inr (2, [.ref a_borough, .ref a_sights, .int ik])), (a_borough, .inr (1, [.ref a_borough_thinks, .ref a_borough_sure, .ref a_borough_coin, .ref a_borough_far, .ref a_borough_chalk, .int u5.2.2.2.2.2.1, .int u5.2.2.2.2.2.2.1, .int u5.2.2.2.2.2.2.2.1, .int u5.2.2.2.2.2.2.2.2])), cm_kI cI a_borough_thinks 8 u5.1, cm_kI cI a_borough_sure 8 u5.2.1, cm_kI cI a_borough_coin 8 u5.2.2.1, cm_kI cI a_borough_far 4 u5.2.2.2.1, cm_kI cI a_borough_chalk 7 u5.2.2.2.2.1, (a_p1, .inr (1, [.ref a_p1_thinks, .ref a_p1_sure, .ref a_p1_coin, .ref a_p1_far, .ref a_p1_chalk, .int p1_bo.2.2.2.2.2.1, .int p1_bo.2.2.2.2.2.2.1, .int p1_bo.2.2.2.2.2.2.2.1, .int p1_bo.2.2.2.2.2.2.2.2])), cm_kI cI a_p1_thinks 8 p1_bo.1, cm_kI cI a_p1_sure 8 p1_bo.2.1, cm_kI cI a_p1_coin 8 p1_bo.2.2.1, cm_kI cI a_p1_far 4 p1_bo.2.2.2.1, cm_kI cI a_p1_chalk 7 p1_bo.2.2.2.2.1, (a_sights, .inr (6, [.ref a_sights_leads, .ref a_sights_answers, .ref a_sights_slatesByGap, .int u13.2.2.2])), cm_kI cI a_sights_leads 8 u13.1, cm_kI cI a_sights_answers 8 u13.2.1, cm_kI cI a_sights_slatesByGap 17 u13.2.2.1, (a_p2, .inr (6, [.ref a_p2_leads, .ref a_p2_answers, .ref a_p2_slatesByGap, .int p2_si.2.2.2])), cm_kI cI a_p2_leads 8 p2_si.1, cm_kI cI a_p2_answers 8 p2_si.2.1, cm_kI cI a_p2_slatesByGap 17 p2_si.2.2.1] := hD
  refine W.eq (g2 := F0 m 16 ls []) rfl ?_
  refine lv_aload_n (pc := 16) hx hb dX2_keep_16 rfl (lv_at hl 0 rfl) ?_
  refine lv_iconst (pc := 17) (v := 1) hx hb dX2_keep_17 (by decide) ?_
  refine va_put (pc := 18) (D := D) (ci := 2) (v := .int 1) (ty := .boolean) (C := RX2) (T := TX2) (N := 3) hx hb hts in_X2 tyX2 tyX2_ok nmX2 hown hKa hP hD hS 0 rfl rfl 2 (by decide) (hts _ tw_212) (fun _ h9 => h9) rfl (by decide +kernel) rfl rfl (Nat.le_of_ble_eq_true rfl) dX2_keep_18 (fun H locs hP hD hS => ?_)
  have hP : va_P D vwCl [(a, .inr (2, [.ref a_borough, .ref a_sights, .int 1])), (a_borough, .inr (1, [.ref a_borough_thinks, .ref a_borough_sure, .ref a_borough_coin, .ref a_borough_far, .ref a_borough_chalk, .int u5.2.2.2.2.2.1, .int u5.2.2.2.2.2.2.1, .int u5.2.2.2.2.2.2.2.1, .int u5.2.2.2.2.2.2.2.2])), cm_kI cI a_borough_thinks 8 u5.1, cm_kI cI a_borough_sure 8 u5.2.1, cm_kI cI a_borough_coin 8 u5.2.2.1, cm_kI cI a_borough_far 4 u5.2.2.2.1, cm_kI cI a_borough_chalk 7 u5.2.2.2.2.1, (a_p1, .inr (1, [.ref a_p1_thinks, .ref a_p1_sure, .ref a_p1_coin, .ref a_p1_far, .ref a_p1_chalk, .int p1_bo.2.2.2.2.2.1, .int p1_bo.2.2.2.2.2.2.1, .int p1_bo.2.2.2.2.2.2.2.1, .int p1_bo.2.2.2.2.2.2.2.2])), cm_kI cI a_p1_thinks 8 p1_bo.1, cm_kI cI a_p1_sure 8 p1_bo.2.1, cm_kI cI a_p1_coin 8 p1_bo.2.2.1, cm_kI cI a_p1_far 4 p1_bo.2.2.2.1, cm_kI cI a_p1_chalk 7 p1_bo.2.2.2.2.1, (a_sights, .inr (6, [.ref a_sights_leads, .ref a_sights_answers, .ref a_sights_slatesByGap, .int u13.2.2.2])), cm_kI cI a_sights_leads 8 u13.1, cm_kI cI a_sights_answers 8 u13.2.1, cm_kI cI a_sights_slatesByGap 17 u13.2.2.1, (a_p2, .inr (6, [.ref a_p2_leads, .ref a_p2_answers, .ref a_p2_slatesByGap, .int p2_si.2.2.2])), cm_kI cI a_p2_leads 8 p2_si.1, cm_kI cI a_p2_answers 8 p2_si.2.1, cm_kI cI a_p2_slatesByGap 17 p2_si.2.2.1] H := hP
  have hD : va_D A [(a, .inr (2, [.ref a_borough, .ref a_sights, .int 1])), (a_borough, .inr (1, [.ref a_borough_thinks, .ref a_borough_sure, .ref a_borough_coin, .ref a_borough_far, .ref a_borough_chalk, .int u5.2.2.2.2.2.1, .int u5.2.2.2.2.2.2.1, .int u5.2.2.2.2.2.2.2.1, .int u5.2.2.2.2.2.2.2.2])), cm_kI cI a_borough_thinks 8 u5.1, cm_kI cI a_borough_sure 8 u5.2.1, cm_kI cI a_borough_coin 8 u5.2.2.1, cm_kI cI a_borough_far 4 u5.2.2.2.1, cm_kI cI a_borough_chalk 7 u5.2.2.2.2.1, (a_p1, .inr (1, [.ref a_p1_thinks, .ref a_p1_sure, .ref a_p1_coin, .ref a_p1_far, .ref a_p1_chalk, .int p1_bo.2.2.2.2.2.1, .int p1_bo.2.2.2.2.2.2.1, .int p1_bo.2.2.2.2.2.2.2.1, .int p1_bo.2.2.2.2.2.2.2.2])), cm_kI cI a_p1_thinks 8 p1_bo.1, cm_kI cI a_p1_sure 8 p1_bo.2.1, cm_kI cI a_p1_coin 8 p1_bo.2.2.1, cm_kI cI a_p1_far 4 p1_bo.2.2.2.1, cm_kI cI a_p1_chalk 7 p1_bo.2.2.2.2.1, (a_sights, .inr (6, [.ref a_sights_leads, .ref a_sights_answers, .ref a_sights_slatesByGap, .int u13.2.2.2])), cm_kI cI a_sights_leads 8 u13.1, cm_kI cI a_sights_answers 8 u13.2.1, cm_kI cI a_sights_slatesByGap 17 u13.2.2.1, (a_p2, .inr (6, [.ref a_p2_leads, .ref a_p2_answers, .ref a_p2_slatesByGap, .int p2_si.2.2.2])), cm_kI cI a_p2_leads 8 p2_si.1, cm_kI cI a_p2_answers 8 p2_si.2.1, cm_kI cI a_p2_slatesByGap 17 p2_si.2.2.1] := hD
  obtain rfl := Option.some.inj hf
  exact cm_vret (pc := 21) hAe hQ hx hb hr hlocks hP hD hS [0, 1, 2, 3, 4, 5, 6, 13, 14, 15, 16, 7, 8, 9, 10, 11, 12, 17, 18, 19, 20] (by decide) rfl dX2_keep_21
