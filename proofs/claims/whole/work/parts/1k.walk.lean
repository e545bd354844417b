def fX11_done_L12 (m_now_12 : (Nat → Int32)) (kx : Int32 → (Nat → Int32) → Option (Int32 × Int32 × Int32 × Int32 × Int32 × Int32 × Int32 × (Nat → Int32) × (Nat → Int32))) : Nat → Int32 → (Nat → Int32) → Option (Int32 × Int32 × Int32 × Int32 × Int32 × Int32 × Int32 × (Nat → Int32) × (Nat → Int32))
  | 0, _, _ => none
  | n + 1, v1_12, m_book_12 => (if 31 ≤ v1_12 then kx v1_12 m_book_12 else if v1_12 < 0 ∨ 31 ≤ v1_12.toNatClampNeg then none else if v1_12 < 0 ∨ 31 ≤ v1_12.toNatClampNeg then none else fX11_done_L12 m_now_12 kx n (v1_12 + 1) (upd m_book_12 v1_12.toNatClampNeg (m_now_12 v1_12.toNatClampNeg)))
def fX11_done (m_signs : Int32) (m_sold : Int32) (m_markets : Int32) (m_marketAt : Int32) (m_reason : Int32) (m_acts : Int32) (m_book : (Nat → Int32)) (m_now : (Nat → Int32)) (m_pad : (Nat → Int32)) : Option (Int32 × Int32 × Int32 × Int32 × Int32 × Int32 × Int32 × (Nat → Int32) × (Nat → Int32)) := Option.bind (fX11_barOfWeeks m_signs m_sold m_markets m_marketAt m_reason m_acts m_book m_now m_pad) (fun u1 => (if 0 ≤ u1.1 then fX11_done_L12 u1.2.2.2.2.2.2 (fun v1_12 m_book_12 => some (u1.2.2.2.2.2.1, 0, u1.2.1, u1.2.2.1, u1.2.2.2.1, u1.2.2.2.2.1, u1.2.2.2.2.2.1, m_book_12, u1.2.2.2.2.2.2)) 5000 0 m_book else some ((-5), m_signs, u1.2.1, u1.2.2.1, u1.2.2.2.1, u1.2.2.2.2.1, u1.2.2.2.2.2.1, m_book, u1.2.2.2.2.2.2)))
def rmX11_done : Room := { frames := 5, cells := 0, slots := 0, locals := 110 }
set_option maxRecDepth 100000 in
set_option maxHeartbeats 4000000 in
theorem c_X11_done (l : Launch) (D : va_G) (cI cJ cZ : ClassId) (a a_book a_now a_sight a_pad a_digits a_without a_with a_counts a_fewest a_ways a_more a_chooses a_image a_isKept : Nat) (m_sights : Int32) (m_signs : Int32) (m_sold : Int32) (m_markets : Int32) (m_marketAt : Int32) (m_reason : Int32) (m_acts : Int32) (m_book : (Nat → Int32)) (m_now : (Nat → Int32)) (m_pad : (Nat → Int32)) (res : Int32 × Int32 × Int32 × Int32 × Int32 × Int32 × Int32 × (Nat → Int32) × (Nat → Int32)) (hf : fX11_done m_signs m_sold m_markets m_marketAt m_reason m_acts m_book m_now m_pad = some res) : Ct l yX11_done (cm_ws yX11_done cX11_done 2 (some .int)) rmX11_done D (cm_T cI cJ cZ) [.ref a] [(a, .inr (11, [.ref a_book, .ref a_now, .int m_sights, .ref a_sight, .int m_signs, .ref a_pad, .int m_sold, .int m_markets, .int m_marketAt, .int m_reason, .int m_acts, .ref a_digits, .ref a_without, .ref a_with, .ref a_counts, .ref a_fewest, .ref a_ways, .ref a_more, .ref a_chooses, .ref a_image, .ref a_isKept])), cm_kI cI a_book 31 m_book, cm_kI cI a_now 31 m_now, cm_kI cI a_pad 60 m_pad] (some (.int res.1)) [(a, .inr (11, [.ref a_book, .ref a_now, .int m_sights, .ref a_sight, .int res.2.1, .ref a_pad, .int res.2.2.1, .int res.2.2.2.1, .int res.2.2.2.2.1, .int res.2.2.2.2.2.1, .int res.2.2.2.2.2.2.1, .ref a_digits, .ref a_without, .ref a_with, .ref a_counts, .ref a_fewest, .ref a_ways, .ref a_more, .ref a_chooses, .ref a_image, .ref a_isKept])), cm_kI cI a_book 31 res.2.2.2.2.2.2.2.1, cm_kI cI a_now 31 res.2.2.2.2.2.2.2.2, cm_kI cI a_pad 60 m_pad] := by
  refine Ct.of (cc := cX11_done) (maxL := 2) (ret := (some .int)) (by decide) (Nat.le_of_ble_eq_true rfl) ?_
  intro p e s m below meth c ls args A Q hav hAe hQ hx hb hr hml hown hlocks hts hK hP hD hA hS hl
  have hKa := hK.1
  have hl : lv_has ls 2 [(0, .ref a)] := hl
  unfold fX11_done at hf
  refine lv_aload_n (pc := 0) hx hb dX11_done_0 rfl (lv_at hl 0 rfl) ?_
  obtain ⟨u1, hu1, hf⟩ := cm_bd hf
  refine cm_callV (pc := 1) (As := []) (rest := []) (wr := []) (ci := 11) (q0 := 0) (n := 0) hx hb hml hown hts hK hP hD hS hA (c_X11_barOfWeeks l D cI cJ cZ a a_book a_now a_sight a_pad a_digits a_without a_with a_counts a_fewest a_ways a_more a_chooses a_image a_isKept m_sights m_signs m_sold m_markets m_marketAt m_reason m_acts m_book m_now m_pad u1 hu1) tw_866 tw_863 tw_865 tw_40 tw_56 rfl rfl (by decide +kernel) rfl ⟨Nat.le_of_ble_eq_true rfl, Nat.le_of_ble_eq_true rfl⟩ [0, 1, 2, 3] [] rfl (by decide) rfl (by decide) (by decide) rfl rfl rfl hl.1 rfl (Nat.le_of_ble_eq_true rfl) dX11_done_1 ⟨Nat.zero_le _, Nat.zero_le _⟩ (fun H locs hP hD hS => ?_)
  have hP : va_P D vwCl [(a, .inr (11, [.ref a_book, .ref a_now, .int m_sights, .ref a_sight, .int m_signs, .ref a_pad, .int u1.2.1, .int u1.2.2.1, .int u1.2.2.2.1, .int u1.2.2.2.2.1, .int u1.2.2.2.2.2.1, .ref a_digits, .ref a_without, .ref a_with, .ref a_counts, .ref a_fewest, .ref a_ways, .ref a_more, .ref a_chooses, .ref a_image, .ref a_isKept])), cm_kI cI a_book 31 m_book, cm_kI cI a_now 31 u1.2.2.2.2.2.2, cm_kI cI a_pad 60 m_pad] H := hP
  have hD : va_D A [(a, .inr (11, [.ref a_book, .ref a_now, .int m_sights, .ref a_sight, .int m_signs, .ref a_pad, .int u1.2.1, .int u1.2.2.1, .int u1.2.2.2.1, .int u1.2.2.2.2.1, .int u1.2.2.2.2.2.1, .ref a_digits, .ref a_without, .ref a_with, .ref a_counts, .ref a_fewest, .ref a_ways, .ref a_more, .ref a_chooses, .ref a_image, .ref a_isKept])), cm_kI cI a_book 31 m_book, cm_kI cI a_now 31 u1.2.2.2.2.2.2, cm_kI cI a_pad 60 m_pad] := hD
  refine W.eq (g2 := F0 m 4 ls [.int u1.1]) rfl ?_
  refine lv_if_ge (pc := 4) (tgt := 10) hx hb dX11_done_4 (by decide) (fun c_4 => ?_) (fun c_4 => ?_)
  · have hf := cm_ip c_4 hf
    refine lv_iconst (pc := 10) (v := 0) hx hb dX11_done_10 (by decide) ?_
    refine lv_istore_n (pc := 11) (lv' := [(1, .int 0), (0, .ref a)]) hx hb dX11_done_11 rfl hl (by decide) rfl (fun ls hl => ?_)
    have L12 : ∀ (m_now_12 : (Nat → Int32)) (kx : Int32 → (Nat → Int32) → Option (Int32 × Int32 × Int32 × Int32 × Int32 × Int32 × Int32 × (Nat → Int32) × (Nat → Int32))), (∀ (v1_12 : Int32) (m_book_12 : (Nat → Int32)) (H : Heap) (locs : List Loc) (ls : Array Slot), va_P D vwCl [(a, .inr (11, [.ref a_book, .ref a_now, .int m_sights, .ref a_sight, .int m_signs, .ref a_pad, .int u1.2.1, .int u1.2.2.1, .int u1.2.2.2.1, .int u1.2.2.2.2.1, .int u1.2.2.2.2.2.1, .ref a_digits, .ref a_without, .ref a_with, .ref a_counts, .ref a_fewest, .ref a_ways, .ref a_more, .ref a_chooses, .ref a_image, .ref a_isKept])), cm_kI cI a_book 31 m_book_12, cm_kI cI a_now 31 m_now_12, cm_kI cI a_pad 60 m_pad] H → va_D A [(a, .inr (11, [.ref a_book, .ref a_now, .int m_sights, .ref a_sight, .int m_signs, .ref a_pad, .int u1.2.1, .int u1.2.2.1, .int u1.2.2.2.1, .int u1.2.2.2.2.1, .int u1.2.2.2.2.2.1, .ref a_digits, .ref a_without, .ref a_with, .ref a_counts, .ref a_fewest, .ref a_ways, .ref a_more, .ref a_chooses, .ref a_image, .ref a_isKept])), cm_kI cI a_book 31 m_book_12, cm_kI cI a_now 31 m_now_12, cm_kI cI a_pad 60 m_pad] → va_S A s.heap H locs → lv_has ls 2 [(0, .ref a)] → kx v1_12 m_book_12 = some res → W p l e rmX11_done s m args below meth c H locs 0 0 Q (F0 m 36 ls [])) → ∀ (n : Nat) (v1_12 : Int32) (m_book_12 : (Nat → Int32)) (H : Heap) (locs : List Loc) (ls : Array Slot), va_P D vwCl [(a, .inr (11, [.ref a_book, .ref a_now, .int m_sights, .ref a_sight, .int m_signs, .ref a_pad, .int u1.2.1, .int u1.2.2.1, .int u1.2.2.2.1, .int u1.2.2.2.2.1, .int u1.2.2.2.2.2.1, .ref a_digits, .ref a_without, .ref a_with, .ref a_counts, .ref a_fewest, .ref a_ways, .ref a_more, .ref a_chooses, .ref a_image, .ref a_isKept])), cm_kI cI a_book 31 m_book_12, cm_kI cI a_now 31 m_now_12, cm_kI cI a_pad 60 m_pad] H → va_D A [(a, .inr (11, [.ref a_book, .ref a_now, .int m_sights, .ref a_sight, .int m_signs, .ref a_pad, .int u1.2.1, .int u1.2.2.1, .int u1.2.2.2.1, .int u1.2.2.2.2.1, .int u1.2.2.2.2.2.1, .ref a_digits, .ref a_without, .ref a_with, .ref a_counts, .ref a_fewest, .ref a_ways, .ref a_more, .ref a_chooses, .ref a_image, .ref a_isKept])), cm_kI cI a_book 31 m_book_12, cm_kI cI a_now 31 m_now_12, cm_kI cI a_pad 60 m_pad] → va_S A s.heap H locs → lv_has ls 2 [(1, .int v1_12), (0, .ref a)] → fX11_done_L12 m_now_12 kx n v1_12 m_book_12 = some res → W p l e rmX11_done s m args below meth c H locs 0 0 Q (F0 m 12 ls []) := by
      intro m_now_12 kx hkx n
      induction n with
      | zero => intro v1_12 m_book_12 H locs ls hP hD hS hl hf; cases hf
      | succ n ih =>
        intro v1_12 m_book_12 H locs ls hP hD hS hl hf
        rw [fX11_done_L12] at hf
        refine lv_iload_n (pc := 12) hx hb dX11_done_12 rfl (lv_at hl 0 rfl) ?_
        refine lv_bipush (pc := 13) (v := 31) hx hb dX11_done_13 (by decide) ?_
        refine lv_icmp_ge (pc := 15) (tgt := 36) hx hb dX11_done_15 (by decide) (fun c_15 => ?_) (fun c_15 => ?_)
        · have hf := cm_ip c_15 hf
          exact hkx v1_12 m_book_12 _ _ _ hP hD hS (lv_sub hl [1] rfl) hf
        · have hf := cm_in c_15 hf
          refine lv_aload_n (pc := 18) hx hb dX11_done_18 rfl (lv_at hl 1 rfl) ?_
          refine va_get (pc := 19) (D := D) (ci := 11) (v := .ref a_book) (C := RX11) (T := TX11) (N := 21) hx hb hts in_X11 hown hKa hP 0 rfl rfl 0 (by decide) (hts _ tw_712) (fun _ h9 => h9) rfl dX11_done_19 ?_
          refine lv_iload_n (pc := 22) hx hb dX11_done_22 rfl (lv_at hl 0 rfl) ?_
          refine lv_aload_n (pc := 23) hx hb dX11_done_23 rfl (lv_at hl 1 rfl) ?_
          refine va_get (pc := 24) (D := D) (ci := 11) (v := .ref a_now) (C := RX11) (T := TX11) (N := 21) hx hb hts in_X11 hown hKa hP 0 rfl rfl 1 (by decide) (hts _ tw_713) (fun _ h9 => h9) rfl dX11_done_24 ?_
          refine lv_iload_n (pc := 27) hx hb dX11_done_27 rfl (lv_at hl 0 rfl) ?_
          obtain ⟨b_28, hf⟩ := cm_ob hf
          refine va_iald (pc := 28) hx hb hKa hP 2 0 rfl rfl b_28 dX11_done_28 ?_
          obtain ⟨b_29, hf⟩ := cm_ob hf
          refine va_iast (pc := 29) hx hb hKa hP hD hS 1 0 rfl rfl b_29 dX11_done_29 (fun H locs hP hD hS => ?_)
          have hP : va_P D vwCl [(a, .inr (11, [.ref a_book, .ref a_now, .int m_sights, .ref a_sight, .int m_signs, .ref a_pad, .int u1.2.1, .int u1.2.2.1, .int u1.2.2.2.1, .int u1.2.2.2.2.1, .int u1.2.2.2.2.2.1, .ref a_digits, .ref a_without, .ref a_with, .ref a_counts, .ref a_fewest, .ref a_ways, .ref a_more, .ref a_chooses, .ref a_image, .ref a_isKept])), cm_kI cI a_book 31 (upd m_book_12 v1_12.toNatClampNeg (m_now_12 v1_12.toNatClampNeg)), cm_kI cI a_now 31 m_now_12, cm_kI cI a_pad 60 m_pad] H := hP
          have hD : va_D A [(a, .inr (11, [.ref a_book, .ref a_now, .int m_sights, .ref a_sight, .int m_signs, .ref a_pad, .int u1.2.1, .int u1.2.2.1, .int u1.2.2.2.1, .int u1.2.2.2.2.1, .int u1.2.2.2.2.2.1, .ref a_digits, .ref a_without, .ref a_with, .ref a_counts, .ref a_fewest, .ref a_ways, .ref a_more, .ref a_chooses, .ref a_image, .ref a_isKept])), cm_kI cI a_book 31 (upd m_book_12 v1_12.toNatClampNeg (m_now_12 v1_12.toNatClampNeg)), cm_kI cI a_now 31 m_now_12, cm_kI cI a_pad 60 m_pad] := hD
          refine lv_iinc (pc := 30) (v := (v1_12 + 1)) (lv' := [(1, .int (v1_12 + 1)), (0, .ref a)]) hx hb dX11_done_30 hl (k := 0) rfl rfl (by decide) rfl (fun ls hl => ?_)
          refine lv_goto (pc := 33) (tgt := 12) hx hb dX11_done_33 (by decide) ?_
          exact ih (v1_12 + 1) (upd m_book_12 v1_12.toNatClampNeg (m_now_12 v1_12.toNatClampNeg)) _ _ _ hP hD hS (lv_sub hl [0, 1] rfl) hf
    refine L12 u1.2.2.2.2.2.2 _ (fun v1_12 m_book_12 H locs ls hP hD hS hl hf => ?_) 5000 0 m_book _ _ _ hP hD hS (lv_sub hl [0, 1] rfl) hf
    refine lv_aload_n (pc := 36) hx hb dX11_done_36 rfl (lv_at hl 0 rfl) ?_
    refine lv_iconst (pc := 37) (v := 0) hx hb dX11_done_37 (by decide) ?_
    refine va_put (pc := 38) (D := D) (ci := 11) (v := .int 0) (ty := .int) (C := RX11) (T := TX11) (N := 21) hx hb hts in_X11 tyX11 tyX11_ok nmX11 hown hKa hP hD hS 0 rfl rfl 4 (by decide) (hts _ tw_716) (fun _ h9 => h9) rfl (by decide +kernel) rfl rfl (Nat.le_of_ble_eq_true rfl) dX11_done_38 (fun H locs hP hD hS => ?_)
    have hP : va_P D vwCl [(a, .inr (11, [.ref a_book, .ref a_now, .int m_sights, .ref a_sight, .int 0, .ref a_pad, .int u1.2.1, .int u1.2.2.1, .int u1.2.2.2.1, .int u1.2.2.2.2.1, .int u1.2.2.2.2.2.1, .ref a_digits, .ref a_without, .ref a_with, .ref a_counts, .ref a_fewest, .ref a_ways, .ref a_more, .ref a_chooses, .ref a_image, .ref a_isKept])), cm_kI cI a_book 31 m_book_12, cm_kI cI a_now 31 u1.2.2.2.2.2.2, cm_kI cI a_pad 60 m_pad] H := hP
    have hD : va_D A [(a, .inr (11, [.ref a_book, .ref a_now, .int m_sights, .ref a_sight, .int 0, .ref a_pad, .int u1.2.1, .int u1.2.2.1, .int u1.2.2.2.1, .int u1.2.2.2.2.1, .int u1.2.2.2.2.2.1, .ref a_digits, .ref a_without, .ref a_with, .ref a_counts, .ref a_fewest, .ref a_ways, .ref a_more, .ref a_chooses, .ref a_image, .ref a_isKept])), cm_kI cI a_book 31 m_book_12, cm_kI cI a_now 31 u1.2.2.2.2.2.2, cm_kI cI a_pad 60 m_pad] := hD
    refine lv_aload_n (pc := 41) hx hb dX11_done_41 rfl (lv_at hl 0 rfl) ?_
    refine va_get (pc := 42) (D := D) (ci := 11) (v := .int u1.2.2.2.2.2.1) (C := RX11) (T := TX11) (N := 21) hx hb hts in_X11 hown hKa hP 0 rfl rfl 10 (by decide) (hts _ tw_722) (fun _ h9 => h9) rfl dX11_done_42 ?_
    obtain rfl := Option.some.inj hf
    exact cm_iret (pc := 45) hAe hQ hx hb hr hlocks hP hD hS [0, 1, 2, 3] (by decide) rfl dX11_done_45
  · have hf := cm_in c_4 hf
    refine lv_bipush (pc := 7) (v := (-5)) hx hb dX11_done_7 (by decide) ?_
    obtain rfl := Option.some.inj hf
    exact cm_iret (pc := 9) hAe hQ hx hb hr hlocks hP hD hS [0, 1, 2, 3] (by decide) rfl dX11_done_9
def fX11_behind (v1 : Int32) (v2 : Int32) (m_signs : Int32) (m_sold : Int32) (m_markets : Int32) (m_marketAt : Int32) (m_reason : Int32) (m_acts : Int32) (m_book : (Nat → Int32)) (m_now : (Nat → Int32)) (m_pad : (Nat → Int32)) : Option (Int32 × Int32 × Int32 × Int32 × Int32 × Int32 × (Nat → Int32)) := cm_let (fX11_in v1 0 7) (fun u4 => (if u4 = 0 then some ((-1), m_sold, m_markets, m_marketAt, m_reason, m_acts, m_now) else cm_let (fX11_in v2 0 2) (fun u15 => (if u15 = 0 then some ((-2), m_sold, m_markets, m_marketAt, m_reason, m_acts, m_now) else Option.bind (fX11_barOfWeeks m_signs m_sold m_markets m_marketAt m_reason m_acts m_book m_now m_pad) (fun u25 => (if 0 ≤ u25.1 then if ((8 * v2) + v1) < 0 ∨ 31 ≤ ((8 * v2) + v1).toNatClampNeg then none else some ((u25.2.2.2.2.2.2 ((8 * v2) + v1).toNatClampNeg), u25.2.1, u25.2.2.1, u25.2.2.2.1, u25.2.2.2.2.1, u25.2.2.2.2.2.1, u25.2.2.2.2.2.2) else some ((-5), u25.2.1, u25.2.2.1, u25.2.2.2.1, u25.2.2.2.2.1, u25.2.2.2.2.2.1, u25.2.2.2.2.2.2)))))))
def rmX11_behind : Room := { frames := 5, cells := 0, slots := 0, locals := 110 }
set_option maxRecDepth 100000 in
set_option maxHeartbeats 4000000 in
theorem c_X11_behind (l : Launch) (D : va_G) (cI cJ cZ : ClassId) (a a_book a_now a_sight a_pad a_digits a_without a_with a_counts a_fewest a_ways a_more a_chooses a_image a_isKept : Nat) (m_sights : Int32) (m_signs : Int32) (m_sold : Int32) (m_markets : Int32) (m_marketAt : Int32) (m_reason : Int32) (m_acts : Int32) (m_book : (Nat → Int32)) (m_now : (Nat → Int32)) (m_pad : (Nat → Int32)) (v1 : Int32) (v2 : Int32) (res : Int32 × Int32 × Int32 × Int32 × Int32 × Int32 × (Nat → Int32)) (hf : fX11_behind v1 v2 m_signs m_sold m_markets m_marketAt m_reason m_acts m_book m_now m_pad = some res) : Ct l yX11_behind (cm_ws yX11_behind cX11_behind 3 (some .int)) rmX11_behind D (cm_T cI cJ cZ) [.ref a, .int v1, .int v2] [(a, .inr (11, [.ref a_book, .ref a_now, .int m_sights, .ref a_sight, .int m_signs, .ref a_pad, .int m_sold, .int m_markets, .int m_marketAt, .int m_reason, .int m_acts, .ref a_digits, .ref a_without, .ref a_with, .ref a_counts, .ref a_fewest, .ref a_ways, .ref a_more, .ref a_chooses, .ref a_image, .ref a_isKept])), cm_kI cI a_book 31 m_book, cm_kI cI a_now 31 m_now, cm_kI cI a_pad 60 m_pad] (some (.int res.1)) [(a, .inr (11, [.ref a_book, .ref a_now, .int m_sights, .ref a_sight, .int m_signs, .ref a_pad, .int res.2.1, .int res.2.2.1, .int res.2.2.2.1, .int res.2.2.2.2.1, .int res.2.2.2.2.2.1, .ref a_digits, .ref a_without, .ref a_with, .ref a_counts, .ref a_fewest, .ref a_ways, .ref a_more, .ref a_chooses, .ref a_image, .ref a_isKept])), cm_kI cI a_book 31 m_book, cm_kI cI a_now 31 res.2.2.2.2.2.2, cm_kI cI a_pad 60 m_pad] := by
  refine Ct.of (cc := cX11_behind) (maxL := 3) (ret := (some .int)) (by decide) (Nat.le_of_ble_eq_true rfl) ?_
  intro p e s m below meth c ls args A Q hav hAe hQ hx hb hr hml hown hlocks hts hK hP hD hA hS hl
  have hKa := hK.1
  have hl : lv_has ls 3 [(0, .ref a), (1, .int v1), (2, .int v2)] := hl
  unfold fX11_behind at hf
  refine lv_iload_n (pc := 0) hx hb dX11_behind_0 rfl (lv_at hl 1 rfl) ?_
  refine lv_iconst (pc := 1) (v := 0) hx hb dX11_behind_1 (by decide) ?_
  refine lv_bipush (pc := 2) (v := 7) hx hb dX11_behind_2 (by decide) ?_
  obtain ⟨u4, hu4, hf⟩ := cm_lt hf
  refine cm_callS (pc := 4) (As := [.int v1, .int 0, .int 7]) (rest := []) (wr := [(a, .inr (11, [.ref a_book, .ref a_now, .int m_sights, .ref a_sight, .int m_signs, .ref a_pad, .int m_sold, .int m_markets, .int m_marketAt, .int m_reason, .int m_acts, .ref a_digits, .ref a_without, .ref a_with, .ref a_counts, .ref a_fewest, .ref a_ways, .ref a_more, .ref a_chooses, .ref a_image, .ref a_isKept])), cm_kI cI a_book 31 m_book, cm_kI cI a_now 31 m_now, cm_kI cI a_pad 60 m_pad]) (n := 3) hx hb hml hown hts hK hP hD hS hA (c_X11_in l D cI cJ cZ v1 0 7 u4 hu4) tw_783 tw_781 tw_782 tw_56 rfl rfl (by decide +kernel) rfl ⟨Nat.le_of_ble_eq_true rfl, Nat.le_of_ble_eq_true rfl⟩ [] [0, 1, 2, 3] rfl (by decide) rfl (by decide) (by decide) hl.1 rfl (Nat.le_of_ble_eq_true rfl) dX11_behind_4 ⟨Nat.zero_le _, Nat.zero_le _⟩ (fun H locs hP hD hS => ?_)
  have hP : va_P D vwCl [(a, .inr (11, [.ref a_book, .ref a_now, .int m_sights, .ref a_sight, .int m_signs, .ref a_pad, .int m_sold, .int m_markets, .int m_marketAt, .int m_reason, .int m_acts, .ref a_digits, .ref a_without, .ref a_with, .ref a_counts, .ref a_fewest, .ref a_ways, .ref a_more, .ref a_chooses, .ref a_image, .ref a_isKept])), cm_kI cI a_book 31 m_book, cm_kI cI a_now 31 m_now, cm_kI cI a_pad 60 m_pad] H := hP
  have hD : va_D A [(a, .inr (11, [.ref a_book, .ref a_now, .int m_sights, .ref a_sight, .int m_signs, .ref a_pad, .int m_sold, .int m_markets, .int m_marketAt, .int m_reason, .int m_acts, .ref a_digits, .ref a_without, .ref a_with, .ref a_counts, .ref a_fewest, .ref a_ways, .ref a_more, .ref a_chooses, .ref a_image, .ref a_isKept])), cm_kI cI a_book 31 m_book, cm_kI cI a_now 31 m_now, cm_kI cI a_pad 60 m_pad] := hD
  refine W.eq (g2 := F0 m 7 ls [.int u4]) rfl ?_
  refine lv_if_ne (pc := 7) (tgt := 12) hx hb dX11_behind_7 (by decide) (fun c_7 => ?_) (fun c_7 => ?_)
  · have hf := cm_in c_7 hf
    refine lv_iload_n (pc := 12) hx hb dX11_behind_12 rfl (lv_at hl 2 rfl) ?_
    refine lv_iconst (pc := 13) (v := 0) hx hb dX11_behind_13 (by decide) ?_
    refine lv_iconst (pc := 14) (v := 2) hx hb dX11_behind_14 (by decide) ?_
    obtain ⟨u15, hu15, hf⟩ := cm_lt hf
    refine cm_callS (pc := 15) (As := [.int v2, .int 0, .int 2]) (rest := []) (wr := [(a, .inr (11, [.ref a_book, .ref a_now, .int m_sights, .ref a_sight, .int m_signs, .ref a_pad, .int m_sold, .int m_markets, .int m_marketAt, .int m_reason, .int m_acts, .ref a_digits, .ref a_without, .ref a_with, .ref a_counts, .ref a_fewest, .ref a_ways, .ref a_more, .ref a_chooses, .ref a_image, .ref a_isKept])), cm_kI cI a_book 31 m_book, cm_kI cI a_now 31 m_now, cm_kI cI a_pad 60 m_pad]) (n := 3) hx hb hml hown hts hK hP hD hS hA (c_X11_in l D cI cJ cZ v2 0 2 u15 hu15) tw_783 tw_781 tw_782 tw_56 rfl rfl (by decide +kernel) rfl ⟨Nat.le_of_ble_eq_true rfl, Nat.le_of_ble_eq_true rfl⟩ [] [0, 1, 2, 3] rfl (by decide) rfl (by decide) (by decide) hl.1 rfl (Nat.le_of_ble_eq_true rfl) dX11_behind_15 ⟨Nat.zero_le _, Nat.zero_le _⟩ (fun H locs hP hD hS => ?_)
    have hP : va_P D vwCl [(a, .inr (11, [.ref a_book, .ref a_now, .int m_sights, .ref a_sight, .int m_signs, .ref a_pad, .int m_sold, .int m_markets, .int m_marketAt, .int m_reason, .int m_acts, .ref a_digits, .ref a_without, .ref a_with, .ref a_counts, .ref a_fewest, .ref a_ways, .ref a_more, .ref a_chooses, .ref a_image, .ref a_isKept])), cm_kI cI a_book 31 m_book, cm_kI cI a_now 31 m_now, cm_kI cI a_pad 60 m_pad] H := hP
    have hD : va_D A [(a, .inr (11, [.ref a_book, .ref a_now, .int m_sights, .ref a_sight, .int m_signs, .ref a_pad, .int m_sold, .int m_markets, .int m_marketAt, .int m_reason, .int m_acts, .ref a_digits, .ref a_without, .ref a_with, .ref a_counts, .ref a_fewest, .ref a_ways, .ref a_more, .ref a_chooses, .ref a_image, .ref a_isKept])), cm_kI cI a_book 31 m_book, cm_kI cI a_now 31 m_now, cm_kI cI a_pad 60 m_pad] := hD
    refine W.eq (g2 := F0 m 18 ls [.int u15]) rfl ?_
    refine lv_if_ne (pc := 18) (tgt := 24) hx hb dX11_behind_18 (by decide) (fun c_18 => ?_) (fun c_18 => ?_)
    · have hf := cm_in c_18 hf
      refine lv_aload_n (pc := 24) hx hb dX11_behind_24 rfl (lv_at hl 0 rfl) ?_
      obtain ⟨u25, hu25, hf⟩ := cm_bd hf
      refine cm_callV (pc := 25) (As := []) (rest := []) (wr := []) (ci := 11) (q0 := 0) (n := 0) hx hb hml hown hts hK hP hD hS hA (c_X11_barOfWeeks l D cI cJ cZ a a_book a_now a_sight a_pad a_digits a_without a_with a_counts a_fewest a_ways a_more a_chooses a_image a_isKept m_sights m_signs m_sold m_markets m_marketAt m_reason m_acts m_book m_now m_pad u25 hu25) tw_866 tw_863 tw_865 tw_40 tw_56 rfl rfl (by decide +kernel) rfl ⟨Nat.le_of_ble_eq_true rfl, Nat.le_of_ble_eq_true rfl⟩ [0, 1, 2, 3] [] rfl (by decide) rfl (by decide) (by decide) rfl rfl rfl hl.1 rfl (Nat.le_of_ble_eq_true rfl) dX11_behind_25 ⟨Nat.zero_le _, Nat.zero_le _⟩ (fun H locs hP hD hS => ?_)
      have hP : va_P D vwCl [(a, .inr (11, [.ref a_book, .ref a_now, .int m_sights, .ref a_sight, .int m_signs, .ref a_pad, .int u25.2.1, .int u25.2.2.1, .int u25.2.2.2.1, .int u25.2.2.2.2.1, .int u25.2.2.2.2.2.1, .ref a_digits, .ref a_without, .ref a_with, .ref a_counts, .ref a_fewest, .ref a_ways, .ref a_more, .ref a_chooses, .ref a_image, .ref a_isKept])), cm_kI cI a_book 31 m_book, cm_kI cI a_now 31 u25.2.2.2.2.2.2, cm_kI cI a_pad 60 m_pad] H := hP
      have hD : va_D A [(a, .inr (11, [.ref a_book, .ref a_now, .int m_sights, .ref a_sight, .int m_signs, .ref a_pad, .int u25.2.1, .int u25.2.2.1, .int u25.2.2.2.1, .int u25.2.2.2.2.1, .int u25.2.2.2.2.2.1, .ref a_digits, .ref a_without, .ref a_with, .ref a_counts, .ref a_fewest, .ref a_ways, .ref a_more, .ref a_chooses, .ref a_image, .ref a_isKept])), cm_kI cI a_book 31 m_book, cm_kI cI a_now 31 u25.2.2.2.2.2.2, cm_kI cI a_pad 60 m_pad] := hD
      refine W.eq (g2 := F0 m 28 ls [.int u25.1]) rfl ?_
      refine lv_if_ge (pc := 28) (tgt := 36) hx hb dX11_behind_28 (by decide) (fun c_28 => ?_) (fun c_28 => ?_)
      · have hf := cm_ip c_28 hf
        refine lv_aload_n (pc := 36) hx hb dX11_behind_36 rfl (lv_at hl 0 rfl) ?_
        refine va_get (pc := 37) (D := D) (ci := 11) (v := .ref a_now) (C := RX11) (T := TX11) (N := 21) hx hb hts in_X11 hown hKa hP 0 rfl rfl 1 (by decide) (hts _ tw_713) (fun _ h9 => h9) rfl dX11_behind_37 ?_
        refine lv_bipush (pc := 40) (v := 8) hx hb dX11_behind_40 (by decide) ?_
        refine lv_iload_n (pc := 42) hx hb dX11_behind_42 rfl (lv_at hl 2 rfl) ?_
        refine lv_imul (pc := 43) hx hb dX11_behind_43 ?_
        refine lv_iload_n (pc := 44) hx hb dX11_behind_44 rfl (lv_at hl 1 rfl) ?_
        refine lv_iadd (pc := 45) hx hb dX11_behind_45 ?_
        obtain ⟨b_46, hf⟩ := cm_ob hf
        refine va_iald (pc := 46) hx hb hKa hP 2 0 rfl rfl b_46 dX11_behind_46 ?_
        obtain rfl := Option.some.inj hf
        exact cm_iret (pc := 47) hAe hQ hx hb hr hlocks hP hD hS [0, 1, 2, 3] (by decide) rfl dX11_behind_47
      · have hf := cm_in c_28 hf
        refine lv_bipush (pc := 31) (v := (-5)) hx hb dX11_behind_31 (by decide) ?_
        refine lv_goto (pc := 33) (tgt := 47) hx hb dX11_behind_33 (by decide) ?_
        obtain rfl := Option.some.inj hf
        exact cm_iret (pc := 47) hAe hQ hx hb hr hlocks hP hD hS [0, 1, 2, 3] (by decide) rfl dX11_behind_47
    · have hf := cm_ip c_18 hf
      refine lv_bipush (pc := 21) (v := (-2)) hx hb dX11_behind_21 (by decide) ?_
      obtain rfl := Option.some.inj hf
      exact cm_iret (pc := 23) hAe hQ hx hb hr hlocks hP hD hS [0, 1, 2, 3] (by decide) rfl dX11_behind_23
  · have hf := cm_ip c_7 hf
    refine lv_iconst (pc := 10) (v := (-1)) hx hb dX11_behind_10 (by decide) ?_
    obtain rfl := Option.some.inj hf
    exact cm_iret (pc := 11) hAe hQ hx hb hr hlocks hP hD hS [0, 1, 2, 3] (by decide) rfl dX11_behind_11
def fX11_comes (v1 : Int32) (m_signs : Int32) (m_sold : Int32) (m_markets : Int32) (m_marketAt : Int32) (m_reason : Int32) (m_acts : Int32) (m_book : (Nat → Int32)) (m_now : (Nat → Int32)) (m_pad : (Nat → Int32)) : Option (Int32 × Int32 × Int32 × Int32 × Int32 × Int32 × (Nat → Int32)) := cm_let (fX11_in v1 0 3) (fun u3 => (if u3 = 0 then some ((-1), m_sold, m_markets, m_marketAt, m_reason, m_acts, m_now) else Option.bind (fX11_barOfWeeks m_signs m_sold m_markets m_marketAt m_reason m_acts m_book m_now m_pad) (fun u12 => (if 0 ≤ u12.1 then if (24 + v1) < 0 ∨ 31 ≤ (24 + v1).toNatClampNeg then none else some ((u12.2.2.2.2.2.2 (24 + v1).toNatClampNeg), u12.2.1, u12.2.2.1, u12.2.2.2.1, u12.2.2.2.2.1, u12.2.2.2.2.2.1, u12.2.2.2.2.2.2) else some ((-5), u12.2.1, u12.2.2.1, u12.2.2.2.1, u12.2.2.2.2.1, u12.2.2.2.2.2.1, u12.2.2.2.2.2.2)))))
def rmX11_comes : Room := { frames := 5, cells := 0, slots := 0, locals := 110 }
set_option maxRecDepth 100000 in
set_option maxHeartbeats 4000000 in
theorem c_X11_comes (l : Launch) (D : va_G) (cI cJ cZ : ClassId) (a a_book a_now a_sight a_pad a_digits a_without a_with a_counts a_fewest a_ways a_more a_chooses a_image a_isKept : Nat) (m_sights : Int32) (m_signs : Int32) (m_sold : Int32) (m_markets : Int32) (m_marketAt : Int32) (m_reason : Int32) (m_acts : Int32) (m_book : (Nat → Int32)) (m_now : (Nat → Int32)) (m_pad : (Nat → Int32)) (v1 : Int32) (res : Int32 × Int32 × Int32 × Int32 × Int32 × Int32 × (Nat → Int32)) (hf : fX11_comes v1 m_signs m_sold m_markets m_marketAt m_reason m_acts m_book m_now m_pad = some res) : Ct l yX11_comes (cm_ws yX11_comes cX11_comes 2 (some .int)) rmX11_comes D (cm_T cI cJ cZ) [.ref a, .int v1] [(a, .inr (11, [.ref a_book, .ref a_now, .int m_sights, .ref a_sight, .int m_signs, .ref a_pad, .int m_sold, .int m_markets, .int m_marketAt, .int m_reason, .int m_acts, .ref a_digits, .ref a_without, .ref a_with, .ref a_counts, .ref a_fewest, .ref a_ways, .ref a_more, .ref a_chooses, .ref a_image, .ref a_isKept])), cm_kI cI a_book 31 m_book, cm_kI cI a_now 31 m_now, cm_kI cI a_pad 60 m_pad] (some (.int res.1)) [(a, .inr (11, [.ref a_book, .ref a_now, .int m_sights, .ref a_sight, .int m_signs, .ref a_pad, .int res.2.1, .int res.2.2.1, .int res.2.2.2.1, .int res.2.2.2.2.1, .int res.2.2.2.2.2.1, .ref a_digits, .ref a_without, .ref a_with, .ref a_counts, .ref a_fewest, .ref a_ways, .ref a_more, .ref a_chooses, .ref a_image, .ref a_isKept])), cm_kI cI a_book 31 m_book, cm_kI cI a_now 31 res.2.2.2.2.2.2, cm_kI cI a_pad 60 m_pad] := by
  refine Ct.of (cc := cX11_comes) (maxL := 2) (ret := (some .int)) (by decide) (Nat.le_of_ble_eq_true rfl) ?_
  intro p e s m below meth c ls args A Q hav hAe hQ hx hb hr hml hown hlocks hts hK hP hD hA hS hl
  have hKa := hK.1
  have hl : lv_has ls 2 [(0, .ref a), (1, .int v1)] := hl
  unfold fX11_comes at hf
  refine lv_iload_n (pc := 0) hx hb dX11_comes_0 rfl (lv_at hl 1 rfl) ?_
  refine lv_iconst (pc := 1) (v := 0) hx hb dX11_comes_1 (by decide) ?_
  refine lv_iconst (pc := 2) (v := 3) hx hb dX11_comes_2 (by decide) ?_
  obtain ⟨u3, hu3, hf⟩ := cm_lt hf
  refine cm_callS (pc := 3) (As := [.int v1, .int 0, .int 3]) (rest := []) (wr := [(a, .inr (11, [.ref a_book, .ref a_now, .int m_sights, .ref a_sight, .int m_signs, .ref a_pad, .int m_sold, .int m_markets, .int m_marketAt, .int m_reason, .int m_acts, .ref a_digits, .ref a_without, .ref a_with, .ref a_counts, .ref a_fewest, .ref a_ways, .ref a_more, .ref a_chooses, .ref a_image, .ref a_isKept])), cm_kI cI a_book 31 m_book, cm_kI cI a_now 31 m_now, cm_kI cI a_pad 60 m_pad]) (n := 3) hx hb hml hown hts hK hP hD hS hA (c_X11_in l D cI cJ cZ v1 0 3 u3 hu3) tw_783 tw_781 tw_782 tw_56 rfl rfl (by decide +kernel) rfl ⟨Nat.le_of_ble_eq_true rfl, Nat.le_of_ble_eq_true rfl⟩ [] [0, 1, 2, 3] rfl (by decide) rfl (by decide) (by decide) hl.1 rfl (Nat.le_of_ble_eq_true rfl) dX11_comes_3 ⟨Nat.zero_le _, Nat.zero_le _⟩ (fun H locs hP hD hS => ?_)
  have hP : va_P D vwCl [(a, .inr (11, [.ref a_book, .ref a_now, .int m_sights, .ref a_sight, .int m_signs, .ref a_pad, .int m_sold, .int m_markets, .int m_marketAt, .int m_reason, .int m_acts, .ref a_digits, .ref a_without, .ref a_with, .ref a_counts, .ref a_fewest, .ref a_ways, .ref a_more, .ref a_chooses, .ref a_image, .ref a_isKept])), cm_kI cI a_book 31 m_book, cm_kI cI a_now 31 m_now, cm_kI cI a_pad 60 m_pad] H := hP
  have hD : va_D A [(a, .inr (11, [.ref a_book, .ref a_now, .int m_sights, .ref a_sight, .int m_signs, .ref a_pad, .int m_sold, .int m_markets, .int m_marketAt, .int m_reason, .int m_acts, .ref a_digits, .ref a_without, .ref a_with, .ref a_counts, .ref a_fewest, .ref a_ways, .ref a_more, .ref a_chooses, .ref a_image, .ref a_isKept])), cm_kI cI a_book 31 m_book, cm_kI cI a_now 31 m_now, cm_kI cI a_pad 60 m_pad] := hD
  refine W.eq (g2 := F0 m 6 ls [.int u3]) rfl ?_
  refine lv_if_ne (pc := 6) (tgt := 11) hx hb dX11_comes_6 (by decide) (fun c_6 => ?_) (fun c_6 => ?_)
  · have hf := cm_in c_6 hf
    refine lv_aload_n (pc := 11) hx hb dX11_comes_11 rfl (lv_at hl 0 rfl) ?_
    obtain ⟨u12, hu12, hf⟩ := cm_bd hf
    refine cm_callV (pc := 12) (As := []) (rest := []) (wr := []) (ci := 11) (q0 := 0) (n := 0) hx hb hml hown hts hK hP hD hS hA (c_X11_barOfWeeks l D cI cJ cZ a a_book a_now a_sight a_pad a_digits a_without a_with a_counts a_fewest a_ways a_more a_chooses a_image a_isKept m_sights m_signs m_sold m_markets m_marketAt m_reason m_acts m_book m_now m_pad u12 hu12) tw_866 tw_863 tw_865 tw_40 tw_56 rfl rfl (by decide +kernel) rfl ⟨Nat.le_of_ble_eq_true rfl, Nat.le_of_ble_eq_true rfl⟩ [0, 1, 2, 3] [] rfl (by decide) rfl (by decide) (by decide) rfl rfl rfl hl.1 rfl (Nat.le_of_ble_eq_true rfl) dX11_comes_12 ⟨Nat.zero_le _, Nat.zero_le _⟩ (fun H locs hP hD hS => ?_)
    have hP : va_P D vwCl [(a, .inr (11, [.ref a_book, .ref a_now, .int m_sights, .ref a_sight, .int m_signs, .ref a_pad, .int u12.2.1, .int u12.2.2.1, .int u12.2.2.2.1, .int u12.2.2.2.2.1, .int u12.2.2.2.2.2.1, .ref a_digits, .ref a_without, .ref a_with, .ref a_counts, .ref a_fewest, .ref a_ways, .ref a_more, .ref a_chooses, .ref a_image, .ref a_isKept])), cm_kI cI a_book 31 m_book, cm_kI cI a_now 31 u12.2.2.2.2.2.2, cm_kI cI a_pad 60 m_pad] H := hP
    have hD : va_D A [(a, .inr (11, [.ref a_book, .ref a_now, .int m_sights, .ref a_sight, .int m_signs, .ref a_pad, .int u12.2.1, .int u12.2.2.1, .int u12.2.2.2.1, .int u12.2.2.2.2.1, .int u12.2.2.2.2.2.1, .ref a_digits, .ref a_without, .ref a_with, .ref a_counts, .ref a_fewest, .ref a_ways, .ref a_more, .ref a_chooses, .ref a_image, .ref a_isKept])), cm_kI cI a_book 31 m_book, cm_kI cI a_now 31 u12.2.2.2.2.2.2, cm_kI cI a_pad 60 m_pad] := hD
    refine W.eq (g2 := F0 m 15 ls [.int u12.1]) rfl ?_
    refine lv_if_ge (pc := 15) (tgt := 23) hx hb dX11_comes_15 (by decide) (fun c_15 => ?_) (fun c_15 => ?_)
    · have hf := cm_ip c_15 hf
      refine lv_aload_n (pc := 23) hx hb dX11_comes_23 rfl (lv_at hl 0 rfl) ?_
      refine va_get (pc := 24) (D := D) (ci := 11) (v := .ref a_now) (C := RX11) (T := TX11) (N := 21) hx hb hts in_X11 hown hKa hP 0 rfl rfl 1 (by decide) (hts _ tw_713) (fun _ h9 => h9) rfl dX11_comes_24 ?_
      refine lv_bipush (pc := 27) (v := 24) hx hb dX11_comes_27 (by decide) ?_
      refine lv_iload_n (pc := 29) hx hb dX11_comes_29 rfl (lv_at hl 1 rfl) ?_
      refine lv_iadd (pc := 30) hx hb dX11_comes_30 ?_
      obtain ⟨b_31, hf⟩ := cm_ob hf
      refine va_iald (pc := 31) hx hb hKa hP 2 0 rfl rfl b_31 dX11_comes_31 ?_
      obtain rfl := Option.some.inj hf
      exact cm_iret (pc := 32) hAe hQ hx hb hr hlocks hP hD hS [0, 1, 2, 3] (by decide) rfl dX11_comes_32
    · have hf := cm_in c_15 hf
      refine lv_bipush (pc := 18) (v := (-5)) hx hb dX11_comes_18 (by decide) ?_
      refine lv_goto (pc := 20) (tgt := 32) hx hb dX11_comes_20 (by decide) ?_
      obtain rfl := Option.some.inj hf
      exact cm_iret (pc := 32) hAe hQ hx hb hr hlocks hP hD hS [0, 1, 2, 3] (by decide) rfl dX11_comes_32
  · have hf := cm_ip c_6 hf
    refine lv_iconst (pc := 9) (v := (-1)) hx hb dX11_comes_9 (by decide) ?_
    obtain rfl := Option.some.inj hf
    exact cm_iret (pc := 10) hAe hQ hx hb hr hlocks hP hD hS [0, 1, 2, 3] (by decide) rfl dX11_comes_10
def fX11_then (v1 : Int32) (m_signs : Int32) (m_sold : Int32) (m_markets : Int32) (m_marketAt : Int32) (m_reason : Int32) (m_acts : Int32) (m_book : (Nat → Int32)) (m_now : (Nat → Int32)) (m_pad : (Nat → Int32)) : Option (Int32 × Int32 × Int32 × Int32 × Int32 × Int32 × (Nat → Int32)) := cm_let (fX11_in v1 0 6) (fun u4 => (if u4 = 0 then some ((-2), m_sold, m_markets, m_marketAt, m_reason, m_acts, m_now) else Option.bind (fX11_barOfWeeks m_signs m_sold m_markets m_marketAt m_reason m_acts m_book m_now m_pad) (fun u14 => (if 0 ≤ u14.1 then (if v1 = 0 then some ((u14.2.2.2.2.2.2 28), u14.2.1, u14.2.2.1, u14.2.2.2.1, u14.2.2.2.2.1, u14.2.2.2.2.2.1, u14.2.2.2.2.2.2) else (if v1 = 1 then Option.bind (fX11_theDay u14.2.2.2.2.2.2) (fun u69 => some (u69, u14.2.1, u14.2.2.1, u14.2.2.2.1, u14.2.2.2.2.1, u14.2.2.2.2.2.1, u14.2.2.2.2.2.2)) else (if v1 = 2 then Option.bind (fX11_theDay u14.2.2.2.2.2.2) (fun u75 => Option.bind (fX11_chalkOf u75 u14.2.2.2.2.2.2) (fun u78 => some (u78, u14.2.1, u14.2.2.1, u14.2.2.2.1, u14.2.2.2.2.1, u14.2.2.2.2.2.1, u14.2.2.2.2.2.2))) else (if v1 = 3 then some (u14.2.1, u14.2.1, u14.2.2.1, u14.2.2.2.1, u14.2.2.2.2.1, u14.2.2.2.2.2.1, u14.2.2.2.2.2.2) else (if v1 = 4 then some ((u14.2.2.2.2.2.2 29), u14.2.1, u14.2.2.1, u14.2.2.2.1, u14.2.2.2.2.1, u14.2.2.2.2.2.1, u14.2.2.2.2.2.2) else (if v1 = 5 then some (u14.2.2.1, u14.2.1, u14.2.2.1, u14.2.2.2.1, u14.2.2.2.2.1, u14.2.2.2.2.2.1, u14.2.2.2.2.2.2) else some (u14.2.2.2.1, u14.2.1, u14.2.2.1, u14.2.2.2.1, u14.2.2.2.2.1, u14.2.2.2.2.2.1, u14.2.2.2.2.2.2))))))) else some ((-5), u14.2.1, u14.2.2.1, u14.2.2.2.1, u14.2.2.2.2.1, u14.2.2.2.2.2.1, u14.2.2.2.2.2.2)))))
def rmX11_then : Room := { frames := 5, cells := 0, slots := 0, locals := 110 }
set_option maxRecDepth 100000 in
set_option maxHeartbeats 4000000 in
theorem c_X11_then (l : Launch) (D : va_G) (cI cJ cZ : ClassId) (a a_book a_now a_sight a_pad a_digits a_without a_with a_counts a_fewest a_ways a_more a_chooses a_image a_isKept : Nat) (m_sights : Int32) (m_signs : Int32) (m_sold : Int32) (m_markets : Int32) (m_marketAt : Int32) (m_reason : Int32) (m_acts : Int32) (m_book : (Nat → Int32)) (m_now : (Nat → Int32)) (m_pad : (Nat → Int32)) (v1 : Int32) (res : Int32 × Int32 × Int32 × Int32 × Int32 × Int32 × (Nat → Int32)) (hf : fX11_then v1 m_signs m_sold m_markets m_marketAt m_reason m_acts m_book m_now m_pad = some res) : Ct l yX11_then (cm_ws yX11_then cX11_then 2 (some .int)) rmX11_then D (cm_T cI cJ cZ) [.ref a, .int v1] [(a, .inr (11, [.ref a_book, .ref a_now, .int m_sights, .ref a_sight, .int m_signs, .ref a_pad, .int m_sold, .int m_markets, .int m_marketAt, .int m_reason, .int m_acts, .ref a_digits, .ref a_without, .ref a_with, .ref a_counts, .ref a_fewest, .ref a_ways, .ref a_more, .ref a_chooses, .ref a_image, .ref a_isKept])), cm_kI cI a_book 31 m_book, cm_kI cI a_now 31 m_now, cm_kI cI a_pad 60 m_pad] (some (.int res.1)) [(a, .inr (11, [.ref a_book, .ref a_now, .int m_sights, .ref a_sight, .int m_signs, .ref a_pad, .int res.2.1, .int res.2.2.1, .int res.2.2.2.1, .int res.2.2.2.2.1, .int res.2.2.2.2.2.1, .ref a_digits, .ref a_without, .ref a_with, .ref a_counts, .ref a_fewest, .ref a_ways, .ref a_more, .ref a_chooses, .ref a_image, .ref a_isKept])), cm_kI cI a_book 31 m_book, cm_kI cI a_now 31 res.2.2.2.2.2.2, cm_kI cI a_pad 60 m_pad] := by
  refine Ct.of (cc := cX11_then) (maxL := 2) (ret := (some .int)) (by decide) (Nat.le_of_ble_eq_true rfl) ?_
  intro p e s m below meth c ls args A Q hav hAe hQ hx hb hr hml hown hlocks hts hK hP hD hA hS hl
  have hKa := hK.1
  have hl : lv_has ls 2 [(0, .ref a), (1, .int v1)] := hl
  unfold fX11_then at hf
  refine lv_iload_n (pc := 0) hx hb dX11_then_0 rfl (lv_at hl 1 rfl) ?_
  refine lv_iconst (pc := 1) (v := 0) hx hb dX11_then_1 (by decide) ?_
  refine lv_bipush (pc := 2) (v := 6) hx hb dX11_then_2 (by decide) ?_
  obtain ⟨u4, hu4, hf⟩ := cm_lt hf
  refine cm_callS (pc := 4) (As := [.int v1, .int 0, .int 6]) (rest := []) (wr := [(a, .inr (11, [.ref a_book, .ref a_now, .int m_sights, .ref a_sight, .int m_signs, .ref a_pad, .int m_sold, .int m_markets, .int m_marketAt, .int m_reason, .int m_acts, .ref a_digits, .ref a_without, .ref a_with, .ref a_counts, .ref a_fewest, .ref a_ways, .ref a_more, .ref a_chooses, .ref a_image, .ref a_isKept])), cm_kI cI a_book 31 m_book, cm_kI cI a_now 31 m_now, cm_kI cI a_pad 60 m_pad]) (n := 3) hx hb hml hown hts hK hP hD hS hA (c_X11_in l D cI cJ cZ v1 0 6 u4 hu4) tw_783 tw_781 tw_782 tw_56 rfl rfl (by decide +kernel) rfl ⟨Nat.le_of_ble_eq_true rfl, Nat.le_of_ble_eq_true rfl⟩ [] [0, 1, 2, 3] rfl (by decide) rfl (by decide) (by decide) hl.1 rfl (Nat.le_of_ble_eq_true rfl) dX11_then_4 ⟨Nat.zero_le _, Nat.zero_le _⟩ (fun H locs hP hD hS => ?_)
  have hP : va_P D vwCl [(a, .inr (11, [.ref a_book, .ref a_now, .int m_sights, .ref a_sight, .int m_signs, .ref a_pad, .int m_sold, .int m_markets, .int m_marketAt, .int m_reason, .int m_acts, .ref a_digits, .ref a_without, .ref a_with, .ref a_counts, .ref a_fewest, .ref a_ways, .ref a_more, .ref a_chooses, .ref a_image, .ref a_isKept])), cm_kI cI a_book 31 m_book, cm_kI cI a_now 31 m_now, cm_kI cI a_pad 60 m_pad] H := hP
  have hD : va_D A [(a, .inr (11, [.ref a_book, .ref a_now, .int m_sights, .ref a_sight, .int m_signs, .ref a_pad, .int m_sold, .int m_markets, .int m_marketAt, .int m_reason, .int m_acts, .ref a_digits, .ref a_without, .ref a_with, .ref a_counts, .ref a_fewest, .ref a_ways, .ref a_more, .ref a_chooses, .ref a_image, .ref a_isKept])), cm_kI cI a_book 31 m_book, cm_kI cI a_now 31 m_now, cm_kI cI a_pad 60 m_pad] := hD
  refine W.eq (g2 := F0 m 7 ls [.int u4]) rfl ?_
  refine lv_if_ne (pc := 7) (tgt := 13) hx hb dX11_then_7 (by decide) (fun c_7 => ?_) (fun c_7 => ?_)
  · have hf := cm_in c_7 hf
    refine lv_aload_n (pc := 13) hx hb dX11_then_13 rfl (lv_at hl 0 rfl) ?_
    obtain ⟨u14, hu14, hf⟩ := cm_bd hf
    refine cm_callV (pc := 14) (As := []) (rest := []) (wr := []) (ci := 11) (q0 := 0) (n := 0) hx hb hml hown hts hK hP hD hS hA (c_X11_barOfWeeks l D cI cJ cZ a a_book a_now a_sight a_pad a_digits a_without a_with a_counts a_fewest a_ways a_more a_chooses a_image a_isKept m_sights m_signs m_sold m_markets m_marketAt m_reason m_acts m_book m_now m_pad u14 hu14) tw_866 tw_863 tw_865 tw_40 tw_56 rfl rfl (by decide +kernel) rfl ⟨Nat.le_of_ble_eq_true rfl, Nat.le_of_ble_eq_true rfl⟩ [0, 1, 2, 3] [] rfl (by decide) rfl (by decide) (by decide) rfl rfl rfl hl.1 rfl (Nat.le_of_ble_eq_true rfl) dX11_then_14 ⟨Nat.zero_le _, Nat.zero_le _⟩ (fun H locs hP hD hS => ?_)
    have hP : va_P D vwCl [(a, .inr (11, [.ref a_book, .ref a_now, .int m_sights, .ref a_sight, .int m_signs, .ref a_pad, .int u14.2.1, .int u14.2.2.1, .int u14.2.2.2.1, .int u14.2.2.2.2.1, .int u14.2.2.2.2.2.1, .ref a_digits, .ref a_without, .ref a_with, .ref a_counts, .ref a_fewest, .ref a_ways, .ref a_more, .ref a_chooses, .ref a_image, .ref a_isKept])), cm_kI cI a_book 31 m_book, cm_kI cI a_now 31 u14.2.2.2.2.2.2, cm_kI cI a_pad 60 m_pad] H := hP
    have hD : va_D A [(a, .inr (11, [.ref a_book, .ref a_now, .int m_sights, .ref a_sight, .int m_signs, .ref a_pad, .int u14.2.1, .int u14.2.2.1, .int u14.2.2.2.1, .int u14.2.2.2.2.1, .int u14.2.2.2.2.2.1, .ref a_digits, .ref a_without, .ref a_with, .ref a_counts, .ref a_fewest, .ref a_ways, .ref a_more, .ref a_chooses, .ref a_image, .ref a_isKept])), cm_kI cI a_book 31 m_book, cm_kI cI a_now 31 u14.2.2.2.2.2.2, cm_kI cI a_pad 60 m_pad] := hD
    refine W.eq (g2 := F0 m 17 ls [.int u14.1]) rfl ?_
    refine lv_if_ge (pc := 17) (tgt := 23) hx hb dX11_then_17 (by decide) (fun c_17 => ?_) (fun c_17 => ?_)
    · have hf := cm_ip c_17 hf
      refine lv_iload_n (pc := 23) hx hb dX11_then_23 rfl (lv_at hl 1 rfl) ?_
      refine cm_em (v1 = 0) (fun c_24_0 => ?_) (fun c_24_0 => ?_)
      · have hf := cm_ip c_24_0 hf
        refine lv_tableIn (pc := 24) (off := 36) (tgt := 60) hx hb dX11_then_24 (by rw [c_24_0]; decide) (by rw [c_24_0]; decide) (by rw [c_24_0]; rfl) (by decide) ?_
        refine lv_aload_n (pc := 60) hx hb dX11_then_60 rfl (lv_at hl 0 rfl) ?_
        refine va_get (pc := 61) (D := D) (ci := 11) (v := .ref a_now) (C := RX11) (T := TX11) (N := 21) hx hb hts in_X11 hown hKa hP 0 rfl rfl 1 (by decide) (hts _ tw_713) (fun _ h9 => h9) rfl dX11_then_61 ?_
        refine lv_bipush (pc := 64) (v := 28) hx hb dX11_then_64 (by decide) ?_
        refine cm_iald (pc := 66) hx hb hKa hP 2 0 rfl rfl 28 rfl (by decide) dX11_then_66 ?_
        obtain rfl := Option.some.inj hf
        exact cm_iret (pc := 67) hAe hQ hx hb hr hlocks hP hD hS [0, 1, 2, 3] (by decide) rfl dX11_then_67
      · have hf := cm_in c_24_0 hf
        refine cm_em (v1 = 1) (fun c_24_1 => ?_) (fun c_24_1 => ?_)
        · have hf := cm_ip c_24_1 hf
          refine lv_tableIn (pc := 24) (off := 44) (tgt := 68) hx hb dX11_then_24 (by rw [c_24_1]; decide) (by rw [c_24_1]; decide) (by rw [c_24_1]; rfl) (by decide) ?_
          refine lv_aload_n (pc := 68) hx hb dX11_then_68 rfl (lv_at hl 0 rfl) ?_
          obtain ⟨u69, hu69, hf⟩ := cm_bd hf
          refine cm_callV (pc := 69) (As := []) (rest := []) (wr := [cm_kI cI a_book 31 m_book, cm_kI cI a_pad 60 m_pad]) (ci := 11) (q0 := 0) (n := 0) hx hb hml hown hts hK hP hD hS hA (c_X11_theDay l D cI cJ cZ a a_book a_now a_sight a_pad a_digits a_without a_with a_counts a_fewest a_ways a_more a_chooses a_image a_isKept m_sights m_signs u14.2.1 u14.2.2.1 u14.2.2.2.1 u14.2.2.2.2.1 u14.2.2.2.2.2.1 u14.2.2.2.2.2.2 u69 hu69) tw_830 tw_827 tw_829 tw_32 tw_56 rfl rfl (by decide +kernel) rfl ⟨Nat.le_of_ble_eq_true rfl, Nat.le_of_ble_eq_true rfl⟩ [0, 2] [1, 3] rfl (by decide) rfl (by decide) (by decide) rfl rfl rfl hl.1 rfl (Nat.le_of_ble_eq_true rfl) dX11_then_69 ⟨Nat.zero_le _, Nat.zero_le _⟩ (fun H locs hP hD hS => ?_)
          have hP : va_P D vwCl [cm_kI cI a_book 31 m_book, cm_kI cI a_pad 60 m_pad, (a, .inr (11, [.ref a_book, .ref a_now, .int m_sights, .ref a_sight, .int m_signs, .ref a_pad, .int u14.2.1, .int u14.2.2.1, .int u14.2.2.2.1, .int u14.2.2.2.2.1, .int u14.2.2.2.2.2.1, .ref a_digits, .ref a_without, .ref a_with, .ref a_counts, .ref a_fewest, .ref a_ways, .ref a_more, .ref a_chooses, .ref a_image, .ref a_isKept])), cm_kI cI a_now 31 u14.2.2.2.2.2.2] H := hP
          have hD : va_D A [cm_kI cI a_book 31 m_book, cm_kI cI a_pad 60 m_pad, (a, .inr (11, [.ref a_book, .ref a_now, .int m_sights, .ref a_sight, .int m_signs, .ref a_pad, .int u14.2.1, .int u14.2.2.1, .int u14.2.2.2.1, .int u14.2.2.2.2.1, .int u14.2.2.2.2.2.1, .ref a_digits, .ref a_without, .ref a_with, .ref a_counts, .ref a_fewest, .ref a_ways, .ref a_more, .ref a_chooses, .ref a_image, .ref a_isKept])), cm_kI cI a_now 31 u14.2.2.2.2.2.2] := hD
          refine W.eq (g2 := F0 m 72 ls [.int u69]) rfl ?_
          obtain rfl := Option.some.inj hf
          exact cm_iret (pc := 72) hAe hQ hx hb hr hlocks hP hD hS [2, 0, 3, 1] (by decide) rfl dX11_then_72
        · have hf := cm_in c_24_1 hf
          refine cm_em (v1 = 2) (fun c_24_2 => ?_) (fun c_24_2 => ?_)
          · have hf := cm_ip c_24_2 hf
            refine lv_tableIn (pc := 24) (off := 49) (tgt := 73) hx hb dX11_then_24 (by rw [c_24_2]; decide) (by rw [c_24_2]; decide) (by rw [c_24_2]; rfl) (by decide) ?_
            refine lv_aload_n (pc := 73) hx hb dX11_then_73 rfl (lv_at hl 0 rfl) ?_
            refine lv_aload_n (pc := 74) hx hb dX11_then_74 rfl (lv_at hl 0 rfl) ?_
            obtain ⟨u75, hu75, hf⟩ := cm_bd hf
            refine cm_callV (pc := 75) (As := []) (rest := [.ref a]) (wr := [cm_kI cI a_book 31 m_book, cm_kI cI a_pad 60 m_pad]) (ci := 11) (q0 := 0) (n := 0) hx hb hml hown hts hK hP hD hS hA (c_X11_theDay l D cI cJ cZ a a_book a_now a_sight a_pad a_digits a_without a_with a_counts a_fewest a_ways a_more a_chooses a_image a_isKept m_sights m_signs u14.2.1 u14.2.2.1 u14.2.2.2.1 u14.2.2.2.2.1 u14.2.2.2.2.2.1 u14.2.2.2.2.2.2 u75 hu75) tw_830 tw_827 tw_829 tw_32 tw_56 rfl rfl (by decide +kernel) rfl ⟨Nat.le_of_ble_eq_true rfl, Nat.le_of_ble_eq_true rfl⟩ [0, 2] [1, 3] rfl (by decide) rfl (by decide) (by decide) rfl rfl rfl hl.1 rfl (Nat.le_of_ble_eq_true rfl) dX11_then_75 ⟨Nat.zero_le _, Nat.zero_le _⟩ (fun H locs hP hD hS => ?_)
            have hP : va_P D vwCl [cm_kI cI a_book 31 m_book, cm_kI cI a_pad 60 m_pad, (a, .inr (11, [.ref a_book, .ref a_now, .int m_sights, .ref a_sight, .int m_signs, .ref a_pad, .int u14.2.1, .int u14.2.2.1, .int u14.2.2.2.1, .int u14.2.2.2.2.1, .int u14.2.2.2.2.2.1, .ref a_digits, .ref a_without, .ref a_with, .ref a_counts, .ref a_fewest, .ref a_ways, .ref a_more, .ref a_chooses, .ref a_image, .ref a_isKept])), cm_kI cI a_now 31 u14.2.2.2.2.2.2] H := hP
            have hD : va_D A [cm_kI cI a_book 31 m_book, cm_kI cI a_pad 60 m_pad, (a, .inr (11, [.ref a_book, .ref a_now, .int m_sights, .ref a_sight, .int m_signs, .ref a_pad, .int u14.2.1, .int u14.2.2.1, .int u14.2.2.2.1, .int u14.2.2.2.2.1, .int u14.2.2.2.2.2.1, .ref a_digits, .ref a_without, .ref a_with, .ref a_counts, .ref a_fewest, .ref a_ways, .ref a_more, .ref a_chooses, .ref a_image, .ref a_isKept])), cm_kI cI a_now 31 u14.2.2.2.2.2.2] := hD
            refine W.eq (g2 := F0 m 78 ls [.int u75, .ref a]) rfl ?_
            obtain ⟨u78, hu78, hf⟩ := cm_bd hf
            refine cm_callV (pc := 78) (As := [.int u75]) (rest := []) (wr := [cm_kI cI a_book 31 m_book, cm_kI cI a_pad 60 m_pad]) (ci := 11) (q0 := 2) (n := 1) hx hb hml hown hts hK hP hD hS hA (c_X11_chalkOf l D cI cJ cZ a a_book a_now a_sight a_pad a_digits a_without a_with a_counts a_fewest a_ways a_more a_chooses a_image a_isKept m_sights m_signs u14.2.1 u14.2.2.1 u14.2.2.2.1 u14.2.2.2.2.1 u14.2.2.2.2.2.1 u14.2.2.2.2.2.2 u75 u78 hu78) tw_834 tw_831 tw_833 tw_33 tw_56 rfl rfl (by decide +kernel) rfl ⟨Nat.le_of_ble_eq_true rfl, Nat.le_of_ble_eq_true rfl⟩ [2, 3] [0, 1] rfl (by decide) rfl (by decide) (by decide) rfl rfl rfl hl.1 rfl (Nat.le_of_ble_eq_true rfl) dX11_then_78 ⟨Nat.zero_le _, Nat.zero_le _⟩ (fun H locs hP hD hS => ?_)
            have hP : va_P D vwCl [cm_kI cI a_book 31 m_book, cm_kI cI a_pad 60 m_pad, (a, .inr (11, [.ref a_book, .ref a_now, .int m_sights, .ref a_sight, .int m_signs, .ref a_pad, .int u14.2.1, .int u14.2.2.1, .int u14.2.2.2.1, .int u14.2.2.2.2.1, .int u14.2.2.2.2.2.1, .ref a_digits, .ref a_without, .ref a_with, .ref a_counts, .ref a_fewest, .ref a_ways, .ref a_more, .ref a_chooses, .ref a_image, .ref a_isKept])), cm_kI cI a_now 31 u14.2.2.2.2.2.2] H := hP
            have hD : va_D A [cm_kI cI a_book 31 m_book, cm_kI cI a_pad 60 m_pad, (a, .inr (11, [.ref a_book, .ref a_now, .int m_sights, .ref a_sight, .int m_signs, .ref a_pad, .int u14.2.1, .int u14.2.2.1, .int u14.2.2.2.1, .int u14.2.2.2.2.1, .int u14.2.2.2.2.2.1, .ref a_digits, .ref a_without, .ref a_with, .ref a_counts, .ref a_fewest, .ref a_ways, .ref a_more, .ref a_chooses, .ref a_image, .ref a_isKept])), cm_kI cI a_now 31 u14.2.2.2.2.2.2] := hD
            refine W.eq (g2 := F0 m 81 ls [.int u78]) rfl ?_
            obtain rfl := Option.some.inj hf
            exact cm_iret (pc := 81) hAe hQ hx hb hr hlocks hP hD hS [2, 0, 3, 1] (by decide) rfl dX11_then_81
          · have hf := cm_in c_24_2 hf
            refine cm_em (v1 = 3) (fun c_24_3 => ?_) (fun c_24_3 => ?_)
            · have hf := cm_ip c_24_3 hf
              refine lv_tableIn (pc := 24) (off := 58) (tgt := 82) hx hb dX11_then_24 (by rw [c_24_3]; decide) (by rw [c_24_3]; decide) (by rw [c_24_3]; rfl) (by decide) ?_
              refine lv_aload_n (pc := 82) hx hb dX11_then_82 rfl (lv_at hl 0 rfl) ?_
              refine va_get (pc := 83) (D := D) (ci := 11) (v := .int u14.2.1) (C := RX11) (T := TX11) (N := 21) hx hb hts in_X11 hown hKa hP 0 rfl rfl 6 (by decide) (hts _ tw_718) (fun _ h9 => h9) rfl dX11_then_83 ?_
              obtain rfl := Option.some.inj hf
              exact cm_iret (pc := 86) hAe hQ hx hb hr hlocks hP hD hS [0, 1, 2, 3] (by decide) rfl dX11_then_86
            · have hf := cm_in c_24_3 hf
              refine cm_em (v1 = 4) (fun c_24_4 => ?_) (fun c_24_4 => ?_)
              · have hf := cm_ip c_24_4 hf
                refine lv_tableIn (pc := 24) (off := 63) (tgt := 87) hx hb dX11_then_24 (by rw [c_24_4]; decide) (by rw [c_24_4]; decide) (by rw [c_24_4]; rfl) (by decide) ?_
                refine lv_aload_n (pc := 87) hx hb dX11_then_87 rfl (lv_at hl 0 rfl) ?_
                refine va_get (pc := 88) (D := D) (ci := 11) (v := .ref a_now) (C := RX11) (T := TX11) (N := 21) hx hb hts in_X11 hown hKa hP 0 rfl rfl 1 (by decide) (hts _ tw_713) (fun _ h9 => h9) rfl dX11_then_88 ?_
                refine lv_bipush (pc := 91) (v := 29) hx hb dX11_then_91 (by decide) ?_
                refine cm_iald (pc := 93) hx hb hKa hP 2 0 rfl rfl 29 rfl (by decide) dX11_then_93 ?_
                obtain rfl := Option.some.inj hf
                exact cm_iret (pc := 94) hAe hQ hx hb hr hlocks hP hD hS [0, 1, 2, 3] (by decide) rfl dX11_then_94
              · have hf := cm_in c_24_4 hf
                refine lv_tableOut (pc := 24) (tgt := 95) hx hb dX11_then_24 (by have h0 := cm_nt (z := 0) (by decide) c_24_0; have h1 := cm_nt (z := 1) (by decide) c_24_1; have h2 := cm_nt (z := 2) (by decide) c_24_2; have h3 := cm_nt (z := 3) (by decide) c_24_3; have h4 := cm_nt (z := 4) (by decide) c_24_4; omega) (by decide) ?_
                refine lv_iload_n (pc := 95) hx hb dX11_then_95 rfl (lv_at hl 1 rfl) ?_
                refine lv_iconst (pc := 96) (v := 5) hx hb dX11_then_96 (by decide) ?_
                refine lv_icmp_ne (pc := 97) (tgt := 107) hx hb dX11_then_97 (by decide) (fun c_97 => ?_) (fun c_97 => ?_)
                · have hf := cm_in c_97 hf
                  refine lv_aload_n (pc := 107) hx hb dX11_then_107 rfl (lv_at hl 0 rfl) ?_
                  refine va_get (pc := 108) (D := D) (ci := 11) (v := .int u14.2.2.2.1) (C := RX11) (T := TX11) (N := 21) hx hb hts in_X11 hown hKa hP 0 rfl rfl 8 (by decide) (hts _ tw_720) (fun _ h9 => h9) rfl dX11_then_108 ?_
                  obtain rfl := Option.some.inj hf
                  exact cm_iret (pc := 111) hAe hQ hx hb hr hlocks hP hD hS [0, 1, 2, 3] (by decide) rfl dX11_then_111
                · have hf := cm_ip c_97 hf
                  refine lv_aload_n (pc := 100) hx hb dX11_then_100 rfl (lv_at hl 0 rfl) ?_
                  refine va_get (pc := 101) (D := D) (ci := 11) (v := .int u14.2.2.1) (C := RX11) (T := TX11) (N := 21) hx hb hts in_X11 hown hKa hP 0 rfl rfl 7 (by decide) (hts _ tw_719) (fun _ h9 => h9) rfl dX11_then_101 ?_
                  refine lv_goto (pc := 104) (tgt := 111) hx hb dX11_then_104 (by decide) ?_
                  obtain rfl := Option.some.inj hf
                  exact cm_iret (pc := 111) hAe hQ hx hb hr hlocks hP hD hS [0, 1, 2, 3] (by decide) rfl dX11_then_111
    · have hf := cm_in c_17 hf
      refine lv_bipush (pc := 20) (v := (-5)) hx hb dX11_then_20 (by decide) ?_
      obtain rfl := Option.some.inj hf
      exact cm_iret (pc := 22) hAe hQ hx hb hr hlocks hP hD hS [0, 1, 2, 3] (by decide) rfl dX11_then_22
  · have hf := cm_ip c_7 hf
    refine lv_bipush (pc := 10) (v := (-2)) hx hb dX11_then_10 (by decide) ?_
    obtain rfl := Option.some.inj hf
    exact cm_iret (pc := 12) hAe hQ hx hb hr hlocks hP hD hS [0, 1, 2, 3] (by decide) rfl dX11_then_12
def fX11_chalk (v1 : Int32) (m_sold : Int32) (m_markets : Int32) (m_marketAt : Int32) (m_book : (Nat → Int32)) (m_now : (Nat → Int32)) : Option (Int32 × Int32 × Int32 × Int32 × (Nat → Int32)) := Option.bind (fX11_asNow m_sold m_markets m_marketAt m_book m_now) (fun u1 => cm_let (fX11_in v1 0 6) (fun u8 => (if u8 = 0 then some ((-2), u1.1, u1.2.1, u1.2.2.1, u1.2.2.2) else Option.bind (fX11_chalkOf v1 u1.2.2.2) (fun u16 => some (u16, u1.1, u1.2.1, u1.2.2.1, u1.2.2.2)))))
def rmX11_chalk : Room := { frames := 1, cells := 0, slots := 0, locals := 23 }
set_option maxRecDepth 100000 in
set_option maxHeartbeats 4000000 in
theorem c_X11_chalk (l : Launch) (D : va_G) (cI cJ cZ : ClassId) (a a_book a_now a_sight a_pad a_digits a_without a_with a_counts a_fewest a_ways a_more a_chooses a_image a_isKept : Nat) (m_sights : Int32) (m_signs : Int32) (m_sold : Int32) (m_markets : Int32) (m_marketAt : Int32) (m_reason : Int32) (m_acts : Int32) (m_book : (Nat → Int32)) (m_now : (Nat → Int32)) (v1 : Int32) (res : Int32 × Int32 × Int32 × Int32 × (Nat → Int32)) (hf : fX11_chalk v1 m_sold m_markets m_marketAt m_book m_now = some res) : Ct l yX11_chalk (cm_ws yX11_chalk cX11_chalk 2 (some .int)) rmX11_chalk D (cm_T cI cJ cZ) [.ref a, .int v1] [(a, .inr (11, [.ref a_book, .ref a_now, .int m_sights, .ref a_sight, .int m_signs, .ref a_pad, .int m_sold, .int m_markets, .int m_marketAt, .int m_reason, .int m_acts, .ref a_digits, .ref a_without, .ref a_with, .ref a_counts, .ref a_fewest, .ref a_ways, .ref a_more, .ref a_chooses, .ref a_image, .ref a_isKept])), cm_kI cI a_book 31 m_book, cm_kI cI a_now 31 m_now] (some (.int res.1)) [(a, .inr (11, [.ref a_book, .ref a_now, .int m_sights, .ref a_sight, .int m_signs, .ref a_pad, .int res.2.1, .int res.2.2.1, .int res.2.2.2.1, .int m_reason, .int m_acts, .ref a_digits, .ref a_without, .ref a_with, .ref a_counts, .ref a_fewest, .ref a_ways, .ref a_more, .ref a_chooses, .ref a_image, .ref a_isKept])), cm_kI cI a_book 31 m_book, cm_kI cI a_now 31 res.2.2.2.2] := by
  refine Ct.of (cc := cX11_chalk) (maxL := 2) (ret := (some .int)) (by decide) (Nat.le_of_ble_eq_true rfl) ?_
  intro p e s m below meth c ls args A Q hav hAe hQ hx hb hr hml hown hlocks hts hK hP hD hA hS hl
  have hKa := hK.1
  have hl : lv_has ls 2 [(0, .ref a), (1, .int v1)] := hl
  unfold fX11_chalk at hf
  refine lv_aload_n (pc := 0) hx hb dX11_chalk_0 rfl (lv_at hl 0 rfl) ?_
  obtain ⟨u1, hu1, hf⟩ := cm_bd hf
  refine cm_callV (pc := 1) (As := []) (rest := []) (wr := []) (ci := 11) (q0 := 0) (n := 0) hx hb hml hown hts hK hP hD hS hA (c_X11_asNow l D cI cJ cZ a a_book a_now a_sight a_pad a_digits a_without a_with a_counts a_fewest a_ways a_more a_chooses a_image a_isKept m_sights m_signs m_sold m_markets m_marketAt m_reason m_acts m_book m_now u1 hu1) tw_822 tw_819 tw_821 tw_30 tw_56 rfl rfl (by decide +kernel) rfl ⟨Nat.le_of_ble_eq_true rfl, Nat.le_of_ble_eq_true rfl⟩ [0, 1, 2] [] rfl (by decide) rfl (by decide) (by decide) rfl rfl rfl hl.1 rfl (Nat.le_of_ble_eq_true rfl) dX11_chalk_1 ⟨Nat.zero_le _, Nat.zero_le _⟩ (fun H locs hP hD hS => ?_)
  have hP : va_P D vwCl [(a, .inr (11, [.ref a_book, .ref a_now, .int m_sights, .ref a_sight, .int m_signs, .ref a_pad, .int u1.1, .int u1.2.1, .int u1.2.2.1, .int m_reason, .int m_acts, .ref a_digits, .ref a_without, .ref a_with, .ref a_counts, .ref a_fewest, .ref a_ways, .ref a_more, .ref a_chooses, .ref a_image, .ref a_isKept])), cm_kI cI a_book 31 m_book, cm_kI cI a_now 31 u1.2.2.2] H := hP
  have hD : va_D A [(a, .inr (11, [.ref a_book, .ref a_now, .int m_sights, .ref a_sight, .int m_signs, .ref a_pad, .int u1.1, .int u1.2.1, .int u1.2.2.1, .int m_reason, .int m_acts, .ref a_digits, .ref a_without, .ref a_with, .ref a_counts, .ref a_fewest, .ref a_ways, .ref a_more, .ref a_chooses, .ref a_image, .ref a_isKept])), cm_kI cI a_book 31 m_book, cm_kI cI a_now 31 u1.2.2.2] := hD
  refine W.eq (g2 := F0 m 4 ls []) rfl ?_
  refine lv_iload_n (pc := 4) hx hb dX11_chalk_4 rfl (lv_at hl 1 rfl) ?_
  refine lv_iconst (pc := 5) (v := 0) hx hb dX11_chalk_5 (by decide) ?_
  refine lv_bipush (pc := 6) (v := 6) hx hb dX11_chalk_6 (by decide) ?_
  obtain ⟨u8, hu8, hf⟩ := cm_lt hf
  refine cm_callS (pc := 8) (As := [.int v1, .int 0, .int 6]) (rest := []) (wr := [(a, .inr (11, [.ref a_book, .ref a_now, .int m_sights, .ref a_sight, .int m_signs, .ref a_pad, .int u1.1, .int u1.2.1, .int u1.2.2.1, .int m_reason, .int m_acts, .ref a_digits, .ref a_without, .ref a_with, .ref a_counts, .ref a_fewest, .ref a_ways, .ref a_more, .ref a_chooses, .ref a_image, .ref a_isKept])), cm_kI cI a_book 31 m_book, cm_kI cI a_now 31 u1.2.2.2]) (n := 3) hx hb hml hown hts hK hP hD hS hA (c_X11_in l D cI cJ cZ v1 0 6 u8 hu8) tw_783 tw_781 tw_782 tw_56 rfl rfl (by decide +kernel) rfl ⟨Nat.le_of_ble_eq_true rfl, Nat.le_of_ble_eq_true rfl⟩ [] [0, 1, 2] rfl (by decide) rfl (by decide) (by decide) hl.1 rfl (Nat.le_of_ble_eq_true rfl) dX11_chalk_8 ⟨Nat.zero_le _, Nat.zero_le _⟩ (fun H locs hP hD hS => ?_)
  have hP : va_P D vwCl [(a, .inr (11, [.ref a_book, .ref a_now, .int m_sights, .ref a_sight, .int m_signs, .ref a_pad, .int u1.1, .int u1.2.1, .int u1.2.2.1, .int m_reason, .int m_acts, .ref a_digits, .ref a_without, .ref a_with, .ref a_counts, .ref a_fewest, .ref a_ways, .ref a_more, .ref a_chooses, .ref a_image, .ref a_isKept])), cm_kI cI a_book 31 m_book, cm_kI cI a_now 31 u1.2.2.2] H := hP
  have hD : va_D A [(a, .inr (11, [.ref a_book, .ref a_now, .int m_sights, .ref a_sight, .int m_signs, .ref a_pad, .int u1.1, .int u1.2.1, .int u1.2.2.1, .int m_reason, .int m_acts, .ref a_digits, .ref a_without, .ref a_with, .ref a_counts, .ref a_fewest, .ref a_ways, .ref a_more, .ref a_chooses, .ref a_image, .ref a_isKept])), cm_kI cI a_book 31 m_book, cm_kI cI a_now 31 u1.2.2.2] := hD
  refine W.eq (g2 := F0 m 11 ls [.int u8]) rfl ?_
  refine lv_if_eq (pc := 11) (tgt := 22) hx hb dX11_chalk_11 (by decide) (fun c_11 => ?_) (fun c_11 => ?_)
  · have hf := cm_ip c_11 hf
    refine lv_bipush (pc := 22) (v := (-2)) hx hb dX11_chalk_22 (by decide) ?_
    obtain rfl := Option.some.inj hf
    exact cm_iret (pc := 24) hAe hQ hx hb hr hlocks hP hD hS [0, 1, 2] (by decide) rfl dX11_chalk_24
  · have hf := cm_in c_11 hf
    refine lv_aload_n (pc := 14) hx hb dX11_chalk_14 rfl (lv_at hl 0 rfl) ?_
    refine lv_iload_n (pc := 15) hx hb dX11_chalk_15 rfl (lv_at hl 1 rfl) ?_
    obtain ⟨u16, hu16, hf⟩ := cm_bd hf
    refine cm_callV (pc := 16) (As := [.int v1]) (rest := []) (wr := [cm_kI cI a_book 31 m_book]) (ci := 11) (q0 := 0) (n := 1) hx hb hml hown hts hK hP hD hS hA (c_X11_chalkOf l D cI cJ cZ a a_book a_now a_sight a_pad a_digits a_without a_with a_counts a_fewest a_ways a_more a_chooses a_image a_isKept m_sights m_signs u1.1 u1.2.1 u1.2.2.1 m_reason m_acts u1.2.2.2 v1 u16 hu16) tw_834 tw_831 tw_833 tw_33 tw_56 rfl rfl (by decide +kernel) rfl ⟨Nat.le_of_ble_eq_true rfl, Nat.le_of_ble_eq_true rfl⟩ [0, 2] [1] rfl (by decide) rfl (by decide) (by decide) rfl rfl rfl hl.1 rfl (Nat.le_of_ble_eq_true rfl) dX11_chalk_16 ⟨Nat.zero_le _, Nat.zero_le _⟩ (fun H locs hP hD hS => ?_)
    have hP : va_P D vwCl [cm_kI cI a_book 31 m_book, (a, .inr (11, [.ref a_book, .ref a_now, .int m_sights, .ref a_sight, .int m_signs, .ref a_pad, .int u1.1, .int u1.2.1, .int u1.2.2.1, .int m_reason, .int m_acts, .ref a_digits, .ref a_without, .ref a_with, .ref a_counts, .ref a_fewest, .ref a_ways, .ref a_more, .ref a_chooses, .ref a_image, .ref a_isKept])), cm_kI cI a_now 31 u1.2.2.2] H := hP
    have hD : va_D A [cm_kI cI a_book 31 m_book, (a, .inr (11, [.ref a_book, .ref a_now, .int m_sights, .ref a_sight, .int m_signs, .ref a_pad, .int u1.1, .int u1.2.1, .int u1.2.2.1, .int m_reason, .int m_acts, .ref a_digits, .ref a_without, .ref a_with, .ref a_counts, .ref a_fewest, .ref a_ways, .ref a_more, .ref a_chooses, .ref a_image, .ref a_isKept])), cm_kI cI a_now 31 u1.2.2.2] := hD
    refine W.eq (g2 := F0 m 19 ls [.int u16]) rfl ?_
    refine lv_goto (pc := 19) (tgt := 24) hx hb dX11_chalk_19 (by decide) ?_
    obtain rfl := Option.some.inj hf
    exact cm_iret (pc := 24) hAe hQ hx hb hr hlocks hP hD hS [1, 0, 2] (by decide) rfl dX11_chalk_24
def fX11_sway_L78 (v1 : Int32) (v3_22 : Int32) (m_now_22 : (Nat → Int32)) (kx : Int32 → Int32 → Int32 → Option (Int32 × Int32 × Int32 × Int32 × (Nat → Int32))) : Nat → Int32 → Int32 → Int32 → Option (Int32 × Int32 × Int32 × Int32 × (Nat → Int32))
  | 0, _, _, _ => none
  | n + 1, v4_78, v5_78, v7_78 => (if 7 ≤ v7_78 then kx v4_78 v5_78 v7_78 else cm_let ((if v7_78 = v1 then 0 else (if v1 ≤ v7_78 then v3_22 else (v3_22 + 1))) : Int32) (fun j88 => Option.bind (fX11_chalkOf v7_78 m_now_22) (fun u124 => Option.bind ((if j88 ≤ u124 then some 0 else Option.bind (fX11_chalkOf v7_78 m_now_22) (fun u135 => some (j88 - u135))) : Option (Int32)) (fun j127 => fX11_sway_L78 v1 v3_22 m_now_22 kx n (v4_78 + j88) (v5_78 + j127) (v7_78 + 1)))))
def fX11_sway_L22 (v1 : Int32) (m_now_22 : (Nat → Int32)) (kx : Int32 → Int32 → Option (Int32 × Int32 × Int32 × Int32 × (Nat → Int32))) : Nat → Int32 → Int32 → Option (Int32 × Int32 × Int32 × Int32 × (Nat → Int32))
  | 0, _, _ => none
  | n + 1, v2_22, v3_22 => (if 9 ≤ v3_22 then kx v2_22 v3_22 else Option.bind (fX11_chalkOf v1 m_now_22) (fun u34 => Option.bind ((if v3_22 ≤ u34 then some 0 else Option.bind (fX11_chalkOf v1 m_now_22) (fun u43 => some (v3_22 - u43))) : Option (Int32)) (fun j37 => Option.bind (fX11_chalkOf v1 m_now_22) (fun u55 => Option.bind ((if u55 ≤ v3_22 then some 0 else Option.bind (fX11_chalkOf v1 m_now_22) (fun u64 => some (u64 - v3_22))) : Option (Int32)) (fun j59 => fX11_sway_L78 v1 v3_22 m_now_22 (fun v4_78 v5_78 v7_78 => cm_let ((if v5_78 ≤ j59 then j59 else v5_78) : Int32) (fun j156 => (if 9 ≤ v4_78 then fX11_sway_L22 v1 m_now_22 kx n v2_22 (v3_22 + 1) else (if v2_22 ≤ j156 then fX11_sway_L22 v1 m_now_22 kx n v2_22 (v3_22 + 1) else fX11_sway_L22 v1 m_now_22 kx n j156 (v3_22 + 1))))) 5000 v3_22 j37 0)))))
def fX11_sway (v1 : Int32) (m_sold : Int32) (m_markets : Int32) (m_marketAt : Int32) (m_book : (Nat → Int32)) (m_now : (Nat → Int32)) : Option (Int32 × Int32 × Int32 × Int32 × (Nat → Int32)) := cm_let (fX11_in v1 0 6) (fun u4 => (if u4 = 0 then some ((-2), m_sold, m_markets, m_marketAt, m_now) else Option.bind (fX11_asNow m_sold m_markets m_marketAt m_book m_now) (fun u14 => fX11_sway_L22 v1 u14.2.2.2 (fun v2_22 v3_22 => (if 1000000 ≤ v2_22 then some ((-6), u14.1, u14.2.1, u14.2.2.1, u14.2.2.2) else some (v2_22, u14.1, u14.2.1, u14.2.2.1, u14.2.2.2))) 5000 1000000 0)))
def rmX11_sway : Room := { frames := 1, cells := 0, slots := 0, locals := 23 }
set_option maxRecDepth 100000 in
set_option maxHeartbeats 4000000 in
theorem c_X11_sway (l : Launch) (D : va_G) (cI cJ cZ : ClassId) (a a_book a_now a_sight a_pad a_digits a_without a_with a_counts a_fewest a_ways a_more a_chooses a_image a_isKept : Nat) (m_sights : Int32) (m_signs : Int32) (m_sold : Int32) (m_markets : Int32) (m_marketAt : Int32) (m_reason : Int32) (m_acts : Int32) (m_book : (Nat → Int32)) (m_now : (Nat → Int32)) (v1 : Int32) (res : Int32 × Int32 × Int32 × Int32 × (Nat → Int32)) (hf : fX11_sway v1 m_sold m_markets m_marketAt m_book m_now = some res) : Ct l yX11_sway (cm_ws yX11_sway cX11_sway 9 (some .int)) rmX11_sway D (cm_T cI cJ cZ) [.ref a, .int v1] [(a, .inr (11, [.ref a_book, .ref a_now, .int m_sights, .ref a_sight, .int m_signs, .ref a_pad, .int m_sold, .int m_markets, .int m_marketAt, .int m_reason, .int m_acts, .ref a_digits, .ref a_without, .ref a_with, .ref a_counts, .ref a_fewest, .ref a_ways, .ref a_more, .ref a_chooses, .ref a_image, .ref a_isKept])), cm_kI cI a_book 31 m_book, cm_kI cI a_now 31 m_now] (some (.int res.1)) [(a, .inr (11, [.ref a_book, .ref a_now, .int m_sights, .ref a_sight, .int m_signs, .ref a_pad, .int res.2.1, .int res.2.2.1, .int res.2.2.2.1, .int m_reason, .int m_acts, .ref a_digits, .ref a_without, .ref a_with, .ref a_counts, .ref a_fewest, .ref a_ways, .ref a_more, .ref a_chooses, .ref a_image, .ref a_isKept])), cm_kI cI a_book 31 m_book, cm_kI cI a_now 31 res.2.2.2.2] := by
  refine Ct.of (cc := cX11_sway) (maxL := 9) (ret := (some .int)) (by decide) (Nat.le_of_ble_eq_true rfl) ?_
  intro p e s m below meth c ls args A Q hav hAe hQ hx hb hr hml hown hlocks hts hK hP hD hA hS hl
  have hKa := hK.1
  have hl : lv_has ls 9 [(0, .ref a), (1, .int v1)] := hl
  unfold fX11_sway at hf
  refine lv_iload_n (pc := 0) hx hb dX11_sway_0 rfl (lv_at hl 1 rfl) ?_
  refine lv_iconst (pc := 1) (v := 0) hx hb dX11_sway_1 (by decide) ?_
  refine lv_bipush (pc := 2) (v := 6) hx hb dX11_sway_2 (by decide) ?_
  obtain ⟨u4, hu4, hf⟩ := cm_lt hf
  refine cm_callS (pc := 4) (As := [.int v1, .int 0, .int 6]) (rest := []) (wr := [(a, .inr (11, [.ref a_book, .ref a_now, .int m_sights, .ref a_sight, .int m_signs, .ref a_pad, .int m_sold, .int m_markets, .int m_marketAt, .int m_reason, .int m_acts, .ref a_digits, .ref a_without, .ref a_with, .ref a_counts, .ref a_fewest, .ref a_ways, .ref a_more, .ref a_chooses, .ref a_image, .ref a_isKept])), cm_kI cI a_book 31 m_book, cm_kI cI a_now 31 m_now]) (n := 3) hx hb hml hown hts hK hP hD hS hA (c_X11_in l D cI cJ cZ v1 0 6 u4 hu4) tw_783 tw_781 tw_782 tw_56 rfl rfl (by decide +kernel) rfl ⟨Nat.le_of_ble_eq_true rfl, Nat.le_of_ble_eq_true rfl⟩ [] [0, 1, 2] rfl (by decide) rfl (by decide) (by decide) hl.1 rfl (Nat.le_of_ble_eq_true rfl) dX11_sway_4 ⟨Nat.zero_le _, Nat.zero_le _⟩ (fun H locs hP hD hS => ?_)
  have hP : va_P D vwCl [(a, .inr (11, [.ref a_book, .ref a_now, .int m_sights, .ref a_sight, .int m_signs, .ref a_pad, .int m_sold, .int m_markets, .int m_marketAt, .int m_reason, .int m_acts, .ref a_digits, .ref a_without, .ref a_with, .ref a_counts, .ref a_fewest, .ref a_ways, .ref a_more, .ref a_chooses, .ref a_image, .ref a_isKept])), cm_kI cI a_book 31 m_book, cm_kI cI a_now 31 m_now] H := hP
  have hD : va_D A [(a, .inr (11, [.ref a_book, .ref a_now, .int m_sights, .ref a_sight, .int m_signs, .ref a_pad, .int m_sold, .int m_markets, .int m_marketAt, .int m_reason, .int m_acts, .ref a_digits, .ref a_without, .ref a_with, .ref a_counts, .ref a_fewest, .ref a_ways, .ref a_more, .ref a_chooses, .ref a_image, .ref a_isKept])), cm_kI cI a_book 31 m_book, cm_kI cI a_now 31 m_now] := hD
  refine W.eq (g2 := F0 m 7 ls [.int u4]) rfl ?_
  refine lv_if_ne (pc := 7) (tgt := 13) hx hb dX11_sway_7 (by decide) (fun c_7 => ?_) (fun c_7 => ?_)
  · have hf := cm_in c_7 hf
    refine lv_aload_n (pc := 13) hx hb dX11_sway_13 rfl (lv_at hl 0 rfl) ?_
    obtain ⟨u14, hu14, hf⟩ := cm_bd hf
    refine cm_callV (pc := 14) (As := []) (rest := []) (wr := []) (ci := 11) (q0 := 0) (n := 0) hx hb hml hown hts hK hP hD hS hA (c_X11_asNow l D cI cJ cZ a a_book a_now a_sight a_pad a_digits a_without a_with a_counts a_fewest a_ways a_more a_chooses a_image a_isKept m_sights m_signs m_sold m_markets m_marketAt m_reason m_acts m_book m_now u14 hu14) tw_822 tw_819 tw_821 tw_30 tw_56 rfl rfl (by decide +kernel) rfl ⟨Nat.le_of_ble_eq_true rfl, Nat.le_of_ble_eq_true rfl⟩ [0, 1, 2] [] rfl (by decide) rfl (by decide) (by decide) rfl rfl rfl hl.1 rfl (Nat.le_of_ble_eq_true rfl) dX11_sway_14 ⟨Nat.zero_le _, Nat.zero_le _⟩ (fun H locs hP hD hS => ?_)
    have hP : va_P D vwCl [(a, .inr (11, [.ref a_book, .ref a_now, .int m_sights, .ref a_sight, .int m_signs, .ref a_pad, .int u14.1, .int u14.2.1, .int u14.2.2.1, .int m_reason, .int m_acts, .ref a_digits, .ref a_without, .ref a_with, .ref a_counts, .ref a_fewest, .ref a_ways, .ref a_more, .ref a_chooses, .ref a_image, .ref a_isKept])), cm_kI cI a_book 31 m_book, cm_kI cI a_now 31 u14.2.2.2] H := hP
    have hD : va_D A [(a, .inr (11, [.ref a_book, .ref a_now, .int m_sights, .ref a_sight, .int m_signs, .ref a_pad, .int u14.1, .int u14.2.1, .int u14.2.2.1, .int m_reason, .int m_acts, .ref a_digits, .ref a_without, .ref a_with, .ref a_counts, .ref a_fewest, .ref a_ways, .ref a_more, .ref a_chooses, .ref a_image, .ref a_isKept])), cm_kI cI a_book 31 m_book, cm_kI cI a_now 31 u14.2.2.2] := hD
    refine W.eq (g2 := F0 m 17 ls []) rfl ?_
    refine lv_ldc (pc := 17) (v := 1000000) hx hb hown (hts _ tw_887) dX11_sway_17 ?_
    refine lv_istore_n (pc := 19) (lv' := [(2, .int 1000000), (0, .ref a), (1, .int v1)]) hx hb dX11_sway_19 rfl hl (by decide) rfl (fun ls hl => ?_)
    refine lv_iconst (pc := 20) (v := 0) hx hb dX11_sway_20 (by decide) ?_
    refine lv_istore_n (pc := 21) (lv' := [(3, .int 0), (2, .int 1000000), (0, .ref a), (1, .int v1)]) hx hb dX11_sway_21 rfl hl (by decide) rfl (fun ls hl => ?_)
    have L22 : ∀ (m_now_22 : (Nat → Int32)) (kx : Int32 → Int32 → Option (Int32 × Int32 × Int32 × Int32 × (Nat → Int32))), (∀ (v2_22 : Int32) (v3_22 : Int32) (H : Heap) (locs : List Loc) (ls : Array Slot), va_P D vwCl [(a, .inr (11, [.ref a_book, .ref a_now, .int m_sights, .ref a_sight, .int m_signs, .ref a_pad, .int u14.1, .int u14.2.1, .int u14.2.2.1, .int m_reason, .int m_acts, .ref a_digits, .ref a_without, .ref a_with, .ref a_counts, .ref a_fewest, .ref a_ways, .ref a_more, .ref a_chooses, .ref a_image, .ref a_isKept])), cm_kI cI a_book 31 m_book, cm_kI cI a_now 31 m_now_22] H → va_D A [(a, .inr (11, [.ref a_book, .ref a_now, .int m_sights, .ref a_sight, .int m_signs, .ref a_pad, .int u14.1, .int u14.2.1, .int u14.2.2.1, .int m_reason, .int m_acts, .ref a_digits, .ref a_without, .ref a_with, .ref a_counts, .ref a_fewest, .ref a_ways, .ref a_more, .ref a_chooses, .ref a_image, .ref a_isKept])), cm_kI cI a_book 31 m_book, cm_kI cI a_now 31 m_now_22] → va_S A s.heap H locs → lv_has ls 9 [(2, .int v2_22)] → kx v2_22 v3_22 = some res → W p l e rmX11_sway s m args below meth c H locs 0 0 Q (F0 m 194 ls [])) → ∀ (n : Nat) (v2_22 : Int32) (v3_22 : Int32) (H : Heap) (locs : List Loc) (ls : Array Slot), va_P D vwCl [(a, .inr (11, [.ref a_book, .ref a_now, .int m_sights, .ref a_sight, .int m_signs, .ref a_pad, .int u14.1, .int u14.2.1, .int u14.2.2.1, .int m_reason, .int m_acts, .ref a_digits, .ref a_without, .ref a_with, .ref a_counts, .ref a_fewest, .ref a_ways, .ref a_more, .ref a_chooses, .ref a_image, .ref a_isKept])), cm_kI cI a_book 31 m_book, cm_kI cI a_now 31 m_now_22] H → va_D A [(a, .inr (11, [.ref a_book, .ref a_now, .int m_sights, .ref a_sight, .int m_signs, .ref a_pad, .int u14.1, .int u14.2.1, .int u14.2.2.1, .int m_reason, .int m_acts, .ref a_digits, .ref a_without, .ref a_with, .ref a_counts, .ref a_fewest, .ref a_ways, .ref a_more, .ref a_chooses, .ref a_image, .ref a_isKept])), cm_kI cI a_book 31 m_book, cm_kI cI a_now 31 m_now_22] → va_S A s.heap H locs → lv_has ls 9 [(3, .int v3_22), (2, .int v2_22), (0, .ref a), (1, .int v1)] → fX11_sway_L22 v1 m_now_22 kx n v2_22 v3_22 = some res → W p l e rmX11_sway s m args below meth c H locs 0 0 Q (F0 m 22 ls []) := by
      intro m_now_22 kx hkx n
      induction n with
      | zero => intro v2_22 v3_22 H locs ls hP hD hS hl hf; cases hf
      | succ n ih =>
        intro v2_22 v3_22 H locs ls hP hD hS hl hf
        rw [fX11_sway_L22] at hf
        refine lv_iload_n (pc := 22) hx hb dX11_sway_22 rfl (lv_at hl 0 rfl) ?_
        refine lv_bipush (pc := 23) (v := 9) hx hb dX11_sway_23 (by decide) ?_
        refine lv_icmp_ge (pc := 25) (tgt := 194) hx hb dX11_sway_25 (by decide) (fun c_25 => ?_) (fun c_25 => ?_)
        · have hf := cm_ip c_25 hf
          exact hkx v2_22 v3_22 _ _ _ hP hD hS (lv_sub hl [1] rfl) hf
        · have hf := cm_in c_25 hf
          refine lv_iload_n (pc := 28) hx hb dX11_sway_28 rfl (lv_at hl 0 rfl) ?_
          refine lv_istore (pc := 29) (lv' := [(4, .int v3_22), (3, .int v3_22), (2, .int v2_22), (0, .ref a), (1, .int v1)]) hx hb dX11_sway_29 hl (by decide) rfl (fun ls hl => ?_)
          refine lv_iload_n (pc := 31) hx hb dX11_sway_31 rfl (lv_at hl 1 rfl) ?_
          refine lv_aload_n (pc := 32) hx hb dX11_sway_32 rfl (lv_at hl 3 rfl) ?_
          refine lv_iload_n (pc := 33) hx hb dX11_sway_33 rfl (lv_at hl 4 rfl) ?_
          obtain ⟨u34, hu34, hf⟩ := cm_bd hf
          refine cm_callV (pc := 34) (As := [.int v1]) (rest := [.int v3_22]) (wr := [cm_kI cI a_book 31 m_book]) (ci := 11) (q0 := 0) (n := 1) hx hb hml hown hts hK hP hD hS hA (c_X11_chalkOf l D cI cJ cZ a a_book a_now a_sight a_pad a_digits a_without a_with a_counts a_fewest a_ways a_more a_chooses a_image a_isKept m_sights m_signs u14.1 u14.2.1 u14.2.2.1 m_reason m_acts m_now_22 v1 u34 hu34) tw_834 tw_831 tw_833 tw_33 tw_56 rfl rfl (by decide +kernel) rfl ⟨Nat.le_of_ble_eq_true rfl, Nat.le_of_ble_eq_true rfl⟩ [0, 2] [1] rfl (by decide) rfl (by decide) (by decide) rfl rfl rfl hl.1 rfl (Nat.le_of_ble_eq_true rfl) dX11_sway_34 ⟨Nat.zero_le _, Nat.zero_le _⟩ (fun H locs hP hD hS => ?_)
          have hP : va_P D vwCl [cm_kI cI a_book 31 m_book, (a, .inr (11, [.ref a_book, .ref a_now, .int m_sights, .ref a_sight, .int m_signs, .ref a_pad, .int u14.1, .int u14.2.1, .int u14.2.2.1, .int m_reason, .int m_acts, .ref a_digits, .ref a_without, .ref a_with, .ref a_counts, .ref a_fewest, .ref a_ways, .ref a_more, .ref a_chooses, .ref a_image, .ref a_isKept])), cm_kI cI a_now 31 m_now_22] H := hP
          have hD : va_D A [cm_kI cI a_book 31 m_book, (a, .inr (11, [.ref a_book, .ref a_now, .int m_sights, .ref a_sight, .int m_signs, .ref a_pad, .int u14.1, .int u14.2.1, .int u14.2.2.1, .int m_reason, .int m_acts, .ref a_digits, .ref a_without, .ref a_with, .ref a_counts, .ref a_fewest, .ref a_ways, .ref a_more, .ref a_chooses, .ref a_image, .ref a_isKept])), cm_kI cI a_now 31 m_now_22] := hD
          refine W.eq (g2 := F0 m 37 ls [.int u34, .int v3_22]) rfl ?_
          obtain ⟨j37, hj37, hf⟩ := cm_bd hf
          have J37 : ∀ (H : Heap) (locs : List Loc) (ls : Array Slot), va_P D vwCl [cm_kI cI a_book 31 m_book, (a, .inr (11, [.ref a_book, .ref a_now, .int m_sights, .ref a_sight, .int m_signs, .ref a_pad, .int u14.1, .int u14.2.1, .int u14.2.2.1, .int m_reason, .int m_acts, .ref a_digits, .ref a_without, .ref a_with, .ref a_counts, .ref a_fewest, .ref a_ways, .ref a_more, .ref a_chooses, .ref a_image, .ref a_isKept])), cm_kI cI a_now 31 m_now_22] H → va_D A [cm_kI cI a_book 31 m_book, (a, .inr (11, [.ref a_book, .ref a_now, .int m_sights, .ref a_sight, .int m_signs, .ref a_pad, .int u14.1, .int u14.2.1, .int u14.2.2.1, .int m_reason, .int m_acts, .ref a_digits, .ref a_without, .ref a_with, .ref a_counts, .ref a_fewest, .ref a_ways, .ref a_more, .ref a_chooses, .ref a_image, .ref a_isKept])), cm_kI cI a_now 31 m_now_22] → va_S A s.heap H locs → lv_has ls 9 [(4, .int v3_22), (3, .int v3_22), (2, .int v2_22), (0, .ref a), (1, .int v1)] → W p l e rmX11_sway s m args below meth c H locs 0 0 Q (F0 m 51 ls [.int j37]) := by
            intro H locs ls hP hD hS hl
            refine lv_istore (pc := 51) (lv' := [(5, .int j37), (4, .int v3_22), (3, .int v3_22), (2, .int v2_22), (0, .ref a), (1, .int v1)]) hx hb dX11_sway_51 hl (by decide) rfl (fun ls hl => ?_)
            refine lv_aload_n (pc := 53) hx hb dX11_sway_53 rfl (lv_at hl 4 rfl) ?_
            refine lv_iload_n (pc := 54) hx hb dX11_sway_54 rfl (lv_at hl 5 rfl) ?_
            obtain ⟨u55, hu55, hf⟩ := cm_bd hf
            refine cm_callV (pc := 55) (As := [.int v1]) (rest := []) (wr := [cm_kI cI a_book 31 m_book]) (ci := 11) (q0 := 1) (n := 1) hx hb hml hown hts hK hP hD hS hA (c_X11_chalkOf l D cI cJ cZ a a_book a_now a_sight a_pad a_digits a_without a_with a_counts a_fewest a_ways a_more a_chooses a_image a_isKept m_sights m_signs u14.1 u14.2.1 u14.2.2.1 m_reason m_acts m_now_22 v1 u55 hu55) tw_834 tw_831 tw_833 tw_33 tw_56 rfl rfl (by decide +kernel) rfl ⟨Nat.le_of_ble_eq_true rfl, Nat.le_of_ble_eq_true rfl⟩ [1, 2] [0] rfl (by decide) rfl (by decide) (by decide) rfl rfl rfl hl.1 rfl (Nat.le_of_ble_eq_true rfl) dX11_sway_55 ⟨Nat.zero_le _, Nat.zero_le _⟩ (fun H locs hP hD hS => ?_)
            have hP : va_P D vwCl [cm_kI cI a_book 31 m_book, (a, .inr (11, [.ref a_book, .ref a_now, .int m_sights, .ref a_sight, .int m_signs, .ref a_pad, .int u14.1, .int u14.2.1, .int u14.2.2.1, .int m_reason, .int m_acts, .ref a_digits, .ref a_without, .ref a_with, .ref a_counts, .ref a_fewest, .ref a_ways, .ref a_more, .ref a_chooses, .ref a_image, .ref a_isKept])), cm_kI cI a_now 31 m_now_22] H := hP
            have hD : va_D A [cm_kI cI a_book 31 m_book, (a, .inr (11, [.ref a_book, .ref a_now, .int m_sights, .ref a_sight, .int m_signs, .ref a_pad, .int u14.1, .int u14.2.1, .int u14.2.2.1, .int m_reason, .int m_acts, .ref a_digits, .ref a_without, .ref a_with, .ref a_counts, .ref a_fewest, .ref a_ways, .ref a_more, .ref a_chooses, .ref a_image, .ref a_isKept])), cm_kI cI a_now 31 m_now_22] := hD
            refine W.eq (g2 := F0 m 58 ls [.int u55]) rfl ?_
            refine lv_iload_n (pc := 58) hx hb dX11_sway_58 rfl (lv_at hl 2 rfl) ?_
            obtain ⟨j59, hj59, hf⟩ := cm_bd hf
            have J59 : ∀ (H : Heap) (locs : List Loc) (ls : Array Slot), va_P D vwCl [cm_kI cI a_book 31 m_book, (a, .inr (11, [.ref a_book, .ref a_now, .int m_sights, .ref a_sight, .int m_signs, .ref a_pad, .int u14.1, .int u14.2.1, .int u14.2.2.1, .int m_reason, .int m_acts, .ref a_digits, .ref a_without, .ref a_with, .ref a_counts, .ref a_fewest, .ref a_ways, .ref a_more, .ref a_chooses, .ref a_image, .ref a_isKept])), cm_kI cI a_now 31 m_now_22] H → va_D A [cm_kI cI a_book 31 m_book, (a, .inr (11, [.ref a_book, .ref a_now, .int m_sights, .ref a_sight, .int m_signs, .ref a_pad, .int u14.1, .int u14.2.1, .int u14.2.2.1, .int m_reason, .int m_acts, .ref a_digits, .ref a_without, .ref a_with, .ref a_counts, .ref a_fewest, .ref a_ways, .ref a_more, .ref a_chooses, .ref a_image, .ref a_isKept])), cm_kI cI a_now 31 m_now_22] → va_S A s.heap H locs → lv_has ls 9 [(5, .int j37), (4, .int v3_22), (3, .int v3_22), (2, .int v2_22), (0, .ref a), (1, .int v1)] → W p l e rmX11_sway s m args below meth c H locs 0 0 Q (F0 m 73 ls [.int j59]) := by
              intro H locs ls hP hD hS hl
              refine lv_istore (pc := 73) (lv' := [(6, .int j59), (5, .int j37), (4, .int v3_22), (3, .int v3_22), (2, .int v2_22), (0, .ref a), (1, .int v1)]) hx hb dX11_sway_73 hl (by decide) rfl (fun ls hl => ?_)
              refine lv_iconst (pc := 75) (v := 0) hx hb dX11_sway_75 (by decide) ?_
              refine lv_istore (pc := 76) (lv' := [(7, .int 0), (6, .int j59), (5, .int j37), (4, .int v3_22), (3, .int v3_22), (2, .int v2_22), (0, .ref a), (1, .int v1)]) hx hb dX11_sway_76 hl (by decide) rfl (fun ls hl => ?_)
              have L78 : ∀ (kx : Int32 → Int32 → Int32 → Option (Int32 × Int32 × Int32 × Int32 × (Nat → Int32))), (∀ (v4_78 : Int32) (v5_78 : Int32) (v7_78 : Int32) (H : Heap) (locs : List Loc) (ls : Array Slot), va_P D vwCl [cm_kI cI a_book 31 m_book, (a, .inr (11, [.ref a_book, .ref a_now, .int m_sights, .ref a_sight, .int m_signs, .ref a_pad, .int u14.1, .int u14.2.1, .int u14.2.2.1, .int m_reason, .int m_acts, .ref a_digits, .ref a_without, .ref a_with, .ref a_counts, .ref a_fewest, .ref a_ways, .ref a_more, .ref a_chooses, .ref a_image, .ref a_isKept])), cm_kI cI a_now 31 m_now_22] H → va_D A [cm_kI cI a_book 31 m_book, (a, .inr (11, [.ref a_book, .ref a_now, .int m_sights, .ref a_sight, .int m_signs, .ref a_pad, .int u14.1, .int u14.2.1, .int u14.2.2.1, .int m_reason, .int m_acts, .ref a_digits, .ref a_without, .ref a_with, .ref a_counts, .ref a_fewest, .ref a_ways, .ref a_more, .ref a_chooses, .ref a_image, .ref a_isKept])), cm_kI cI a_now 31 m_now_22] → va_S A s.heap H locs → lv_has ls 9 [(6, .int j59), (5, .int v5_78), (4, .int v4_78), (3, .int v3_22), (2, .int v2_22), (0, .ref a), (1, .int v1)] → kx v4_78 v5_78 v7_78 = some res → W p l e rmX11_sway s m args below meth c H locs 0 0 Q (F0 m 152 ls [])) → ∀ (n : Nat) (v4_78 : Int32) (v5_78 : Int32) (v7_78 : Int32) (H : Heap) (locs : List Loc) (ls : Array Slot), va_P D vwCl [cm_kI cI a_book 31 m_book, (a, .inr (11, [.ref a_book, .ref a_now, .int m_sights, .ref a_sight, .int m_signs, .ref a_pad, .int u14.1, .int u14.2.1, .int u14.2.2.1, .int m_reason, .int m_acts, .ref a_digits, .ref a_without, .ref a_with, .ref a_counts, .ref a_fewest, .ref a_ways, .ref a_more, .ref a_chooses, .ref a_image, .ref a_isKept])), cm_kI cI a_now 31 m_now_22] H → va_D A [cm_kI cI a_book 31 m_book, (a, .inr (11, [.ref a_book, .ref a_now, .int m_sights, .ref a_sight, .int m_signs, .ref a_pad, .int u14.1, .int u14.2.1, .int u14.2.2.1, .int m_reason, .int m_acts, .ref a_digits, .ref a_without, .ref a_with, .ref a_counts, .ref a_fewest, .ref a_ways, .ref a_more, .ref a_chooses, .ref a_image, .ref a_isKept])), cm_kI cI a_now 31 m_now_22] → va_S A s.heap H locs → lv_has ls 9 [(7, .int v7_78), (6, .int j59), (5, .int v5_78), (4, .int v4_78), (3, .int v3_22), (2, .int v2_22), (0, .ref a), (1, .int v1)] → fX11_sway_L78 v1 v3_22 m_now_22 kx n v4_78 v5_78 v7_78 = some res → W p l e rmX11_sway s m args below meth c H locs 0 0 Q (F0 m 78 ls []) := by
                intro kx hkx n
                induction n with
                | zero => intro v4_78 v5_78 v7_78 H locs ls hP hD hS hl hf; cases hf
                | succ n ih =>
                  intro v4_78 v5_78 v7_78 H locs ls hP hD hS hl hf
                  rw [fX11_sway_L78] at hf
                  refine lv_iload (pc := 78) hx hb dX11_sway_78 (lv_at hl 0 rfl) ?_
                  refine lv_bipush (pc := 80) (v := 7) hx hb dX11_sway_80 (by decide) ?_
                  refine lv_icmp_ge (pc := 82) (tgt := 152) hx hb dX11_sway_82 (by decide) (fun c_82 => ?_) (fun c_82 => ?_)
                  · have hf := cm_ip c_82 hf
                    exact hkx v4_78 v5_78 v7_78 _ _ _ hP hD hS (lv_sub hl [1, 2, 3, 4, 5, 6, 7] rfl) hf
                  · have hf := cm_in c_82 hf
                    refine lv_iload (pc := 85) hx hb dX11_sway_85 (lv_at hl 0 rfl) ?_
                    refine lv_iload_n (pc := 87) hx hb dX11_sway_87 rfl (lv_at hl 7 rfl) ?_
                    obtain ⟨j88, hj88, hf⟩ := cm_lt hf
                    have J88 : ∀ (H : Heap) (locs : List Loc) (ls : Array Slot), va_P D vwCl [cm_kI cI a_book 31 m_book, (a, .inr (11, [.ref a_book, .ref a_now, .int m_sights, .ref a_sight, .int m_signs, .ref a_pad, .int u14.1, .int u14.2.1, .int u14.2.2.1, .int m_reason, .int m_acts, .ref a_digits, .ref a_without, .ref a_with, .ref a_counts, .ref a_fewest, .ref a_ways, .ref a_more, .ref a_chooses, .ref a_image, .ref a_isKept])), cm_kI cI a_now 31 m_now_22] H → va_D A [cm_kI cI a_book 31 m_book, (a, .inr (11, [.ref a_book, .ref a_now, .int m_sights, .ref a_sight, .int m_signs, .ref a_pad, .int u14.1, .int u14.2.1, .int u14.2.2.1, .int m_reason, .int m_acts, .ref a_digits, .ref a_without, .ref a_with, .ref a_counts, .ref a_fewest, .ref a_ways, .ref a_more, .ref a_chooses, .ref a_image, .ref a_isKept])), cm_kI cI a_now 31 m_now_22] → va_S A s.heap H locs → lv_has ls 9 [(7, .int v7_78), (6, .int j59), (5, .int v5_78), (4, .int v4_78), (3, .int v3_22), (2, .int v2_22), (0, .ref a), (1, .int v1)] → W p l e rmX11_sway s m args below meth c H locs 0 0 Q (F0 m 108 ls [.int j88]) := by
                      intro H locs ls hP hD hS hl
                      refine lv_istore (pc := 108) (lv' := [(8, .int j88), (7, .int v7_78), (6, .int j59), (5, .int v5_78), (4, .int v4_78), (3, .int v3_22), (2, .int v2_22), (0, .ref a), (1, .int v1)]) hx hb dX11_sway_108 hl (by decide) rfl (fun ls hl => ?_)
                      refine lv_iload (pc := 110) hx hb dX11_sway_110 (lv_at hl 4 rfl) ?_
                      refine lv_iload (pc := 112) hx hb dX11_sway_112 (lv_at hl 0 rfl) ?_
                      refine lv_iadd (pc := 114) hx hb dX11_sway_114 ?_
                      refine lv_istore (pc := 115) (lv' := [(4, .int (v4_78 + j88)), (8, .int j88), (7, .int v7_78), (6, .int j59), (5, .int v5_78), (3, .int v3_22), (2, .int v2_22), (0, .ref a), (1, .int v1)]) hx hb dX11_sway_115 hl (by decide) rfl (fun ls hl => ?_)
                      refine lv_iload (pc := 117) hx hb dX11_sway_117 (lv_at hl 4 rfl) ?_
                      refine lv_iload (pc := 119) hx hb dX11_sway_119 (lv_at hl 1 rfl) ?_
                      refine lv_aload_n (pc := 121) hx hb dX11_sway_121 rfl (lv_at hl 7 rfl) ?_
                      refine lv_iload (pc := 122) hx hb dX11_sway_122 (lv_at hl 2 rfl) ?_
                      obtain ⟨u124, hu124, hf⟩ := cm_bd hf
                      refine cm_callV (pc := 124) (As := [.int v7_78]) (rest := [.int j88, .int v5_78]) (wr := [cm_kI cI a_book 31 m_book]) (ci := 11) (q0 := 1) (n := 1) hx hb hml hown hts hK hP hD hS hA (c_X11_chalkOf l D cI cJ cZ a a_book a_now a_sight a_pad a_digits a_without a_with a_counts a_fewest a_ways a_more a_chooses a_image a_isKept m_sights m_signs u14.1 u14.2.1 u14.2.2.1 m_reason m_acts m_now_22 v7_78 u124 hu124) tw_834 tw_831 tw_833 tw_33 tw_56 rfl rfl (by decide +kernel) rfl ⟨Nat.le_of_ble_eq_true rfl, Nat.le_of_ble_eq_true rfl⟩ [1, 2] [0] rfl (by decide) rfl (by decide) (by decide) rfl rfl rfl hl.1 rfl (Nat.le_of_ble_eq_true rfl) dX11_sway_124 ⟨Nat.zero_le _, Nat.zero_le _⟩ (fun H locs hP hD hS => ?_)
                      have hP : va_P D vwCl [cm_kI cI a_book 31 m_book, (a, .inr (11, [.ref a_book, .ref a_now, .int m_sights, .ref a_sight, .int m_signs, .ref a_pad, .int u14.1, .int u14.2.1, .int u14.2.2.1, .int m_reason, .int m_acts, .ref a_digits, .ref a_without, .ref a_with, .ref a_counts, .ref a_fewest, .ref a_ways, .ref a_more, .ref a_chooses, .ref a_image, .ref a_isKept])), cm_kI cI a_now 31 m_now_22] H := hP
                      have hD : va_D A [cm_kI cI a_book 31 m_book, (a, .inr (11, [.ref a_book, .ref a_now, .int m_sights, .ref a_sight, .int m_signs, .ref a_pad, .int u14.1, .int u14.2.1, .int u14.2.2.1, .int m_reason, .int m_acts, .ref a_digits, .ref a_without, .ref a_with, .ref a_counts, .ref a_fewest, .ref a_ways, .ref a_more, .ref a_chooses, .ref a_image, .ref a_isKept])), cm_kI cI a_now 31 m_now_22] := hD
                      refine W.eq (g2 := F0 m 127 ls [.int u124, .int j88, .int v5_78]) rfl ?_
                      obtain ⟨j127, hj127, hf⟩ := cm_bd hf
                      have J127 : ∀ (H : Heap) (locs : List Loc) (ls : Array Slot), va_P D vwCl [cm_kI cI a_book 31 m_book, (a, .inr (11, [.ref a_book, .ref a_now, .int m_sights, .ref a_sight, .int m_signs, .ref a_pad, .int u14.1, .int u14.2.1, .int u14.2.2.1, .int m_reason, .int m_acts, .ref a_digits, .ref a_without, .ref a_with, .ref a_counts, .ref a_fewest, .ref a_ways, .ref a_more, .ref a_chooses, .ref a_image, .ref a_isKept])), cm_kI cI a_now 31 m_now_22] H → va_D A [cm_kI cI a_book 31 m_book, (a, .inr (11, [.ref a_book, .ref a_now, .int m_sights, .ref a_sight, .int m_signs, .ref a_pad, .int u14.1, .int u14.2.1, .int u14.2.2.1, .int m_reason, .int m_acts, .ref a_digits, .ref a_without, .ref a_with, .ref a_counts, .ref a_fewest, .ref a_ways, .ref a_more, .ref a_chooses, .ref a_image, .ref a_isKept])), cm_kI cI a_now 31 m_now_22] → va_S A s.heap H locs → lv_has ls 9 [(4, .int (v4_78 + j88)), (7, .int v7_78), (6, .int j59), (3, .int v3_22), (2, .int v2_22), (0, .ref a), (1, .int v1)] → W p l e rmX11_sway s m args below meth c H locs 0 0 Q (F0 m 143 ls [.int j127, .int v5_78]) := by
                        intro H locs ls hP hD hS hl
                        refine lv_iadd (pc := 143) hx hb dX11_sway_143 ?_
                        refine lv_istore (pc := 144) (lv' := [(5, .int (v5_78 + j127)), (4, .int (v4_78 + j88)), (7, .int v7_78), (6, .int j59), (3, .int v3_22), (2, .int v2_22), (0, .ref a), (1, .int v1)]) hx hb dX11_sway_144 hl (by decide) rfl (fun ls hl => ?_)
                        refine lv_iinc (pc := 146) (v := (v7_78 + 1)) (lv' := [(7, .int (v7_78 + 1)), (5, .int (v5_78 + j127)), (4, .int (v4_78 + j88)), (6, .int j59), (3, .int v3_22), (2, .int v2_22), (0, .ref a), (1, .int v1)]) hx hb dX11_sway_146 hl (k := 2) rfl rfl (by decide) rfl (fun ls hl => ?_)
                        refine lv_goto (pc := 149) (tgt := 78) hx hb dX11_sway_149 (by decide) ?_
                        exact ih (v4_78 + j88) (v5_78 + j127) (v7_78 + 1) _ _ _ hP hD hS (lv_sub hl [0, 3, 1, 2, 4, 5, 6, 7] rfl) hf
                      clear hf
                      have hf := hj127
                      refine lv_icmp_le (pc := 127) (tgt := 142) hx hb dX11_sway_127 (by decide) (fun c_127 => ?_) (fun c_127 => ?_)
                      · have hf := cm_ip c_127 hf
                        refine lv_iconst (pc := 142) (v := 0) hx hb dX11_sway_142 (by decide) ?_
                        obtain rfl := Option.some.inj hf
                        exact J127 _ _ _ hP hD hS (lv_sub hl [0, 2, 3, 5, 6, 7, 8] rfl)
                      · have hf := cm_in c_127 hf
                        refine lv_iload (pc := 130) hx hb dX11_sway_130 (lv_at hl 1 rfl) ?_
                        refine lv_aload_n (pc := 132) hx hb dX11_sway_132 rfl (lv_at hl 7 rfl) ?_
                        refine lv_iload (pc := 133) hx hb dX11_sway_133 (lv_at hl 2 rfl) ?_
                        obtain ⟨u135, hu135, hf⟩ := cm_bd hf
                        refine cm_callV (pc := 135) (As := [.int v7_78]) (rest := [.int j88, .int v5_78]) (wr := [cm_kI cI a_book 31 m_book]) (ci := 11) (q0 := 1) (n := 1) hx hb hml hown hts hK hP hD hS hA (c_X11_chalkOf l D cI cJ cZ a a_book a_now a_sight a_pad a_digits a_without a_with a_counts a_fewest a_ways a_more a_chooses a_image a_isKept m_sights m_signs u14.1 u14.2.1 u14.2.2.1 m_reason m_acts m_now_22 v7_78 u135 hu135) tw_834 tw_831 tw_833 tw_33 tw_56 rfl rfl (by decide +kernel) rfl ⟨Nat.le_of_ble_eq_true rfl, Nat.le_of_ble_eq_true rfl⟩ [1, 2] [0] rfl (by decide) rfl (by decide) (by decide) rfl rfl rfl hl.1 rfl (Nat.le_of_ble_eq_true rfl) dX11_sway_135 ⟨Nat.zero_le _, Nat.zero_le _⟩ (fun H locs hP hD hS => ?_)
                        have hP : va_P D vwCl [cm_kI cI a_book 31 m_book, (a, .inr (11, [.ref a_book, .ref a_now, .int m_sights, .ref a_sight, .int m_signs, .ref a_pad, .int u14.1, .int u14.2.1, .int u14.2.2.1, .int m_reason, .int m_acts, .ref a_digits, .ref a_without, .ref a_with, .ref a_counts, .ref a_fewest, .ref a_ways, .ref a_more, .ref a_chooses, .ref a_image, .ref a_isKept])), cm_kI cI a_now 31 m_now_22] H := hP
                        have hD : va_D A [cm_kI cI a_book 31 m_book, (a, .inr (11, [.ref a_book, .ref a_now, .int m_sights, .ref a_sight, .int m_signs, .ref a_pad, .int u14.1, .int u14.2.1, .int u14.2.2.1, .int m_reason, .int m_acts, .ref a_digits, .ref a_without, .ref a_with, .ref a_counts, .ref a_fewest, .ref a_ways, .ref a_more, .ref a_chooses, .ref a_image, .ref a_isKept])), cm_kI cI a_now 31 m_now_22] := hD
                        refine W.eq (g2 := F0 m 138 ls [.int u135, .int j88, .int v5_78]) rfl ?_
                        refine lv_isub (pc := 138) hx hb dX11_sway_138 ?_
                        refine lv_goto (pc := 139) (tgt := 143) hx hb dX11_sway_139 (by decide) ?_
                        obtain rfl := Option.some.inj hf
                        exact J127 _ _ _ hP hD hS (lv_sub hl [0, 2, 3, 5, 6, 7, 8] rfl)
                    clear hf
                    have hf := hj88
                    refine lv_icmp_ne (pc := 88) (tgt := 95) hx hb dX11_sway_88 (by decide) (fun c_88 => ?_) (fun c_88 => ?_)
                    · have hf := cm_in c_88 hf
                      refine lv_iload (pc := 95) hx hb dX11_sway_95 (lv_at hl 0 rfl) ?_
                      refine lv_iload_n (pc := 97) hx hb dX11_sway_97 rfl (lv_at hl 7 rfl) ?_
                      refine lv_icmp_ge (pc := 98) (tgt := 107) hx hb dX11_sway_98 (by decide) (fun c_98 => ?_) (fun c_98 => ?_)
                      · have hf := cm_ip c_98 hf
                        refine lv_iload_n (pc := 107) hx hb dX11_sway_107 rfl (lv_at hl 4 rfl) ?_
                        obtain rfl := hf
                        exact J88 _ _ _ hP hD hS (lv_sub hl [0, 1, 2, 3, 4, 5, 6, 7] rfl)
                      · have hf := cm_in c_98 hf
                        refine lv_iload_n (pc := 101) hx hb dX11_sway_101 rfl (lv_at hl 4 rfl) ?_
                        refine lv_iconst (pc := 102) (v := 1) hx hb dX11_sway_102 (by decide) ?_
                        refine lv_iadd (pc := 103) hx hb dX11_sway_103 ?_
                        refine lv_goto (pc := 104) (tgt := 108) hx hb dX11_sway_104 (by decide) ?_
                        obtain rfl := hf
                        exact J88 _ _ _ hP hD hS (lv_sub hl [0, 1, 2, 3, 4, 5, 6, 7] rfl)
                    · have hf := cm_ip c_88 hf
                      refine lv_iconst (pc := 91) (v := 0) hx hb dX11_sway_91 (by decide) ?_
                      refine lv_goto (pc := 92) (tgt := 108) hx hb dX11_sway_92 (by decide) ?_
                      obtain rfl := hf
                      exact J88 _ _ _ hP hD hS (lv_sub hl [0, 1, 2, 3, 4, 5, 6, 7] rfl)
              refine L78 _ (fun v4_78 v5_78 v7_78 H locs ls hP hD hS hl hf => ?_) 5000 v3_22 j37 0 _ _ _ hP hD hS (lv_sub hl [0, 1, 2, 3, 4, 5, 6, 7] rfl) hf
              refine lv_iload (pc := 152) hx hb dX11_sway_152 (lv_at hl 1 rfl) ?_
              refine lv_iload (pc := 154) hx hb dX11_sway_154 (lv_at hl 0 rfl) ?_
              obtain ⟨j156, hj156, hf⟩ := cm_lt hf
              have J156 : ∀ (H : Heap) (locs : List Loc) (ls : Array Slot), va_P D vwCl [cm_kI cI a_book 31 m_book, (a, .inr (11, [.ref a_book, .ref a_now, .int m_sights, .ref a_sight, .int m_signs, .ref a_pad, .int u14.1, .int u14.2.1, .int u14.2.2.1, .int m_reason, .int m_acts, .ref a_digits, .ref a_without, .ref a_with, .ref a_counts, .ref a_fewest, .ref a_ways, .ref a_more, .ref a_chooses, .ref a_image, .ref a_isKept])), cm_kI cI a_now 31 m_now_22] H → va_D A [cm_kI cI a_book 31 m_book, (a, .inr (11, [.ref a_book, .ref a_now, .int m_sights, .ref a_sight, .int m_signs, .ref a_pad, .int u14.1, .int u14.2.1, .int u14.2.2.1, .int m_reason, .int m_acts, .ref a_digits, .ref a_without, .ref a_with, .ref a_counts, .ref a_fewest, .ref a_ways, .ref a_more, .ref a_chooses, .ref a_image, .ref a_isKept])), cm_kI cI a_now 31 m_now_22] → va_S A s.heap H locs → lv_has ls 9 [(4, .int v4_78), (3, .int v3_22), (2, .int v2_22), (0, .ref a), (1, .int v1)] → W p l e rmX11_sway s m args below meth c H locs 0 0 Q (F0 m 166 ls [.int j156]) := by
                intro H locs ls hP hD hS hl
                refine lv_istore (pc := 166) (lv' := [(7, .int j156), (4, .int v4_78), (3, .int v3_22), (2, .int v2_22), (0, .ref a), (1, .int v1)]) hx hb dX11_sway_166 hl (by decide) rfl (fun ls hl => ?_)
                refine lv_iload (pc := 168) hx hb dX11_sway_168 (lv_at hl 1 rfl) ?_
                refine lv_bipush (pc := 170) (v := 9) hx hb dX11_sway_170 (by decide) ?_
                refine lv_icmp_ge (pc := 172) (tgt := 186) hx hb dX11_sway_172 (by decide) (fun c_172 => ?_) (fun c_172 => ?_)
                · have hf := cm_ip c_172 hf
                  refine lv_iload_n (pc := 186) hx hb dX11_sway_186 rfl (lv_at hl 3 rfl) ?_
                  refine lv_istore_n (pc := 187) (lv' := [(2, .int v2_22), (7, .int j156), (4, .int v4_78), (3, .int v3_22), (0, .ref a), (1, .int v1)]) hx hb dX11_sway_187 rfl hl (by decide) rfl (fun ls hl => ?_)
                  refine lv_iinc (pc := 188) (v := (v3_22 + 1)) (lv' := [(3, .int (v3_22 + 1)), (2, .int v2_22), (7, .int j156), (4, .int v4_78), (0, .ref a), (1, .int v1)]) hx hb dX11_sway_188 hl (k := 3) rfl rfl (by decide) rfl (fun ls hl => ?_)
                  refine lv_goto (pc := 191) (tgt := 22) hx hb dX11_sway_191 (by decide) ?_
                  have hP := hP.sub (ws' := [(a, .inr (11, [.ref a_book, .ref a_now, .int m_sights, .ref a_sight, .int m_signs, .ref a_pad, .int u14.1, .int u14.2.1, .int u14.2.2.1, .int m_reason, .int m_acts, .ref a_digits, .ref a_without, .ref a_with, .ref a_counts, .ref a_fewest, .ref a_ways, .ref a_more, .ref a_chooses, .ref a_image, .ref a_isKept])), cm_kI cI a_book 31 m_book, cm_kI cI a_now 31 m_now_22]) [1, 0, 2] rfl
                  have hD := hD.sub (ws' := [(a, .inr (11, [.ref a_book, .ref a_now, .int m_sights, .ref a_sight, .int m_signs, .ref a_pad, .int u14.1, .int u14.2.1, .int u14.2.2.1, .int m_reason, .int m_acts, .ref a_digits, .ref a_without, .ref a_with, .ref a_counts, .ref a_fewest, .ref a_ways, .ref a_more, .ref a_chooses, .ref a_image, .ref a_isKept])), cm_kI cI a_book 31 m_book, cm_kI cI a_now 31 m_now_22]) [1, 0, 2] (by decide) rfl
                  exact ih v2_22 (v3_22 + 1) _ _ _ hP hD hS (lv_sub hl [0, 1, 4, 5] rfl) hf
                · have hf := cm_in c_172 hf
                  refine lv_iload (pc := 175) hx hb dX11_sway_175 (lv_at hl 0 rfl) ?_
                  refine lv_iload_n (pc := 177) hx hb dX11_sway_177 rfl (lv_at hl 3 rfl) ?_
                  refine lv_icmp_ge (pc := 178) (tgt := 186) hx hb dX11_sway_178 (by decide) (fun c_178 => ?_) (fun c_178 => ?_)
                  · have hf := cm_ip c_178 hf
                    refine lv_iload_n (pc := 186) hx hb dX11_sway_186 rfl (lv_at hl 3 rfl) ?_
                    refine lv_istore_n (pc := 187) (lv' := [(2, .int v2_22), (7, .int j156), (4, .int v4_78), (3, .int v3_22), (0, .ref a), (1, .int v1)]) hx hb dX11_sway_187 rfl hl (by decide) rfl (fun ls hl => ?_)
                    refine lv_iinc (pc := 188) (v := (v3_22 + 1)) (lv' := [(3, .int (v3_22 + 1)), (2, .int v2_22), (7, .int j156), (4, .int v4_78), (0, .ref a), (1, .int v1)]) hx hb dX11_sway_188 hl (k := 3) rfl rfl (by decide) rfl (fun ls hl => ?_)
                    refine lv_goto (pc := 191) (tgt := 22) hx hb dX11_sway_191 (by decide) ?_
                    have hP := hP.sub (ws' := [(a, .inr (11, [.ref a_book, .ref a_now, .int m_sights, .ref a_sight, .int m_signs, .ref a_pad, .int u14.1, .int u14.2.1, .int u14.2.2.1, .int m_reason, .int m_acts, .ref a_digits, .ref a_without, .ref a_with, .ref a_counts, .ref a_fewest, .ref a_ways, .ref a_more, .ref a_chooses, .ref a_image, .ref a_isKept])), cm_kI cI a_book 31 m_book, cm_kI cI a_now 31 m_now_22]) [1, 0, 2] rfl
                    have hD := hD.sub (ws' := [(a, .inr (11, [.ref a_book, .ref a_now, .int m_sights, .ref a_sight, .int m_signs, .ref a_pad, .int u14.1, .int u14.2.1, .int u14.2.2.1, .int m_reason, .int m_acts, .ref a_digits, .ref a_without, .ref a_with, .ref a_counts, .ref a_fewest, .ref a_ways, .ref a_more, .ref a_chooses, .ref a_image, .ref a_isKept])), cm_kI cI a_book 31 m_book, cm_kI cI a_now 31 m_now_22]) [1, 0, 2] (by decide) rfl
                    exact ih v2_22 (v3_22 + 1) _ _ _ hP hD hS (lv_sub hl [0, 1, 4, 5] rfl) hf
                  · have hf := cm_in c_178 hf
                    refine lv_iload (pc := 181) hx hb dX11_sway_181 (lv_at hl 0 rfl) ?_
                    refine lv_goto (pc := 183) (tgt := 187) hx hb dX11_sway_183 (by decide) ?_
                    refine lv_istore_n (pc := 187) (lv' := [(2, .int j156), (7, .int j156), (4, .int v4_78), (3, .int v3_22), (0, .ref a), (1, .int v1)]) hx hb dX11_sway_187 rfl hl (by decide) rfl (fun ls hl => ?_)
                    refine lv_iinc (pc := 188) (v := (v3_22 + 1)) (lv' := [(3, .int (v3_22 + 1)), (2, .int j156), (7, .int j156), (4, .int v4_78), (0, .ref a), (1, .int v1)]) hx hb dX11_sway_188 hl (k := 3) rfl rfl (by decide) rfl (fun ls hl => ?_)
                    refine lv_goto (pc := 191) (tgt := 22) hx hb dX11_sway_191 (by decide) ?_
                    have hP := hP.sub (ws' := [(a, .inr (11, [.ref a_book, .ref a_now, .int m_sights, .ref a_sight, .int m_signs, .ref a_pad, .int u14.1, .int u14.2.1, .int u14.2.2.1, .int m_reason, .int m_acts, .ref a_digits, .ref a_without, .ref a_with, .ref a_counts, .ref a_fewest, .ref a_ways, .ref a_more, .ref a_chooses, .ref a_image, .ref a_isKept])), cm_kI cI a_book 31 m_book, cm_kI cI a_now 31 m_now_22]) [1, 0, 2] rfl
                    have hD := hD.sub (ws' := [(a, .inr (11, [.ref a_book, .ref a_now, .int m_sights, .ref a_sight, .int m_signs, .ref a_pad, .int u14.1, .int u14.2.1, .int u14.2.2.1, .int m_reason, .int m_acts, .ref a_digits, .ref a_without, .ref a_with, .ref a_counts, .ref a_fewest, .ref a_ways, .ref a_more, .ref a_chooses, .ref a_image, .ref a_isKept])), cm_kI cI a_book 31 m_book, cm_kI cI a_now 31 m_now_22]) [1, 0, 2] (by decide) rfl
                    exact ih j156 (v3_22 + 1) _ _ _ hP hD hS (lv_sub hl [0, 1, 4, 5] rfl) hf
              clear hf
              have hf := hj156
              refine lv_icmp_le (pc := 156) (tgt := 164) hx hb dX11_sway_156 (by decide) (fun c_156 => ?_) (fun c_156 => ?_)
              · have hf := cm_ip c_156 hf
                refine lv_iload (pc := 164) hx hb dX11_sway_164 (lv_at hl 0 rfl) ?_
                obtain rfl := hf
                exact J156 _ _ _ hP hD hS (lv_sub hl [2, 3, 4, 5, 6] rfl)
              · have hf := cm_in c_156 hf
                refine lv_iload (pc := 159) hx hb dX11_sway_159 (lv_at hl 1 rfl) ?_
                refine lv_goto (pc := 161) (tgt := 166) hx hb dX11_sway_161 (by decide) ?_
                obtain rfl := hf
                exact J156 _ _ _ hP hD hS (lv_sub hl [2, 3, 4, 5, 6] rfl)
            clear hf
            have hf := hj59
            refine lv_icmp_le (pc := 59) (tgt := 72) hx hb dX11_sway_59 (by decide) (fun c_59 => ?_) (fun c_59 => ?_)
            · have hf := cm_ip c_59 hf
              refine lv_iconst (pc := 72) (v := 0) hx hb dX11_sway_72 (by decide) ?_
              obtain rfl := Option.some.inj hf
              exact J59 _ _ _ hP hD hS (lv_sub hl [0, 1, 2, 3, 4, 5] rfl)
            · have hf := cm_in c_59 hf
              refine lv_aload_n (pc := 62) hx hb dX11_sway_62 rfl (lv_at hl 4 rfl) ?_
              refine lv_iload_n (pc := 63) hx hb dX11_sway_63 rfl (lv_at hl 5 rfl) ?_
              obtain ⟨u64, hu64, hf⟩ := cm_bd hf
              refine cm_callV (pc := 64) (As := [.int v1]) (rest := []) (wr := [cm_kI cI a_book 31 m_book]) (ci := 11) (q0 := 1) (n := 1) hx hb hml hown hts hK hP hD hS hA (c_X11_chalkOf l D cI cJ cZ a a_book a_now a_sight a_pad a_digits a_without a_with a_counts a_fewest a_ways a_more a_chooses a_image a_isKept m_sights m_signs u14.1 u14.2.1 u14.2.2.1 m_reason m_acts m_now_22 v1 u64 hu64) tw_834 tw_831 tw_833 tw_33 tw_56 rfl rfl (by decide +kernel) rfl ⟨Nat.le_of_ble_eq_true rfl, Nat.le_of_ble_eq_true rfl⟩ [1, 2] [0] rfl (by decide) rfl (by decide) (by decide) rfl rfl rfl hl.1 rfl (Nat.le_of_ble_eq_true rfl) dX11_sway_64 ⟨Nat.zero_le _, Nat.zero_le _⟩ (fun H locs hP hD hS => ?_)
              have hP : va_P D vwCl [cm_kI cI a_book 31 m_book, (a, .inr (11, [.ref a_book, .ref a_now, .int m_sights, .ref a_sight, .int m_signs, .ref a_pad, .int u14.1, .int u14.2.1, .int u14.2.2.1, .int m_reason, .int m_acts, .ref a_digits, .ref a_without, .ref a_with, .ref a_counts, .ref a_fewest, .ref a_ways, .ref a_more, .ref a_chooses, .ref a_image, .ref a_isKept])), cm_kI cI a_now 31 m_now_22] H := hP
              have hD : va_D A [cm_kI cI a_book 31 m_book, (a, .inr (11, [.ref a_book, .ref a_now, .int m_sights, .ref a_sight, .int m_signs, .ref a_pad, .int u14.1, .int u14.2.1, .int u14.2.2.1, .int m_reason, .int m_acts, .ref a_digits, .ref a_without, .ref a_with, .ref a_counts, .ref a_fewest, .ref a_ways, .ref a_more, .ref a_chooses, .ref a_image, .ref a_isKept])), cm_kI cI a_now 31 m_now_22] := hD
              refine W.eq (g2 := F0 m 67 ls [.int u64]) rfl ?_
              refine lv_iload_n (pc := 67) hx hb dX11_sway_67 rfl (lv_at hl 2 rfl) ?_
              refine lv_isub (pc := 68) hx hb dX11_sway_68 ?_
              refine lv_goto (pc := 69) (tgt := 73) hx hb dX11_sway_69 (by decide) ?_
              obtain rfl := Option.some.inj hf
              exact J59 _ _ _ hP hD hS (lv_sub hl [0, 1, 2, 3, 4, 5] rfl)
          clear hf
          have hf := hj37
          refine lv_icmp_le (pc := 37) (tgt := 50) hx hb dX11_sway_37 (by decide) (fun c_37 => ?_) (fun c_37 => ?_)
          · have hf := cm_ip c_37 hf
            refine lv_iconst (pc := 50) (v := 0) hx hb dX11_sway_50 (by decide) ?_
            obtain rfl := Option.some.inj hf
            exact J37 _ _ _ hP hD hS (lv_sub hl [0, 1, 2, 3, 4] rfl)
          · have hf := cm_in c_37 hf
            refine lv_iload_n (pc := 40) hx hb dX11_sway_40 rfl (lv_at hl 1 rfl) ?_
            refine lv_aload_n (pc := 41) hx hb dX11_sway_41 rfl (lv_at hl 3 rfl) ?_
            refine lv_iload_n (pc := 42) hx hb dX11_sway_42 rfl (lv_at hl 4 rfl) ?_
            obtain ⟨u43, hu43, hf⟩ := cm_bd hf
            refine cm_callV (pc := 43) (As := [.int v1]) (rest := [.int v3_22]) (wr := [cm_kI cI a_book 31 m_book]) (ci := 11) (q0 := 1) (n := 1) hx hb hml hown hts hK hP hD hS hA (c_X11_chalkOf l D cI cJ cZ a a_book a_now a_sight a_pad a_digits a_without a_with a_counts a_fewest a_ways a_more a_chooses a_image a_isKept m_sights m_signs u14.1 u14.2.1 u14.2.2.1 m_reason m_acts m_now_22 v1 u43 hu43) tw_834 tw_831 tw_833 tw_33 tw_56 rfl rfl (by decide +kernel) rfl ⟨Nat.le_of_ble_eq_true rfl, Nat.le_of_ble_eq_true rfl⟩ [1, 2] [0] rfl (by decide) rfl (by decide) (by decide) rfl rfl rfl hl.1 rfl (Nat.le_of_ble_eq_true rfl) dX11_sway_43 ⟨Nat.zero_le _, Nat.zero_le _⟩ (fun H locs hP hD hS => ?_)
            have hP : va_P D vwCl [cm_kI cI a_book 31 m_book, (a, .inr (11, [.ref a_book, .ref a_now, .int m_sights, .ref a_sight, .int m_signs, .ref a_pad, .int u14.1, .int u14.2.1, .int u14.2.2.1, .int m_reason, .int m_acts, .ref a_digits, .ref a_without, .ref a_with, .ref a_counts, .ref a_fewest, .ref a_ways, .ref a_more, .ref a_chooses, .ref a_image, .ref a_isKept])), cm_kI cI a_now 31 m_now_22] H := hP
            have hD : va_D A [cm_kI cI a_book 31 m_book, (a, .inr (11, [.ref a_book, .ref a_now, .int m_sights, .ref a_sight, .int m_signs, .ref a_pad, .int u14.1, .int u14.2.1, .int u14.2.2.1, .int m_reason, .int m_acts, .ref a_digits, .ref a_without, .ref a_with, .ref a_counts, .ref a_fewest, .ref a_ways, .ref a_more, .ref a_chooses, .ref a_image, .ref a_isKept])), cm_kI cI a_now 31 m_now_22] := hD
            refine W.eq (g2 := F0 m 46 ls [.int u43, .int v3_22]) rfl ?_
            refine lv_isub (pc := 46) hx hb dX11_sway_46 ?_
            refine lv_goto (pc := 47) (tgt := 51) hx hb dX11_sway_47 (by decide) ?_
            obtain rfl := Option.some.inj hf
            exact J37 _ _ _ hP hD hS (lv_sub hl [0, 1, 2, 3, 4] rfl)
    refine L22 u14.2.2.2 _ (fun v2_22 v3_22 H locs ls hP hD hS hl hf => ?_) 5000 1000000 0 _ _ _ hP hD hS (lv_sub hl [0, 1, 2, 3] rfl) hf
    refine lv_iload_n (pc := 194) hx hb dX11_sway_194 rfl (lv_at hl 0 rfl) ?_
    refine lv_ldc (pc := 195) (v := 1000000) hx hb hown (hts _ tw_887) dX11_sway_195 ?_
    refine lv_icmp_ge (pc := 197) (tgt := 204) hx hb dX11_sway_197 (by decide) (fun c_197 => ?_) (fun c_197 => ?_)
    · have hf := cm_ip c_197 hf
      refine lv_bipush (pc := 204) (v := (-6)) hx hb dX11_sway_204 (by decide) ?_
      obtain rfl := Option.some.inj hf
      exact cm_iret (pc := 206) hAe hQ hx hb hr hlocks hP hD hS [0, 1, 2] (by decide) rfl dX11_sway_206
    · have hf := cm_in c_197 hf
      refine lv_iload_n (pc := 200) hx hb dX11_sway_200 rfl (lv_at hl 0 rfl) ?_
      refine lv_goto (pc := 201) (tgt := 206) hx hb dX11_sway_201 (by decide) ?_
      obtain rfl := Option.some.inj hf
      exact cm_iret (pc := 206) hAe hQ hx hb hr hlocks hP hD hS [0, 1, 2] (by decide) rfl dX11_sway_206
  · have hf := cm_ip c_7 hf
    refine lv_bipush (pc := 10) (v := (-2)) hx hb dX11_sway_10 (by decide) ?_
    obtain rfl := Option.some.inj hf
    exact cm_iret (pc := 12) hAe hQ hx hb hr hlocks hP hD hS [0, 1, 2] (by decide) rfl dX11_sway_12
def fX11_layRow_L23 (kx : Int32 → Int32 → (Nat → Int32) → Option (Int32 × (Nat → Int32))) : Nat → Int32 → Int32 → (Nat → Int32) → Option (Int32 × (Nat → Int32))
  | 0, _, _, _ => none
  | n + 1, v3_23, v4_23, m_digits_23 => (if v4_23 < 0 then kx v3_23 v4_23 m_digits_23 else if v4_23 < 0 ∨ 9 ≤ v4_23.toNatClampNeg then none else fX11_layRow_L23 kx n (v3_23 / 10) (v4_23 + (-1)) (upd m_digits_23 v4_23.toNatClampNeg (irm v3_23 10)))
def fX11_layRow (v1 : Int32) (v2 : Int32) (m_digits : (Nat → Int32)) : Option (Int32 × (Nat → Int32)) := cm_let (fX11_in v2 1 9) (fun u4 => (if u4 = 0 then some (0, m_digits) else (if 0 ≤ v1 then fX11_layRow_L23 (fun v3_23 v4_23 m_digits_23 => (if v3_23 = 0 then some (1, m_digits_23) else some (0, m_digits_23))) 5000 v1 (v2 - 1) m_digits else some (0, m_digits))))
def rmX11_layRow : Room := { frames := 1, cells := 0, slots := 0, locals := 22 }
set_option maxRecDepth 100000 in
set_option maxHeartbeats 4000000 in
theorem c_X11_layRow (l : Launch) (D : va_G) (cI cJ cZ : ClassId) (a a_book a_now a_sight a_pad a_digits a_without a_with a_counts a_fewest a_ways a_more a_chooses a_image a_isKept : Nat) (m_sights : Int32) (m_signs : Int32) (m_sold : Int32) (m_markets : Int32) (m_marketAt : Int32) (m_reason : Int32) (m_acts : Int32) (m_digits : (Nat → Int32)) (v1 : Int32) (v2 : Int32) (res : Int32 × (Nat → Int32)) (hf : fX11_layRow v1 v2 m_digits = some res) : Ct l yX11_layRow (cm_ws yX11_layRow cX11_layRow 5 (some .boolean)) rmX11_layRow D (cm_T cI cJ cZ) [.ref a, .int v1, .int v2] [(a, .inr (11, [.ref a_book, .ref a_now, .int m_sights, .ref a_sight, .int m_signs, .ref a_pad, .int m_sold, .int m_markets, .int m_marketAt, .int m_reason, .int m_acts, .ref a_digits, .ref a_without, .ref a_with, .ref a_counts, .ref a_fewest, .ref a_ways, .ref a_more, .ref a_chooses, .ref a_image, .ref a_isKept])), cm_kI cI a_digits 9 m_digits] (some (.int res.1)) [(a, .inr (11, [.ref a_book, .ref a_now, .int m_sights, .ref a_sight, .int m_signs, .ref a_pad, .int m_sold, .int m_markets, .int m_marketAt, .int m_reason, .int m_acts, .ref a_digits, .ref a_without, .ref a_with, .ref a_counts, .ref a_fewest, .ref a_ways, .ref a_more, .ref a_chooses, .ref a_image, .ref a_isKept])), cm_kI cI a_digits 9 res.2] := by
  refine Ct.of (cc := cX11_layRow) (maxL := 5) (ret := (some .boolean)) (by decide) (Nat.le_of_ble_eq_true rfl) ?_
  intro p e s m below meth c ls args A Q hav hAe hQ hx hb hr hml hown hlocks hts hK hP hD hA hS hl
  have hKa := hK.1
  have hl : lv_has ls 5 [(0, .ref a), (1, .int v1), (2, .int v2)] := hl
  unfold fX11_layRow at hf
  refine lv_iload_n (pc := 0) hx hb dX11_layRow_0 rfl (lv_at hl 2 rfl) ?_
  refine lv_iconst (pc := 1) (v := 1) hx hb dX11_layRow_1 (by decide) ?_
  refine lv_bipush (pc := 2) (v := 9) hx hb dX11_layRow_2 (by decide) ?_
  obtain ⟨u4, hu4, hf⟩ := cm_lt hf
  refine cm_callS (pc := 4) (As := [.int v2, .int 1, .int 9]) (rest := []) (wr := [(a, .inr (11, [.ref a_book, .ref a_now, .int m_sights, .ref a_sight, .int m_signs, .ref a_pad, .int m_sold, .int m_markets, .int m_marketAt, .int m_reason, .int m_acts, .ref a_digits, .ref a_without, .ref a_with, .ref a_counts, .ref a_fewest, .ref a_ways, .ref a_more, .ref a_chooses, .ref a_image, .ref a_isKept])), cm_kI cI a_digits 9 m_digits]) (n := 3) hx hb hml hown hts hK hP hD hS hA (c_X11_in l D cI cJ cZ v2 1 9 u4 hu4) tw_783 tw_781 tw_782 tw_56 rfl rfl (by decide +kernel) rfl ⟨Nat.le_of_ble_eq_true rfl, Nat.le_of_ble_eq_true rfl⟩ [] [0, 1] rfl (by decide) rfl (by decide) (by decide) hl.1 rfl (Nat.le_of_ble_eq_true rfl) dX11_layRow_4 ⟨Nat.zero_le _, Nat.zero_le _⟩ (fun H locs hP hD hS => ?_)
  have hP : va_P D vwCl [(a, .inr (11, [.ref a_book, .ref a_now, .int m_sights, .ref a_sight, .int m_signs, .ref a_pad, .int m_sold, .int m_markets, .int m_marketAt, .int m_reason, .int m_acts, .ref a_digits, .ref a_without, .ref a_with, .ref a_counts, .ref a_fewest, .ref a_ways, .ref a_more, .ref a_chooses, .ref a_image, .ref a_isKept])), cm_kI cI a_digits 9 m_digits] H := hP
  have hD : va_D A [(a, .inr (11, [.ref a_book, .ref a_now, .int m_sights, .ref a_sight, .int m_signs, .ref a_pad, .int m_sold, .int m_markets, .int m_marketAt, .int m_reason, .int m_acts, .ref a_digits, .ref a_without, .ref a_with, .ref a_counts, .ref a_fewest, .ref a_ways, .ref a_more, .ref a_chooses, .ref a_image, .ref a_isKept])), cm_kI cI a_digits 9 m_digits] := hD
  refine W.eq (g2 := F0 m 7 ls [.int u4]) rfl ?_
  refine lv_if_eq (pc := 7) (tgt := 14) hx hb dX11_layRow_7 (by decide) (fun c_7 => ?_) (fun c_7 => ?_)
  · have hf := cm_ip c_7 hf
    refine lv_iconst (pc := 14) (v := 0) hx hb dX11_layRow_14 (by decide) ?_
    obtain rfl := Option.some.inj hf
    exact cm_zret (Or.inl rfl) (pc := 15) hAe hQ hx hb hr hlocks hP hD hS [0, 1] (by decide) rfl dX11_layRow_15
  · have hf := cm_in c_7 hf
    refine lv_iload_n (pc := 10) hx hb dX11_layRow_10 rfl (lv_at hl 1 rfl) ?_
    refine lv_if_ge (pc := 11) (tgt := 16) hx hb dX11_layRow_11 (by decide) (fun c_11 => ?_) (fun c_11 => ?_)
    · have hf := cm_ip c_11 hf
      refine lv_iload_n (pc := 16) hx hb dX11_layRow_16 rfl (lv_at hl 1 rfl) ?_
      refine lv_istore_n (pc := 17) (lv' := [(3, .int v1), (0, .ref a), (1, .int v1), (2, .int v2)]) hx hb dX11_layRow_17 rfl hl (by decide) rfl (fun ls hl => ?_)
      refine lv_iload_n (pc := 18) hx hb dX11_layRow_18 rfl (lv_at hl 3 rfl) ?_
      refine lv_iconst (pc := 19) (v := 1) hx hb dX11_layRow_19 (by decide) ?_
      refine lv_isub (pc := 20) hx hb dX11_layRow_20 ?_
      refine lv_istore (pc := 21) (lv' := [(4, .int (v2 - 1)), (3, .int v1), (0, .ref a), (1, .int v1), (2, .int v2)]) hx hb dX11_layRow_21 hl (by decide) rfl (fun ls hl => ?_)
      have L23 : ∀ (kx : Int32 → Int32 → (Nat → Int32) → Option (Int32 × (Nat → Int32))), (∀ (v3_23 : Int32) (v4_23 : Int32) (m_digits_23 : (Nat → Int32)) (H : Heap) (locs : List Loc) (ls : Array Slot), va_P D vwCl [(a, .inr (11, [.ref a_book, .ref a_now, .int m_sights, .ref a_sight, .int m_signs, .ref a_pad, .int m_sold, .int m_markets, .int m_marketAt, .int m_reason, .int m_acts, .ref a_digits, .ref a_without, .ref a_with, .ref a_counts, .ref a_fewest, .ref a_ways, .ref a_more, .ref a_chooses, .ref a_image, .ref a_isKept])), cm_kI cI a_digits 9 m_digits_23] H → va_D A [(a, .inr (11, [.ref a_book, .ref a_now, .int m_sights, .ref a_sight, .int m_signs, .ref a_pad, .int m_sold, .int m_markets, .int m_marketAt, .int m_reason, .int m_acts, .ref a_digits, .ref a_without, .ref a_with, .ref a_counts, .ref a_fewest, .ref a_ways, .ref a_more, .ref a_chooses, .ref a_image, .ref a_isKept])), cm_kI cI a_digits 9 m_digits_23] → va_S A s.heap H locs → lv_has ls 5 [(3, .int v3_23)] → kx v3_23 v4_23 m_digits_23 = some res → W p l e rmX11_layRow s m args below meth c H locs 0 0 Q (F0 m 50 ls [])) → ∀ (n : Nat) (v3_23 : Int32) (v4_23 : Int32) (m_digits_23 : (Nat → Int32)) (H : Heap) (locs : List Loc) (ls : Array Slot), va_P D vwCl [(a, .inr (11, [.ref a_book, .ref a_now, .int m_sights, .ref a_sight, .int m_signs, .ref a_pad, .int m_sold, .int m_markets, .int m_marketAt, .int m_reason, .int m_acts, .ref a_digits, .ref a_without, .ref a_with, .ref a_counts, .ref a_fewest, .ref a_ways, .ref a_more, .ref a_chooses, .ref a_image, .ref a_isKept])), cm_kI cI a_digits 9 m_digits_23] H → va_D A [(a, .inr (11, [.ref a_book, .ref a_now, .int m_sights, .ref a_sight, .int m_signs, .ref a_pad, .int m_sold, .int m_markets, .int m_marketAt, .int m_reason, .int m_acts, .ref a_digits, .ref a_without, .ref a_with, .ref a_counts, .ref a_fewest, .ref a_ways, .ref a_more, .ref a_chooses, .ref a_image, .ref a_isKept])), cm_kI cI a_digits 9 m_digits_23] → va_S A s.heap H locs → lv_has ls 5 [(4, .int v4_23), (3, .int v3_23), (0, .ref a)] → fX11_layRow_L23 kx n v3_23 v4_23 m_digits_23 = some res → W p l e rmX11_layRow s m args below meth c H locs 0 0 Q (F0 m 23 ls []) := by
        intro kx hkx n
        induction n with
        | zero => intro v3_23 v4_23 m_digits_23 H locs ls hP hD hS hl hf; cases hf
        | succ n ih =>
          intro v3_23 v4_23 m_digits_23 H locs ls hP hD hS hl hf
          rw [fX11_layRow_L23] at hf
          refine lv_iload (pc := 23) hx hb dX11_layRow_23 (lv_at hl 0 rfl) ?_
          refine lv_if_lt (pc := 25) (tgt := 50) hx hb dX11_layRow_25 (by decide) (fun c_25 => ?_) (fun c_25 => ?_)
          · have hf := cm_ip c_25 hf
            exact hkx v3_23 v4_23 m_digits_23 _ _ _ hP hD hS (lv_sub hl [1] rfl) hf
          · have hf := cm_in c_25 hf
            refine lv_aload_n (pc := 28) hx hb dX11_layRow_28 rfl (lv_at hl 2 rfl) ?_
            refine va_get (pc := 29) (D := D) (ci := 11) (v := .ref a_digits) (C := RX11) (T := TX11) (N := 21) hx hb hts in_X11 hown hKa hP 0 rfl rfl 11 (by decide) (hts _ tw_723) (fun _ h9 => h9) rfl dX11_layRow_29 ?_
            refine lv_iload (pc := 32) hx hb dX11_layRow_32 (lv_at hl 0 rfl) ?_
            refine lv_iload_n (pc := 34) hx hb dX11_layRow_34 rfl (lv_at hl 1 rfl) ?_
            refine lv_bipush (pc := 35) (v := 10) hx hb dX11_layRow_35 (by decide) ?_
            refine cm_irem (pc := 37) hx hb dX11_layRow_37 (by decide) ?_
            obtain ⟨b_38, hf⟩ := cm_ob hf
            refine va_iast (pc := 38) hx hb hKa hP hD hS 1 0 rfl rfl b_38 dX11_layRow_38 (fun H locs hP hD hS => ?_)
            have hP : va_P D vwCl [(a, .inr (11, [.ref a_book, .ref a_now, .int m_sights, .ref a_sight, .int m_signs, .ref a_pad, .int m_sold, .int m_markets, .int m_marketAt, .int m_reason, .int m_acts, .ref a_digits, .ref a_without, .ref a_with, .ref a_counts, .ref a_fewest, .ref a_ways, .ref a_more, .ref a_chooses, .ref a_image, .ref a_isKept])), cm_kI cI a_digits 9 (upd m_digits_23 v4_23.toNatClampNeg (irm v3_23 10))] H := hP
            have hD : va_D A [(a, .inr (11, [.ref a_book, .ref a_now, .int m_sights, .ref a_sight, .int m_signs, .ref a_pad, .int m_sold, .int m_markets, .int m_marketAt, .int m_reason, .int m_acts, .ref a_digits, .ref a_without, .ref a_with, .ref a_counts, .ref a_fewest, .ref a_ways, .ref a_more, .ref a_chooses, .ref a_image, .ref a_isKept])), cm_kI cI a_digits 9 (upd m_digits_23 v4_23.toNatClampNeg (irm v3_23 10))] := hD
            refine lv_iload_n (pc := 39) hx hb dX11_layRow_39 rfl (lv_at hl 1 rfl) ?_
            refine lv_bipush (pc := 40) (v := 10) hx hb dX11_layRow_40 (by decide) ?_
            refine lv_idiv (pc := 42) hx hb dX11_layRow_42 (by decide) ?_
            refine lv_istore_n (pc := 43) (lv' := [(3, .int (v3_23 / 10)), (4, .int v4_23), (0, .ref a)]) hx hb dX11_layRow_43 rfl hl (by decide) rfl (fun ls hl => ?_)
            refine lv_iinc (pc := 44) (v := (v4_23 + (-1))) (lv' := [(4, .int (v4_23 + (-1))), (3, .int (v3_23 / 10)), (0, .ref a)]) hx hb dX11_layRow_44 hl (k := 1) rfl rfl (by decide) rfl (fun ls hl => ?_)
            refine lv_goto (pc := 47) (tgt := 23) hx hb dX11_layRow_47 (by decide) ?_
            exact ih (v3_23 / 10) (v4_23 + (-1)) (upd m_digits_23 v4_23.toNatClampNeg (irm v3_23 10)) _ _ _ hP hD hS (lv_sub hl [0, 1, 2] rfl) hf
      refine L23 _ (fun v3_23 v4_23 m_digits_23 H locs ls hP hD hS hl hf => ?_) 5000 v1 (v2 - 1) m_digits _ _ _ hP hD hS (lv_sub hl [0, 1, 2] rfl) hf
      refine lv_iload_n (pc := 50) hx hb dX11_layRow_50 rfl (lv_at hl 0 rfl) ?_
      refine lv_if_ne (pc := 51) (tgt := 58) hx hb dX11_layRow_51 (by decide) (fun c_51 => ?_) (fun c_51 => ?_)
      · have hf := cm_in c_51 hf
        refine lv_iconst (pc := 58) (v := 0) hx hb dX11_layRow_58 (by decide) ?_
        obtain rfl := Option.some.inj hf
        exact cm_zret (Or.inl rfl) (pc := 59) hAe hQ hx hb hr hlocks hP hD hS [0, 1] (by decide) rfl dX11_layRow_59
      · have hf := cm_ip c_51 hf
        refine lv_iconst (pc := 54) (v := 1) hx hb dX11_layRow_54 (by decide) ?_
        refine lv_goto (pc := 55) (tgt := 59) hx hb dX11_layRow_55 (by decide) ?_
        obtain rfl := Option.some.inj hf
        exact cm_zret (Or.inr rfl) (pc := 59) hAe hQ hx hb hr hlocks hP hD hS [0, 1] (by decide) rfl dX11_layRow_59
    · have hf := cm_in c_11 hf
      refine lv_iconst (pc := 14) (v := 0) hx hb dX11_layRow_14 (by decide) ?_
      obtain rfl := Option.some.inj hf
      exact cm_zret (Or.inl rfl) (pc := 15) hAe hQ hx hb hr hlocks hP hD hS [0, 1] (by decide) rfl dX11_layRow_15
