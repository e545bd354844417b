/-! The law, purely: every step answers alike. -/
theorem lp_exit {L k : Nat} (hL : L ≤ 3072) (hk : 6 * k ≤ L) : (Int32.ofNat L) - 6 < nI (6 * k) ↔ L < 6 * k + 6 := by
  have e1 : (Int32.ofNat L).toInt = (L : Int) := nI_toInt (n := L) (by omega)
  have e2 : (nI (6 * k)).toInt = ((6 * k : Nat) : Int) := nI_toInt (by omega)
  have e6 : (6 : Int32).toInt = 6 := rfl
  rw [i3M, i3S (by omega) (by omega) (by decide) (by decide), e1, e2, e6]
  omega
theorem lp_ix {L k j : Nat} {J : Int32} (hL : L ≤ 3072) (hJ : J = nI j) (h : 6 * k + j < L) : (nI (6 * k) + J < 0 ∨ L ≤ (nI (6 * k) + J).toNatClampNeg) = False := by
  rw [hJ, nI_add, clm (by omega)]; exact ixc h (by omega)
set_option maxRecDepth 100000 in
set_option maxHeartbeats 16000000 in
theorem law_run {L : Nat} {xs : Nat → Int32} (hL : L ≤ 3072) (kx : Int32 → (Nat → Int64) → SRO → Int32 → Int32 → SBO → SPA → SSI → STD → STR → (Nat → Int32) → SBO → SSI → SBO → SSI → SRE → SBO → SRE → Int32 → Int32 → Int32 → Int32 → Int32 → Int32 → Int32 → (Nat → Int32) → (Nat → Int32) → (Nat → Int32) → (Nat → Int32) → (Nat → Int32) → (Nat → Int32) → (Nat → Int32) → (Nat → Int32) → (Nat → Int32) → (Nat → Int64) → (Nat → Int64) → (Nat → Int64) → (Nat → Int32) → (Nat → Int32) → Option (Int32)) (hk : ∀ (v3 : Int32) (x_bells_be : (Nat → Int64)) (x_digits_ro : SRO) (x_im0_ik : Int32) (x_im1_ik : Int32) (x_now_bo : SBO) (x_pad_pa : SPA) (x_sights_si : SSI) (x_trades_td : STD) (x_trial_tr : STR) (x_voters_vo : (Nat → Int32)) (x_im0_borough_bo : SBO) (x_im0_sights_si : SSI) (x_im1_borough_bo : SBO) (x_im1_sights_si : SSI) (x_pad_reader_re : SRE) (x_trial_borough_bo : SBO) (x_trial_reader_re : SRE) (m_sights : Int32) (m_signs : Int32) (m_sold : Int32) (m_markets : Int32) (m_marketAt : Int32) (m_reason : Int32) (m_acts : Int32) (m_book : (Nat → Int32)) (m_now : (Nat → Int32)) (m_sight : (Nat → Int32)) (m_pad : (Nat → Int32)) (m_digits : (Nat → Int32)) (m_without : (Nat → Int32)) (m_with : (Nat → Int32)) (m_counts : (Nat → Int32)) (m_fewest : (Nat → Int32)) (m_ways : (Nat → Int64)) (m_more : (Nat → Int64)) (m_chooses : (Nat → Int64)) (m_image : (Nat → Int32)) (m_isKept : (Nat → Int32)), kx v3 x_bells_be x_digits_ro x_im0_ik x_im1_ik x_now_bo x_pad_pa x_sights_si x_trades_td x_trial_tr x_voters_vo x_im0_borough_bo x_im0_sights_si x_im1_borough_bo x_im1_sights_si x_pad_reader_re x_trial_borough_bo x_trial_reader_re m_sights m_signs m_sold m_markets m_marketAt m_reason m_acts m_book m_now m_sight m_pad m_digits m_without m_with m_counts m_fewest m_ways m_more m_chooses m_image m_isKept = some 1) : ∀ (n k : Nat) (x_bells_be : (Nat → Int64)) (x_digits_ro : SRO) (x_im0_ik : Int32) (x_im1_ik : Int32) (x_now_bo : SBO) (x_pad_pa : SPA) (x_sights_si : SSI) (x_trades_td : STD) (x_trial_tr : STR) (x_voters_vo : (Nat → Int32)) (x_im0_borough_bo : SBO) (x_im0_sights_si : SSI) (x_im1_borough_bo : SBO) (x_im1_sights_si : SSI) (x_pad_reader_re : SRE) (x_trial_borough_bo : SBO) (x_trial_reader_re : SRE) (m_sights : Int32) (m_signs : Int32) (m_sold : Int32) (m_markets : Int32) (m_marketAt : Int32) (m_reason : Int32) (m_acts : Int32) (m_book : (Nat → Int32)) (m_now : (Nat → Int32)) (m_sight : (Nat → Int32)) (m_pad : (Nat → Int32)) (m_digits : (Nat → Int32)) (m_without : (Nat → Int32)) (m_with : (Nat → Int32)) (m_counts : (Nat → Int32)) (m_fewest : (Nat → Int32)) (m_ways : (Nat → Int64)) (m_more : (Nat → Int64)) (m_chooses : (Nat → Int64)) (m_image : (Nat → Int32)) (m_isKept : (Nat → Int32)), 6 * k ≤ L → L < 6 * (k + n) → RB x_now_bo m_book → RP x_pad_pa m_signs m_pad → RS x_sights_si m_sights m_sight → RI x_im0_ik x_im0_borough_bo x_im0_sights_si 0 m_image m_isKept → RI x_im1_ik x_im1_borough_bo x_im1_sights_si 1 m_image m_isKept → fL_law_L18 L xs kx n (nI (6 * k)) x_bells_be x_digits_ro x_im0_ik x_im1_ik x_now_bo x_pad_pa x_sights_si x_trades_td x_trial_tr x_voters_vo x_im0_borough_bo x_im0_sights_si x_im1_borough_bo x_im1_sights_si x_pad_reader_re x_trial_borough_bo x_trial_reader_re m_sights m_signs m_sold m_markets m_marketAt m_reason m_acts m_book m_now m_sight m_pad m_digits m_without m_with m_counts m_fewest m_ways m_more m_chooses m_image m_isKept = some 1 := by
  intro n
  induction n with
  | zero =>
    intro k x_bells_be x_digits_ro x_im0_ik x_im1_ik x_now_bo x_pad_pa x_sights_si x_trades_td x_trial_tr x_voters_vo x_im0_borough_bo x_im0_sights_si x_im1_borough_bo x_im1_sights_si x_pad_reader_re x_trial_borough_bo x_trial_reader_re m_sights m_signs m_sold m_markets m_marketAt m_reason m_acts m_book m_now m_sight m_pad m_digits m_without m_with m_counts m_fewest m_ways m_more m_chooses m_image m_isKept h1 h2
    omega
  | succ n ih =>
    intro k x_bells_be x_digits_ro x_im0_ik x_im1_ik x_now_bo x_pad_pa x_sights_si x_trades_td x_trial_tr x_voters_vo x_im0_borough_bo x_im0_sights_si x_im1_borough_bo x_im1_sights_si x_pad_reader_re x_trial_borough_bo x_trial_reader_re m_sights m_signs m_sold m_markets m_marketAt m_reason m_acts m_book m_now m_sight m_pad m_digits m_without m_with m_counts m_fewest m_ways m_more m_chooses m_image m_isKept h1 h2 hB hP hS hI0 hI1
    rw [fL_law_L18]
    by_cases cx : (Int32.ofNat L) - 6 < nI (6 * k)
    · rw [if_pos cx]; exact hk _ _ _ _ _ _ _ _ _ _ _ _ _ _ _ _ _ _ _ _ _ _ _ _ _ _ _ _ _ _ _ _ _ _ _ _ _ _ _
    · rw [if_neg cx]
      have hx : ¬ L < 6 * k + 6 := fun z => cx ((lp_exit hL h1).mpr z)
      have i0 : (nI (6 * k) < 0 ∨ L ≤ (nI (6 * k)).toNatClampNeg) = False := by rw [clm (by omega)]; exact ixc (by omega) (by omega)
      have i1 := lp_ix (J := 1) (j := 1) (k := k) hL rfl (by omega)
      have i2 := lp_ix (J := 2) (j := 2) (k := k) hL rfl (by omega)
      have i3 := lp_ix (J := 3) (j := 3) (k := k) hL rfl (by omega)
      have i4 := lp_ix (J := 4) (j := 4) (k := k) hL rfl (by omega)
      have i5 := lp_ix (J := 5) (j := 5) (k := k) hL rfl (by omega)
      have e6 : nI (6 * k) + 6 = nI (6 * (k + 1)) := nI_add (6 * k) 6
      simp only [i0, i1, i2, i3, i4, i5, if_false, e6]
      generalize xs (nI (6 * k)).toNatClampNeg &&& 31 = w
      generalize xs (nI (6 * k) + 1).toNatClampNeg = x1
      generalize xs (nI (6 * k) + 2).toNatClampNeg = x2
      generalize xs (nI (6 * k) + 3).toNatClampNeg = x3
      generalize xs (nI (6 * k) + 4).toNatClampNeg = x4
      generalize xs (nI (6 * k) + 5).toNatClampNeg = x5
      by_cases c0 : w = 0
      · rw [if_pos c0]
        obtain ⟨r, b, k2, e1, e2, hB⟩ := op_one hB x1 x2 x3 x4
        simp only [e1, e2, Option.bind_some, cm_let, if_true]
        exact ih (k + 1) _ _ _ _ _ _ _ _ _ _ _ _ _ _ _ _ _ _ _ _ _ _ _ _ _ _ _ _ _ _ _ _ _ _ _ _ _ _ (by omega) (by omega) hB hP hS hI0 hI1
      rw [if_neg c0]
      by_cases c1 : w = 1
      · rw [if_pos c1]
        obtain ⟨r, b, k2, e1, e2, hB⟩ := op_cart hB x1 x2
        simp only [e1, e2, Option.bind_some, cm_let, if_true]
        exact ih (k + 1) _ _ _ _ _ _ _ _ _ _ _ _ _ _ _ _ _ _ _ _ _ _ _ _ _ _ _ _ _ _ _ _ _ _ _ _ _ _ (by omega) (by omega) hB hP hS hI0 hI1
      rw [if_neg c1]
      by_cases c2 : w = 2
      · rw [if_pos c2]
        obtain ⟨r, b, k2, e1, e2, hB⟩ := op_day hB x1
        simp only [e1, e2, Option.bind_some, cm_let, if_true]
        exact ih (k + 1) _ _ _ _ _ _ _ _ _ _ _ _ _ _ _ _ _ _ _ _ _ _ _ _ _ _ _ _ _ _ _ _ _ _ _ _ _ _ (by omega) (by omega) hB hP hS hI0 hI1
      rw [if_neg c2]
      by_cases c3 : w = 3
      · rw [if_pos c3]
        obtain ⟨r, q, n1, f, e1, e2, hP⟩ := op_say hP x1
        simp only [e1, e2, Option.bind_some, cm_let, if_true]
        exact ih (k + 1) _ _ _ _ _ _ _ _ _ _ _ _ _ _ _ _ _ _ _ _ _ _ _ _ _ _ _ _ _ _ _ _ _ _ _ _ _ _ (by omega) (by omega) hB hP hS hI0 hI1
      rw [if_neg c3]
      by_cases c4 : w = 4
      · rw [if_pos c4]
        obtain ⟨r, q, n1, e1, e2, hP⟩ := op_wipe hP
        simp only [e1, e2, Option.bind_some, cm_let, if_true]
        exact ih (k + 1) _ _ _ _ _ _ _ _ _ _ _ _ _ _ _ _ _ _ _ _ _ _ _ _ _ _ _ _ _ _ _ _ _ _ _ _ _ _ (by omega) (by omega) hB hP hS hI0 hI1
      rw [if_neg c4]
      by_cases c5 : w = 5
      · rw [if_pos c5]
        obtain ⟨r, q, e1, e2⟩ := op_fault hP x_pad_reader_re
        simp only [e1, e2, Option.bind_some, cm_let, if_true]
        exact ih (k + 1) _ _ _ _ _ _ _ _ _ _ _ _ _ _ _ _ _ _ _ _ _ _ _ _ _ _ _ _ _ _ _ _ _ _ _ _ _ _ (by omega) (by omega) hB hP hS hI0 hI1
      rw [if_neg c5]
      by_cases c6 : w = 6
      · rw [if_pos c6]
        obtain ⟨r, o1, o2, e1, e2⟩ := op_judge hB hP x1 x_trial_tr x_pad_reader_re x_trial_borough_bo x_trial_reader_re m_sold m_markets m_marketAt m_reason m_acts m_now
        simp only [e1, e2, Option.bind_some, cm_let, if_true]
        exact ih (k + 1) _ _ _ _ _ _ _ _ _ _ _ _ _ _ _ _ _ _ _ _ _ _ _ _ _ _ _ _ _ _ _ _ _ _ _ _ _ _ (by omega) (by omega) hB hP hS hI0 hI1
      rw [if_neg c6]
      by_cases c7 : w = 7
      · rw [if_pos c7]
        obtain ⟨r, b1, q1, o1, n1, s1, s2, s3, s4, s5, k1, w1, e1, e2, hB, hP⟩ := op_done hB hP x_trial_tr x_pad_reader_re x_trial_borough_bo x_trial_reader_re m_sold m_markets m_marketAt m_reason m_acts m_now
        simp only [e1, e2, Option.bind_some, cm_let, if_true]
        exact ih (k + 1) _ _ _ _ _ _ _ _ _ _ _ _ _ _ _ _ _ _ _ _ _ _ _ _ _ _ _ _ _ _ _ _ _ _ _ _ _ _ (by omega) (by omega) hB hP hS hI0 hI1
      rw [if_neg c7]
      by_cases c8 : w = 8
      · rw [if_pos c8]
        obtain ⟨r, o1, o2, e1, e2⟩ := op_behind hB hP x1 x2 x_trial_tr x_pad_reader_re x_trial_borough_bo x_trial_reader_re m_sold m_markets m_marketAt m_reason m_acts m_now
        simp only [e1, e2, Option.bind_some, cm_let, if_true]
        exact ih (k + 1) _ _ _ _ _ _ _ _ _ _ _ _ _ _ _ _ _ _ _ _ _ _ _ _ _ _ _ _ _ _ _ _ _ _ _ _ _ _ (by omega) (by omega) hB hP hS hI0 hI1
      rw [if_neg c8]
      by_cases c9 : w = 9
      · rw [if_pos c9]
        obtain ⟨r, o1, o2, e1, e2⟩ := op_comes hB hP x1 x_trial_tr x_pad_reader_re x_trial_borough_bo x_trial_reader_re m_sold m_markets m_marketAt m_reason m_acts m_now
        simp only [e1, e2, Option.bind_some, cm_let, if_true]
        exact ih (k + 1) _ _ _ _ _ _ _ _ _ _ _ _ _ _ _ _ _ _ _ _ _ _ _ _ _ _ _ _ _ _ _ _ _ _ _ _ _ _ (by omega) (by omega) hB hP hS hI0 hI1
      rw [if_neg c9]
      by_cases c10 : w = 10
      · rw [if_pos c10]
        obtain ⟨r, o1, o2, e1, e2⟩ := op_then hB hP x1 x_trial_tr x_pad_reader_re x_trial_borough_bo x_trial_reader_re m_sold m_markets m_marketAt m_reason m_acts m_now
        simp only [e1, e2, Option.bind_some, cm_let, if_true]
        exact ih (k + 1) _ _ _ _ _ _ _ _ _ _ _ _ _ _ _ _ _ _ _ _ _ _ _ _ _ _ _ _ _ _ _ _ _ _ _ _ _ _ (by omega) (by omega) hB hP hS hI0 hI1
      rw [if_neg c10]
      by_cases c11 : w = 11
      · rw [if_pos c11]
        obtain ⟨r, b, o, e1, e2, hB⟩ := op_chalk hB x1 m_sold m_markets m_marketAt m_now
        simp only [e1, e2, Option.bind_some, cm_let, if_true]
        exact ih (k + 1) _ _ _ _ _ _ _ _ _ _ _ _ _ _ _ _ _ _ _ _ _ _ _ _ _ _ _ _ _ _ _ _ _ _ _ _ _ _ (by omega) (by omega) hB hP hS hI0 hI1
      rw [if_neg c11]
      by_cases c12 : w = 12
      · rw [if_pos c12]
        obtain ⟨r, b, o, e1, e2, hB⟩ := op_sway hB x1 m_sold m_markets m_marketAt m_now
        simp only [e1, e2, Option.bind_some, cm_let, if_true]
        exact ih (k + 1) _ _ _ _ _ _ _ _ _ _ _ _ _ _ _ _ _ _ _ _ _ _ _ _ _ _ _ _ _ _ _ _ _ _ _ _ _ _ (by omega) (by omega) hB hP hS hI0 hI1
      rw [if_neg c12]
      by_cases c13 : w = 13
      · rw [if_pos c13]
        obtain ⟨r, o, o2, e1, e2⟩ := op_needed x1 x2 x3 x4 x5 x_digits_ro x_voters_vo m_digits
        simp only [e1, e2, Option.bind_some, cm_let, if_true]
        exact ih (k + 1) _ _ _ _ _ _ _ _ _ _ _ _ _ _ _ _ _ _ _ _ _ _ _ _ _ _ _ _ _ _ _ _ _ _ _ _ _ _ (by omega) (by omega) hB hP hS hI0 hI1
      rw [if_neg c13]
      by_cases c14 : w = 14
      · rw [if_pos c14]
        obtain ⟨r, o, o2, e1, e2⟩ := op_trade x1 x2 x3 x4 x_digits_ro x_trades_td m_digits m_without m_with
        simp only [e1, e2, Option.bind_some, cm_let, if_true]
        exact ih (k + 1) _ _ _ _ _ _ _ _ _ _ _ _ _ _ _ _ _ _ _ _ _ _ _ _ _ _ _ _ _ _ _ _ _ _ _ _ _ _ (by omega) (by omega) hB hP hS hI0 hI1
      rw [if_neg c14]
      by_cases c15 : w = 15
      · rw [if_pos c15]
        obtain ⟨r, q, n1, f, e1, e2, hS⟩ := op_seen hS x1 x2 x3
        simp only [e1, e2, Option.bind_some, cm_let, if_true]
        exact ih (k + 1) _ _ _ _ _ _ _ _ _ _ _ _ _ _ _ _ _ _ _ _ _ _ _ _ _ _ _ _ _ _ _ _ _ _ _ _ _ _ (by omega) (by omega) hB hP hS hI0 hI1
      rw [if_neg c15]
      by_cases c16 : w = 16
      · rw [if_pos c16]
        obtain ⟨r, q, n1, e1, e2, hS⟩ := op_forget hS
        simp only [e1, e2, Option.bind_some, cm_let, if_true]
        exact ih (k + 1) _ _ _ _ _ _ _ _ _ _ _ _ _ _ _ _ _ _ _ _ _ _ _ _ _ _ _ _ _ _ _ _ _ _ _ _ _ _ (by omega) (by omega) hB hP hS hI0 hI1
      rw [if_neg c16]
      by_cases c17 : w = 17
      · rw [if_pos c17]
        obtain ⟨r, e1, e2⟩ := op_slates hS x1
        simp only [e1, e2, Option.bind_some, cm_let, if_true]
        exact ih (k + 1) _ _ _ _ _ _ _ _ _ _ _ _ _ _ _ _ _ _ _ _ _ _ _ _ _ _ _ _ _ _ _ _ _ _ _ _ _ _ (by omega) (by omega) hB hP hS hI0 hI1
      rw [if_neg c17]
      by_cases c18 : w = 18
      · rw [if_pos c18]
        obtain ⟨r, q, o, e1, e2, hS⟩ := op_ask hS x1 m_counts
        simp only [e1, e2, Option.bind_some, cm_let, if_true]
        exact ih (k + 1) _ _ _ _ _ _ _ _ _ _ _ _ _ _ _ _ _ _ _ _ _ _ _ _ _ _ _ _ _ _ _ _ _ _ _ _ _ _ (by omega) (by omega) hB hP hS hI0 hI1
      rw [if_neg c18]
      by_cases c19 : w = 19
      · rw [if_pos c19]
        obtain ⟨r, o, e1, e2⟩ := op_cakes x1 x2 x3 m_fewest
        simp only [e1, e2, Option.bind_some, cm_let, if_true]
        exact ih (k + 1) _ _ _ _ _ _ _ _ _ _ _ _ _ _ _ _ _ _ _ _ _ _ _ _ _ _ _ _ _ _ _ _ _ _ _ _ _ _ (by omega) (by omega) hB hP hS hI0 hI1
      rw [if_neg c19]
      by_cases c20 : w = 20
      · rw [if_pos c20]
        obtain ⟨r, o, o2, e1, e2⟩ := op_rung x1 x2 x3 x4 x5 x_bells_be m_ways m_more m_chooses
        have lr : lg_cmp r r = 0 := (lg_cmp_eq r r).mpr rfl
        simp only [e1, e2, Option.bind_some, cm_let, lr, if_true]
        exact ih (k + 1) _ _ _ _ _ _ _ _ _ _ _ _ _ _ _ _ _ _ _ _ _ _ _ _ _ _ _ _ _ _ _ _ _ _ _ _ _ _ (by omega) (by omega) hB hP hS hI0 hI1
      rw [if_neg c20]
      by_cases c21 : w = 21
      · rw [if_pos c21]
        obtain ⟨r, o, o2, e1, e2⟩ := op_year hB x1 x2 x3 x_trial_borough_bo m_sold m_markets m_marketAt m_reason m_now
        simp only [e1, e2, Option.bind_some, cm_let, if_true]
        exact ih (k + 1) _ _ _ _ _ _ _ _ _ _ _ _ _ _ _ _ _ _ _ _ _ _ _ _ _ _ _ _ _ _ _ _ _ _ _ _ _ _ (by omega) (by omega) hB hP hS hI0 hI1
      rw [if_neg c21]
      by_cases c22 : w = 22
      · rw [if_pos c22]
        obtain ⟨r, j0, j1, b0, s0, b1, s1, im, ke, e1, e2, hI0, hI1⟩ := op_image hB hS hI0 hI1 x1
        simp only [e1, e2, Option.bind_some, cm_let, if_true]
        exact ih (k + 1) _ _ _ _ _ _ _ _ _ _ _ _ _ _ _ _ _ _ _ _ _ _ _ _ _ _ _ _ _ _ _ _ _ _ _ _ _ _ (by omega) (by omega) hB hP hS hI0 hI1
      rw [if_neg c22]
      by_cases c23 : w = 23
      · rw [if_pos c23]
        obtain ⟨r, nb, ns, sn, bk, sg, e1, e2, hB, hS⟩ := op_restore hB hS hI0 hI1 x1
        simp only [e1, e2, Option.bind_some, cm_let, if_true]
        exact ih (k + 1) _ _ _ _ _ _ _ _ _ _ _ _ _ _ _ _ _ _ _ _ _ _ _ _ _ _ _ _ _ _ _ _ _ _ _ _ _ _ (by omega) (by omega) hB hP hS hI0 hI1
      rw [if_neg c23]
      by_cases c24 : w = 24
      · rw [if_pos c24]
        obtain ⟨r, b, o, e1, e2, hB⟩ := op_told hB hP hS x1 m_sold m_markets m_marketAt m_now
        simp only [e1, e2, Option.bind_some, cm_let, if_true]
        exact ih (k + 1) _ _ _ _ _ _ _ _ _ _ _ _ _ _ _ _ _ _ _ _ _ _ _ _ _ _ _ _ _ _ _ _ _ _ _ _ _ _ (by omega) (by omega) hB hP hS hI0 hI1
      rw [if_neg c24]
      exact ih (k + 1) _ _ _ _ _ _ _ _ _ _ _ _ _ _ _ _ _ _ _ _ _ _ _ _ _ _ _ _ _ _ _ _ _ _ _ _ _ _ (by omega) (by omega) hB hP hS hI0 hI1
theorem lp_RB : RB iX1_init_bo iX11_init_m_book := by
  refine ⟨fun i hi => ?_, fun i hi => ?_, fun i hi => ?_, fun i hi => ?_, ?_, ?_, ?_, ?_⟩
  · exact (show ∀ i, i < 8 → (iX1_init_bo.1 i = -1 ∧ iX11_init_m_book i = -6) ∨ (0 ≤ iX1_init_bo.1 i ∧ iX1_init_bo.1 i ≤ 6 ∧ iX11_init_m_book i = iX1_init_bo.1 i) by decide +kernel) i hi
  · exact (show ∀ i, i < 8 → iX11_init_m_book (8 + i) = iX1_init_bo.2.1 i ∧ 0 ≤ iX1_init_bo.2.1 i ∧ iX1_init_bo.2.1 i ≤ 9 by decide +kernel) i hi
  · exact (show ∀ i, i < 8 → iX11_init_m_book (16 + i) = iX1_init_bo.2.2.1 i by decide +kernel) i hi
  · exact (show ∀ i, i < 4 → iX11_init_m_book (24 + i) = iX1_init_bo.2.2.2.1 i by decide +kernel) i hi
  all_goals decide +kernel
theorem law_pure {L : Nat} {xs : Nat → Int32} (hL : L ≤ 3072) : fL_law_L18 L xs (fun v3_18 x_bells_be_18 x_digits_ro_18 x_im0_ik_18 x_im1_ik_18 x_now_bo_18 x_pad_pa_18 x_sights_si_18 x_trades_td_18 x_trial_tr_18 x_voters_vo_18 x_im0_borough_bo_18 x_im0_sights_si_18 x_im1_borough_bo_18 x_im1_sights_si_18 x_pad_reader_re_18 x_trial_borough_bo_18 x_trial_reader_re_18 m_m_sights_18 m_m_signs_18 m_m_sold_18 m_m_markets_18 m_m_marketAt_18 m_m_reason_18 m_m_acts_18 m_m_book_18 m_m_now_18 m_m_sight_18 m_m_pad_18 m_m_digits_18 m_m_without_18 m_m_with_18 m_m_counts_18 m_m_fewest_18 m_m_ways_18 m_m_more_18 m_m_chooses_18 m_m_image_18 m_m_isKept_18 => some 1) 5000 0 iX0_init_be iX5_init_ro iX2_init_ik iX2_init_ik iX1_init_bo iX3_init_pa iX6_init_si iX7_init_td iX8_init_tr iX9_init_vo iX1_init_bo iX6_init_si iX1_init_bo iX6_init_si iX4_init_re iX1_init_bo iX4_init_re iX11_init_m_sights iX11_init_m_signs iX11_init_m_sold iX11_init_m_markets iX11_init_m_marketAt iX11_init_m_reason iX11_init_m_acts iX11_init_m_book iX11_init_m_now iX11_init_m_sight iX11_init_m_pad iX11_init_m_digits iX11_init_m_without iX11_init_m_with iX11_init_m_counts iX11_init_m_fewest iX11_init_m_ways iX11_init_m_more iX11_init_m_chooses iX11_init_m_image iX11_init_m_isKept = some 1 := by
  have h := law_run (L := L) (xs := xs) hL (fun v3_18 x_bells_be_18 x_digits_ro_18 x_im0_ik_18 x_im1_ik_18 x_now_bo_18 x_pad_pa_18 x_sights_si_18 x_trades_td_18 x_trial_tr_18 x_voters_vo_18 x_im0_borough_bo_18 x_im0_sights_si_18 x_im1_borough_bo_18 x_im1_sights_si_18 x_pad_reader_re_18 x_trial_borough_bo_18 x_trial_reader_re_18 m_m_sights_18 m_m_signs_18 m_m_sold_18 m_m_markets_18 m_m_marketAt_18 m_m_reason_18 m_m_acts_18 m_m_book_18 m_m_now_18 m_m_sight_18 m_m_pad_18 m_m_digits_18 m_m_without_18 m_m_with_18 m_m_counts_18 m_m_fewest_18 m_m_ways_18 m_m_more_18 m_m_chooses_18 m_m_image_18 m_m_isKept_18 => some 1) (fun _ _ _ _ _ _ _ _ _ _ _ _ _ _ _ _ _ _ _ _ _ _ _ _ _ _ _ _ _ _ _ _ _ _ _ _ _ _ _ => rfl) 5000 0 iX0_init_be iX5_init_ro iX2_init_ik iX2_init_ik iX1_init_bo iX3_init_pa iX6_init_si iX7_init_td iX8_init_tr iX9_init_vo iX1_init_bo iX6_init_si iX1_init_bo iX6_init_si iX4_init_re iX1_init_bo iX4_init_re iX11_init_m_sights iX11_init_m_signs iX11_init_m_sold iX11_init_m_markets iX11_init_m_marketAt iX11_init_m_reason iX11_init_m_acts iX11_init_m_book iX11_init_m_now iX11_init_m_sight iX11_init_m_pad iX11_init_m_digits iX11_init_m_without iX11_init_m_with iX11_init_m_counts iX11_init_m_fewest iX11_init_m_ways iX11_init_m_more iX11_init_m_chooses iX11_init_m_image iX11_init_m_isKept (by omega) (by omega) lp_RB ⟨rfl, by decide, by decide, fun _ _ => rfl⟩ ⟨rfl, by decide, by decide, fun i _ => ⟨(show (0 : Int32) = 0 - 0 by decide), rfl⟩⟩ (Or.inl ⟨rfl, rfl⟩) (Or.inl ⟨rfl, rfl⟩)
  rw [show nI (6 * 0) = 0 from rfl] at h
  exact h
