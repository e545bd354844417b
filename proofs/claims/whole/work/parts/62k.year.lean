/-! Years by draws. -/
theorem irmN {a d : Nat} (ha : a < 2147483648) (h0 : 0 < d) (hd : d < 2147483648) : irm (nI a) (nI d) = nI (a % d) := pk_rem ha h0 hd
theorem divN {a d : Nat} (ha : a < 2147483648) (h0 : 0 < d) (hd : d < 2147483648) : nI a / nI d = nI (a / d) := pk_div ha h0 hd
def nx (X : Nat) : Nat := (75 * X + 74) % 65537
theorem nx_ok {X : Nat} (h : X ≤ 65536) : irm ((75 * nI X) + 74) 65537 = nI (nx X) ∧ nx X ≤ 65536 := by
  have e1 : (75 : Int32) * nI X = nI (75 * X) := pk_mul 75 X
  have e2 : nI (75 * X) + 74 = nI (75 * X + 74) := nI_add (75 * X) 74
  refine ⟨?_, ?_⟩
  · rw [e1, e2]; exact irmN (d := 65537) (by omega) (by decide) (by decide)
  · unfold nx; omega
theorem d8 {a : Nat} (h : a < 2147483648) : irm (nI a) 8 = nI (a % 8) := irmN (d := 8) h (by decide) (by decide)
theorem d7 {a : Nat} (h : a < 2147483648) : irm (nI a) 7 = nI (a % 7) := irmN (d := 7) h (by decide) (by decide)
theorem d4 {a : Nat} (h : a < 2147483648) : irm (nI a) 4 = nI (a % 4) := irmN (d := 4) h (by decide) (by decide)
theorem d2 {a : Nat} (h : a < 2147483648) : irm (nI a) 2 = nI (a % 2) := irmN (d := 2) h (by decide) (by decide)
theorem q8 {a : Nat} (h : a < 2147483648) : nI a / 8 = nI (a / 8) := divN (d := 8) h (by decide) (by decide)
theorem q64 {a : Nat} (h : a < 2147483648) : nI a / 64 = nI (a / 64) := divN (d := 64) h (by decide) (by decide)
theorem neL {a b : Nat} (ha : a < 100) (hb : b < 100) (h : a ≠ b) : ¬ nI a = nI b := fun e => h ((nI_eq (by omega) (by omega)).mp e)
/-- the model's branch at a draw -/
def mdraw (X : Nat) (so mk : Int32) (k : Nat → Int32) : Option (Int32 × Int32 × Int32 × (Nat → Int32)) :=
  if X / 8 % 8 ≤ 1 then (fX11_think (nI (X % 8)) (nI (X / 64 % 7)) k).bind (fun u => some (u.1, so, mk, u.2))
  else if X / 8 % 8 = 2 then (fX11_think (nI (X % 8)) (-6) k).bind (fun u => some (u.1, so, mk, u.2))
  else if X / 8 % 8 = 3 then (fX11_talk (nI (X % 8)) (nI (X / 64 % 8)) k).bind (fun u => some (u.1, so, mk, u.2))
  else if X / 8 % 8 = 4 then (fX11_pay (nI (X % 8)) (nI (X / 64 % 8)) k).bind (fun u => some (u.1, so, mk, u.2))
  else if X / 8 % 8 = 5 then (if X / 64 % 2 = 0 then (fX11_grow (nI (X % 8)) k).bind (fun u => some (u.1, so, mk, u.2)) else (fX11_drive (nI (X / 64 % 4)) k).bind (fun u => some (u.1, so, mk, u.2)))
  else fX11_endNight so mk k
theorem draw_ok {b0 b : SBO} {k : Nat → Int32} {so mk : Int32} (h : RT b0 b k so mk) {X : Nat} (hX : X ≤ 65536) : ∃ r b' k' so' mk', fX1_actByDraw (nI (X % 8)) (nI (X / 8 % 8)) (nI (X / 64)) b = some b' ∧ mdraw X so mk k = some (r, so', mk', k') ∧ RT b0 b' k' so' mk' := by
  have h8 : X % 8 < 8 := by omega
  have L : ∀ t : Nat, t < 100 → nI t = nI t := fun _ _ => rfl
  by_cases c1 : X / 8 % 8 ≤ 1
  · obtain ⟨r, b', k', g1, g2, g3, g4⟩ := act_think h h8 (d := nI (X / 64 % 7)) (d' := nI (X / 64 % 7)) (Or.inr ⟨nI_pos' (by omega), nI_le (b := 6) (by omega) (by decide), rfl⟩)
    refine ⟨r, b', k', so, mk, ?_, by simp only [mdraw, c1, if_true, g2, Option.bind_some], g3⟩
    have ha : fX1_attempt 0 (nI (X % 8)) (nI (X / 64 % 7)) b = some (r, b') := by simp only [fX1_attempt, if_true, g1, Option.bind_some]
    rcases (show X / 8 % 8 = 0 ∨ X / 8 % 8 = 1 by omega) with t | t
    · have t1 : nI 0 = 0 := rfl
      simp (disch := omega) only [fX1_actByDraw, t, t1, if_true, d7, ha, Option.bind_some]
    · have t1 : nI 1 = 1 := rfl
      simp (disch := omega) only [fX1_actByDraw, t, t1, n10, if_false, if_true, d7, ha, Option.bind_some]
  · by_cases c2 : X / 8 % 8 = 2
    · obtain ⟨r, b', k', g1, g2, g3, g4⟩ := act_think h h8 (d := -1) (d' := -6) (Or.inl ⟨rfl, rfl⟩)
      refine ⟨r, b', k', so, mk, ?_, by rw [mdraw, if_neg c1, if_pos c2, g2]; rfl, g3⟩
      have ha : fX1_attempt 0 (nI (X % 8)) (-1) b = some (r, b') := by simp only [fX1_attempt, if_true, g1, Option.bind_some]
      have t1 : nI 2 = 2 := rfl
      have t2 : ¬ (2 : Int32) = 0 := by decide
      have t3 : ¬ (2 : Int32) = 1 := by decide
      simp only [fX1_actByDraw, c2, t1, t2, t3, if_false, if_true, ha, Option.bind_some]
    · by_cases c3 : X / 8 % 8 = 3
      · obtain ⟨r, b', k', g1, g2, g3, g4⟩ := act_talk h h8 (j := X / 64 % 8) (by omega)
        refine ⟨r, b', k', so, mk, ?_, by rw [mdraw, if_neg c1, if_neg c2, if_pos c3, g2]; rfl, g3⟩
        have t1 : nI 3 = 3 := rfl
        have t2 : ¬ (3 : Int32) = 0 := by decide
        have t3 : ¬ (3 : Int32) = 1 := by decide
        have t4 : ¬ (3 : Int32) = 2 := by decide
        have s2 : ¬ (2 : Int32) = 0 := by decide
        have s3 : ¬ (2 : Int32) = 1 := by decide
        have ha : fX1_attempt 2 (nI (X % 8)) (nI (X / 64 % 8)) b = some (r, b') := by simp only [fX1_attempt, s2, s3, if_false, if_true, g1, Option.bind_some]
        simp (disch := omega) only [fX1_actByDraw, c3, t1, t2, t3, t4, if_false, if_true, d8, ha, Option.bind_some]
      · by_cases c4 : X / 8 % 8 = 4
        · obtain ⟨r, b', k', g1, g2, g3, g4⟩ := act_pay h h8 (j := X / 64 % 8) (by omega)
          refine ⟨r, b', k', so, mk, ?_, by rw [mdraw, if_neg c1, if_neg c2, if_neg c3, if_pos c4, g2]; rfl, g3⟩
          have t1 : nI 4 = 4 := rfl
          have t2 : ¬ (4 : Int32) = 0 := by decide
          have t3 : ¬ (4 : Int32) = 1 := by decide
          have t4 : ¬ (4 : Int32) = 2 := by decide
          have t5 : ¬ (4 : Int32) = 3 := by decide
          have s2 : ¬ (3 : Int32) = 0 := by decide
          have s3 : ¬ (3 : Int32) = 1 := by decide
          have s4 : ¬ (3 : Int32) = 2 := by decide
          have ha : fX1_attempt 3 (nI (X % 8)) (nI (X / 64 % 8)) b = some (r, b') := by simp only [fX1_attempt, s2, s3, s4, if_false, if_true, g1, Option.bind_some]
          simp (disch := omega) only [fX1_actByDraw, c4, t1, t2, t3, t4, t5, if_false, if_true, d8, ha, Option.bind_some]
        · by_cases c5 : X / 8 % 8 = 5
          · have t1 : nI 5 = 5 := rfl
            have t2 : ¬ (5 : Int32) = 0 := by decide
            have t3 : ¬ (5 : Int32) = 1 := by decide
            have t4 : ¬ (5 : Int32) = 2 := by decide
            have t5 : ¬ (5 : Int32) = 3 := by decide
            have t6 : ¬ (5 : Int32) = 4 := by decide
            by_cases e : X / 64 % 2 = 0
            · obtain ⟨r, b', k', g1, g2, g3, g4⟩ := act_grow h h8
              refine ⟨r, b', k', so, mk, ?_, by rw [mdraw, if_neg c1, if_neg c2, if_neg c3, if_neg c4, if_pos c5, if_pos e, g2]; rfl, g3⟩
              have ha : fX1_attempt 1 (nI (X % 8)) (nI (X / 64 % 4)) b = some (r, b') := by simp only [fX1_attempt, n10, if_false, if_true, g1, Option.bind_some]
              have e0 : nI 0 = 0 := rfl
              simp (disch := omega) only [fX1_actByDraw, c5, t1, t2, t3, t4, t5, t6, if_false, if_true, cm_let, d2, e, e0, d4, ha, Option.bind_some]
            · obtain ⟨r, b', k', g1, g2, g3, g4⟩ := act_drive h (j := X / 64 % 4) (by omega)
              refine ⟨r, b', k', so, mk, ?_, by rw [mdraw, if_neg c1, if_neg c2, if_neg c3, if_neg c4, if_pos c5, if_neg e, g2]; rfl, g3⟩
              have s2 : ¬ (4 : Int32) = 0 := by decide
              have s3 : ¬ (4 : Int32) = 1 := by decide
              have s4 : ¬ (4 : Int32) = 2 := by decide
              have s5 : ¬ (4 : Int32) = 3 := by decide
              have ha : fX1_attempt 4 (nI (X % 8)) (nI (X / 64 % 4)) b = some (r, b') := by simp only [fX1_attempt, s2, s3, s4, s5, if_false, if_true, g1, Option.bind_some]
              have e0 : ¬ nI (X / 64 % 2) = 0 := nI_ne0 (by omega) (by omega)
              simp (disch := omega) only [fX1_actByDraw, c5, t1, t2, t3, t4, t5, t6, if_false, if_true, cm_let, d2, e0, d4, ha, Option.bind_some]
          · obtain ⟨r, b', k', so', mk', g1, g2, g3, g4, g5⟩ := act_night h
            refine ⟨r, b', k', so', mk', ?_, by simp only [mdraw, c1, c2, c3, c4, c5, if_false, g2], g3⟩
            have s2 : ¬ (5 : Int32) = 0 := by decide
            have s3 : ¬ (5 : Int32) = 1 := by decide
            have s4 : ¬ (5 : Int32) = 2 := by decide
            have s5 : ¬ (5 : Int32) = 3 := by decide
            have s6 : ¬ (5 : Int32) = 4 := by decide
            have ha : fX1_attempt 5 (nI (X % 8)) 0 b = some (r, b') := by simp only [fX1_attempt, s2, s3, s4, s5, s6, if_false, g1, Option.bind_some]
            have t0 : ¬ nI (X / 8 % 8) = 0 := neL (b := 0) (by omega) (by omega) (by omega)
            have t1 : ¬ nI (X / 8 % 8) = 1 := neL (b := 1) (by omega) (by omega) (by omega)
            have t2 : ¬ nI (X / 8 % 8) = 2 := neL (b := 2) (by omega) (by omega) (by omega)
            have t3 : ¬ nI (X / 8 % 8) = 3 := neL (b := 3) (by omega) (by omega) (by omega)
            have t4 : ¬ nI (X / 8 % 8) = 4 := neL (b := 4) (by omega) (by omega) (by omega)
            have t5 : ¬ nI (X / 8 % 8) = 5 := neL (b := 5) (by omega) (by omega) (by omega)
            simp only [fX1_actByDraw, t0, t1, t2, t3, t4, t5, if_false, ha, Option.bind_some]
theorem my_step (M : Nat) (hM : M < 2147483648) (ky : Int32 → Int32 → Int32 → Int32 → Int32 → (Nat → Int32) → Option (Int32 × Int32 × Int32 × Int32 × Int32 × (Nat → Int32))) {n i X : Nat} {so mk rs r so' mk' : Int32} {k k' : Nat → Int32} (hi : i < M) (hX : X ≤ 65536) (he : mdraw (nx X) so mk k = some (r, so', mk', k')) : fX11_year_L43 (nI M) ky (n + 1) (nI X) (nI i) so mk rs k = fX11_year_L43 (nI M) ky n (nI (nx X)) (nI (i + 1)) so' mk' r k' := by
  have h0 : ¬ nI M ≤ nI i := nI_ge (by omega) (by omega)
  obtain ⟨e1, e2⟩ := nx_ok hX
  generalize nx X = Y at *
  rw [fX11_year_L43]
  simp (disch := omega) only [h0, if_false, e1, q8, q64, d8, d7, d4, d2, nI_1]
  unfold mdraw at he
  by_cases c1 : Y / 8 % 8 ≤ 1
  · rw [if_pos c1] at he
    obtain ⟨u, hu, he⟩ := Option.bind_eq_some_iff.mp he
    cases he
    rcases (show Y / 8 % 8 = 0 ∨ Y / 8 % 8 = 1 by omega) with t | t
    · rw [t, if_pos (show nI 0 = 0 from rfl), hu]; rfl
    · rw [t, if_neg (show ¬ nI 1 = 0 by decide), if_pos (show nI 1 = 1 from rfl), hu]; rfl
  · rw [if_neg c1] at he
    have t0 : ¬ nI (Y / 8 % 8) = 0 := neL (b := 0) (by omega) (by omega) (by omega)
    have t1 : ¬ nI (Y / 8 % 8) = 1 := neL (b := 1) (by omega) (by omega) (by omega)
    rw [if_neg t0, if_neg t1]
    by_cases c2 : Y / 8 % 8 = 2
    · rw [if_pos c2] at he
      obtain ⟨u, hu, he⟩ := Option.bind_eq_some_iff.mp he
      cases he
      rw [c2, if_pos (show nI 2 = 2 from rfl), hu]; rfl
    · rw [if_neg c2] at he
      rw [if_neg (show ¬ nI (Y / 8 % 8) = 2 from neL (b := 2) (by omega) (by omega) (by omega))]
      by_cases c3 : Y / 8 % 8 = 3
      · rw [if_pos c3] at he
        obtain ⟨u, hu, he⟩ := Option.bind_eq_some_iff.mp he
        cases he
        rw [c3, if_pos (show nI 3 = 3 from rfl), hu]; rfl
      · rw [if_neg c3] at he
        rw [if_neg (show ¬ nI (Y / 8 % 8) = 3 from neL (b := 3) (by omega) (by omega) (by omega))]
        by_cases c4 : Y / 8 % 8 = 4
        · rw [if_pos c4] at he
          obtain ⟨u, hu, he⟩ := Option.bind_eq_some_iff.mp he
          cases he
          rw [c4, if_pos (show nI 4 = 4 from rfl), hu]; rfl
        · rw [if_neg c4] at he
          rw [if_neg (show ¬ nI (Y / 8 % 8) = 4 from neL (b := 4) (by omega) (by omega) (by omega))]
          by_cases c5 : Y / 8 % 8 = 5
          · rw [if_pos c5] at he
            rw [c5, if_pos (show nI 5 = 5 from rfl)]
            by_cases e : Y / 64 % 2 = 0
            · rw [if_pos e] at he
              obtain ⟨u, hu, he⟩ := Option.bind_eq_some_iff.mp he
              cases he
              rw [e, if_pos (show nI 0 = 0 from rfl), hu]; rfl
            · rw [if_neg e] at he
              obtain ⟨u, hu, he⟩ := Option.bind_eq_some_iff.mp he
              cases he
              rw [if_neg (show ¬ nI (Y / 64 % 2) = 0 from nI_ne0 (by omega) (by omega)), hu]; rfl
          · rw [if_neg c5] at he
            rw [if_neg (show ¬ nI (Y / 8 % 8) = 5 from neL (b := 5) (by omega) (by omega) (by omega)), he]; rfl
theorem year_loop (M : Nat) (hM : M < 2147483648) (b0 : SBO) (kx : Int32 → Int32 → SBO → Option SBO) (ky : Int32 → Int32 → Int32 → Int32 → Int32 → (Nat → Int32) → Option (Int32 × Int32 × Int32 × Int32 × Int32 × (Nat → Int32))) : ∀ (d i n n' X : Nat) (so mk rs : Int32) (b : SBO) (k : Nat → Int32), i + d = M → d < n → d < n' → X ≤ 65536 → RT b0 b k so mk → ∃ (X' : Nat) (so' mk' rs' : Int32) (b' : SBO) (k' : Nat → Int32), fX1_liveByDraws_L5 (nI M) kx n (nI X) (nI i) b = kx (nI X') (nI M) b' ∧ fX11_year_L43 (nI M) ky n' (nI X) (nI i) so mk rs k = ky (nI X') (nI M) so' mk' rs' k' ∧ RT b0 b' k' so' mk' := by
  intro d
  induction d with
  | zero =>
    intro i n n' X so mk rs b k hi hn hn' hX h
    obtain ⟨n, rfl⟩ := suc hn
    obtain ⟨n', rfl⟩ := suc hn'
    obtain rfl : i = M := by omega
    have h0 : nI i ≤ nI i := nI_le (Nat.le_refl i) (by omega)
    exact ⟨X, so, mk, rs, b, k, by rw [fX1_liveByDraws_L5, if_pos h0], by rw [fX11_year_L43, if_pos h0], h⟩
  | succ d ih =>
    intro i n n' X so mk rs b k hi hn hn' hX h
    obtain ⟨n, rfl⟩ := suc (by omega : 0 < n)
    obtain ⟨n', rfl⟩ := suc (by omega : 0 < n')
    have h0 : ¬ nI M ≤ nI i := nI_ge (by omega) (by omega)
    obtain ⟨e1, e2⟩ := nx_ok hX
    obtain ⟨r, b', k', so', mk', g1, g2, g3⟩ := draw_ok h e2
    rw [my_step M hM ky (by omega) hX g2, fX1_liveByDraws_L5, if_neg h0]
    simp (disch := omega) only [e1, q8, q64, d8, nI_1, g1, Option.bind_some]
    exact ih (i + 1) n n' (nx X) so' mk' r b' k' (by omega) (by omega) (by omega) e2 g3
theorem op_year {b0 : SBO} {book : Nat → Int32} (hB : RB b0 book) (v1 v2 v3 : Int32) (bb : SBO) (so mk ma rs : Int32) (nw : Nat → Int32) : ∃ r o1 o2, fX10_year v1 v2 v3 b0 bb = some (r, o1) ∧ fX11_year v1 v2 v3 so mk ma rs book nw = some (r, o2) := by
  by_cases c1 : (v1 < 0 ∨ 9999 < v1) ∨ (v2 < 1 ∨ 99 < v2) ∨ (v3 < 0 ∨ 2 < v3)
  · refine ⟨-2, bb, (so, mk, ma, rs, nw), ?_, ?_⟩
    · simp only [fX10_year, cm_let]
      grind (splits := 20) [fX10_isWithin]
    · simp only [fX11_year, cm_let]
      grind (splits := 20) [fX11_in]
  · have u1 : fX10_isWithin v1 0 9999 = 1 := by grind [fX10_isWithin]
    have w1 : fX11_in v1 0 9999 = 1 := by grind [fX11_in]
    have u2 : fX10_isWithin v2 1 99 = 1 := by grind [fX10_isWithin]
    have w2 : fX11_in v2 1 99 = 1 := by grind [fX11_in]
    have u3 : fX10_isWithin v3 0 2 = 1 := by grind [fX10_isWithin]
    have w3 : fX11_in v3 0 2 = 1 := by grind [fX11_in]
    obtain ⟨X, hX, rfl⟩ := nI_of2 (x := v1) (M := 9999) (n := 9999) (by decide) (by grind) (by grind)
    obtain ⟨D, hD, rfl⟩ := nI_of2 (x := v2) (M := 99) (n := 99) (by decide) (by grind) (by grind)
    obtain ⟨b1, hc, hcp⟩ := copy_ok bb b0
    obtain ⟨k1, hk1, hk2⟩ := asNow_ok so mk ma book nw
    have hg8 := hB.2.2.2.2.2.2.2
    have hT : RT b0 b1 k1 0 0 := ⟨(hB.copy hcp).cong hk1, by rw [hcp.2.2]; grind, by rw [hcp.2.2]; grind, hg8.1, by rw [hcp.2.2]; grind⟩
    obtain ⟨X', so', mk', rs', b', k', g1, g2, g3⟩ := year_loop D (by omega) b0 (fun v3_5 v4_5 bo_5 => some bo_5) (fun v4_43 v5_43 m_sold_43 m_markets_43 m_reason_43 m_now_43 => (if v3 = 0 then some (m_sold_43, m_sold_43, m_markets_43, (-6), m_reason_43, m_now_43) else (if v3 = 1 then some ((m_now_43 16), m_sold_43, m_markets_43, (-6), m_reason_43, m_now_43) else some (m_markets_43, m_sold_43, m_markets_43, (-6), m_reason_43, m_now_43)))) D 0 5000 5000 X 0 0 rs b1 k1 (by omega) (by omega) (by omega) (by omega) hT
    rw [nI_0] at g1 g2
    have G1 : fX1_liveByDraws (nI X) (nI D) b1 = some b' := by rw [fX1_liveByDraws]; exact g1
    have e1 : b'.2.2.2.2.2.2.2.1 - b0.2.2.2.2.2.2.2.1 = so' := by rw [g3.2.1]; grind
    have e2 : b'.2.2.2.2.2.2.2.2 - b0.2.2.2.2.2.2.2.2 = mk' := by rw [g3.2.2.1]; grind
    have e3 : k' 16 = b'.2.2.1 0 := g3.1.2.2.1 0 (by omega)
    have C : fX10_year (nI X) (nI D) v3 b0 bb = if v3 = 0 then some (so', b') else if v3 = 1 then some (b'.2.2.1 0, b') else some (mk', b') := by
      simp only [fX10_year, cm_let, u1, u2, u3, n10, if_false, hc, Option.bind_some, G1, e1, e2]
    have Mo : fX11_year (nI X) (nI D) v3 so mk ma rs book nw = if v3 = 0 then some (so', so', mk', (-6), rs', k') else (if v3 = 1 then some ((k' 16), so', mk', (-6), rs', k') else some (mk', so', mk', (-6), rs', k')) := by
      simp only [fX11_year, cm_let, w1, w2, w3, n10, if_false, hk2, Option.bind_some]
      exact g2
    rw [C, Mo, e3]
    by_cases c2 : v3 = 0
    · rw [if_pos c2, if_pos c2]; exact ⟨so', _, _, rfl, rfl⟩
    · rw [if_neg c2, if_neg c2]
      by_cases c3 : v3 = 1
      · rw [if_pos c3, if_pos c3]; exact ⟨_, _, _, rfl, rfl⟩
      · rw [if_neg c3, if_neg c3]; exact ⟨mk', _, _, rfl, rfl⟩
