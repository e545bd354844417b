/-! A morning. -/
theorem ad24' (i : Nat) : nI (24 + i) + 1 = nI (24 + (i + 1)) := nI_1 (24 + i)
theorem hold_L12 (kx : Int32 → SBO → Option SBO) (ky : Int32 → Int32 → (Nat → Int32) → Option (Int32 × Int32 × Int32 × (Nat → Int32))) : ∀ (d i n n' : Nat) (b : SBO) (k : Nat → Int32) (so : Int32), i + d = 4 → d < n → d < n' → RB b k → ∃ b' k' so', fX1_holdMarket_L12 kx n (nI i) b = kx (nI 4) b' ∧ fX11_endNight_L68 1 ky n' (nI (24 + i)) so k = ky (nI 28) so' k' ∧ RB b' k' ∧ b'.2.2.2.2.2.2.2.1 - so' = b.2.2.2.2.2.2.2.1 - so ∧ b'.2.2.2.2.2.2.2.2 = b.2.2.2.2.2.2.2.2 := by
  intro d
  induction d with
  | zero =>
    intro i n n' b k so hi hn hn' h
    obtain ⟨n, rfl⟩ := suc hn
    obtain ⟨n', rfl⟩ := suc hn'
    obtain rfl : i = 4 := by omega
    exact ⟨b, k, so, by rw [fX1_holdMarket_L12, if_pos (by decide)], by rw [fX11_endNight_L68, if_pos (by decide)], h, rfl, rfl⟩
  | succ d ih =>
    intro i n n' b k so hi hn hn' h
    obtain ⟨n, rfl⟩ := suc (by omega : 0 < n)
    obtain ⟨n', rfl⟩ := suc (by omega : 0 < n')
    have h0 : ¬ (4 : Int32) ≤ nI i := nI_ge (b := 4) (by omega) (by decide)
    have h1 : ¬ (28 : Int32) ≤ nI (24 + i) := nI_ge (b := 28) (by omega) (by decide)
    have e := h.2.2.2.1 i (by omega)
    by_cases c : b.2.2.2.1 i = 0
    · simp (disch := omega) only [fX1_holdMarket_L12, fX11_endNight_L68, h0, h1, n10, clm, ixc, if_false, nI_1, ad24', e, c, if_true, h.2.2.2.2.2.2.1]
      obtain ⟨b', k', so', g1, g2, g3, g4, g5⟩ := ih (i + 1) n n' (b.1, b.2.1, b.2.2.1, upd b.2.2.2.1 i 9, b.2.2.2.2.1, b.2.2.2.2.2.1, b.2.2.2.2.2.2.1, b.2.2.2.2.2.2.2.1 + 1, b.2.2.2.2.2.2.2.2) (upd (upd k 30 (b.2.2.2.2.2.2.2.1 + 1)) (24 + i) 9) (so + 1) (by omega) (by omega) (by omega) ((h.so (b.2.2.2.2.2.2.2.1 + 1)).fa (by omega) 9)
      exact ⟨b', k', so', g1, g2, g3, by rw [g4]; grind, g5⟩
    · simp (disch := omega) only [fX1_holdMarket_L12, fX11_endNight_L68, h0, h1, n10, clm, ixc, if_false, nI_1, ad24', e, c]
      exact ih (i + 1) n n' b k so (by omega) (by omega) (by omega) h
theorem hold_L52 (kx : Int32 → SBO → Option SBO) (ky : Int32 → (Nat → Int32) → Option (Int32 × Int32 × Int32 × (Nat → Int32))) : ∀ (d i n n' : Nat) (b : SBO) (k : Nat → Int32), i + d = 8 → d < n → d < n' → RB b k → ∃ b' k', fX1_holdMarket_L52 kx n (nI i) b = kx (nI 8) b' ∧ fX11_endNight_L150 1 ky n' (nI i) k = ky (nI 8) k' ∧ RB b' k' ∧ b'.2.2 = b.2.2 := by
  intro d
  induction d with
  | zero =>
    intro i n n' b k hi hn hn' h
    obtain ⟨n, rfl⟩ := suc hn
    obtain ⟨n', rfl⟩ := suc hn'
    obtain rfl : i = 8 := by omega
    exact ⟨b, k, by rw [fX1_holdMarket_L52, if_pos (by decide)], by rw [fX11_endNight_L150, if_pos (by decide)], h, rfl⟩
  | succ d ih =>
    intro i n n' b k hi hn hn' h
    obtain ⟨n, rfl⟩ := suc (by omega : 0 < n)
    obtain ⟨n', rfl⟩ := suc (by omega : 0 < n')
    have h0 : ¬ (8 : Int32) ≤ nI i := nI_ge (b := 8) (by omega) (by decide)
    have e := h.2.1 i (by omega)
    have e1 := h.1 i (by omega)
    have e2 := h.2.2.2.2.1
    by_cases c : b.1 i = b.2.2.2.2.2.1
    · have c' : k i = k 28 := by grind
      simp (disch := omega) only [fX1_holdMarket_L52, fX11_endNight_L150, h0, n10, clm, ixc, if_false, nI_1, ad8, c, c', if_true]
      obtain ⟨b', k', g1, g2, g3, g4⟩ := ih (i + 1) n n' (b.1, upd b.2.1 i 0, b.2.2) (upd k (8 + i) 0) (by omega) (by omega) (by omega) (h.su (by omega) (by decide))
      exact ⟨b', k', g1, g2, g3, g4⟩
    · have c' : ¬ k i = k 28 := by grind
      by_cases s : 9 ≤ b.2.1 i
      · have s' : (if b.2.1 i + 1 < 9 then b.2.1 i + 1 else 9) = (9 : Int32) := by grind
        simp (disch := omega) only [fX1_holdMarket_L52, fX11_endNight_L150, h0, n10, clm, ixc, if_false, nI_1, ad8, c, c', e.1, s, s', if_true]
        obtain ⟨b', k', g1, g2, g3, g4⟩ := ih (i + 1) n n' (b.1, upd b.2.1 i 9, b.2.2) (upd k (8 + i) 9) (by omega) (by omega) (by omega) (h.su (by omega) (by decide))
        exact ⟨b', k', g1, g2, g3, g4⟩
      · have s' : (if b.2.1 i + 1 < 9 then b.2.1 i + 1 else 9) = b.2.1 i + 1 := by grind
        simp (disch := omega) only [fX1_holdMarket_L52, fX11_endNight_L150, h0, n10, clm, ixc, if_false, nI_1, ad8, c, c', e.1, s, s', if_true]
        obtain ⟨b', k', g1, g2, g3, g4⟩ := ih (i + 1) n n' (b.1, upd b.2.1 i (b.2.1 i + 1), b.2.2) (upd k (8 + i) (b.2.1 i + 1)) (by omega) (by omega) (by omega) (h.su (by omega) (by grind))
        exact ⟨b', k', g1, g2, g3, g4⟩
theorem near_L2 (kx : Int32 → SBO → Option SBO) (ky : Int32 → Int32 → (Nat → Int32) → Option (Int32 × Int32 × Int32 × (Nat → Int32))) : ∀ (d i n n' : Nat) (b : SBO) (k : Nat → Int32) (so : Int32), i + d = 4 → d < n → d < n' → RB b k → ∃ b' k', fX1_bringCartsNearer_L2 kx n (nI i) b = kx (nI 4) b' ∧ fX11_endNight_L68 0 ky n' (nI (24 + i)) so k = ky (nI 28) so k' ∧ RB b' k' ∧ b'.2.2.2.2 = b.2.2.2.2 := by
  intro d
  induction d with
  | zero =>
    intro i n n' b k so hi hn hn' h
    obtain ⟨n, rfl⟩ := suc hn
    obtain ⟨n', rfl⟩ := suc hn'
    obtain rfl : i = 4 := by omega
    exact ⟨b, k, by rw [fX1_bringCartsNearer_L2, if_pos (by decide)], by rw [fX11_endNight_L68, if_pos (by decide)], h, rfl⟩
  | succ d ih =>
    intro i n n' b k so hi hn hn' h
    obtain ⟨n, rfl⟩ := suc (by omega : 0 < n)
    obtain ⟨n', rfl⟩ := suc (by omega : 0 < n')
    have h0 : ¬ (4 : Int32) ≤ nI i := nI_ge (b := 4) (by omega) (by decide)
    have h1 : ¬ (28 : Int32) ≤ nI (24 + i) := nI_ge (b := 28) (by omega) (by decide)
    have e := h.2.2.2.1 i (by omega)
    by_cases c : b.2.2.2.1 i ≤ 0
    · simp (disch := omega) only [fX1_bringCartsNearer_L2, fX11_endNight_L68, h0, h1, clm, ixc, if_false, nI_1, ad24', e, c, if_true]
      exact ih (i + 1) n n' b k so (by omega) (by omega) (by omega) h
    · simp (disch := omega) only [fX1_bringCartsNearer_L2, fX11_endNight_L68, h0, h1, clm, ixc, if_false, nI_1, ad24', e, c, if_true]
      obtain ⟨b', k', g1, g2, g3, g4⟩ := ih (i + 1) n n' (b.1, b.2.1, b.2.2.1, upd b.2.2.2.1 i (b.2.2.2.1 i - 1), b.2.2.2.2) (upd k (24 + i) (b.2.2.2.1 i - 1)) so (by omega) (by omega) (by omega) (h.fa (by omega) _)
      exact ⟨b', k', g1, g2, g3, g4⟩
theorem irm7 {x : Int32} (h : 0 ≤ x) (h2 : x ≤ 6) : 0 ≤ irm (x + 1) 7 ∧ irm (x + 1) 7 ≤ 6 := by
  obtain ⟨j, hj, rfl⟩ := nI_of2 (x := x) (M := 6) (n := 6) (by decide) (by grind) h2
  rcases (show j = 0 ∨ j = 1 ∨ j = 2 ∨ j = 3 ∨ j = 4 ∨ j = 5 ∨ j = 6 by omega) with rfl | rfl | rfl | rfl | rfl | rfl | rfl <;> decide
theorem RB.night {b : SBO} {k : Nat → Int32} (h : RB b k) (hm : b.2.2.2.2.2.2.1 < 99) (mk : Int32) (h1 : 0 ≤ mk) (h2 : mk ≤ b.2.2.2.2.2.2.1 + 1) : RB (b.1, b.2.1, b.2.2.1, b.2.2.2.1, b.2.2.2.2.1, irm (b.2.2.2.2.2.1 + 1) 7, b.2.2.2.2.2.2.1 + 1, b.2.2.2.2.2.2.2.1, mk) (upd (upd k 29 (k 29 + 1)) 28 (irm ((upd k 29 (k 29 + 1)) 28 + 1) 7)) := by
  obtain ⟨g1, g2, g3, g4, g5, g6, g7, g8⟩ := h
  have q := irm7 g5.2.1 g5.2.2
  refine ⟨fun i hi => ?_, fun i hi => ?_, fun i hi => ?_, fun i hi => ?_, ?_, ?_, ?_, h1, h2⟩
  · have := g1 i hi
    simp only [up_eq]; grind
  · have := g2 i hi
    simp only [up_eq]; grind
  · have := g3 i hi
    simp only [up_eq]; grind
  · have := g4 i hi
    simp only [up_eq]; grind
  · simp only [up_eq]; grind
  · simp only [up_eq]; grind
  · simp only [up_eq]; grind
theorem act_night {b0 b : SBO} {k : Nat → Int32} {so mk : Int32} (h : RT b0 b k so mk) : ∃ r b' k' so' mk', fX1_wake b = some (r, b') ∧ fX11_endNight so mk k = some (r, so', mk', k') ∧ RT b0 b' k' so' mk' ∧ 0 ≤ r ∧ ((r = 0 ∧ (mk' = mk ∨ mk' = mk + 1)) ∨ mk' = mk) := by
  obtain ⟨hB, h1, h2, h3, h4⟩ := h
  have e29 := hB.2.2.2.2.2.1
  have e8 := hB.2.2.2.2.2.2.2
  by_cases c : b.2.2.2.2.2.2.1 < 99
  · have c' : ¬ k 29 = 99 := by grind
    have hN := hB.night c b.2.2.2.2.2.2.2.2 e8.1 (by grind)
    have hN2 := hB.night c (b.2.2.2.2.2.2.2.2 + 1) (by grind) (by grind)
    obtain ⟨ch, hch, hl⟩ := least_ok (b.1, b.2.1, b.2.2.1, b.2.2.2.1, b.2.2.2.2.1, irm (b.2.2.2.2.2.1 + 1) 7, b.2.2.2.2.2.2.1 + 1, b.2.2.2.2.2.2.2.1, b.2.2.2.2.2.2.2.2)
    have hd := RB_day hN
    simp only at hd hl
    have e28 : (upd (upd k 29 (k 29 + 1)) 28 (irm ((upd k 29 (k 29 + 1)) 28 + 1) 7)) 28 = irm (b.2.2.2.2.2.1 + 1) 7 := hN.2.2.2.2.1.1
    generalize hk1 : upd (upd k 29 (k 29 + 1)) 28 (irm ((upd k 29 (k 29 + 1)) 28 + 1) 7) = k1 at hN hN2 hd e28
    by_cases m : irm (b.2.2.2.2.2.1 + 1) 7 = nI (am (fun e => cnt b.1 (nI e) 8) 6)
    · have hN3 := hN2.ch ch
      obtain ⟨b2, k2, so2, p1, p2, p3, p4, p5⟩ := hold_L12 (fun v1_12 bo_12 => fX1_holdMarket_L52 (fun v1_52 bo_52 => some bo_52) 5000 0 bo_12) (fun v2_68 m_sold_68 m_now_68 => fX11_endNight_L150 1 (fun v2_150 m_now_150 => cm_let ((if (1 : Int32) = 0 then 0 else 1) : Int32) (fun j231 => some (0, m_sold_68, (mk + j231), m_now_150))) 5000 0 m_now_68) 4 0 5000 5000 _ _ so (by omega) (by omega) (by omega) hN3
      obtain ⟨b3, k3, q1, q2, q3, q4⟩ := hold_L52 (fun v1_52 bo_52 => some bo_52) (fun v2_150 m_now_150 => cm_let ((if (1 : Int32) = 0 then 0 else 1) : Int32) (fun j231 => some (0, so2, (mk + j231), m_now_150))) 8 0 5000 5000 b2 k2 (by omega) (by omega) (by omega) p3
      rw [nI_0] at p1 q1 q2
      refine ⟨0, b3, k3, so2, mk + 1, ?_, ?_, ⟨q3, ?_, ?_, h3, ?_⟩, by decide, Or.inl ⟨rfl, Or.inr rfl⟩⟩
      · simp only [fX1_wake, c, if_true, hl, Option.bind_some]
        rw [if_pos m]
        simp only [fX1_holdMarket]
        rw [p1, q1]
        rfl
      · have m2 : nI (am (fun e => cnt k1 (nI e) 8) 6) = k1 28 := by rw [e28, m, hd]
        simp only [fX11_endNight, c', if_false, hk1, mday_ok, Option.bind_some, m2, cm_let, if_true]
        rw [cm_let] at q2
        exact p2.trans q2
      · simp only at p4; rw [q4]; grind
      · simp only at p5; rw [q4, p5]; grind
      · simp only at p5; rw [q4, p5]; grind
    · obtain ⟨b2, k2, p1, p2, p3, p4⟩ := near_L2 (fun v1_2 bo_2 => some bo_2) (fun v2_68 m_sold_68 m_now_68 => fX11_endNight_L150 0 (fun v2_150 m_now_150 => cm_let ((if (0 : Int32) = 0 then 0 else 1) : Int32) (fun j231 => some (0, m_sold_68, (mk + j231), m_now_150))) 5000 0 m_now_68) 4 0 5000 5000 _ _ so (by omega) (by omega) (by omega) (hN.ch ch)
      rw [nI_0] at p1
      refine ⟨0, b2, k2, so, mk, ?_, ?_, ⟨p3, ?_, ?_, h3, ?_⟩, by decide, Or.inr rfl⟩
      · simp only [fX1_wake, c, if_true, hl, Option.bind_some, m, if_false, fX1_bringCartsNearer]
        rw [p1]
        rfl
      · have m2 : ¬ nI (am (fun e => cnt k1 (nI e) 8) 6) = k1 28 := by rw [e28, ← hd]; exact fun q => m q.symm
        simp only [fX11_endNight, c', if_false, hk1, mday_ok, Option.bind_some, m2, cm_let]
        refine p2.trans ?_
        have z : ¬ (8 : Int32) ≤ 0 := by decide
        have z2 : mk + 0 = mk := by grind
        rw [fX11_endNight_L150]
        simp only [z, if_false, if_true, cm_let, z2]
      · rw [p4]; exact h1
      · rw [p4]; exact h2
      · rw [p4]; exact h4
  · have c' : k 29 = 99 := by grind
    exact ⟨8, b, k, so, mk, by simp only [fX1_wake, c, if_false], by simp only [fX11_endNight, c', if_true], ⟨hB, h1, h2, h3, h4⟩, by decide, Or.inr rfl⟩
