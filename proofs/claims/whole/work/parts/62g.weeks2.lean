def FMr (a : Nat) (fm mk : Int32) : Prop := (fm = -6 ∧ mk = 0) ∨ (0 ≤ fm ∧ 0 < mk)
/-- the model's step over an act of one sign -/
theorem go_dot {N : Nat} {f : Nat → Int32} (ky : Int32 → Int32 → Int32 → Int32 → Int32 → Int32 → (Nat → Int32) → Option (Int32 × Int32 × Int32 × Int32 × Int32 × Int32 × (Nat → Int32))) {n i : Nat} {so mk ma rs A r so' mk' : Int32} {k k' : Nat → Int32} (hN : N ≤ 60) (hi : i < N) (hc : f i = 46) (he : fX11_endNight so mk k = some (r, so', mk', k')) : fX11_goWeeks_L11 (nI N) f ky (n + 1) (nI i) so mk ma rs A k = if r ≤ 0 then fX11_goWeeks_L11 (nI N) f ky n (nI (i + 1)) so' mk' (if mk' ≤ mk then ma else (if 0 ≤ ma then ma else A)) r (A + 1) k' else some (A, so', mk', ma, r, A, k') := by
  have h1 : ¬ nI N ≤ nI i := nI_ge (by omega) (by omega)
  simp (disch := omega) only [fX11_goWeeks_L11, h1, clm, ixc, if_false, cm_let, hc, if_true, n10, he, Option.bind_some, nI_1]
theorem go_act {N : Nat} {f : Nat → Int32} (ky : Int32 → Int32 → Int32 → Int32 → Int32 → Int32 → (Nat → Int32) → Option (Int32 × Int32 × Int32 × Int32 × Int32 × Int32 × (Nat → Int32))) {n i e : Nat} {so mk ma rs A r : Int32} {k k' : Nat → Int32} (hN : N ≤ 60) (hi : i + 1 < N) (hc : ¬ f i = 46) (hl : (e = 3 ∧ (f (i + 1) = 62 ∨ f (i + 1) = 36)) ∨ (e = 2 ∧ ¬ f (i + 1) = 62 ∧ ¬ f (i + 1) = 36)) (he : fX11_oneAct (nI i) k f = some (r, k')) : fX11_goWeeks_L11 (nI N) f ky (n + 1) (nI i) so mk ma rs A k = if r ≤ 0 then fX11_goWeeks_L11 (nI N) f ky n (nI (i + e)) so mk ma r (A + 1) k' else some (A, so, mk, ma, r, A, k') := by
  have h1 : ¬ nI N ≤ nI i := nI_ge (by omega) (by omega)
  have h2 : mk ≤ mk := by grind
  rw [fX11_goWeeks_L11]
  simp (disch := omega) only [h1, clm, ixc, if_false, cm_let, hc, if_true, he, Option.bind_some, nI_1, h2]
  rcases hl with ⟨rfl, hl | hl⟩ | ⟨rfl, h3, h4⟩
  · have e3 : nI i + 3 = nI (i + 3) := nI_add i 3
    simp only [hl, if_true, Option.bind_some, e3]
  · have e3 : nI i + 3 = nI (i + 3) := nI_add i 3
    have e4 : ¬ (36 : Int32) = 62 := by decide
    simp only [hl, e4, if_false, if_true, Option.bind_some, e3]
  · have e3 : nI i + 2 = nI (i + 2) := nI_add i 2
    simp only [h3, h4, if_false, Option.bind_some, e3]
set_option maxHeartbeats 1000000 in
theorem weeks {q : SPA} {N : Nat} {f : Nat → Int32} (hN : N ≤ 60) (hq : q.2 = nI N) (hf : ∀ i, i < 60 → q.1 i = f i) (b0 : SBO) (kx : Int32 → STR → SBO → SRE → Option (STR × SBO × SRE)) (ky : Int32 → Int32 → Int32 → Int32 → Int32 → Int32 → (Nat → Int32) → Option (Int32 × Int32 × Int32 × Int32 × Int32 × Int32 × (Nat → Int32))) : ∀ (Dd d i n n' a : Nat) (fm so mk rs : Int32) (b : SBO) (k : Nat → Int32) (re : SRE), d ≤ Dd → a ≤ i → i + d = N → d < n → d < n' → gk f d 0 i → re.1 = 0 → RT b0 b k so mk → FMr a fm mk →
    ∃ (r : Int32) (a' : Nat) (fm' : Int32) (b' : SBO) (k' : Nat → Int32) (so' mk' : Int32) (re' : SRE) (j : Int32), RT b0 b' k' so' mk' ∧ 0 ≤ r ∧ a' ≤ a + d ∧ fX8_run_L33 q b0 kx n (nI i) (nI a, 0, fm) b re = kx j (nI a', r, fm') b' re' ∧
      ((r = 0 ∧ ∃ j' rs', fX11_goWeeks_L11 (nI N) f ky n' (nI i) so mk fm rs (nI a) k = ky j' so' mk' fm' rs' (nI a') k') ∨ (0 < r ∧ fX11_goWeeks_L11 (nI N) f ky n' (nI i) so mk fm rs (nI a) k = some (nI a', so', mk', fm', r, nI a', k'))) := by
  intro Dd
  induction Dd with
  | zero =>
    intro d i n n' a fm so mk rs b k re hd hai hi hn hn' hg hre hT hF
    obtain rfl : d = 0 := by omega
    obtain ⟨n, rfl⟩ := suc hn
    obtain ⟨n', rfl⟩ := suc hn'
    obtain rfl : i = N := by omega
    have h0 : nI i ≤ nI i := nI_le (Nat.le_refl i) (by omega)
    exact ⟨0, a, fm, b, k, so, mk, re, nI i, hT, by decide, by omega, by rw [fX8_run_L33, hq, if_pos h0], Or.inl ⟨rfl, nI i, rs, by rw [fX11_goWeeks_L11, if_pos h0]⟩⟩
  | succ Dd ih =>
    intro d i n n' a fm so mk rs b k re hd hai hi hn hn' hg hre hT hF
    cases d with
    | zero =>
      obtain ⟨n, rfl⟩ := suc hn
      obtain ⟨n', rfl⟩ := suc hn'
      obtain rfl : i = N := by omega
      have h0 : nI i ≤ nI i := nI_le (Nat.le_refl i) (by omega)
      exact ⟨0, a, fm, b, k, so, mk, re, nI i, hT, by decide, by omega, by rw [fX8_run_L33, hq, if_pos h0], Or.inl ⟨rfl, nI i, rs, by rw [fX11_goWeeks_L11, if_pos h0]⟩⟩
    | succ d =>
      -- the end of an act, whatever it was
      have fin : ∀ (e n1 n1' : Nat) (r : Int32) (b1 : SBO) (k1 : Nat → Int32) (so1 mk1 : Int32) (re1 : SRE), 0 < e → e ≤ d + 1 → d + 1 - e < n1 → d + 1 - e < n1' → 0 < n1 → gk f (d + 1 - e) 0 (i + e) → re1.1 = 0 → RT b0 b1 k1 so1 mk1 → 0 ≤ r → ((r = 0 ∧ (mk1 = mk ∨ mk1 = mk + 1)) ∨ mk1 = mk) →
          fX8_run_L33 q b0 kx n (nI i) (nI a, 0, fm) b re = (if fm = -6 then (if b1.2.2.2.2.2.2.2.2 ≤ b0.2.2.2.2.2.2.2.2 then fX8_run_L33 q b0 kx n1 (nI (i + e)) (nI a + (if r = 0 then 1 else 0), r, fm) b1 re1 else fX8_run_L33 q b0 kx n1 (nI (i + e)) (nI a + (if r = 0 then 1 else 0), r, nI a + (if r = 0 then 1 else 0) - 1) b1 re1) else fX8_run_L33 q b0 kx n1 (nI (i + e)) (nI a + (if r = 0 then 1 else 0), r, fm) b1 re1) →
          fX11_goWeeks_L11 (nI N) f ky n' (nI i) so mk fm rs (nI a) k = (if r ≤ 0 then fX11_goWeeks_L11 (nI N) f ky n1' (nI (i + e)) so1 mk1 (if mk1 ≤ mk then fm else (if 0 ≤ fm then fm else nI a)) r (nI a + 1) k1 else some (nI a, so1, mk1, fm, r, nI a, k1)) →
          ∃ (r : Int32) (a' : Nat) (fm' : Int32) (b' : SBO) (k' : Nat → Int32) (so' mk' : Int32) (re' : SRE) (j : Int32), RT b0 b' k' so' mk' ∧ 0 ≤ r ∧ a' ≤ a + (d + 1) ∧ fX8_run_L33 q b0 kx n (nI i) (nI a, 0, fm) b re = kx j (nI a', r, fm') b' re' ∧
            ((r = 0 ∧ ∃ j' rs', fX11_goWeeks_L11 (nI N) f ky n' (nI i) so mk fm rs (nI a) k = ky j' so' mk' fm' rs' (nI a') k') ∨ (0 < r ∧ fX11_goWeeks_L11 (nI N) f ky n' (nI i) so mk fm rs (nI a) k = some (nI a', so', mk', fm', r, nI a', k'))) := by
        intro e n1 n1' r b1 k1 so1 mk1 re1 he he2 hn1 hn1' hn0 hg1 hre1 hT1 hr hmk hC hM
        have hb1 := hT1.2.2.1
        have hb2 := hT1.2.2.2.1
        have hb3 := hT1.2.2.2.2
        have hb4 := hT1.1.2.2.2.2.2.2.2
        have hb5 := hT1.1.2.2.2.2.2.1
        have hc1 := hT.2.2.1
        have hc3 := hT.2.2.2.2
        have hc4 := hT.1.2.2.2.2.2.2.2
        have hc5 := hT.1.2.2.2.2.2.1
        by_cases c : r = 0
        · subst c
          rw [if_pos (by decide)] at hM
          simp only [if_true] at hC
          obtain ⟨fm1, hC1, hM1, hF1⟩ : ∃ fm1 : Int32, fX8_run_L33 q b0 kx n (nI i) (nI a, 0, fm) b re = fX8_run_L33 q b0 kx n1 (nI (i + e)) (nI (a + 1), 0, fm1) b1 re1 ∧ (if mk1 ≤ mk then fm else (if 0 ≤ fm then fm else nI a)) = fm1 ∧ FMr (a + 1) fm1 mk1 := by
            rw [nI_1] at hC
            rcases hF with ⟨hF1, hF2⟩ | ⟨hF1, hF2⟩
            · rw [if_pos hF1] at hC
              by_cases m : mk1 = mk
              · rw [if_pos (by grind)] at hC
                exact ⟨fm, hC, by rw [if_pos (by grind)], Or.inl ⟨hF1, by grind⟩⟩
              · have m' : mk1 = mk + 1 := by grind
                rw [if_neg (by grind)] at hC
                have z : nI (a + 1) - 1 = nI a := nI_pred a
                have z2 : ¬ (0 : Int32) ≤ -6 := by decide
                rw [z] at hC
                refine ⟨nI a, hC, ?_, ?_⟩
                · rw [if_neg (by grind), hF1, if_neg z2]
                · have hp : 0 ≤ nI a := by
                    exact nI_pos' (by omega)
                  exact Or.inr ⟨hp, by grind⟩
            · rw [if_neg (by grind)] at hC
              exact ⟨fm, hC, by rw [if_pos hF1]; split <;> rfl, Or.inr ⟨hF1, by grind⟩⟩
          rw [hM1, nI_1] at hM
          obtain ⟨r2, a2, fm2, b2, k2, so2, mk2, re2, j, g1, g2, g3, g4, g5⟩ := ih (d + 1 - e) (i + e) n1 n1' (a + 1) fm1 so1 mk1 0 b1 k1 re1 (by omega) (by omega) (by omega) hn1 hn1' hg1 hre1 hT1 hF1
          exact ⟨r2, a2, fm2, b2, k2, so2, mk2, re2, j, g1, g2, by omega, hC1.trans g4, by rw [hM]; exact g5⟩
        · have m : mk1 = mk := by grind
          have z0 : nI a + 0 = nI a := by grind
          have z1 : ¬ r ≤ 0 := by grind
          rw [if_neg z1] at hM
          simp only [c, if_false, z0] at hC
          obtain ⟨n1, rfl⟩ := suc hn0
          have hC1 : fX8_run_L33 q b0 kx n (nI i) (nI a, 0, fm) b re = kx (nI (i + e)) (nI a, r, fm) b1 re1 := by
            rw [hC]
            rcases hF with ⟨hF1, hF2⟩ | ⟨hF1, hF2⟩
            · rw [if_pos hF1, if_pos (by grind), run_stop _ _ _ _ _ _ _ _ _ _ c]
            · rw [if_neg (by grind), run_stop _ _ _ _ _ _ _ _ _ _ c]
          exact ⟨r, a, fm, b1, k1, so1, mk1, re1, nI (i + e), hT1, hr, by omega, hC1, Or.inr ⟨by grind, hM⟩⟩
      have hmid : fm = -6 → b.2.2.2.2.2.2.2.2 ≤ b0.2.2.2.2.2.2.2.2 := by
        intro h
        have hc1 := hT.2.2.1
        rcases hF with ⟨hF1, hF2⟩ | ⟨hF1, hF2⟩ <;> grind
      obtain ⟨n, rfl⟩ := suc (by omega : 0 < n)
      obtain ⟨n', rfl⟩ := suc (by omega : 0 < n')
      obtain ⟨p0, kd, wh, wt⟩ := re
      simp only at hre
      subst hre
      rcases gk_act hg with ⟨hc, hg1⟩ | ⟨hc, d', rfl, hx1, hg1⟩ | ⟨hc, d', rfl, ⟨hx1, hg1⟩ | ⟨hx1, d'', rfl, hx2, hg1⟩⟩
      · -- a morning
        obtain ⟨r, b1, k1, so1, mk1, w1, w2, w3, w4, w5⟩ := act_night hT
        have ht : fX4_take (f i) (0, kd, wh, wt) = some (1, (0, 5, wh, 0)) := by rw [hc]; rfl
        have ha : fX1_attempt 5 wh 0 b = some (r, b1) := by
          have a1 : ¬ (5 : Int32) = 0 := by decide
          have a2 : ¬ (5 : Int32) = 1 := by decide
          have a3 : ¬ (5 : Int32) = 2 := by decide
          have a4 : ¬ (5 : Int32) = 3 := by decide
          have a5 : ¬ (5 : Int32) = 4 := by decide
          simp only [fX1_attempt, a1, a2, a3, a4, a5, if_false, w1, Option.bind_some]
        exact fin 1 n n' r b1 k1 so1 mk1 (0, 5, wh, 0) (by omega) (by omega) (by omega) (by omega) (by omega) hg1 rfl w3 w4 w5 (run_end hq hf b0 kx hN (by omega) ht rfl ha) (go_dot ky hN (by omega) hc w2)
      · -- a cart
        obtain ⟨n, rfl⟩ := suc (by omega : 0 < n)
        obtain ⟨z, hz, ez⟩ : ∃ j, j < 4 ∧ f (i + 1) - 48 = nI j := i_of (N := 4) (by decide) (by grind) (fun z => by have : (4 : Int32) ≤ f (i + 1) - 48 := z; grind)
        obtain ⟨r, b1, k1, w1, w2, w3, w4⟩ := act_drive hT hz
        have ht : fX4_take (f i) (0, kd, wh, wt) = some (1, (3, kd, wh, wt)) := by rw [hc]; rfl
        have ht2 : fX4_take (f (i + 1)) (3, kd, wh, wt) = some (1, (0, 4, wh, f (i + 1) - 48)) := by
          have u : fX10_isCart (f (i + 1) - 48) = 1 := by rw [ez]; exact isCart1 hz
          simp [fX4_take, fX4_end, cm_let, u]
        have ha : fX1_attempt 4 wh (f (i + 1) - 48) b = some (r, b1) := by
          have a1 : ¬ (4 : Int32) = 0 := by decide
          have a2 : ¬ (4 : Int32) = 1 := by decide
          have a3 : ¬ (4 : Int32) = 2 := by decide
          have a4 : ¬ (4 : Int32) = 3 := by decide
          simp only [fX1_attempt, a1, a2, a3, a4, if_false, if_true, ez, w1, Option.bind_some]
        have ho : fX11_oneAct (nI i) k f = some (r, k1) := by
          simp (disch := omega) only [fX11_oneAct, clm, ixc, if_false, nI_1, hc, if_true, ez, w2, Option.bind_some]
        refine fin 2 n n' r b1 k1 so mk (0, 4, wh, f (i + 1) - 48) (by omega) (by omega) (by omega) (by omega) (by omega) hg1 rfl w3 w4 (Or.inr rfl) ?_ ?_
        · rw [run_mid hq hf b0 kx hN (by omega) ht (show ¬ (3 : Int32) = 0 by decide) hmid]
          exact run_end hq hf b0 kx hN (by omega) ht2 rfl ha
        · rw [if_pos (show mk ≤ mk by grind)]
          exact go_act ky hN (by omega) (by rw [hc]; decide) (Or.inr ⟨rfl, by grind, by grind⟩) ho
      · -- thinking, being surer
        obtain ⟨n, rfl⟩ := suc (by omega : 0 < n)
        obtain ⟨w, hw, ew⟩ := let_of hc
        have u1 : fX10_isOne (f i - 65) = 1 := by rw [ew]; exact isOne1 hw
        have z1 : ¬ f i = 46 := by grind
        have z2 : ¬ f i = 99 := by grind
        have ht : fX4_take (f i) (0, kd, wh, wt) = some (1, (1, kd, f i - 65, wt)) := by simp [fX4_take, fX4_takeFirst, cm_let, z1, z2, u1]
        rcases hx1 with hx | hx | hx
        · obtain ⟨r, b1, k1, w1, w2, w3, w4⟩ := act_grow hT hw
          have ht2 : fX4_take (f (i + 1)) (1, kd, f i - 65, wt) = some (1, (0, 1, f i - 65, 0)) := by rw [hx]; rfl
          have ha : fX1_attempt 1 (f i - 65) 0 b = some (r, b1) := by
            simp only [fX1_attempt, n10, if_false, if_true, ew, w1, Option.bind_some]
          have a1 : ¬ (43 : Int32) = 62 := by decide
          have a2 : ¬ (43 : Int32) = 36 := by decide
          have ho : fX11_oneAct (nI i) k f = some (r, k1) := by
            simp (disch := omega) only [fX11_oneAct, clm, ixc, if_false, nI_1, z2, hx, a1, a2, if_true, ew, w2, Option.bind_some]
          refine fin 2 n n' r b1 k1 so mk (0, 1, f i - 65, 0) (by omega) (by omega) (by omega) (by omega) (by omega) hg1 rfl w3 w4 (Or.inr rfl) ?_ ?_
          · rw [run_mid hq hf b0 kx hN (by omega) ht (show ¬ (1 : Int32) = 0 by decide) hmid]
            exact run_end hq hf b0 kx hN (by omega) ht2 rfl ha
          · rw [if_pos (show mk ≤ mk by grind)]
            exact go_act ky hN (by omega) z1 (Or.inr ⟨rfl, by rw [hx]; decide, by rw [hx]; decide⟩) ho
        · obtain ⟨r, b1, k1, w1, w2, w3, w4⟩ := act_think hT hw (d := -1) (d' := -6) (Or.inl ⟨rfl, rfl⟩)
          have ht2 : fX4_take (f (i + 1)) (1, kd, f i - 65, wt) = some (1, (0, 0, f i - 65, -1)) := by rw [hx]; rfl
          have ha : fX1_attempt 0 (f i - 65) (-1) b = some (r, b1) := by
            simp only [fX1_attempt, if_true, ew, w1, Option.bind_some]
          have a1 : ¬ (45 : Int32) = 62 := by decide
          have a2 : ¬ (45 : Int32) = 36 := by decide
          have a3 : ¬ (45 : Int32) = 43 := by decide
          have ho : fX11_oneAct (nI i) k f = some (r, k1) := by
            simp (disch := omega) only [fX11_oneAct, clm, ixc, if_false, nI_1, z2, hx, a1, a2, a3, if_true, ew, w2, Option.bind_some]
          refine fin 2 n n' r b1 k1 so mk (0, 0, f i - 65, -1) (by omega) (by omega) (by omega) (by omega) (by omega) hg1 rfl w3 w4 (Or.inr rfl) ?_ ?_
          · rw [run_mid hq hf b0 kx hN (by omega) ht (show ¬ (1 : Int32) = 0 by decide) hmid]
            exact run_end hq hf b0 kx hN (by omega) ht2 rfl ha
          · rw [if_pos (show mk ≤ mk by grind)]
            exact go_act ky hN (by omega) z1 (Or.inr ⟨rfl, by rw [hx]; decide, by rw [hx]; decide⟩) ho
        · obtain ⟨r, b1, k1, w1, w2, w3, w4⟩ := act_think hT hw (d := f (i + 1) - 48) (d' := f (i + 1) - 48) (Or.inr ⟨by grind, by grind, rfl⟩)
          have y1 : ¬ f (i + 1) = 36 := by grind
          have y2 : ¬ f (i + 1) = 43 := by grind
          have y3 : ¬ f (i + 1) = 45 := by grind
          have y4 : ¬ f (i + 1) = 62 := by grind
          have ht2 : fX4_take (f (i + 1)) (1, kd, f i - 65, wt) = some (1, (0, 0, f i - 65, f (i + 1) - 48)) := by
            have u : fX10_isDay (f (i + 1) - 48) = 1 := by grind [fX10_isDay]
            simp [fX4_take, fX4_takeDeed, fX4_end, cm_let, y1, y2, y3, y4, u]
          have ha : fX1_attempt 0 (f i - 65) (f (i + 1) - 48) b = some (r, b1) := by
            simp only [fX1_attempt, if_true, ew, w1, Option.bind_some]
          have ho : fX11_oneAct (nI i) k f = some (r, k1) := by
            simp (disch := omega) only [fX11_oneAct, clm, ixc, if_false, nI_1, z2, y1, y2, y3, y4, ew, w2, Option.bind_some]
          refine fin 2 n n' r b1 k1 so mk (0, 0, f i - 65, f (i + 1) - 48) (by omega) (by omega) (by omega) (by omega) (by omega) hg1 rfl w3 w4 (Or.inr rfl) ?_ ?_
          · rw [run_mid hq hf b0 kx hN (by omega) ht (show ¬ (1 : Int32) = 0 by decide) hmid]
            exact run_end hq hf b0 kx hN (by omega) ht2 rfl ha
          · rw [if_pos (show mk ≤ mk by grind)]
            exact go_act ky hN (by omega) z1 (Or.inr ⟨rfl, y4, y1⟩) ho
      · -- talking, paying
        obtain ⟨n, rfl⟩ := suc (by omega : 0 < n)
        obtain ⟨n, rfl⟩ := suc (by omega : 0 < n)
        obtain ⟨w, hw, ew⟩ := let_of hc
        obtain ⟨v, hv, ev⟩ := let_of hx2
        have u1 : fX10_isOne (f i - 65) = 1 := by rw [ew]; exact isOne1 hw
        have u2 : fX10_isOne (f (i + 2) - 65) = 1 := by rw [ev]; exact isOne1 hv
        have z1 : ¬ f i = 46 := by grind
        have z2 : ¬ f i = 99 := by grind
        have e2 : nI i + 2 = nI (i + 2) := nI_add i 2
        have ht : fX4_take (f i) (0, kd, wh, wt) = some (1, (1, kd, f i - 65, wt)) := by simp [fX4_take, fX4_takeFirst, cm_let, z1, z2, u1]
        rcases hx1 with hx | hx
        · obtain ⟨r, b1, k1, w1, w2, w3, w4⟩ := act_talk hT hw hv
          have ht2 : fX4_take (f (i + 1)) (1, kd, f i - 65, wt) = some (1, (2, 2, f i - 65, wt)) := by rw [hx]; rfl
          have ht3 : fX4_take (f (i + 2)) (2, 2, f i - 65, wt) = some (1, (0, 2, f i - 65, f (i + 2) - 65)) := by simp [fX4_take, fX4_end, cm_let, u2]
          have ha : fX1_attempt 2 (f i - 65) (f (i + 2) - 65) b = some (r, b1) := by
            have a1 : ¬ (2 : Int32) = 0 := by decide
            have a2 : ¬ (2 : Int32) = 1 := by decide
            simp only [fX1_attempt, a1, a2, if_false, if_true, ew, ev, w1, Option.bind_some]
          have ho : fX11_oneAct (nI i) k f = some (r, k1) := by
            simp (disch := omega) only [fX11_oneAct, clm, ixc, if_false, nI_1, e2, z2, hx, if_true, ew, ev, w2, Option.bind_some]
          refine fin 3 n n' r b1 k1 so mk (0, 2, f i - 65, f (i + 2) - 65) (by omega) (by omega) (by omega) (by omega) (by omega) hg1 rfl w3 w4 (Or.inr rfl) ?_ ?_
          · rw [run_mid hq hf b0 kx hN (by omega) ht (show ¬ (1 : Int32) = 0 by decide) hmid, run_mid hq hf b0 kx hN (by omega) ht2 (show ¬ (2 : Int32) = 0 by decide) hmid]
            exact run_end hq hf b0 kx hN (by omega) ht3 rfl ha
          · rw [if_pos (show mk ≤ mk by grind)]
            exact go_act ky hN (by omega) z1 (Or.inl ⟨rfl, Or.inl hx⟩) ho
        · obtain ⟨r, b1, k1, w1, w2, w3, w4⟩ := act_pay hT hw hv
          have ht2 : fX4_take (f (i + 1)) (1, kd, f i - 65, wt) = some (1, (2, 3, f i - 65, wt)) := by rw [hx]; rfl
          have ht3 : fX4_take (f (i + 2)) (2, 3, f i - 65, wt) = some (1, (0, 3, f i - 65, f (i + 2) - 65)) := by simp [fX4_take, fX4_end, cm_let, u2]
          have ha : fX1_attempt 3 (f i - 65) (f (i + 2) - 65) b = some (r, b1) := by
            have a1 : ¬ (3 : Int32) = 0 := by decide
            have a2 : ¬ (3 : Int32) = 1 := by decide
            have a3 : ¬ (3 : Int32) = 2 := by decide
            simp only [fX1_attempt, a1, a2, a3, if_false, if_true, ew, ev, w1, Option.bind_some]
          have ho : fX11_oneAct (nI i) k f = some (r, k1) := by
            have a1 : ¬ (36 : Int32) = 62 := by decide
            simp (disch := omega) only [fX11_oneAct, clm, ixc, if_false, nI_1, e2, z2, hx, a1, if_true, ew, ev, w2, Option.bind_some]
          refine fin 3 n n' r b1 k1 so mk (0, 3, f i - 65, f (i + 2) - 65) (by omega) (by omega) (by omega) (by omega) (by omega) hg1 rfl w3 w4 (Or.inr rfl) ?_ ?_
          · rw [run_mid hq hf b0 kx hN (by omega) ht (show ¬ (1 : Int32) = 0 by decide) hmid, run_mid hq hf b0 kx hN (by omega) ht2 (show ¬ (2 : Int32) = 0 by decide) hmid]
            exact run_end hq hf b0 kx hN (by omega) ht3 rfl ha
          · rw [if_pos (show mk ≤ mk by grind)]
            exact go_act ky hN (by omega) z1 (Or.inl ⟨rfl, Or.inr hx⟩) ho
