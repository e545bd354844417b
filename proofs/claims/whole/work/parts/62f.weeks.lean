/-! Weeks: the class goes sign by sign, the model act by act. -/
def gk (f : Nat → Int32) : Nat → Int32 → Nat → Prop
  | 0, st, _ => st = 0
  | d + 1, st, i => 0 ≤ fX11_step st (f i) ∧ gk f d (fX11_step st (f i)) (i + 1)
theorem gk_of {N : Nat} {f : Nat → Int32} (hN : N ≤ 60) : ∀ (d i n : Nat) (st : Int32), i + d = N → d < n → fX11_faultOf_L4 (nI N) f (fun v1_4 v2_4 => (if v1_4 = 0 then some (-6) else some (nI N))) n st (nI i) = some (-6) → gk f d st i := by
  intro d
  induction d with
  | zero =>
    intro i n st hi hn h
    obtain ⟨n, rfl⟩ := suc hn
    obtain rfl : i = N := by omega
    have h0 : nI i ≤ nI i := nI_le (Nat.le_refl i) (by omega)
    rw [fX11_faultOf_L4, if_pos h0] at h
    by_cases c : st = 0
    · exact c
    · rw [if_neg c] at h
      have := Option.some.inj h
      have := nI_pos (n := i) (by omega)
      grind
  | succ d ih =>
    intro i n st hi hn h
    obtain ⟨n, rfl⟩ := suc (by omega : 0 < n)
    have h0 : ¬ nI N ≤ nI i := nI_ge (by omega) (by omega)
    simp (disch := omega) only [fX11_faultOf_L4, h0, clm, ixc, if_false, cm_let, nI_1] at h
    by_cases c : 0 ≤ fX11_step st (f i)
    · rw [if_pos c] at h
      exact ⟨c, ih (i + 1) n _ (by omega) (by omega) h⟩
    · rw [if_neg c] at h
      have := Option.some.inj h
      have := nI_pos (n := i) (by omega)
      grind
theorem gk_len {f : Nat → Int32} {d i : Nat} {st : Int32} (h : gk f d st i) (hs : ¬ st = 0) : ∃ d', d = d' + 1 := by
  cases d with
  | zero => exact absurd h hs
  | succ d => exact ⟨d, rfl⟩
/-- what an act's first sign is -/
theorem gk_act {f : Nat → Int32} {d i : Nat} (h : gk f (d + 1) 0 i) :
    (f i = 46 ∧ gk f d 0 (i + 1)) ∨
    (f i = 99 ∧ ∃ d', d = d' + 1 ∧ (48 ≤ f (i + 1) ∧ f (i + 1) ≤ 51) ∧ gk f d' 0 (i + 2)) ∨
    ((65 ≤ f i ∧ f i ≤ 72) ∧ ∃ d', d = d' + 1 ∧
      (((f (i + 1) = 43 ∨ f (i + 1) = 45 ∨ (48 ≤ f (i + 1) ∧ f (i + 1) ≤ 54)) ∧ gk f d' 0 (i + 2)) ∨
       ((f (i + 1) = 62 ∨ f (i + 1) = 36) ∧ ∃ d'', d' = d'' + 1 ∧ (65 ≤ f (i + 2) ∧ f (i + 2) ≤ 72) ∧ gk f d'' 0 (i + 3)))) := by
  obtain ⟨h1, h2⟩ := h
  by_cases c1 : f i < 65 ∨ 72 < f i
  · have w1 : fX11_in (f i) 65 72 = 0 := by grind [fX11_in]
    by_cases c2 : f i = 99
    · have e : fX11_step 0 (f i) = 3 := by rw [c2]; decide
      rw [e] at h2
      obtain ⟨d', rfl⟩ := gk_len h2 (by decide)
      obtain ⟨g1, g2⟩ := h2
      by_cases c3 : f (i + 1) < 48 ∨ 51 < f (i + 1)
      · have w2 : fX11_in (f (i + 1)) 48 51 = 0 := by grind [fX11_in]
        have e2 : fX11_step 3 (f (i + 1)) = -6 := by simp [fX11_step, cm_let, w2]
        rw [e2] at g1
        exact absurd g1 (by decide)
      · have w2 : fX11_in (f (i + 1)) 48 51 = 1 := by grind [fX11_in]
        have e2 : fX11_step 3 (f (i + 1)) = 0 := by simp [fX11_step, cm_let, w2]
        rw [e2] at g2
        exact Or.inr (Or.inl ⟨c2, d', rfl, by grind, g2⟩)
    · by_cases c3 : f i = 46
      · have e : fX11_step 0 (f i) = 0 := by rw [c3]; decide
        rw [e] at h2
        exact Or.inl ⟨c3, h2⟩
      · have e : fX11_step 0 (f i) = -6 := by simp [fX11_step, cm_let, w1, c2, c3]
        rw [e] at h1
        exact absurd h1 (by decide)
  · have w1 : fX11_in (f i) 65 72 = 1 := by grind [fX11_in]
    have e : fX11_step 0 (f i) = 1 := by simp [fX11_step, cm_let, w1]
    rw [e] at h2
    obtain ⟨d', rfl⟩ := gk_len h2 (by decide)
    obtain ⟨g1, g2⟩ := h2
    refine Or.inr (Or.inr ⟨by grind, d', rfl, ?_⟩)
    by_cases c2 : f (i + 1) = 62 ∨ f (i + 1) = 36
    · have w2 : fX11_in (f (i + 1)) 48 54 = 0 := by grind [fX11_in]
      have e2 : fX11_step 1 (f (i + 1)) = 2 := by
        rcases c2 with c2 | c2 <;> rw [c2] <;> decide
      rw [e2] at g2
      obtain ⟨d'', rfl⟩ := gk_len g2 (by decide)
      obtain ⟨k1, k2⟩ := g2
      by_cases c3 : f (i + 2) < 65 ∨ 72 < f (i + 2)
      · have w3 : fX11_in (f (i + 2)) 65 72 = 0 := by grind [fX11_in]
        have e3 : fX11_step 2 (f (i + 2)) = -6 := by simp [fX11_step, cm_let, w3]
        rw [e3] at k1
        exact absurd k1 (by decide)
      · have w3 : fX11_in (f (i + 2)) 65 72 = 1 := by grind [fX11_in]
        have e3 : fX11_step 2 (f (i + 2)) = 0 := by simp [fX11_step, cm_let, w3]
        rw [e3] at k2
        exact Or.inr ⟨c2, d'', rfl, by grind, k2⟩
    · by_cases c3 : f (i + 1) = 43 ∨ f (i + 1) = 45 ∨ (48 ≤ f (i + 1) ∧ f (i + 1) ≤ 54)
      · have e2 : fX11_step 1 (f (i + 1)) = 0 := by
          rcases c3 with c3 | c3 | c3
          · rw [c3]; decide
          · rw [c3]; decide
          · have w2 : fX11_in (f (i + 1)) 48 54 = 1 := by grind [fX11_in]
            simp [fX11_step, cm_let, w2]
        rw [e2] at g2
        exact Or.inl ⟨c3, g2⟩
      · have w2 : fX11_in (f (i + 1)) 48 54 = 0 := by grind [fX11_in]
        have e2 : fX11_step 1 (f (i + 1)) = -6 := by
          have a1 : ¬ f (i + 1) = 43 := by grind
          have a2 : ¬ f (i + 1) = 45 := by grind
          have a3 : ¬ f (i + 1) = 62 := by grind
          have a4 : ¬ f (i + 1) = 36 := by grind
          simp [fX11_step, cm_let, w2, a1, a2, a3, a4]
        rw [e2] at g1
        exact absurd g1 (by decide)
theorem let_of {x : Int32} (h : 65 ≤ x ∧ x ≤ 72) : ∃ j, j < 8 ∧ x - 65 = nI j := i_of (N := 8) (by decide) (by grind) (fun z => by have : (8 : Int32) ≤ x - 65 := z; grind)
theorem run_mid {q : SPA} {N : Nat} {f : Nat → Int32} (hq : q.2 = nI N) (hf : ∀ i, i < 60 → q.1 i = f i) (b0 : SBO) (kx : Int32 → STR → SBO → SRE → Option (STR × SBO × SRE)) {n i : Nat} {A fm : Int32} {b : SBO} {re re' : SRE} (hN : N ≤ 60) (hi : i < N) (ht : fX4_take (f i) re = some (1, re')) (h0 : ¬ re'.1 = 0) (hm : fm = -6 → b.2.2.2.2.2.2.2.2 ≤ b0.2.2.2.2.2.2.2.2) : fX8_run_L33 q b0 kx (n + 1) (nI i) (A, 0, fm) b re = fX8_run_L33 q b0 kx n (nI (i + 1)) (A, 0, fm) b re' := by
  have h1 : ¬ nI N ≤ nI i := nI_ge (by omega) (by omega)
  have h2 : fX4_isBetweenActs re' = 0 := by simp [fX4_isBetweenActs, h0]
  rw [fX8_run_L33, hq, if_neg h1, sign_at (by omega), hf i (by omega)]
  simp only [if_true, Option.bind_some, ht, n10, if_false, cm_let, h2, nI_1]
  by_cases c : fm = -6
  · simp only [c, if_true, hm c]
  · simp only [c, if_false]
theorem run_end {q : SPA} {N : Nat} {f : Nat → Int32} (hq : q.2 = nI N) (hf : ∀ i, i < 60 → q.1 i = f i) (b0 : SBO) (kx : Int32 → STR → SBO → SRE → Option (STR × SBO × SRE)) {n i : Nat} {A fm r : Int32} {b b' : SBO} {re re' : SRE} (hN : N ≤ 60) (hi : i < N) (ht : fX4_take (f i) re = some (1, re')) (h0 : re'.1 = 0) (ha : fX1_attempt re'.2.1 re'.2.2.1 re'.2.2.2 b = some (r, b')) : fX8_run_L33 q b0 kx (n + 1) (nI i) (A, 0, fm) b re = if fm = -6 then (if b'.2.2.2.2.2.2.2.2 ≤ b0.2.2.2.2.2.2.2.2 then fX8_run_L33 q b0 kx n (nI (i + 1)) (A + (if r = 0 then 1 else 0), r, fm) b' re' else fX8_run_L33 q b0 kx n (nI (i + 1)) (A + (if r = 0 then 1 else 0), r, A + (if r = 0 then 1 else 0) - 1) b' re') else fX8_run_L33 q b0 kx n (nI (i + 1)) (A + (if r = 0 then 1 else 0), r, fm) b' re' := by
  have h1 : ¬ nI N ≤ nI i := nI_ge (by omega) (by omega)
  have h2 : fX4_isBetweenActs re' = 1 := by simp [fX4_isBetweenActs, h0]
  rw [fX8_run_L33, hq, if_neg h1, sign_at (by omega), hf i (by omega)]
  simp only [if_true, Option.bind_some, ht, n10, if_false, cm_let, h2, nI_1, ha]
theorem run_stop (q : SPA) (b0 : SBO) (kx : Int32 → STR → SBO → SRE → Option (STR × SBO × SRE)) (n : Nat) (v A r fm : Int32) (b : SBO) (re : SRE) (hr : ¬ r = 0) : fX8_run_L33 q b0 kx (n + 1) v (A, r, fm) b re = kx v (A, r, fm) b re := by
  rw [fX8_run_L33]
  by_cases c : q.2 ≤ v
  · simp only [c, if_true]
  · simp only [c, if_false, hr]
