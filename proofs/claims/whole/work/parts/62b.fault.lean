/-! Signs: the reader and the model's step. -/
def P4 (x : Int32) : Prop := x = 0 ∨ x = 1 ∨ x = 2 ∨ x = 3
theorem take_step (s : Int32) (re : SRE) (h : P4 re.1) : ∃ ok re', fX4_take s re = some (ok, re') ∧ ((ok = 1 ∧ fX11_step re.1 s = re'.1 ∧ P4 re'.1) ∨ (ok = 0 ∧ fX11_step re.1 s = -6)) := by
  obtain ⟨p, k, w, x⟩ := re
  simp only at h
  rcases h with rfl | rfl | rfl | rfl
  · by_cases c1 : s = 46
    · subst c1; exact ⟨1, (0, 5, w, 0), rfl, Or.inl ⟨rfl, rfl, Or.inl rfl⟩⟩
    · by_cases c2 : s = 99
      · subst c2; exact ⟨1, (3, k, w, x), rfl, Or.inl ⟨rfl, rfl, Or.inr (Or.inr (Or.inr rfl))⟩⟩
      · by_cases c3 : s < 65 ∨ 72 < s
        · have u : fX10_isOne (s - 65) = 0 := by grind [fX10_isOne]
          have w1 : fX11_in s 65 72 = 0 := by grind [fX11_in]
          exact ⟨0, (1, k, s - 65, x), by simp [fX4_take, fX4_takeFirst, cm_let, c1, c2, u], Or.inr ⟨rfl, by simp [fX11_step, cm_let, w1, c1, c2]⟩⟩
        · have u : fX10_isOne (s - 65) = 1 := by grind [fX10_isOne]
          have w1 : fX11_in s 65 72 = 1 := by grind [fX11_in]
          exact ⟨1, (1, k, s - 65, x), by simp [fX4_take, fX4_takeFirst, cm_let, c1, c2, u], Or.inl ⟨rfl, by simp [fX11_step, cm_let, w1], Or.inr (Or.inl rfl)⟩⟩
  · by_cases c1 : s = 36
    · subst c1; exact ⟨1, (2, 3, w, x), rfl, Or.inl ⟨rfl, rfl, Or.inr (Or.inr (Or.inl rfl))⟩⟩
    · by_cases c2 : s = 43
      · subst c2; exact ⟨1, (0, 1, w, 0), rfl, Or.inl ⟨rfl, rfl, Or.inl rfl⟩⟩
      · by_cases c3 : s = 45
        · subst c3; exact ⟨1, (0, 0, w, -1), rfl, Or.inl ⟨rfl, rfl, Or.inl rfl⟩⟩
        · by_cases c4 : s = 62
          · subst c4; exact ⟨1, (2, 2, w, x), rfl, Or.inl ⟨rfl, rfl, Or.inr (Or.inr (Or.inl rfl))⟩⟩
          · by_cases c5 : s < 48 ∨ 54 < s
            · have u : fX10_isDay (s - 48) = 0 := by grind [fX10_isDay]
              have w1 : fX11_in s 48 54 = 0 := by grind [fX11_in]
              exact ⟨0, (0, 0, w, s - 48), by simp [fX4_take, fX4_takeDeed, fX4_end, cm_let, c1, c2, c3, c4, u], Or.inr ⟨rfl, by simp [fX11_step, cm_let, w1, c1, c2, c3, c4]⟩⟩
            · have u : fX10_isDay (s - 48) = 1 := by grind [fX10_isDay]
              have w1 : fX11_in s 48 54 = 1 := by grind [fX11_in]
              exact ⟨1, (0, 0, w, s - 48), by simp [fX4_take, fX4_takeDeed, fX4_end, cm_let, c1, c2, c3, c4, u], Or.inl ⟨rfl, by simp [fX11_step, cm_let, w1], Or.inl rfl⟩⟩
  · by_cases c3 : s < 65 ∨ 72 < s
    · have u : fX10_isOne (s - 65) = 0 := by grind [fX10_isOne]
      have w1 : fX11_in s 65 72 = 0 := by grind [fX11_in]
      exact ⟨0, (0, k, w, s - 65), by simp [fX4_take, fX4_end, cm_let, u], Or.inr ⟨rfl, by simp [fX11_step, cm_let, w1]⟩⟩
    · have u : fX10_isOne (s - 65) = 1 := by grind [fX10_isOne]
      have w1 : fX11_in s 65 72 = 1 := by grind [fX11_in]
      exact ⟨1, (0, k, w, s - 65), by simp [fX4_take, fX4_end, cm_let, u], Or.inl ⟨rfl, by simp [fX11_step, cm_let, w1], Or.inl rfl⟩⟩
  · by_cases c3 : s < 48 ∨ 51 < s
    · have u : fX10_isCart (s - 48) = 0 := by grind [fX10_isCart]
      have w1 : fX11_in s 48 51 = 0 := by grind [fX11_in]
      exact ⟨0, (0, 4, w, s - 48), by simp [fX4_take, fX4_end, cm_let, u], Or.inr ⟨rfl, by simp [fX11_step, cm_let, w1]⟩⟩
    · have u : fX10_isCart (s - 48) = 1 := by grind [fX10_isCart]
      have w1 : fX11_in s 48 51 = 1 := by grind [fX11_in]
      exact ⟨1, (0, 4, w, s - 48), by simp [fX4_take, fX4_end, cm_let, u], Or.inl ⟨rfl, by simp [fX11_step, cm_let, w1], Or.inl rfl⟩⟩
theorem sign_at {q : SPA} {i : Nat} (hi : i < 60) : fX3_signAt (nI i) q = some (q.1 i) := by
  have h1 : ¬ nI i < 0 := nI_pos (by omega)
  have h2 : ¬ (60 : Int32) ≤ nI i := nI_ge (b := 60) hi (by decide)
  have h3 : ¬ 60 ≤ i := by omega
  simp (disch := omega) only [fX3_signAt, h1, h2, h3, clm, or_self, if_false]
theorem fault_loop {q : SPA} {N : Nat} {f : Nat → Int32} (hN : N ≤ 60) (hq : q.2 = nI N) (hf : ∀ i, i < 60 → q.1 i = f i) : ∀ (d i n n' : Nat) (re : SRE), i + d = N → d < n → d < n' → P4 re.1 →
    ∃ r re', fX3_firstFault_L9 q (fun v1_9 reader_re_9 => cm_let (fX4_isBetweenActs reader_re_9) (fun u44 => (if u44 = 0 then some (q.2, reader_re_9) else some ((-6), reader_re_9)))) n (nI i) re = some (r, re') ∧ fX11_faultOf_L4 (nI N) f (fun v1_4 v2_4 => (if v1_4 = 0 then some (-6) else some (nI N))) n' re.1 (nI i) = some r := by
  intro d
  induction d with
  | zero =>
    intro i n n' re hi hn hn' hp
    obtain ⟨n, rfl⟩ : ∃ m, n = m + 1 := ⟨n - 1, by omega⟩
    obtain ⟨n', rfl⟩ : ∃ m, n' = m + 1 := ⟨n' - 1, by omega⟩
    obtain rfl : i = N := by omega
    have h0 : nI i ≤ nI i := nI_le (Nat.le_refl i) (by omega)
    by_cases c : re.1 = 0
    · exact ⟨-6, re, by simp [fX3_firstFault_L9, hq, h0, cm_let, fX4_isBetweenActs, c], by simp [fX11_faultOf_L4, h0, c]⟩
    · exact ⟨nI i, re, by simp [fX3_firstFault_L9, hq, h0, cm_let, fX4_isBetweenActs, c], by simp [fX11_faultOf_L4, h0, c]⟩
  | succ d ih =>
    intro i n n' re hi hn hn' hp
    obtain ⟨n, rfl⟩ : ∃ m, n = m + 1 := ⟨n - 1, by omega⟩
    obtain ⟨n', rfl⟩ : ∃ m, n' = m + 1 := ⟨n' - 1, by omega⟩
    have h0 : ¬ nI N ≤ nI i := nI_ge (by omega) (by omega)
    obtain ⟨ok, re', ht, hs⟩ := take_step (f i) re hp
    have hm : fX11_faultOf_L4 (nI N) f (fun v1_4 v2_4 => (if v1_4 = 0 then some (-6) else some (nI N))) (n' + 1) re.1 (nI i) = if 0 ≤ fX11_step re.1 (f i) then fX11_faultOf_L4 (nI N) f (fun v1_4 v2_4 => (if v1_4 = 0 then some (-6) else some (nI N))) n' (fX11_step re.1 (f i)) (nI (i + 1)) else some (nI i) := by
      simp (disch := omega) only [fX11_faultOf_L4, h0, clm, ixc, if_false, cm_let, nI_1]
    have hc : fX3_firstFault_L9 q (fun v1_9 reader_re_9 => cm_let (fX4_isBetweenActs reader_re_9) (fun u44 => (if u44 = 0 then some (q.2, reader_re_9) else some ((-6), reader_re_9)))) (n + 1) (nI i) re = if ok = 0 then some (nI i, re') else fX3_firstFault_L9 q (fun v1_9 reader_re_9 => cm_let (fX4_isBetweenActs reader_re_9) (fun u44 => (if u44 = 0 then some (q.2, reader_re_9) else some ((-6), reader_re_9)))) n (nI (i + 1)) re' := by
      rw [fX3_firstFault_L9, hq, if_neg h0, sign_at (by omega), hf i (by omega)]
      simp only [Option.bind_some, ht, nI_1]
    rw [hm, hc]
    rcases hs with ⟨rfl, h1, h2⟩ | ⟨rfl, h1⟩
    · have h3 : (0 : Int32) ≤ re'.1 := by rcases h2 with h | h | h | h <;> rw [h] <;> decide
      rw [h1, if_pos h3, if_neg (by decide)]
      exact ih (i + 1) n n' re' (by omega) (by omega) (by omega) h2
    · rw [if_pos (rfl : (0 : Int32) = 0), h1, if_neg (show ¬ (0 : Int32) ≤ -6 by decide)]
      exact ⟨_, _, rfl, rfl⟩
theorem fault_ok {q : SPA} {n : Int32} {f : Nat → Int32} (h : RP q n f) (re : SRE) : ∃ r re', fX3_firstFault q re = some (r, re') ∧ fX11_faultOf n f = some r := by
  obtain ⟨h1, h2, h3, h4⟩ := h
  obtain ⟨N, hN, rfl⟩ := nI_of2 (x := n) (M := 60) (n := 60) (by decide) (by grind) h3
  obtain ⟨r, re', h5, h6⟩ := fault_loop hN h1 h4 N 0 5000 5000 (fX4_begin re) (by omega) (by omega) (by omega) (Or.inl rfl)
  rw [nI_0] at h5 h6
  refine ⟨r, re', ?_, ?_⟩
  · simp only [fX3_firstFault, cm_let] at h5 ⊢
    exact h5
  · simp only [fX11_faultOf]
    exact h6
theorem op_fault {q : SPA} {n : Int32} {f : Nat → Int32} (h : RP q n f) (re : SRE) : ∃ r re', fX10_fault q re = some (r, re') ∧ fX11_fault n f = some r := by
  obtain ⟨r, re', h1, h2⟩ := fault_ok h re
  exact ⟨r, re', by simp [fX10_fault, h1], by simp [fX11_fault, h2]⟩
