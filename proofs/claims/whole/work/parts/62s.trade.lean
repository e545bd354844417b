/-! Rows of digits and trading. -/
theorem rd_loop (kx : Int32 → Int32 → SRO → Option (Int32 × SRO)) (ky : Int32 → Int32 → (Nat → Int32) → Option (Int32 × (Nat → Int32))) (N : Nat) (hN : N ≤ 9) : ∀ (d n n' V : Nat) (ro : SRO) (f : Nat → Int32), d ≤ N → d < n → d < n' → V < 2147483648 → (∀ i, d ≤ i → i < N → ro.1 i = f i ∧ ∃ g, g ≤ 9 ∧ f i = nI g) →
    ∃ V' ro' f', V' < 2147483648 ∧ fX5_read_L28 kx n (nI V) (nI d - 1) ro = kx (nI V') (-1) ro' ∧ fX11_layRow_L23 ky n' (nI V) (nI d - 1) f = ky (nI V') (-1) f' ∧ ro'.2 = ro.2 ∧ (∀ i, i < N → ro'.1 i = f' i ∧ ∃ g, g ≤ 9 ∧ f' i = nI g) := by
  intro d
  induction d with
  | zero =>
    intro n n' V ro f hd hn hn' hV h
    obtain ⟨n, rfl⟩ := suc hn
    obtain ⟨n', rfl⟩ := suc hn'
    have e : nI 0 - 1 = (-1 : Int32) := by decide
    refine ⟨V, ro, f, hV, ?_, ?_, rfl, fun i hi => h i (by omega) hi⟩
    · rw [fX5_read_L28, e, if_pos (by decide)]
    · rw [fX11_layRow_L23, e, if_pos (by decide)]
  | succ d ih =>
    intro n n' V ro f hd hn hn' hV h
    obtain ⟨n, rfl⟩ := suc (by omega : 0 < n)
    obtain ⟨n', rfl⟩ := suc (by omega : 0 < n')
    have e := nI_pred d
    have p0 : ¬ nI d < 0 := nI_pos (by omega)
    have e1 : nI d + (-1) = nI d - 1 := by grind
    obtain ⟨V', ro', f', g1, g2, g3, g4, g5⟩ := ih n n' (V / 10) (upd ro.1 d (nI (V % 10)), ro.2) (upd f d (nI (V % 10))) (by omega) (by omega) (by omega) (by omega) (fun i h1 h2 => by
      simp only [up_eq]
      by_cases c : i = d
      · rw [if_pos c, if_pos c]; exact ⟨rfl, V % 10, by omega, rfl⟩
      · rw [if_neg c, if_neg c]; exact h i (by omega) h2)
    refine ⟨V', ro', f', g1, ?_, ?_, g4, g5⟩
    · rw [fX5_read_L28, e, if_neg p0]
      simp (disch := omega) only [clm, ixc, if_false, irm10, div10, e1]
      exact g2
    · rw [fX11_layRow_L23, e, if_neg p0]
      simp (disch := omega) only [clm, ixc, if_false, irm10, div10, e1]
      exact g3
/-- what both sides read of a row -/
theorem read_ok (v1 v2 : Int32) (ro : SRO) (f : Nat → Int32) : ∃ r ro' f', fX5_read v1 v2 ro = some (r, ro') ∧ fX11_layRow v1 v2 f = some (r, f') ∧ (r = 0 ∨ r = 1 ∧ ∃ N, 0 < N ∧ N ≤ 9 ∧ v2 = nI N ∧ ro'.2 = nI N ∧ ∀ i, i < N → ro'.1 i = f' i ∧ ∃ g, g ≤ 9 ∧ f' i = nI g) := by
  have q : fX11_in v2 1 9 = fX10_isWithin v2 1 9 := rfl
  by_cases c1 : v1 < 0
  · refine ⟨0, ro, f, by rw [fX5_read, if_pos c1], ?_, Or.inl rfl⟩
    rw [fX11_layRow, cm_let]
    by_cases c : fX11_in v2 1 9 = 0
    · rw [if_pos c]
    · rw [if_neg c, if_neg (by grind)]
  by_cases c2 : fX10_isWithin v2 1 9 = 0
  · exact ⟨0, ro, f, by rw [fX5_read, if_neg c1, c2, cm_let, if_pos rfl], by rw [fX11_layRow, q, c2, cm_let, if_pos rfl], Or.inl rfl⟩
  have a1 : ¬ v2 < 0 ∧ ¬ 10 ≤ v2 ∧ ¬ v2 = 0 := by grind [fX10_isWithin]
  obtain ⟨N, hN, rfl⟩ := i_of (x := v2) (N := 10) (by decide) a1.1 a1.2.1
  have hN0 : N ≠ 0 := fun z => a1.2.2 (by rw [z]; rfl)
  obtain ⟨V, hV, rfl⟩ := nI_of c1
  have c3 : (0 : Int32) ≤ nI V := nI_pos' hV
  obtain ⟨V', ro', f', g1, g2, g3, g4, g5⟩ := rd_loop (fun v3_28 v4_28 ro_28 => (if v3_28 = 0 then some (1, ro_28) else some (0, ro_28))) (fun v3_23 v4_23 m_digits_23 => (if v3_23 = 0 then some (1, m_digits_23) else some (0, m_digits_23))) N (by omega) N 5000 5000 V (ro.1, nI N) f (Nat.le_refl N) (by omega) (by omega) hV (fun i h1 h2 => by omega)
  have m1 : fX5_read (nI V) (nI N) ro = (if nI V' = 0 then some (1, ro') else some (0, ro')) := by
    rw [fX5_read, if_neg c1, cm_let, if_neg c2]; exact g2
  have m2 : fX11_layRow (nI V) (nI N) f = (if nI V' = 0 then some (1, f') else some (0, f')) := by
    rw [fX11_layRow, q, cm_let, if_neg c2, if_pos c3]; exact g3
  rw [m1, m2]
  by_cases c4 : nI V' = 0
  · rw [if_pos c4, if_pos c4]
    exact ⟨1, ro', f', rfl, rfl, Or.inr ⟨rfl, N, by omega, by omega, rfl, g4, g5⟩⟩
  · rw [if_neg c4, if_neg c4]
    exact ⟨0, ro', f', rfl, rfl, Or.inl rfl⟩
