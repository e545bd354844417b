theorem sl_tail {s : SSI} {N : Nat} {f : Nat → Int32} (hN : N ≤ 8) (h4 : ∀ i, i < 8 → s.1 i = f (3 * i) - f (3 * i + 1) ∧ s.2.1 i = f (3 * i + 2)) (v : Int32) (ky : Int32 → Int32 → Option Int32) (acc : Int32) {a : Nat} (ha : a ≤ 8) (n : Nat) (hn : 20 ≤ n) : ∃ n', n' + 10 ≥ n ∧ fX11_slates_L4 v (nI N) f ky n acc (nI (10 * a + (9 - a))) = fX11_slates_L4 v (nI N) f ky n' acc (nI (if a = 8 then 81 else 10 * (a + 1))) := by
  by_cases c : a = 8
  · subst c
    exact ⟨n, by omega, rfl⟩
  · rw [if_neg c]
    refine ⟨n - (a + 1), by omega, ?_⟩
    rw [sl_skip hN h4 v ky acc (a + 1) (10 * a + (9 - a)) n (by omega) (by omega) (fun j hj => ?_), show 10 * a + (9 - a) + (a + 1) = 10 * (a + 1) by omega]
    rw [show 10 * a + (9 - a) + j = 10 * a + (9 - a + j) by omega]
    exact gb_out s N (by omega) (by omega)
theorem sl_all {s : SSI} {N : Nat} {f : Nat → Int32} (hN : N ≤ 8) (hs : s.2.2.2 = nI N) (h4 : ∀ i, i < 8 → s.1 i = f (3 * i) - f (3 * i + 1) ∧ s.2.1 i = f (3 * i + 2)) (v : Int32) (hv : ¬ v = -1) : ∀ (d a n n' acc : Nat), a + d = 9 → d < n → 20 * (d + 1) ≤ n' → ∃ r, fX6_slate_L4 v s (fun v2_4 v3_4 => some (-6)) n (nI acc) (nI a) = some r ∧ fX11_slates_L4 v (nI N) f (fun v2_4 v3_4 => (if v = (-1) then some v2_4 else some (-6))) n' (nI acc) (nI (if a = 9 then 81 else 10 * a)) = some r := by
  intro d
  induction d with
  | zero =>
    intro a n n' acc ha hn hn'
    obtain ⟨n, rfl⟩ := suc hn
    obtain ⟨n', rfl⟩ := suc (by omega : 0 < n')
    obtain rfl : a = 9 := by omega
    refine ⟨-6, by rw [fX6_slate_L4, if_pos (by decide)], ?_⟩
    rw [if_pos rfl, fX11_slates_L4, if_pos (by decide), if_neg hv]
  | succ d ih =>
    intro a n n' acc ha hn hn'
    obtain ⟨n, rfl⟩ := suc (by omega : 0 < n)
    have h0 : ¬ (8 : Int32) < nI a := nI_nlt (a := 8) (by omega) (by omega)
    have h9 : ¬ a = 9 := by omega
    rw [if_neg h9, fX6_slate_L4, if_neg h0]
    have row := sl_row hN hs h4 v (fun v2_13 v4_13 => fX6_slate_L4 v s (fun v2_4 v3_4 => some (-6)) n v2_13 (nI a + 1)) (fun v2_4 v3_4 => (if v = (-1) then some v2_4 else some (-6))) (a := a) (by omega) (9 - a) 0 5000 n' acc (by omega) (by omega) (by omega)
    rw [nI_0] at row
    rcases row with ⟨r, q1, q2⟩ | ⟨acc', j, q1, q2, q3⟩
    · exact ⟨r, q1, q2⟩
    · obtain ⟨n2, z1, z2⟩ := sl_tail hN h4 v (fun v2_4 v3_4 => (if v = (-1) then some v2_4 else some (-6))) (nI acc') (a := a) (by omega) (n' - (9 - a)) (by omega)
      obtain ⟨r, w1, w2⟩ := ih (a + 1) n n2 acc' (by omega) (by omega) (by omega)
      refine ⟨r, ?_, ?_⟩
      · rw [q2]; simp only [nI_1]; exact w1
      · simp only [Nat.add_zero] at q3
        rw [q3, z2]
        by_cases c8 : a = 8
        · subst c8; exact w2
        · rw [if_neg c8]; rw [if_neg (by omega)] at w2; exact w2
theorem sc_row {s : SSI} {N : Nat} {f : Nat → Int32} (hN : N ≤ 8) (hs : s.2.2.2 = nI N) (h4 : ∀ i, i < 8 → s.1 i = f (3 * i) - f (3 * i + 1) ∧ s.2.1 i = f (3 * i + 2)) (kx ky : Int32 → Int32 → Option Int32) {a : Nat} (ha : a ≤ 8) : ∀ (e b n n' acc : Nat), a + b + e = 9 → e < n → e ≤ n' → acc + e < 2147483648 →
    ∃ acc' j, acc' ≤ acc + e ∧ fX6_countSlates_L12 (nI a) s kx n (nI acc) (nI b) = kx (nI acc') j ∧ fX11_slates_L4 (-1) (nI N) f ky n' (nI acc) (nI (10 * a + b)) = fX11_slates_L4 (-1) (nI N) f ky (n' - e) (nI acc') (nI (10 * a + b + e)) := by
  intro e
  induction e with
  | zero =>
    intro b n n' acc hb hn hn' hacc
    obtain ⟨n, rfl⟩ := suc hn
    have h0 : (8 : Int32) < nI a + nI b := by rw [nI_add]; exact nI_lt (a := 8) (by omega) (by omega)
    exact ⟨acc, nI b, by omega, by rw [fX6_countSlates_L12, if_pos h0], rfl⟩
  | succ e ih =>
    intro b n n' acc hb hn hn' hacc
    obtain ⟨n, rfl⟩ := suc (by omega : 0 < n)
    obtain ⟨n', rfl⟩ := suc (by omega : 0 < n')
    have h0 : ¬ (8 : Int32) < nI a + nI b := by rw [nI_add]; exact nI_nlt (a := 8) (by omega) (by omega)
    have h1 : ¬ (81 : Int32) ≤ nI (10 * a + b) := nI_ge (b := 81) (by omega) (by decide)
    have g := gb_in s N (a := a) (b := b) (by omega)
    have hm : ¬ nI acc = -1 := by
      have := nI_pos (n := acc) (by omega)
      grind
    rw [fX6_countSlates_L12, if_neg h0, fits_ok hN hs, fX11_slates_L4, if_neg h1, isFit_ok hN h4 (by omega), g]
    cases hf : ftf s (nI a - nI b) N 0 with
    | false =>
      have z : nI acc + 0 = nI acc := by grind
      simp only [Option.bind_some, b1, Bool.false_eq_true, if_false, if_true, nI_1, cm_let, z]
      obtain ⟨acc', j, q1, q2, q3⟩ := ih (b + 1) n n' acc (by omega) (by omega) (by omega) (by omega)
      refine ⟨acc', j, by omega, q2, ?_⟩
      rw [show 10 * a + b + 1 = 10 * a + (b + 1) by omega, q3, show n' + 1 - (e + 1) = n' - e by omega, show 10 * a + (b + 1) + e = 10 * a + b + (e + 1) by omega]
    | true =>
      simp only [Option.bind_some, b1, if_true, n10, if_false, nI_1, cm_let, hm]
      obtain ⟨acc', j, q1, q2, q3⟩ := ih (b + 1) n n' (acc + 1) (by omega) (by omega) (by omega) (by omega)
      refine ⟨acc', j, by omega, q2, ?_⟩
      rw [show 10 * a + b + 1 = 10 * a + (b + 1) by omega, q3, show n' + 1 - (e + 1) = n' - e by omega, show 10 * a + (b + 1) + e = 10 * a + b + (e + 1) by omega]
theorem sc_all {s : SSI} {N : Nat} {f : Nat → Int32} (hN : N ≤ 8) (hs : s.2.2.2 = nI N) (h4 : ∀ i, i < 8 → s.1 i = f (3 * i) - f (3 * i + 1) ∧ s.2.1 i = f (3 * i + 2)) : ∀ (d a n n' acc : Nat), a + d = 9 → d < n → 20 * (d + 1) ≤ n' → acc + 10 * d < 1000 → ∃ r, fX6_countSlates_L4 s (fun v1_4 v2_4 => some v1_4) n (nI acc) (nI a) = some r ∧ fX11_slates_L4 (-1) (nI N) f (fun v2_4 v3_4 => (if (-1 : Int32) = (-1) then some v2_4 else some (-6))) n' (nI acc) (nI (if a = 9 then 81 else 10 * a)) = some r := by
  intro d
  induction d with
  | zero =>
    intro a n n' acc ha hn hn' hacc
    obtain ⟨n, rfl⟩ := suc hn
    obtain ⟨n', rfl⟩ := suc (by omega : 0 < n')
    obtain rfl : a = 9 := by omega
    refine ⟨nI acc, by rw [fX6_countSlates_L4, if_pos (by decide)], ?_⟩
    rw [if_pos rfl, fX11_slates_L4, if_pos (by decide), if_pos rfl]
  | succ d ih =>
    intro a n n' acc ha hn hn' hacc
    obtain ⟨n, rfl⟩ := suc (by omega : 0 < n)
    have h0 : ¬ (8 : Int32) < nI a := nI_nlt (a := 8) (by omega) (by omega)
    have h9 : ¬ a = 9 := by omega
    rw [if_neg h9, fX6_countSlates_L4, if_neg h0]
    have row := sc_row hN hs h4 (fun v1_12 v3_12 => fX6_countSlates_L4 s (fun v1_4 v2_4 => some v1_4) n v1_12 (nI a + 1)) (fun v2_4 v3_4 => (if (-1 : Int32) = (-1) then some v2_4 else some (-6))) (a := a) (by omega) (9 - a) 0 5000 n' acc (by omega) (by omega) (by omega) (by omega)
    rw [nI_0] at row
    obtain ⟨acc', j, q1, q2, q3⟩ := row
    obtain ⟨n2, z1, z2⟩ := sl_tail hN h4 (-1) (fun v2_4 v3_4 => (if (-1 : Int32) = (-1) then some v2_4 else some (-6))) (nI acc') (a := a) (by omega) (n' - (9 - a)) (by omega)
    obtain ⟨r, w1, w2⟩ := ih (a + 1) n n2 acc' (by omega) (by omega) (by omega) (by omega)
    refine ⟨r, ?_, ?_⟩
    · rw [q2]; simp only [nI_1]; exact w1
    · rw [Nat.add_zero] at q3
      rw [q3, z2]
      by_cases c8 : a = 8
      · subst c8; exact w2
      · rw [if_neg c8]; rw [if_neg (by omega)] at w2; exact w2
theorem op_slates {s : SSI} {n : Int32} {f : Nat → Int32} (h : RS s n f) (v : Int32) : ∃ r, fX10_slates v s = some r ∧ fX11_slates v n f = some r := by
  obtain ⟨h1, h2, h3, h4⟩ := h
  obtain ⟨N, hN, rfl⟩ := nI_of2 (x := n) (M := 8) (n := 8) (by decide) (by grind) h3
  by_cases c : v = -1
  · subst c
    obtain ⟨r, q1, q2⟩ := sc_all hN h1 h4 9 0 5000 5000 0 (by omega) (by omega) (by omega) (by omega)
    rw [if_neg (by omega), nI_0] at q2
    rw [nI_0] at q1
    refine ⟨r, ?_, ?_⟩
    · simp only [fX10_slates, if_true, fX6_countSlates, q1, Option.bind_some]
    · rw [fX11_slates]; exact q2
  · obtain ⟨r, q1, q2⟩ := sl_all hN h1 h4 v c 9 0 5000 5000 0 (by omega) (by omega) (by omega)
    rw [if_neg (by omega), nI_0] at q2
    rw [nI_0] at q1
    refine ⟨r, ?_, ?_⟩
    · simp only [fX10_slates, c, if_false, fX6_slate, q1, Option.bind_some]
    · rw [fX11_slates]; exact q2
