/-! Lowest terms. -/
theorem gstep {a b n : Nat} {j : Nat} (ha : a < 2 ^ 63) (hb : b < 2 ^ 63) (h0 : 0 < b) (hj : j < 1000) (kx : Int64 → Int64 → Int32 → Option Int64) : fX10_commonDivisor_L9 kx (n + 1) (lN a) (lN b) (nI j) = fX10_commonDivisor_L9 kx n (lN b) (lN (a % b)) (nI (j + 1)) := by
  have z : ¬ lN b = 0 := fun e => by have := (pk_lEQ hb (by omega : 0 < 2 ^ 63)).mp e; omega
  have z2 : ¬ lg_cmp (lN b) 0 = 0 := fun e => z ((lg_cmp_eq _ _).mp e)
  rw [fX10_commonDivisor_L9, if_neg (show ¬ (1000 : Int32) ≤ nI j from nI_ge (b := 1000) hj (by decide)), if_neg z2, if_neg z, nI_1, show lrm (lN a) (lN b) = lN (a % b) from pk_lRem ha h0 hb]
theorem gstop {a n : Nat} {j : Nat} (hj : j < 1000) (kx : Int64 → Int64 → Int32 → Option Int64) : fX10_commonDivisor_L9 kx (n + 1) (lN a) (lN 0) (nI j) = kx (lN a) (lN 0) (nI j) := by
  rw [fX10_commonDivisor_L9, if_neg (show ¬ (1000 : Int32) ≤ nI j from nI_ge (b := 1000) hj (by decide)), if_pos (show lg_cmp (lN 0) 0 = 0 by decide)]
theorem hstep {a b n : Nat} (ha : a < 2 ^ 63) (hb : b < 2 ^ 63) (h0 : 0 < b) (kx : Int64 → Int64 → Option Int64) : fX11_lowest_L6 kx (n + 1) (lN a) (lN b) = fX11_lowest_L6 kx n (lN b) (lN (a % b)) := by
  have z : ¬ lN b = 0 := fun e => by have := (pk_lEQ hb (by omega : 0 < 2 ^ 63)).mp e; omega
  have z2 : ¬ lg_cmp (lN b) 0 = 0 := fun e => z ((lg_cmp_eq _ _).mp e)
  rw [fX11_lowest_L6, if_neg z2, if_neg z, show lrm (lN a) (lN b) = lN (a % b) from pk_lRem ha h0 hb]
theorem hstop {a n : Nat} (kx : Int64 → Int64 → Option Int64) : fX11_lowest_L6 kx (n + 1) (lN a) (lN 0) = kx (lN a) (lN 0) := by
  rw [fX11_lowest_L6, if_pos (show lg_cmp (lN 0) 0 = 0 by decide)]
theorem gcd_run (kx : Int64 → Int64 → Int32 → Option Int64) (ky : Int64 → Int64 → Option Int64) : ∀ (k a b j n n' : Nat), k ≤ 63 → a < 2 ^ 63 → b < 2 ^ k → j + 2 * k < 1000 → 2 * k < n → 2 * k < n' → ∃ j', fX10_commonDivisor_L9 kx n (lN a) (lN b) (nI j) = kx (lN (Nat.gcd a b)) (lN 0) j' ∧ fX11_lowest_L6 ky n' (lN a) (lN b) = ky (lN (Nat.gcd a b)) (lN 0) := by
  intro k
  induction k with
  | zero =>
    intro a b j n n' hk ha hb hj hn hn'
    obtain ⟨n, rfl⟩ := suc hn
    obtain ⟨n', rfl⟩ := suc hn'
    obtain rfl : b = 0 := by omega
    exact ⟨_, by rw [gstop (by omega), Nat.gcd_zero_right], by rw [hstop, Nat.gcd_zero_right]⟩
  | succ k ih =>
    intro a b j n n' hk ha hb hj hn hn'
    obtain ⟨n, rfl⟩ := suc (by omega : 0 < n)
    obtain ⟨n', rfl⟩ := suc (by omega : 0 < n')
    have hb2 : b < 2 ^ 63 := Nat.lt_of_lt_of_le hb (Nat.pow_le_pow_right (by omega) hk)
    rcases Nat.eq_zero_or_pos b with rfl | h0
    · exact ⟨_, by rw [gstop (by omega), Nat.gcd_zero_right], by rw [hstop, Nat.gcd_zero_right]⟩
    · have hr := Nat.mod_lt a h0
      have e : Nat.gcd a b = Nat.gcd b (a % b) := by rw [Nat.gcd_comm a b, Nat.gcd_rec b a, Nat.gcd_comm]
      rw [gstep ha hb2 h0 (by omega), hstep ha hb2 h0, e]
      obtain ⟨n, rfl⟩ := suc (by omega : 0 < n)
      obtain ⟨n', rfl⟩ := suc (by omega : 0 < n')
      generalize a % b = r at hr ⊢
      rcases Nat.eq_zero_or_pos r with rfl | h1
      · exact ⟨_, by rw [gstop (by omega), Nat.gcd_zero_right], by rw [hstop, Nat.gcd_zero_right]⟩
      · have hr2 := Nat.mod_lt b h1
        have hr3 : b % r + r ≤ b := by
          have := Nat.mod_add_div b r
          have h3 : 1 ≤ b / r := (Nat.le_div_iff_mul_le h1).mpr (by omega)
          have h4 : r * 1 ≤ r * (b / r) := Nat.mul_le_mul_left r h3
          omega
        have e2 : Nat.gcd b r = Nat.gcd r (b % r) := by rw [Nat.gcd_comm b r, Nat.gcd_rec r b, Nat.gcd_comm]
        rw [gstep hb2 (by omega) h1 (by omega), hstep hb2 (by omega) h1, e2]
        rw [Nat.pow_succ] at hb
        exact ih r (b % r) (j + 1 + 1) n n' (by omega) (by omega) (by omega) (by omega) (by omega) (by omega)
/-- both sides write a fraction in lowest terms -/
theorem low_ok {a b : Nat} (ha : a < 2 ^ 63) (h0 : 0 < b) (hb : b < 2 ^ 63) (v : Int32) : ∃ r, fX10_inLowestTerms (lN a) (lN b) v = some r ∧ fX11_lowest (lN a) (lN b) v = some r := by
  obtain ⟨j', g1, g2⟩ := gcd_run (fun v4_9 v6_9 v8_9 => some v4_9) (fun v5_6 v7_6 => (if v = 0 then if v5_6 = 0 then none else some (lN a / v5_6) else if v5_6 = 0 then none else some (lN b / v5_6))) 63 a b 0 5000 5000 (by omega) ha hb (by omega) (by omega) (by omega)
  rw [nI_0] at g1
  have hg0 : 0 < Nat.gcd a b := Nat.gcd_pos_of_pos_right a h0
  have hg1 : Nat.gcd a b ≤ b := Nat.gcd_le_right a h0
  have z : ¬ lN (Nat.gcd a b) = 0 := fun e => by have := (pk_lEQ (by omega) (by omega : 0 < 2 ^ 63)).mp e; omega
  refine ⟨if v = 0 then lN (a / Nat.gcd a b) else lN (b / Nat.gcd a b), ?_, ?_⟩
  · rw [fX10_inLowestTerms, fX10_commonDivisor, g1, Option.bind_some, cm_let]
    by_cases c : Nat.gcd a b ≤ 1
    · have e1 : Nat.gcd a b = 1 := by omega
      rw [if_pos (show lg_cmp (lN (Nat.gcd a b)) 1 ≤ 0 from (lg_cmp_le _ _).mpr ((pk_lLE (b := 1) (by omega) (by omega)).mpr c)), e1, Nat.div_one, Nat.div_one]
    · rw [if_neg (show ¬ lg_cmp (lN (Nat.gcd a b)) 1 ≤ 0 from fun q => c ((pk_lLE (b := 1) (by omega) (by omega)).mp ((lg_cmp_le _ _).mp q))), if_neg z]
      by_cases d : v = 0
      · rw [if_pos d, if_pos d, pk_lDiv ha hg0 (by omega)]
      · rw [if_neg d, if_neg d, pk_lDiv hb hg0 (by omega)]
  · rw [fX11_lowest, g2, if_neg z]
    by_cases d : v = 0
    · rw [if_pos d, if_pos d, pk_lDiv ha hg0 (by omega)]
    · rw [if_neg d, if_neg d, if_neg z, pk_lDiv hb hg0 (by omega)]
