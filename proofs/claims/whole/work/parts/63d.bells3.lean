/-! Bells: the class counts. -/
theorem bg_L9 (kx : Int32 → (Nat → Int64) → Option (Nat → Int64)) : ∀ (d t n : Nat) (be : Nat → Int64), t + d = 13 → 0 < t → d < n → (∀ s, s < t → be s = lN (if s = 0 then 1 else 0)) → ∃ be', fX0_begin_L9 kx n (nI t) be = kx 13 be' ∧ ∀ s, s < 13 → be' s = lN (if s = 0 then 1 else 0) := by
  intro d
  induction d with
  | zero =>
    intro t n be ht h0 hn h
    obtain ⟨n, rfl⟩ := suc hn
    obtain rfl : t = 13 := by omega
    exact ⟨be, by rw [fX0_begin_L9, if_pos (by decide)]; rfl, h⟩
  | succ d ih =>
    intro t n be ht h0 hn h
    obtain ⟨n, rfl⟩ := suc (by omega : 0 < n)
    have c1 : ¬ (12 : Int32) < nI t := nI_nlt (a := 12) (by omega) (by omega)
    rw [fX0_begin_L9, if_neg c1]
    simp (disch := omega) only [clm, ixc, if_false, nI_1]
    refine ih (t + 1) n _ (by omega) (by omega) (by omega) (fun s hs => ?_)
    rw [upL_eq]
    by_cases c : s = t
    · rw [if_pos c, if_neg (by omega)]; rfl
    · rw [if_neg c]; exact h s (by omega)
theorem bg_ok (be : Nat → Int64) (d c : Nat) : ∃ be', fX0_begin be = some be' ∧ ∀ s, s < 13 → be' s = lN (Ud d c 0 s) := by
  obtain ⟨be', g1, g2⟩ := bg_L9 (fun v1_9 be_9 => some be_9) 12 1 5000 (vp_updL be 0 1) (by omega) (by omega) (by omega) (fun s hs => by
    obtain rfl : s = 0 := by omega
    rfl)
  exact ⟨be', by rw [fX0_begin]; exact g1, g2⟩
theorem ch_L5 {n0 c : Nat} (hn0 : n0 < 13) (hc : c ≤ n0) (kx : Int64 → Int32 → Option Int64) : ∀ (d k n : Nat), k + d = c → d < n → fX0_choices_L5 (nI n0) (nI c) kx n (lN (bn n0 k)) (nI k) = kx (lN (bn n0 c)) (nI c) := by
  intro d
  induction d with
  | zero =>
    intro k n hk hn
    obtain ⟨n, rfl⟩ := suc hn
    obtain rfl : k = c := by omega
    rw [fX0_choices_L5, if_pos (Int32.le_refl _)]
  | succ d ih =>
    intro k n hk hn
    obtain ⟨n, rfl⟩ := suc (by omega : 0 < n)
    rw [fX0_choices_L5, if_neg (nI_ge (by omega) (by omega)), if_neg (lnz (by omega)), lstep hn0 (by omega), nI_1]
    exact ih (k + 1) n (by omega) (by omega)
theorem bn_0 (m : Nat) : bn m 0 = 1 := by cases m <;> rfl
theorem ch_ok {n0 c : Nat} (hn0 : n0 < 13) (hc : c ≤ n0) : fX0_choices (nI n0) (nI c) = some (lN (bn n0 c)) := by
  have := ch_L5 hn0 hc (fun v2_5 v4_5 => some v2_5) c 0 5000 (by omega) (by omega)
  rw [bn_0, show lN 1 = 1 from rfl, nI_0] at this
  rw [fX0_choices]; exact this
theorem wo_ok {m : Nat} (hm : m < 13) (be : Nat → Int64) : fX0_waysOf (nI m) be = some (be m) := by
  have b1 : ¬ nI m < 0 := nI_pos (by omega)
  have b2 : ¬ (12 : Int32) < nI m := nI_nlt (a := 12) (by omega) (by omega)
  rw [fX0_waysOf, fX10_isWithin, if_neg b1, if_neg b2, cm_let, if_neg (show ¬ (1 : Int32) = 0 by decide)]
  simp (disch := omega) only [clm, ixc, if_false]
theorem wr_L27 {n0 v d c : Nat} (hn0 : n0 < 13) (hv : v < 8) (hd : d < 8) (hc : c ≤ n0) (kx : Int32 → (Nat → Int64) → Option (Int64 × (Nat → Int64))) : ∀ (r o n : Nat) (be : Nat → Int64), o + r = v → r < n → (∀ j, j ≤ n0 - c → be j = lN (Ud d c o j)) → ∃ be', fX0_waysToRing_L27 (nI n0) (nI v) (nI d) (nI c) kx n (nI o) be = kx (nI v) be' ∧ ∀ j, j ≤ n0 - c → be' j = lN (Ud d c v j) := by
  intro r
  induction r with
  | zero =>
    intro o n be ho hn h
    obtain ⟨n, rfl⟩ := suc hn
    obtain rfl : o = v := by omega
    exact ⟨be, by rw [fX0_waysToRing_L27, if_pos (Int32.le_refl _)], h⟩
  | succ r ih =>
    intro o n be ho hn h
    obtain ⟨n, rfl⟩ := suc (by omega : 0 < n)
    rw [fX0_waysToRing_L27, if_neg (nI_ge (by omega) (by omega))]
    by_cases q : o = d
    · rw [if_pos (by rw [q]), nI_1]
      exact ih (o + 1) n be (by omega) (by omega) (fun j hj => by rw [h j hj, Ud, if_pos q])
    · have hnd := nd_le d c o
      obtain ⟨be1, k1, k2⟩ := ad_ok (e := nd d c o) (L := n0 - c) (by omega) (by omega) (u := Ud d c o) h
      rw [if_neg (fun z => q ((nI_eq (by omega) (by omega)).mp z)), leastB (by omega) (by omega) q, cm_let, pk_sub hc, k1, Option.bind_some, nI_1]
      exact ih (o + 1) n be1 (by omega) (by omega) (fun j hj => by rw [k2 j hj, Ud, if_neg q])
theorem wr_L6 {n0 v d : Nat} (hn0 : n0 < 13) (hv : v < 8) (hd : d < v) (kx : Int64 → Int32 → (Nat → Int64) → Option (Int64 × (Nat → Int64))) : ∀ (r c n : Nat) (be : Nat → Int64), c + r = n0 + 1 → r < n → ∃ c' be', fX0_waysToRing_L6 (nI n0) (nI v) (nI d) kx n (lN (su (fun c => bn n0 c * Ud d c v (n0 - c)) c)) (nI c) be = kx (lN (Wr n0 v d)) c' be' := by
  intro r
  induction r with
  | zero =>
    intro c n be hc hn
    obtain ⟨n, rfl⟩ := suc hn
    obtain rfl : c = n0 + 1 := by omega
    exact ⟨_, be, by rw [fX0_waysToRing_L6, if_pos (nI_lt (by omega) (by omega))]; rfl⟩
  | succ r ih =>
    intro c n be hc hn
    obtain ⟨n, rfl⟩ := suc (by omega : 0 < n)
    have hcv : c * v ≤ 12 * 7 := Nat.mul_le_mul (by omega) (by omega)
    rw [fX0_waysToRing_L6, if_neg (nI_nlt (by omega) (by omega)), pk_mul]
    by_cases q : n0 < c * v
    · rw [if_pos (nI_lt q (by omega))]
      refine ⟨nI c, be, ?_⟩
      rw [Wr, su_cut _ c (n0 + 1) (by omega) (fun i h1 h2 => by
        rw [Ud_over hd (by omega) (Nat.lt_of_lt_of_le q (Nat.mul_le_mul_right v h1)), Nat.mul_zero])]
    · rw [if_neg (nI_nlt (by omega) (by omega))]
      obtain ⟨be1, k1, k2⟩ := bg_ok be d c
      obtain ⟨be2, l1, l2⟩ := wr_L27 (v := v) (d := d) hn0 hv (by omega) (show c ≤ n0 by omega) (fun v7_27 be_27 => Option.bind (fX0_choices (nI n0) (nI c)) (fun u66 => Option.bind (fX0_waysOf (nI n0 - nI c) be_27) (fun u74 => fX0_waysToRing_L6 (nI n0) (nI v) (nI d) kx n ((lN (su (fun c => bn n0 c * Ud d c v (n0 - c)) c)) + (u66 * u74)) (nI c + 1) be_27))) v 0 5000 be1 (by omega) (by omega) (fun j hj => k2 j (by omega))
      rw [nI_0] at l1
      rw [k1, Option.bind_some, l1, ch_ok hn0 (by omega), Option.bind_some, pk_sub (by omega), wo_ok (by omega), Option.bind_some, l2 _ (by omega), lN_mul, lN_add, nI_1]
      exact ih (c + 1) n be2 (by omega) (by omega)
theorem wr_ok {n0 v d : Nat} (hn0 : n0 < 13) (hv : v < 8) (hd : d < v) (be : Nat → Int64) : ∃ be', fX0_waysToRing (nI n0) (nI v) (nI d) be = some (lN (Wr n0 v d), be') := by
  obtain ⟨c', be', g⟩ := wr_L6 hn0 hv hd (fun v4_6 v6_6 be_6 => some (v4_6, be_6)) (n0 + 1) 0 5000 be (by omega) (by omega)
  rw [su, show lN 0 = 0 from rfl, nI_0] at g
  exact ⟨be', by rw [fX0_waysToRing]; exact g⟩
theorem pw_L5 {a n0 : Nat} (ha : a < 100) (hn0 : n0 < 100) (kx : Int64 → Int32 → Option Int64) : ∀ (d k n : Nat), k + d = n0 → d < n → fX10_power_L5 (nI a) (nI n0) kx n (lN (a ^ k)) (nI k) = kx (lN (a ^ n0)) (nI n0) := by
  intro d
  induction d with
  | zero =>
    intro k n hk hn
    obtain ⟨n, rfl⟩ := suc hn
    obtain rfl : k = n0 := by omega
    rw [fX10_power_L5, if_pos (Int32.le_refl _)]
  | succ d ih =>
    intro k n hk hn
    obtain ⟨n, rfl⟩ := suc (by omega : 0 < n)
    rw [fX10_power_L5, if_neg (nI_ge (by omega) (by omega)), nI_l (by omega), lN_mul, nI_1, ← Nat.pow_succ]
    exact ih (k + 1) n (by omega) (by omega)
theorem pw_ok {a n0 : Nat} (ha : a < 100) (hn0 : n0 < 100) : fX10_power (nI a) (nI n0) = some (lN (a ^ n0)) := by
  have := pw_L5 ha hn0 (fun v2_5 v4_5 => some v2_5) n0 0 5000 (by omega) (by omega)
  rw [Nat.pow_zero, show lN 1 = 1 from rfl, nI_0] at this
  rw [fX10_power]; exact this
