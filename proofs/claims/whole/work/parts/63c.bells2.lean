/-! Bells: the class. -/
theorem bn_next : ∀ m, m < 13 → ∀ k, k < 13 → bn m k * (m - k) / (k + 1) = bn m (k + 1) := by decide +kernel
theorem upL_eq (f : Nat → Int64) (k : Nat) (x : Int64) (j : Nat) : vp_updL f k x j = if j = k then x else f j := rfl
theorem lstep {m k : Nat} (hm : m < 13) (hk : k ≤ m) : lN (bn m k) * (nI m - nI k).toInt64 / (nI k + 1).toInt64 = lN (bn m (k + 1)) := by
  have h1 := bn_le m hm k (by omega)
  have h2 : bn m k * (m - k) ≤ 924 * 12 := Nat.mul_le_mul h1 (by omega)
  rw [pk_sub hk, nI_1, nI_l (by omega), nI_l (by omega), lN_mul, pk_lDiv (by omega) (by omega) (by omega), bn_next m hm k (by omega)]
theorem lnz {k : Nat} (hk : k < 100) : ¬ (nI k + 1).toInt64 = 0 := by
  rw [nI_1, nI_l (by omega)]
  intro e
  have := (lN_eq (a := k + 1) (b := 0) (by omega) (by omega)).mp e
  omega
theorem ad_L20 {e m : Nat} (he : e < 100) (hm : m < 13) {u : Nat → Nat} {be : Nat → Int64} (hu : ∀ j, j ≤ m → be j = lN (u j)) (kx : Int64 → Int64 → Int32 → Option (Nat → Int64)) : ∀ (d k n : Nat), k + d = m + 1 → d < n → fX0_addDay_L20 (nI e) (nI m) be kx n (lN (su (fun k => if e ≤ k ∧ k ≤ m then bn m k * u (m - k) else 0) k)) (lN (bn m k)) (nI k) = kx (lN (Dy e u m)) (lN (bn m (m + 1))) (nI (m + 1)) := by
  intro d
  induction d with
  | zero =>
    intro k n hk hn
    obtain ⟨n, rfl⟩ := suc hn
    obtain rfl : k = m + 1 := by omega
    rw [fX0_addDay_L20, if_pos (nI_lt (by omega) (by omega)), Dy, su_cut _ (m + 1) 13 (by omega) (fun i h1 _ => if_neg (by omega))]
  | succ d ih =>
    intro k n hk hn
    obtain ⟨n, rfl⟩ := suc (by omega : 0 < n)
    have hi2 := ih (k + 1) n (by omega) (by omega)
    rw [su] at hi2
    rw [fX0_addDay_L20, if_neg (nI_nlt (by omega) (by omega)), lstep hm (by omega)]
    by_cases c : k < e
    · rw [if_neg (by omega), Nat.add_zero] at hi2
      rw [if_pos (nI_lt c (by omega)), Option.bind_some, if_neg (lnz (by omega)), nI_1]
      exact hi2
    · rw [if_pos (by omega)] at hi2
      have q : (nI m - nI k < 0 ∨ 13 ≤ (nI m - nI k).toNatClampNeg) = False := by
        rw [pk_sub (by omega), clm (by omega)]; exact ixc (by omega) (by omega)
      rw [if_neg (nI_nlt (by omega) (by omega)), if_neg (by rw [q]; exact id), Option.bind_some, if_neg (lnz (by omega)), nI_1, pk_sub (by omega), clm (by omega), hu _ (by omega), lN_mul, lN_add]
      exact hi2
theorem ad_L7 {e L : Nat} (he : e < 100) (hL : L < 13) {u : Nat → Nat} (kx : Int32 → (Nat → Int64) → Option (Nat → Int64)) : ∀ (m n : Nat) (be : Nat → Int64), m ≤ L + 1 → m < n → (∀ j, m ≤ j → j ≤ L → be j = lN (Dy e u j)) → (∀ j, j < m → be j = lN (u j)) → ∃ be', fX0_addDay_L7 (nI e) kx n (nI m - 1) be = kx (-1) be' ∧ ∀ j, j ≤ L → be' j = lN (Dy e u j) := by
  intro m
  induction m with
  | zero =>
    intro n be hm hn h1 h2
    obtain ⟨n, rfl⟩ := suc hn
    have e0 : nI 0 - 1 = (-1 : Int32) := by decide
    exact ⟨be, by rw [fX0_addDay_L7, e0, if_pos (by decide)], fun j hj => h1 j (by omega) hj⟩
  | succ m ih =>
    intro n be hm hn h1 h2
    obtain ⟨n, rfl⟩ := suc (by omega : 0 < n)
    have e1 : nI m + (-1) = nI m - 1 := by grind
    have l := fun F (hF : m + 1 < F) => ad_L20 (e := e) (m := m) he (by omega) (u := u) (be := be) (fun j hj => h2 j (by omega)) (fun v4_20 v6_20 v8_20 => if nI m < 0 ∨ 13 ≤ (nI m).toNatClampNeg then none else fX0_addDay_L7 (nI e) kx n (nI m + (-1)) (vp_updL be (nI m).toNatClampNeg v4_20)) (m + 1) 0 F (by omega) hF
    have ix : (nI m < 0 ∨ 13 ≤ m) = False := ixc (by omega) (by omega)
    obtain ⟨be', g1, g2⟩ := ih n (vp_updL be m (lN (Dy e u m))) (by omega) (by omega) (fun j h3 h4 => by
      rw [upL_eq]
      by_cases c : j = m
      · rw [if_pos c, c]
      · rw [if_neg c]; exact h1 j (by omega) h4) (fun j hj => by rw [upL_eq, if_neg (by omega)]; exact h2 j (by omega))
    refine ⟨be', ?_, g2⟩
    rw [fX0_addDay_L7, nI_pred, if_neg (nI_pos (by omega))]
    have l5 := l 5000 (by omega)
    rw [su, show bn m 0 = 1 by cases m <;> rfl, show lN 0 = 0 from rfl, show lN 1 = 1 from rfl, nI_0] at l5
    refine Eq.trans l5 ?_
    rw [clm (by omega), if_neg (by rw [ix]; exact id), e1]
    exact g1
theorem ad_ok {e L : Nat} (he : e < 100) (hL : L < 13) {u : Nat → Nat} {be : Nat → Int64} (hu : ∀ j, j ≤ L → be j = lN (u j)) : ∃ be', fX0_addDay (nI L) (nI e) be = some be' ∧ ∀ j, j ≤ L → be' j = lN (Dy e u j) := by
  obtain ⟨be', g1, g2⟩ := ad_L7 he hL (u := u) (fun v3_7 be_7 => some be_7) (L + 1) 5000 be (by omega) (by omega) (fun j h1 h2 => by omega) (fun j hj => hu j (by omega))
  rw [nI_pred] at g1
  refine ⟨be', ?_, g2⟩
  rw [fX0_addDay, if_neg (show ¬ (12 : Int32) < nI L from nI_nlt (a := 12) (by omega) (by omega))]
  exact g1
