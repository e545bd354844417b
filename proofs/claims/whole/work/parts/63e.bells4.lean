/-! Bells: the model. -/
abbrev RT3 : Type := Option (Int64 × (Nat → Int64) × (Nat → Int64) × (Nat → Int64))
theorem mp_L64 {n0 v : Nat} (hn0 : n0 < 13) (hv : v < 8) (hv0 : 0 < v) (kx : Int64 → Int64 → Int32 → RT3) : ∀ (d k n : Nat), k + d = n0 → d < n → fX11_rung_L64 (nI n0) (nI v) kx n (lN (v ^ k)) (lN ((v - 1) ^ k)) (nI k) = kx (lN (v ^ n0)) (lN ((v - 1) ^ n0)) (nI n0) := by
  intro d
  induction d with
  | zero =>
    intro k n hk hn
    obtain ⟨n, rfl⟩ := suc hn
    obtain rfl : k = n0 := by omega
    rw [fX11_rung_L64, if_pos (Int32.le_refl _)]
  | succ d ih =>
    intro k n hk hn
    obtain ⟨n, rfl⟩ := suc (by omega : 0 < n)
    have e1 : nI v - 1 = nI (v - 1) := pk_sub (b := 1) hv0
    rw [fX11_rung_L64, if_neg (nI_ge (by omega) (by omega)), e1, nI_l (by omega), nI_l (by omega), lN_mul, lN_mul, nI_1, ← Nat.pow_succ, ← Nat.pow_succ]
    exact ih (k + 1) n (by omega) (by omega)
def bT (i : Nat) : Nat := bn (i / 13) (i % 13)
theorem bT_0 : ∀ i, i < 169 → i % 13 = 0 → bT i = 1 := by decide +kernel
theorem bT_1 : ∀ i, i < 169 → ¬ i % 13 = 0 → 13 ≤ i → bT i = bT (i - 13) + bT (i - 14) := by decide +kernel
theorem bT_2 : ∀ i, i < 13 → ¬ i % 13 = 0 → bT i = 0 := by decide +kernel
theorem irm13 {j : Nat} (h : j < 2147483648) : irm (nI j) 13 = nI (j % 13) := irmN (d := 13) h (by decide) (by decide)
theorem mc_L111 (kx : Int32 → (Nat → Int64) → RT3) : ∀ (d t n : Nat) (f : Nat → Int64), t + d = 169 → d < n → (∀ s, s < t → f s = lN (bT s)) → ∃ f', fX11_rung_L111 kx n (nI t) f = kx 169 f' ∧ ∀ s, s < 169 → f' s = lN (bT s) := by
  intro d
  induction d with
  | zero =>
    intro t n f ht hn h
    obtain ⟨n, rfl⟩ := suc hn
    obtain rfl : t = 169 := by omega
    exact ⟨f, by rw [fX11_rung_L111, if_pos (by decide)]; rfl, h⟩
  | succ d ih =>
    intro t n f ht hn h
    obtain ⟨n, rfl⟩ := suc (by omega : 0 < n)
    have c1 : ¬ (169 : Int32) ≤ nI t := nI_ge (b := 169) (by omega) (by decide)
    have fin : ∀ z, z = lN (bT t) → ∃ f', fX11_rung_L111 kx n (nI (t + 1)) (vp_updL f t z) = kx 169 f' ∧ ∀ s, s < 169 → f' s = lN (bT s) := fun z hz => by
      refine ih (t + 1) n _ (by omega) (by omega) (fun s hs => ?_)
      rw [upL_eq]
      by_cases c : s = t
      · rw [if_pos c, c, hz]
      · rw [if_neg c]; exact h s (by omega)
    rw [fX11_rung_L111, if_neg c1, irm13 (by omega), nI_1, clm (by omega)]
    have ix : (nI t < 0 ∨ 169 ≤ t) = False := ixc (by omega) (by omega)
    by_cases c2 : t % 13 = 0
    · rw [if_pos (by rw [c2]; rfl), if_neg (by rw [ix]; exact id)]
      exact fin 1 (by rw [bT_0 t (by omega) c2]; rfl)
    · have p2 : ¬ nI (t % 13) = 0 := nI_ne0 (by omega) (by omega)
      rw [if_neg p2]
      by_cases c3 : 13 ≤ t
      · have e13 : nI t - 13 = nI (t - 13) := pk_sub (b := 13) c3
        have e14 : nI t - 14 = nI (t - 14) := pk_sub (b := 14) (by omega)
        rw [if_pos (show (13 : Int32) ≤ nI t from nI_le (a := 13) c3 (by omega)), e13, e14, clm (by omega), clm (by omega)]
        rw [if_neg (by rw [ixc (by omega) (by omega)]; exact id), if_neg (by rw [ixc (by omega) (by omega)]; exact id), if_neg (by rw [ix]; exact id)]
        exact fin _ (by rw [h _ (by omega), h _ (by omega), lN_add, ← bT_1 t (by omega) c2 c3])
      · rw [if_neg (show ¬ (13 : Int32) ≤ nI t from nI_ge (b := 13) (by omega) (by decide)), if_neg (by rw [ix]; exact id)]
        exact fin 0 (by rw [bT_2 t (by omega) c2]; rfl)
