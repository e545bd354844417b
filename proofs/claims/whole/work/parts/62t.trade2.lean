/-! One market of a trade. -/
def trW (K : Nat) (p : Int32) (w i : Nat → Int32) (t : Nat) : Int32 := if 0 < t ∧ t ≤ K then (if w t < i t + p then i t + p else w t) else w t
def trI (K : Nat) (p : Int32) (w i : Nat → Int32) (t : Nat) : Int32 := if 0 < t ∧ t ≤ K then (if i t < trW K p w i (t - 1) - p then trW K p w i (t - 1) - p else i t) else i t
theorem gm_L2 {K : Nat} (hK : K ≤ 9) (p : Int32) (w i : Nat → Int32) (kx : Int32 → STD → Option STD) : ∀ (d t n : Nat) (td : STD), t + d = K → d + 1 < n → (∀ s, s < t + 1 → td.1 s = trW K p w i s ∧ td.2 s = trI K p w i s) → (∀ s, t + 1 ≤ s → s < 10 → td.1 s = w s ∧ td.2 s = i s) →
    ∃ td', fX7_goToMarket_L2 p (nI K) kx n (nI (t + 1)) td = kx (nI (K + 1)) td' ∧ ∀ s, s < 10 → td'.1 s = trW K p w i s ∧ td'.2 s = trI K p w i s := by
  intro d
  induction d with
  | zero =>
    intro t n td ht hn h1 h2
    obtain ⟨n, rfl⟩ := suc (by omega : 0 < n)
    obtain rfl : t = K := by omega
    refine ⟨td, by rw [fX7_goToMarket_L2, if_pos (nI_lt (by omega) (by omega))], fun s hs => ?_⟩
    rcases Nat.lt_or_ge s (t + 1) with c | c
    · exact h1 s c
    · have := h2 s c hs
      rw [this.1, this.2]
      unfold trW trI
      rw [if_neg (by omega), if_neg (by omega)]
      exact ⟨rfl, rfl⟩
  | succ d ih =>
    intro t n td ht hn h1 h2
    obtain ⟨n, rfl⟩ := suc (by omega : 0 < n)
    have a1 : ¬ nI K < nI (t + 1) := nI_nlt (by omega) (by omega)
    have a2 : ¬ (9 : Int32) < nI (t + 1) := nI_nlt (a := 9) (by omega) (by omega)
    have b1 := h1 t (by omega)
    have b2 := h2 (t + 1) (by omega) (by omega)
    have hW : trW K p w i (t + 1) = (if w (t + 1) < i (t + 1) + p then i (t + 1) + p else w (t + 1)) := by rw [trW, if_pos (by omega)]
    have hI : trI K p w i (t + 1) = (if i (t + 1) < trW K p w i t - p then trW K p w i t - p else i (t + 1)) := by rw [trI, if_pos (by omega), Nat.add_sub_cancel]
    rw [fX7_goToMarket_L2, if_neg a1, if_neg a2]
    have ne : ¬ t = t + 1 := by omega
    simp (disch := omega) only [clm, ixc, if_false, nI_pred, up_eq, ne, b1.1, b2.1, b2.2, ← hW, ← hI, nI_1]
    refine ih (t + 1) n _ (by omega) (by omega) (fun s hs => ?_) (fun s hs hs2 => ?_)
    · simp only [up_eq]
      by_cases c : s = t + 1
      · rw [if_pos c, if_pos c, c]; exact ⟨rfl, rfl⟩
      · rw [if_neg c, if_neg c]; exact h1 s (by omega)
    · simp only [up_eq]
      rw [if_neg (by omega), if_neg (by omega)]
      exact h2 s (by omega) hs2
theorem gm_ok {K : Nat} (hK : K ≤ 9) (p : Int32) (td : STD) : ∃ td', fX7_goToMarket p (nI K) td = some td' ∧ ∀ s, s < 10 → td'.1 s = trW K p td.1 td.2 s ∧ td'.2 s = trI K p td.1 td.2 s := by
  obtain ⟨td', g1, g2⟩ := gm_L2 hK p td.1 td.2 (fun v3_2 td_2 => some td_2) K 0 5000 td (by omega) (by omega) (fun s hs => by
    obtain rfl : s = 0 := by omega
    unfold trW trI
    rw [if_neg (by omega), if_neg (by omega)]
    exact ⟨rfl, rfl⟩) (fun s _ _ => ⟨rfl, rfl⟩)
  exact ⟨td', by rw [fX7_goToMarket]; exact g1, g2⟩
def tmW (K : Nat) (p : Int32) (w i : Nat → Int32) (t : Nat) : Int32 := if 0 < t ∧ t ≤ K then (if i t + p ≤ w t then w t else i t + p) else w t
def tmI (K : Nat) (p : Int32) (w i : Nat → Int32) (t : Nat) : Int32 := if 0 < t ∧ t ≤ K then (if tmW K p w i (t - 1) - p ≤ i t then i t else tmW K p w i (t - 1) - p) else i t
theorem mm_L77 {K : Nat} (hK : K ≤ 9) {D : Nat} (hD : D < 9) (w i f : Nat → Int32) (kx : Int32 → (Nat → Int32) → (Nat → Int32) → Option (Int32 × (Nat → Int32) × (Nat → Int32) × (Nat → Int32))) : ∀ (d t n : Nat) (a b : Nat → Int32), t + d = K → d + 1 < n → (∀ s, s < t + 1 → a s = tmW K (f D) w i s ∧ b s = tmI K (f D) w i s) → (∀ s, t + 1 ≤ s → s < 10 → a s = w s ∧ b s = i s) →
    ∃ a' b', fX11_trade_L77 (nI K) (nI D) f kx n (nI (t + 1)) a b = kx (nI (K + 1)) a' b' ∧ ∀ s, s < 10 → a' s = tmW K (f D) w i s ∧ b' s = tmI K (f D) w i s := by
  intro d
  induction d with
  | zero =>
    intro t n a b ht hn h1 h2
    obtain ⟨n, rfl⟩ := suc (by omega : 0 < n)
    obtain rfl : t = K := by omega
    refine ⟨a, b, by rw [fX11_trade_L77, if_pos (nI_lt (by omega) (by omega))], fun s hs => ?_⟩
    rcases Nat.lt_or_ge s (t + 1) with c | c
    · exact h1 s c
    · have := h2 s c hs
      rw [this.1, this.2]
      unfold tmW tmI
      rw [if_neg (by omega), if_neg (by omega)]
      exact ⟨rfl, rfl⟩
  | succ d ih =>
    intro t n a b ht hn h1 h2
    obtain ⟨n, rfl⟩ := suc (by omega : 0 < n)
    have a1 : ¬ nI K < nI (t + 1) := nI_nlt (by omega) (by omega)
    have b1 := h1 t (by omega)
    have b2 := h2 (t + 1) (by omega) (by omega)
    have hW : tmW K (f D) w i (t + 1) = (if i (t + 1) + f D ≤ w (t + 1) then w (t + 1) else i (t + 1) + f D) := by rw [tmW, if_pos (by omega)]
    have hI : tmI K (f D) w i (t + 1) = (if tmW K (f D) w i t - f D ≤ i (t + 1) then i (t + 1) else tmW K (f D) w i t - f D) := by rw [tmI, if_pos (by omega), Nat.add_sub_cancel]
    rw [fX11_trade_L77, if_neg a1]
    have ne : ¬ t = t + 1 := by omega
    have j : (if i (t + 1) + f D ≤ w (t + 1) then some (w (t + 1)) else some (i (t + 1) + f D)) = some (tmW K (f D) w i (t + 1)) := by
      rw [hW]; by_cases c : i (t + 1) + f D ≤ w (t + 1)
      · rw [if_pos c, if_pos c]
      · rw [if_neg c, if_neg c]
    simp (disch := omega) only [clm, ixc, if_false, nI_pred, b2.1, b2.2, j, Option.bind_some, up_eq, ne, b1.1, nI_1]
    have fin : ∀ z, z = tmI K (f D) w i (t + 1) → ∃ a' b', fX11_trade_L77 (nI K) (nI D) f kx n (nI (t + 1 + 1)) (upd a (t + 1) (tmW K (f D) w i (t + 1))) (upd b (t + 1) z) = kx (nI (K + 1)) a' b' ∧ ∀ s, s < 10 → a' s = tmW K (f D) w i s ∧ b' s = tmI K (f D) w i s := fun z hz => by
      refine ih (t + 1) n _ _ (by omega) (by omega) (fun s hs => ?_) (fun s hs hs2 => ?_)
      · simp only [up_eq]
        by_cases c : s = t + 1
        · rw [if_pos c, if_pos c, c]; exact ⟨rfl, hz⟩
        · rw [if_neg c, if_neg c]; exact h1 s (by omega)
      · simp only [up_eq]
        rw [if_neg (by omega), if_neg (by omega)]
        exact h2 s (by omega) hs2
    by_cases c : tmW K (f D) w i t - f D ≤ i (t + 1)
    · rw [if_pos c]
      exact fin _ (by rw [hI, if_pos c])
    · rw [if_neg c]
      exact fin _ (by rw [hI, if_neg c])
