/-! Needed: the class. -/
theorem av_L9 {p : Nat} (hp : p ≤ 81) (w : Nat → Int32) (kx : Int32 → (Nat → Int32) → Option (Nat → Int32)) : ∀ (d n : Nat) (vo : Nat → Int32), p + d ≤ 82 → d < n → (∀ s, p + d ≤ s → s ≤ 81 → vo s = w s + w (s - p)) → (∀ s, s < p + d → vo s = w s) →
    ∃ vo', fX9_addVoter_L9 (nI p) kx n (nI (p + d) - 1) vo = kx (nI p - 1) vo' ∧ ∀ s, s ≤ 81 → vo' s = w s + (if p ≤ s then w (s - p) else 0) := by
  intro d
  induction d with
  | zero =>
    intro n vo hd hn h1 h2
    obtain ⟨n, rfl⟩ := suc hn
    have c : nI (p + 0) - 1 < nI p := by
      rcases p with _ | p
      · decide
      · rw [Nat.add_zero, nI_pred]; exact nI_lt (by omega) (by omega)
    refine ⟨vo, by rw [fX9_addVoter_L9, if_pos c, Nat.add_zero], fun s hs => ?_⟩
    by_cases c2 : p ≤ s
    · rw [if_pos c2]; exact h1 s (by omega) hs
    · rw [if_neg c2, h2 s (by omega)]; grind
  | succ d ih =>
    intro n vo hd hn h1 h2
    obtain ⟨n, rfl⟩ := suc (by omega : 0 < n)
    have e : nI (p + (d + 1)) - 1 = nI (p + d) := nI_pred (p + d)
    have c : ¬ nI (p + d) < nI p := nI_nlt (by omega) (by omega)
    have e1 : nI (p + d) + (-1) = nI (p + d) - 1 := by grind
    have e2 : nI (p + d) - nI p = nI d := by rw [pk_sub (by omega), Nat.add_sub_cancel_left]
    rw [fX9_addVoter_L9, e, if_neg c]
    simp (disch := omega) only [clm, ixc, if_false, e1, e2, h2 (p + d) (by omega)]
    refine ih n _ (by omega) (by omega) (fun s hs hs2 => ?_) (fun s hs => ?_)
    · rw [up_eq]
      by_cases c2 : s = p + d
      · rw [if_pos c2, c2, Nat.add_sub_cancel_left, h2 d (by omega)]
      · rw [if_neg c2]; exact h1 s (by omega) hs2
    · rw [up_eq, if_neg (by omega)]; exact h2 s (by omega)
theorem av_ok {p : Nat} (hp : p ≤ 81) (w : Nat → Int32) : ∃ vo', fX9_addVoter (nI p) w = some vo' ∧ ∀ s, s ≤ 81 → vo' s = w s + (if p ≤ s then w (s - p) else 0) := by
  have e0 : (if 0 < nI p then nI p else 0) = nI p := by
    by_cases c : p = 0
    · subst c; decide
    · rw [if_pos (show 0 < nI p from nI_lt (a := 0) (by omega) (by omega))]
  obtain ⟨vo', g1, g2⟩ := av_L9 hp w (fun v3_9 vo_9 => some vo_9) (82 - p) 5000 w (by omega) (by omega) (fun s h1 h2 => by omega) (fun s _ => rfl)
  rw [show nI (p + (82 - p)) - 1 = 81 by rw [show p + (82 - p) = 82 by omega]; decide] at g1
  exact ⟨vo', by rw [fX9_addVoter, e0]; exact g1, g2⟩
theorem cs_L2 (kx : Int32 → (Nat → Int32) → Option (Nat → Int32)) : ∀ (d t n : Nat) (vo : Nat → Int32), t + d = 82 → d < n → (∀ s, 0 < s → s < t → vo s = 0) → ∃ vo', fX9_countSets_L2 kx n (nI t) vo = kx 82 vo' ∧ ∀ s, 0 < s → s < 82 → vo' s = 0 := by
  intro d
  induction d with
  | zero =>
    intro t n vo ht hn h
    obtain ⟨n, rfl⟩ := suc hn
    obtain rfl : t = 82 := by omega
    exact ⟨vo, by rw [fX9_countSets_L2, if_pos (by decide)]; rfl, h⟩
  | succ d ih =>
    intro t n vo ht hn h
    obtain ⟨n, rfl⟩ := suc (by omega : 0 < n)
    have c1 : ¬ (81 : Int32) < nI t := nI_nlt (a := 81) (by omega) (by omega)
    rw [fX9_countSets_L2, if_neg c1]
    simp (disch := omega) only [clm, ixc, if_false, nI_1]
    refine ih (t + 1) n _ (by omega) (by omega) (fun s hs hs2 => ?_)
    rw [up_eq]
    by_cases c : s = t
    · rw [if_pos c]
    · rw [if_neg c]; exact h s hs (by omega)
theorem dig_ok {ro : SRO} {i : Nat} (h : i < 9) : fX5_digit (nI i) ro = some (ro.1 i) := by
  have b1 : ¬ nI i < 0 := nI_pos (by omega)
  have b2 : ¬ (8 : Int32) < nI i := nI_nlt (a := 8) (by omega) (by omega)
  rw [fX5_digit, fX10_isWithin, if_neg b1, if_neg b2, cm_let, if_neg (show ¬ (1 : Int32) = 0 by decide)]
  simp (disch := omega) only [clm, ixc, if_false]
theorem cs_L30 {g : Nat → Nat} {ro : SRO} {N v : Nat} {V : Int32} (hN : N ≤ 9) (hg : ∀ i, g i ≤ 9) (hr : ro.2 = nI N) (hd : ∀ i, i < N → ro.1 i = nI (g i)) (hv : ∀ i, i < 9 → (nI i = V ↔ i = v)) (kx : Int32 → (Nat → Int32) → Option (Nat → Int32)) : ∀ (d i n : Nat) (vo : Nat → Int32), i + d = N → d < n → (∀ s, s ≤ 81 → vo s = nI (sC g v i s)) → ∃ vo', fX9_countSets_L30 V ro kx n (nI i) vo = kx (nI N) vo' ∧ ∀ s, s ≤ 81 → vo' s = nI (sC g v N s) := by
  intro d
  induction d with
  | zero =>
    intro i n vo hi hn h
    obtain ⟨n, rfl⟩ := suc hn
    obtain rfl : i = N := by omega
    exact ⟨vo, by rw [fX9_countSets_L30, hr, if_pos (Int32.le_refl _)], h⟩
  | succ d ih =>
    intro i n vo hi hn h
    obtain ⟨n, rfl⟩ := suc (by omega : 0 < n)
    rw [fX9_countSets_L30, hr, if_neg (nI_ge (by omega) (by omega))]
    by_cases c : i = v
    · rw [if_pos ((hv i (by omega)).mpr c), nI_1]
      exact ih (i + 1) n vo (by omega) (by omega) (fun s hs => by rw [h s hs, c, sC_skip])
    · have hgi := hg i
      obtain ⟨vo1, k1, k2⟩ := av_ok (p := g i) (by omega) vo
      rw [if_neg (fun z => c ((hv i (by omega)).mp z)), dig_ok (by omega), Option.bind_some, hd i (by omega), k1, Option.bind_some, nI_1]
      refine ih (i + 1) n vo1 (by omega) (by omega) (fun s hs => ?_)
      rw [k2 s hs, sC_step g v i s c, ← nI_add, h s hs]
      by_cases c2 : g i ≤ s
      · rw [if_pos c2, if_pos c2, h _ (by omega)]
      · rw [if_neg c2, if_neg c2]; rfl
theorem cs_ok {g : Nat → Nat} {ro : SRO} {N v : Nat} {V : Int32} (hN : N ≤ 9) (hg : ∀ i, g i ≤ 9) (hr : ro.2 = nI N) (hd : ∀ i, i < N → ro.1 i = nI (g i)) (hv : ∀ i, i < 9 → (nI i = V ↔ i = v)) (vo : Nat → Int32) : ∃ vo', fX9_countSets V vo ro = some vo' ∧ ∀ s, s ≤ 81 → vo' s = nI (sC g v N s) := by
  obtain ⟨vo1, k1, k2⟩ := cs_L2 (fun v3_2 vo_2 => fX9_countSets_L30 V ro (fun v3_30 vo_30 => some vo_30) 5000 0 (upd vo_2 0 1)) 81 1 5000 vo (by omega) (by omega) (fun s h1 h2 => by omega)
  obtain ⟨vo2, l1, l2⟩ := cs_L30 hN hg hr hd hv (fun v3_30 vo_30 => some vo_30) N 0 5000 (upd vo1 0 1) (by omega) (by omega) (fun s hs => by
    rw [up_eq, sC, sB]
    by_cases c : s = 0
    · rw [if_pos c, if_pos c.symm]; rfl
    · rw [if_neg c, if_neg (by omega), k2 s (by omega) (by omega)]; rfl)
  rw [nI_0] at l1
  exact ⟨vo2, by rw [fX9_countSets]; exact k1.trans l1, l2⟩
theorem sw_L9 {g : Nat → Nat} {N v a E : Nat} (hE : E ≤ 81) {vo : Nat → Int32} (h : ∀ s, s ≤ 81 → vo s = nI (sC g v N s)) (kx : Int32 → Int32 → Option Int32) : ∀ (d k n : Nat), a + k + d = E + 1 → d < n → fX9_setsWithin_L9 (nI E) vo kx n (nI (sR g v N a k)) (nI (a + k)) = kx (nI (sR g v N a (k + d))) (nI (E + 1)) := by
  intro d
  induction d with
  | zero =>
    intro k n hk hn
    obtain ⟨n, rfl⟩ := suc hn
    rw [fX9_setsWithin_L9, if_pos (nI_lt (by omega) (by omega)), Nat.add_zero, show a + k = E + 1 by omega]
  | succ d ih =>
    intro k n hk hn
    obtain ⟨n, rfl⟩ := suc (by omega : 0 < n)
    have c1 : ¬ (81 : Int32) < nI (a + k) := nI_nlt (a := 81) (by omega) (by omega)
    rw [fX9_setsWithin_L9, if_neg (nI_nlt (by omega) (by omega)), if_neg c1]
    simp (disch := omega) only [clm, ixc, if_false, h (a + k) (by omega), nI_add, nI_1]
    have := ih (k + 1) n (by omega) (by omega)
    rw [show k + (d + 1) = k + 1 + d by omega]
    exact this
