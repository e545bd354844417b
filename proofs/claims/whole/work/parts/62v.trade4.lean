/-! Trading: the operation. -/
theorem tr_days {K N : Nat} (hK : K ≤ 9) (hN : N ≤ 9) {ro : SRO} {f : Nat → Int32} (hr : ro.2 = nI N) (hf : ∀ i, i < N → ro.1 i = f i ∧ ∃ g, g ≤ 9 ∧ f i = nI g) (kx : Int32 → STD → Option STD) (ky : Int32 → (Nat → Int32) → (Nat → Int32) → Option (Int32 × (Nat → Int32) × (Nat → Int32) × (Nat → Int32))) : ∀ (d D n n' : Nat) (td : STD) (a b : Nat → Int32), D + d = N → d < n → d < n' → TI K (9 * D) td.1 td.2 a b →
    ∃ td' a' b', fX7_run_L32 (nI K) ro kx n (nI D) td = kx (nI N) td' ∧ fX11_trade_L68 (nI N) (nI K) f ky n' (nI D) a b = ky (nI N) a' b' ∧ TI K (9 * N) td'.1 td'.2 a' b' := by
  intro d
  induction d with
  | zero =>
    intro D n n' td a b hD hn hn' h
    obtain ⟨n, rfl⟩ := suc hn
    obtain ⟨n', rfl⟩ := suc hn'
    obtain rfl : D = N := by omega
    refine ⟨td, a, b, ?_, ?_, h⟩
    · rw [fX7_run_L32, hr, if_pos (Int32.le_refl _)]
    · rw [fX11_trade_L68, if_pos (Int32.le_refl _)]
  | succ d ih =>
    intro D n n' td a b hD hn hn' h
    obtain ⟨n, rfl⟩ := suc (by omega : 0 < n)
    obtain ⟨n', rfl⟩ := suc (by omega : 0 < n')
    have c1 : ¬ nI N ≤ nI D := nI_ge (by omega) (by omega)
    obtain ⟨e1, g, hg, e2⟩ := hf D (by omega)
    have hd : fX5_digit (nI D) ro = some (nI g) := by
      have b1 : ¬ nI D < 0 := nI_pos (by omega)
      have b2 : ¬ (8 : Int32) < nI D := nI_nlt (a := 8) (by omega) (by omega)
      rw [fX5_digit, fX10_isWithin, if_neg b1, if_neg b2, cm_let, if_neg (show ¬ (1 : Int32) = 0 by decide)]
      simp (disch := omega) only [clm, ixc, if_false, e1, e2]
    obtain ⟨td1, k1, k2⟩ := gm_ok hK (nI g) td
    have h5 : K + 1 < 5000 := by omega
    have step := TI_step hg (by omega : 9 * D ≤ 72) h
    have m : ∀ F, K + 1 < F → ∃ a' b', fX11_trade_L77 (nI K) (nI D) f (fun v6_77 m_without_77 m_with_77 => fX11_trade_L68 (nI N) (nI K) f ky n' (nI D + 1) m_without_77 m_with_77) F 1 a b = fX11_trade_L68 (nI N) (nI K) f ky n' (nI (D + 1)) a' b' ∧ ∀ s, s < 10 → a' s = tmW K (nI g) a b s ∧ b' s = tmI K (nI g) a b s := fun F hF => by
      obtain ⟨a', b', l1, l2⟩ := mm_L77 hK (D := D) (by omega) a b f (fun v6_77 m_without_77 m_with_77 => fX11_trade_L68 (nI N) (nI K) f ky n' (nI D + 1) m_without_77 m_with_77) K 0 F a b (by omega) (by omega) (fun s hs => by
        obtain rfl : s = 0 := by omega
        unfold tmW tmI
        rw [if_neg (by omega), if_neg (by omega)]
        exact ⟨rfl, rfl⟩) (fun s _ _ => ⟨rfl, rfl⟩)
      rw [e2] at l2
      refine ⟨a', b', ?_, l2⟩
      rw [show nI (0 + 1) = (1 : Int32) from rfl] at l1
      rw [l1, nI_1]
    obtain ⟨a', b', l1, l2⟩ := m 5000 h5
    obtain ⟨td', a2, b2, z1, z2, z3⟩ := ih (D + 1) n n' td1 a' b' (by omega) (by omega) (by omega) (TI_cong step (fun t ht => k2 t (by omega)) (fun t ht => l2 t (by omega)))
    refine ⟨td', a2, b2, ?_, ?_, z3⟩
    · rw [fX7_run_L32, hr, if_neg c1, hd, Option.bind_some, k1, Option.bind_some, nI_1]
      exact z1
    · rw [fX11_trade_L68, if_neg c1, l1]
      exact z2
theorem ri_L2 (kx : Int32 → STD → Option STD) : ∀ (d t n : Nat) (td : STD), t + d = 10 → d < n → (∀ s, s < t → td.1 s = 0 ∧ td.2 s = -1000) → ∃ td', fX7_run_L2 kx n (nI t) td = kx 10 td' ∧ ∀ s, s < 10 → td'.1 s = 0 ∧ td'.2 s = -1000 := by
  intro d
  induction d with
  | zero =>
    intro t n td ht hn h
    obtain ⟨n, rfl⟩ := suc hn
    obtain rfl : t = 10 := by omega
    exact ⟨td, by rw [fX7_run_L2, if_pos (by decide)]; rfl, h⟩
  | succ d ih =>
    intro t n td ht hn h
    obtain ⟨n, rfl⟩ := suc (by omega : 0 < n)
    have c1 : ¬ (9 : Int32) < nI t := nI_nlt (a := 9) (by omega) (by omega)
    rw [fX7_run_L2, if_neg c1]
    simp (disch := omega) only [clm, ixc, if_false, nI_1]
    refine ih (t + 1) n _ (by omega) (by omega) (fun s hs => ?_)
    simp only [up_eq]
    by_cases c : s = t
    · rw [if_pos c, if_pos c]; exact ⟨rfl, rfl⟩
    · rw [if_neg c, if_neg c]; exact h s (by omega)
theorem mi_L35 (kx : Int32 → (Nat → Int32) → (Nat → Int32) → Option (Int32 × (Nat → Int32) × (Nat → Int32) × (Nat → Int32))) : ∀ (d t n : Nat) (a b : Nat → Int32), t + d = 11 → d < n → (∀ s, s < t → a s = 0 ∧ b s = -1000000) → ∃ a' b', fX11_trade_L35 kx n (nI t) a b = kx 11 a' b' ∧ ∀ s, s < 11 → a' s = 0 ∧ b' s = -1000000 := by
  intro d
  induction d with
  | zero =>
    intro t n a b ht hn h
    obtain ⟨n, rfl⟩ := suc hn
    obtain rfl : t = 11 := by omega
    exact ⟨a, b, by rw [fX11_trade_L35, if_pos (by decide)]; rfl, h⟩
  | succ d ih =>
    intro t n a b ht hn h
    obtain ⟨n, rfl⟩ := suc (by omega : 0 < n)
    have c1 : ¬ (11 : Int32) ≤ nI t := nI_ge (b := 11) (by omega) (by omega)
    rw [fX11_trade_L35, if_neg c1]
    simp (disch := omega) only [clm, ixc, if_false, nI_1]
    refine ih (t + 1) n _ _ (by omega) (by omega) (fun s hs => ?_)
    simp only [up_eq]
    by_cases c : s = t
    · rw [if_pos c, if_pos c]; exact ⟨rfl, rfl⟩
    · rw [if_neg c, if_neg c]; exact h s (by omega)
theorem mono_le {a : Nat → Int32} {K : Nat} (h : ∀ t, t < K → a t ≤ a (t + 1)) : ∀ (t s : Nat), s ≤ t → t ≤ K → a s ≤ a t
  | 0, s, h1, _ => by obtain rfl : s = 0 := by omega
                      exact Int32.le_refl _
  | t + 1, s, h1, h2 => by
    by_cases c : s = t + 1
    · rw [c]; exact Int32.le_refl _
    · exact Int32.le_trans (mono_le h t s (by omega) (by omega)) (h t (by omega))
theorem mx_L199 {a : Nat → Int32} {K : Nat} (hK : K ≤ 9) (h : ∀ t, t < K → a t ≤ a (t + 1)) (kx : Int32 → Int32 → Option (Int32 × (Nat → Int32) × (Nat → Int32) × (Nat → Int32))) : ∀ (d t n s : Nat), t + d = K → d + 1 < n → s ≤ t → a s = a t → (∀ r, r < s → ¬ a r = a s) →
    ∃ s', s' ≤ K ∧ a s' = a K ∧ (∀ r, r < s' → ¬ a r = a K) ∧ fX11_trade_L199 (nI K) a kx n (nI s) (nI (t + 1)) = kx (nI s') (nI (K + 1)) := by
  intro d
  induction d with
  | zero =>
    intro t n s ht hn hs h1 h2
    obtain ⟨n, rfl⟩ := suc (by omega : 0 < n)
    obtain rfl : t = K := by omega
    exact ⟨s, hs, h1, by rw [← h1]; exact h2, by rw [fX11_trade_L199, if_pos (nI_lt (by omega) (by omega))]⟩
  | succ d ih =>
    intro t n s ht hn hs h1 h2
    obtain ⟨n, rfl⟩ := suc (by omega : 0 < n)
    have c1 : ¬ nI K < nI (t + 1) := nI_nlt (by omega) (by omega)
    have m := h t (by omega)
    rw [fX11_trade_L199, if_neg c1]
    simp (disch := omega) only [clm, ixc, if_false, nI_1]
    by_cases c : a (t + 1) ≤ a s
    · rw [if_pos c]
      exact ih (t + 1) n s (by omega) (by omega) (by omega) (by rw [h1] at c ⊢; exact Int32.le_antisymm m c) h2
    · rw [if_neg c]
      refine ih (t + 1) n (t + 1) (by omega) (by omega) (by omega) rfl (fun r hr e => c ?_)
      rw [← e, h1]
      exact mono_le h t r (by omega) (by omega)
theorem tmost_ok {t : Nat} (ht : t ≤ 9) (td : STD) : fX7_most (nI t) td = some (td.1 t) := by
  have b1 : ¬ nI t < 0 := nI_pos (by omega)
  have b2 : ¬ (9 : Int32) < nI t := nI_nlt (a := 9) (by omega) (by omega)
  rw [fX7_most, fX10_isWithin, if_neg b1, if_neg b2, cm_let, if_neg (show ¬ (1 : Int32) = 0 by decide)]
  simp (disch := omega) only [clm, ixc, if_false]
theorem few_L8 {td : STD} {K s : Nat} (hK : K ≤ 9) (hs : s ≤ K) (h1 : td.1 s = td.1 K) (h2 : ∀ r, r < s → ¬ td.1 r = td.1 K) : ∀ (d t n : Nat), t + d = s → d < n → fX7_fewest_L8 (nI K) (td.1 K) td (fun v3_8 => some (nI K)) n (nI t) = some (nI s) := by
  intro d
  induction d with
  | zero =>
    intro t n ht hn
    obtain ⟨n, rfl⟩ := suc hn
    obtain rfl : t = s := by omega
    rw [fX7_fewest_L8]
    by_cases c : t = K
    · rw [c, if_pos (Int32.le_refl _)]
    · rw [if_neg (nI_ge (by omega) (by omega)), tmost_ok (by omega), Option.bind_some, if_pos h1]
  | succ d ih =>
    intro t n ht hn
    obtain ⟨n, rfl⟩ := suc (by omega : 0 < n)
    rw [fX7_fewest_L8, if_neg (nI_ge (by omega) (by omega)), tmost_ok (by omega), Option.bind_some, if_neg (h2 t (by omega)), nI_1]
    exact ih (t + 1) n (by omega) (by omega)
theorem op_trade (v1 v2 v3 v4 : Int32) (ro : SRO) (td : STD) (f a b : Nat → Int32) : ∃ r o o', fX10_trade v1 v2 v3 v4 ro td = some (r, o) ∧ fX11_trade v1 v2 v3 v4 f a b = some (r, o') := by
  obtain ⟨r, ro', f', h1, h2, h3⟩ := read_ok v1 v2 ro f
  have q : ∀ x y z, fX11_in x y z = fX10_isWithin x y z := fun _ _ _ => rfl
  by_cases c0 : r = 0
  · subst c0
    exact ⟨-2, (ro', td), (f', a, b), by rw [fX10_trade, h1, Option.bind_some, if_pos rfl], by rw [fX11_trade, h2, Option.bind_some, if_pos rfl]⟩
  by_cases c1 : fX10_isWithin v3 0 9 = 0
  · exact ⟨-2, (ro', td), (f', a, b), by rw [fX10_trade, h1, Option.bind_some, if_neg c0, c1, cm_let, if_pos rfl], by rw [fX11_trade, h2, Option.bind_some, if_neg c0, q, c1, cm_let, if_pos rfl]⟩
  by_cases c2 : fX10_isWithin v4 0 1 = 0
  · exact ⟨-2, (ro', td), (f', a, b), by rw [fX10_trade, h1, Option.bind_some, if_neg c0, cm_let, if_neg c1, c2, cm_let, if_pos rfl], by rw [fX11_trade, h2, Option.bind_some, if_neg c0, q, cm_let, if_neg c1, q, c2, cm_let, if_pos rfl]⟩
  obtain ⟨-, N, hN0, hN, rfl, hr, hd⟩ := h3.resolve_left c0
  have a1 : ¬ v3 < 0 ∧ ¬ 10 ≤ v3 := by grind [fX10_isWithin]
  obtain ⟨K, hK, rfl⟩ := i_of (x := v3) (N := 10) (by decide) a1.1 a1.2
  obtain ⟨td1, k1, k2⟩ := ri_L2 (fun v3_2 td_2 => fX7_run_L32 (nI K) ro' (fun v3_32 td_32 => some td_32) 5000 0 td_2) 10 0 5000 td (by omega) (by omega) (fun s hs => by omega)
  obtain ⟨a1, b1, l1, l2⟩ := mi_L35 (fun v5_35 m_without_35 m_with_35 => fX11_trade_L68 (nI N) (nI K) f' (fun v5_68 m_without_68 m_with_68 => fX11_trade_L199 (nI K) m_without_68 (fun v5_199 v6_199 => (if v4 = 0 then if v5_199 < 0 ∨ 11 ≤ v5_199.toNatClampNeg then none else some ((m_without_68 v5_199.toNatClampNeg), f', m_without_68, m_with_68) else some (v5_199, f', m_without_68, m_with_68))) 5000 0 1) 5000 0 m_without_35 m_with_35) 11 0 5000 a b (by omega) (by omega) (fun s hs => by omega)
  have t0 : TI K (9 * 0) td1.1 td1.2 a1 b1 := by
    refine ⟨fun t ht => ?_, fun t ht => ?_, (k2 0 (by omega)).2, (l2 0 (by omega)).2⟩
    · rw [(k2 t (by omega)).1, (k2 t (by omega)).2, (l2 t (by omega)).1, (l2 t (by omega)).2]
      exact ⟨rfl, by decide, by decide, Or.inr ⟨rfl, rfl⟩⟩
    · rw [(k2 t (by omega)).1, (k2 t (by omega)).2, (k2 (t + 1) (by omega)).1, (k2 (t + 1) (by omega)).2]
      exact ⟨Int32.le_refl _, Int32.le_refl _⟩
  obtain ⟨td2, a2, b2, z1, z2, z3⟩ := tr_days (K := K) (N := N) (by omega) hN hr hd (fun v3_32 td_32 => some td_32) (fun v5_68 m_without_68 m_with_68 => fX11_trade_L199 (nI K) m_without_68 (fun v5_199 v6_199 => (if v4 = 0 then if v5_199 < 0 ∨ 11 ≤ v5_199.toNatClampNeg then none else some ((m_without_68 v5_199.toNatClampNeg), f', m_without_68, m_with_68) else some (v5_199, f', m_without_68, m_with_68))) 5000 0 1) N 0 5000 5000 td1 a1 b1 (by omega) (by omega) (by omega) t0
  have mono : ∀ t, t < K → a2 t ≤ a2 (t + 1) := fun t ht => by
    rw [← (z3.1 t (by omega)).1, ← (z3.1 (t + 1) ht).1]; exact (z3.2.1 t ht).1
  obtain ⟨s, w1, w2, w3, w4⟩ := mx_L199 (K := K) (by omega) mono (fun v5_199 v6_199 => (if v4 = 0 then if v5_199 < 0 ∨ 11 ≤ v5_199.toNatClampNeg then none else some ((a2 v5_199.toNatClampNeg), f', a2, b2) else some (v5_199, f', a2, b2))) K 0 5000 0 (by omega) (by omega) (by omega) rfl (fun r hr => by omega)
  have eqa : ∀ t, t ≤ K → td2.1 t = a2 t := fun t ht => (z3.1 t ht).1
  rw [nI_0] at k1 l1 z1 z2 w4
  rw [show nI (0 + 1) = (1 : Int32) from rfl] at w4
  have hrun : fX7_run (nI K) td ro' = some td2 := by
    rw [fX7_run]; exact k1.trans z1
  have hmod : fX11_trade v1 (nI N) (nI K) v4 f a b = (if v4 = 0 then some (a2 s, f', a2, b2) else some (nI s, f', a2, b2)) := by
    rw [fX11_trade, h2, Option.bind_some, if_neg c0, q, cm_let, if_neg c1, q, cm_let, if_neg c2]
    refine (l1.trans (z2.trans w4)).trans ?_
    simp (disch := omega) only [clm, ixc, if_false]
  have hfew : fX7_fewest (nI K) td2 = some (nI s) := by
    rw [fX7_fewest, tmost_ok (by omega), Option.bind_some]
    have := few_L8 (td := td2) (K := K) (s := s) (by omega) w1 (by rw [eqa s w1, eqa K (by omega)]; exact w2) (fun r hr => by rw [eqa r (by omega), eqa K (by omega)]; exact w3 r hr) s 0 5000 (by omega) (by omega)
    rw [nI_0] at this
    exact this
  have hcls : fX10_trade v1 (nI N) (nI K) v4 ro td = (if v4 = 0 then some (a2 s, ro', td2) else some (nI s, ro', td2)) := by
    rw [fX10_trade, h1, Option.bind_some, if_neg c0, cm_let, if_neg c1, cm_let, if_neg c2, hrun, Option.bind_some]
    by_cases c : v4 = 0
    · rw [if_pos c, if_pos c, tmost_ok (by omega), Option.bind_some, eqa K (by omega), w2]
    · rw [if_neg c, if_neg c, hfew, Option.bind_some]
  rw [hcls, hmod]
  by_cases c : v4 = 0
  · rw [if_pos c, if_pos c]; exact ⟨_, _, _, rfl, rfl⟩
  · rw [if_neg c, if_neg c]; exact ⟨_, _, _, rfl, rfl⟩
