/-- all questions with a gap that was asked before change nothing -/
theorem ask_skip {s : SSI} {N : Nat} {f : Nat → Int32} (hN : N ≤ 8) (h4 : ∀ i, i < 8 → s.1 i = f (3 * i) - f (3 * i + 1) ∧ s.2.1 i = f (3 * i + 2)) (kx : Int32 → Int32 → Int32 → (Nat → Int32) → Option (Int32 × (Nat → Int32))) (fd : Int32) {L : Nat} (hL : L < 2147483648) : ∀ (e q n : Nat) (ct : Nat → Int32), q + e ≤ 100 → e ≤ n → (∀ j, j < e → L ≤ Mx s N (nI ((q + j) / 10) - nI ((q + j) % 10))) → ∃ ct', fX11_ask_L21 (nI N) f kx n fd (nI L) (nI q) ct = fX11_ask_L21 (nI N) f kx (n - e) fd (nI L) (nI (q + e)) ct' := by
  intro e
  induction e with
  | zero => intro q n ct _ _ _; exact ⟨ct, rfl⟩
  | succ e ih =>
    intro q n ct hq hn hg
    obtain ⟨n, rfl⟩ := suc (by omega : 0 < n)
    obtain ⟨c1, g1⟩ := ask_one hN h4 kx (q := q) (n := n) (L := L) (by omega) hL fd ct
    have h0 := hg 0 (by omega)
    rw [Nat.add_zero] at h0
    rw [if_neg (by omega)] at g1
    obtain ⟨c2, g2⟩ := ih (q + 1) n c1 (by omega) (by omega) (fun j hj => by have := hg (j + 1) (by omega); rwa [show q + 1 + j = q + (j + 1) by omega])
    exact ⟨c2, by rw [g1, g2, show q + 1 + e = q + (e + 1) by omega, show n - e = n + 1 - (e + 1) by omega]⟩
theorem nI_neg (y : Nat) : nI 0 - nI y = -(nI y) := by rw [nI_0]; grind
/-- the first row of questions -/
theorem ask_row0 {s : SSI} {N : Nat} {f arr : Nat → Int32} (hN : N ≤ 8) (h4 : ∀ i, i < 8 → s.1 i = f (3 * i) - f (3 * i + 1) ∧ s.2.1 i = f (3 * i + 2)) (ha : ∀ i, i < 17 → arr i = nI (yj s N i)) (hpos : ∀ l, 0 < Mx s N l) (kc : Int32 → Int32 → Int32 → Option (Int32 × SSI)) (kx : Int32 → Int32 → Int32 → (Nat → Int32) → Option (Int32 × (Nat → Int32))) : ∀ (d y n n' L : Nat) (fd : Int32) (ct : Nat → Int32), y + d = 10 → d < n → d ≤ n' → L ≤ 85 → (∀ y', y' < y → L ≤ Mx s N (-(nI y'))) → 0 ≤ fd → ∃ (L' : Nat) (fd' : Int32) (ct' : Nat → Int32), L' ≤ 85 ∧ (∀ y', y' < 10 → L' ≤ Mx s N (-(nI y'))) ∧ 0 ≤ fd' ∧ fX6_bestQuestion_L21 (s.1, s.2.1, arr, s.2.2.2) kc n fd (nI L) (nI y) = kc fd' (nI L') (nI 10) ∧ fX11_ask_L21 (nI N) f kx n' fd (nI L) (nI y) ct = fX11_ask_L21 (nI N) f kx (n' - d) fd' (nI L') (nI 10) ct' := by
  intro d
  induction d with
  | zero =>
    intro y n n' L fd ct hy hn hn' hL hI hfd
    obtain ⟨n, rfl⟩ := suc hn
    obtain rfl : y = 10 := by omega
    exact ⟨L, fd, ct, hL, hI, hfd, by rw [fX6_bestQuestion_L21, if_pos (by decide)], rfl⟩
  | succ d ih =>
    intro y n n' L fd ct hy hn hn' hL hI hfd
    obtain ⟨n, rfl⟩ := suc (by omega : 0 < n)
    obtain ⟨n', rfl⟩ := suc (by omega : 0 < n')
    have h0 : ¬ (9 : Int32) < nI y := nI_nlt (a := 9) (by omega) (by omega)
    obtain ⟨c1, g1⟩ := ask_one hN h4 kx (q := y) (n := n') (L := L) (by omega) (by omega) fd ct
    have e1 : y / 10 = 0 := by omega
    have e2 : y % 10 = y := by omega
    rw [e1, e2, nI_neg] at g1
    have hm := Mx_le s N (-(nI y))
    rw [fX6_bestQuestion_L21, if_neg h0, most_ok (s := s) (N := N) ha]
    simp only [Option.bind_some, nI_1]
    have hp := hpos (-(nI y))
    by_cases c : L ≤ Mx s N (-(nI y))
    · rw [if_pos (nI_le c (by omega))]
      rw [if_neg (by omega)] at g1
      obtain ⟨L', fd', ct', q1, q2, q3, q4, q5⟩ := ih (y + 1) n n' L fd c1 (by omega) (by omega) (by omega) hL (fun y' hy' => by
        by_cases e : y' = y
        · subst e; exact c
        · exact hI y' (by omega)) hfd
      exact ⟨L', fd', ct', q1, q2, q3, q4, by rw [g1, q5, show n' + 1 - (d + 1) = n' - d by omega]⟩
    · rw [if_neg (nI_ge (by omega) (by omega))]
      rw [if_pos ⟨hp, by omega⟩] at g1
      obtain ⟨L', fd', ct', q1, q2, q3, q4, q5⟩ := ih (y + 1) n n' (Mx s N (-(nI y))) (nI y) c1 (by omega) (by omega) (by omega) hm (fun y' hy' => by
        by_cases e : y' = y
        · subst e; omega
        · have := hI y' (by omega); omega) (nI_pos' (by omega))
      exact ⟨L', fd', ct', q1, q2, q3, q4, by rw [g1, q5, show n' + 1 - (d + 1) = n' - d by omega]⟩
theorem ask_rows {s : SSI} {N : Nat} {f arr : Nat → Int32} (hN : N ≤ 8) (h4 : ∀ i, i < 8 → s.1 i = f (3 * i) - f (3 * i + 1) ∧ s.2.1 i = f (3 * i + 2)) (ha : ∀ i, i < 17 → arr i = nI (yj s N i)) (hpos : ∀ l, 0 < Mx s N l) (kc : Int32 → Int32 → Int32 → Option (Int32 × SSI)) (kx : Int32 → Int32 → Int32 → (Nat → Int32) → Option (Int32 × (Nat → Int32))) : ∀ (d x n n' L : Nat) (fd : Int32) (ct : Nat → Int32), x + d = 10 → 1 ≤ x → d < n → 10 * d < n' → L ≤ 85 → (∀ y', y' < 10 → L ≤ Mx s N (-(nI y'))) → (∀ x', x' < x → L ≤ Mx s N (nI x')) → 0 ≤ fd → ∃ (L' : Nat) (fd' : Int32) (ct' : Nat → Int32), 0 ≤ fd' ∧ fX6_bestQuestion_L58 (s.1, s.2.1, arr, s.2.2.2) kc n fd (nI L) (nI x) = kc fd' (nI L') (nI 10) ∧ fX11_ask_L21 (nI N) f kx n' fd (nI L) (nI (10 * x)) ct = kx fd' (nI L') (nI 100) ct' := by
  intro d
  induction d with
  | zero =>
    intro x n n' L fd ct hx h1 hn hn' hL hI hJ hfd
    obtain ⟨n, rfl⟩ := suc hn
    obtain ⟨n', rfl⟩ := suc (by omega : 0 < n')
    obtain rfl : x = 10 := by omega
    exact ⟨L, fd, ct, hfd, by rw [fX6_bestQuestion_L58, if_pos (by decide)], by rw [fX11_ask_L21, if_pos (by decide)]⟩
  | succ d ih =>
    intro x n n' L fd ct hx h1 hn hn' hL hI hJ hfd
    obtain ⟨n, rfl⟩ := suc (by omega : 0 < n)
    obtain ⟨n', rfl⟩ := suc (by omega : 0 < n')
    have h0 : ¬ (9 : Int32) < nI x := nI_nlt (a := 9) (by omega) (by omega)
    obtain ⟨c1, g1⟩ := ask_one hN h4 kx (q := 10 * x) (n := n') (L := L) (by omega) (by omega) fd ct
    have e1 : 10 * x / 10 = x := by omega
    have e2 : 10 * x % 10 = 0 := by omega
    have e3 : nI x - nI 0 = nI x := by rw [nI_0]; grind
    have e4 : (10 : Int32) * nI x = nI (10 * x) := pk_mul 10 x
    rw [e1, e2, e3] at g1
    have hm := Mx_le s N (nI x)
    have hp := hpos (nI x)
    rw [fX6_bestQuestion_L58, if_neg h0, most_ok (s := s) (N := N) ha]
    simp only [Option.bind_some, nI_1, e4]
    have go : ∀ (L1 : Nat) (fd1 : Int32), L1 ≤ L → L1 ≤ Mx s N (nI x) → 0 ≤ fd1 → ∃ (L' : Nat) (fd' : Int32) (ct' : Nat → Int32), 0 ≤ fd' ∧ fX6_bestQuestion_L58 (s.1, s.2.1, arr, s.2.2.2) kc n fd1 (nI L1) (nI (x + 1)) = kc fd' (nI L') (nI 10) ∧ fX11_ask_L21 (nI N) f kx n' fd1 (nI L1) (nI (10 * x + 1)) c1 = kx fd' (nI L') (nI 100) ct' := by
      intro L1 fd1 hL1 hL2 hfd1
      have hJ1 : ∀ x', x' < x + 1 → L1 ≤ Mx s N (nI x') := fun x' hx' => by
        by_cases e : x' = x
        · subst e; exact hL2
        · have := hJ x' (by omega); omega
      obtain ⟨c2, g2⟩ := ask_skip hN h4 kx fd1 (L := L1) (by omega) 9 (10 * x + 1) n' c1 (by omega) (by omega) (fun j hj => by
        rw [show (10 * x + 1 + j) / 10 = x by omega, show (10 * x + 1 + j) % 10 = j + 1 by omega]
        rcases Nat.lt_or_ge x (j + 1) with c | c
        · rw [show nI x - nI (j + 1) = -(nI (j + 1 - x)) by
            have := pk_sub (a := j + 1) (b := x) (by omega)
            grind]
          have := hI (j + 1 - x) (by omega)
          omega
        · rw [pk_sub c]
          exact hJ1 (x - (j + 1)) (by omega))
      obtain ⟨L', fd', ct', q3, q4, q5⟩ := ih (x + 1) n (n' - 9) L1 fd1 c2 (by omega) (by omega) (by omega) (by omega) (by omega) (fun y' hy' => by have := hI y' hy'; omega) hJ1 hfd1
      exact ⟨L', fd', ct', q3, q4, by rw [g2, show 10 * x + 1 + 9 = 10 * (x + 1) by omega]; exact q5⟩
    by_cases c : L ≤ Mx s N (nI x)
    · rw [if_pos (nI_le c (by omega))]
      rw [if_neg (by omega)] at g1
      obtain ⟨L', fd', ct', q3, q4, q5⟩ := go L fd (Nat.le_refl _) c hfd
      exact ⟨L', fd', ct', q3, q4, by rw [g1]; exact q5⟩
    · rw [if_neg (nI_ge (by omega) (by omega))]
      rw [if_pos ⟨hp, by omega⟩] at g1
      obtain ⟨L', fd', ct', q3, q4, q5⟩ := go (Mx s N (nI x)) (nI (10 * x)) (by omega) (Nat.le_refl _) (nI_pos' (by omega))
      exact ⟨L', fd', ct', q3, q4, by rw [g1]; exact q5⟩
theorem Sv_tot (s : SSI) (N : Nat) (l : Int32) : ∀ n, Sv s N l 0 n + Sv s N l 1 n + Sv s N l 2 n = sm (yj s N) n
  | 0 => rfl
  | n + 1 => by
    have h := Sv_tot s N l n
    have e : ∀ v, Sv s N l v (n + 1) = Sv s N l v n + (if fX6_answerFor (nI n - 8 + l) = v then yj s N n else 0) := fun v => rfl
    rw [e, e, e, sm]
    rcases ans3 (nI n - 8 + l) with a | a | a
    · rw [a, if_pos rfl, if_neg (by decide), if_neg (by decide)]; omega
    · rw [a, if_neg (by decide), if_pos rfl, if_neg (by decide)]; omega
    · rw [a, if_neg (by decide), if_neg (by decide), if_pos rfl]; omega
theorem lit6 : (1000000 : Int32) = nI 1000000 := rfl
theorem litK : 4999 + 1 = 5000 := rfl
theorem litA : nI 1 = 1 := rfl
theorem litB : nI (0 + 1) = 1 := rfl
theorem litC : nI (10 * 1) = nI 10 := rfl
theorem RS.ch {s : SSI} {n : Int32} {f : Nat → Int32} (h : RS s n f) (a : Nat → Int32) : RS (s.1, s.2.1, a, s.2.2.2) n f := h
theorem ask_skip0 {s : SSI} {N : Nat} {f : Nat → Int32} (hN : N ≤ 8) (h4 : ∀ i, i < 8 → s.1 i = f (3 * i) - f (3 * i + 1) ∧ s.2.1 i = f (3 * i + 2)) (hz : ∀ l, Mx s N l = 0) (kx : Int32 → Int32 → Int32 → (Nat → Int32) → Option (Int32 × (Nat → Int32))) (fd : Int32) {L : Nat} (hL : L < 2147483648) : ∀ (e q m : Nat) (ct : Nat → Int32), q + e = 100 → e < m → ∃ ct', fX11_ask_L21 (nI N) f kx m fd (nI L) (nI q) ct = kx fd (nI L) (nI 100) ct' := by
  intro e
  induction e with
  | zero =>
    intro q m ct hq hm
    obtain ⟨m, rfl⟩ := suc hm
    obtain rfl : q = 100 := by omega
    exact ⟨ct, by rw [fX11_ask_L21, if_pos (by decide)]⟩
  | succ e ih =>
    intro q m ct hq hm
    obtain ⟨m, rfl⟩ := suc (by omega : 0 < m)
    obtain ⟨c2, g1⟩ := ask_one hN h4 kx (q := q) (n := m) (L := L) (by omega) hL fd ct
    rw [hz, if_neg (by omega)] at g1
    obtain ⟨c3, g2⟩ := ih (q + 1) m c2 (by omega) (by omega)
    exact ⟨c3, by rw [g1, g2]⟩
theorem ask_all {s : SSI} {N : Nat} {f arr : Nat → Int32} (hN : N ≤ 8) (h4 : ∀ i, i < 8 → s.1 i = f (3 * i) - f (3 * i + 1) ∧ s.2.1 i = f (3 * i + 2)) (ha : ∀ i, i < 17 → arr i = nI (yj s N i)) (hpos : ∀ l, 0 < Mx s N l) (kc : Int32 → Int32 → Int32 → Option (Int32 × SSI)) (kx : Int32 → Int32 → Int32 → (Nat → Int32) → Option (Int32 × (Nat → Int32))) (ct : Nat → Int32) (m m' m2 : Nat) (hm : 20 < m) (hm' : 200 < m') (hm2 : 20 < m2) : ∃ (L' : Nat) (fd' : Int32) (ct' : Nat → Int32), 0 ≤ fd' ∧ fX6_bestQuestion_L21 (s.1, s.2.1, arr, s.2.2.2) (fun v2_21 v3_21 v4_21 => fX6_bestQuestion_L58 (s.1, s.2.1, arr, s.2.2.2) kc m2 v2_21 v3_21 (nI 1)) m (nI 0) (nI (Mx s N (nI 0))) (nI 1) = kc fd' (nI L') (nI 10) ∧ fX11_ask_L21 (nI N) f kx (m' + 1) (-6) (nI 1000000) (nI 0) ct = kx fd' (nI L') (nI 100) ct' := by
  have hm0 := Mx_le s N (nI 0)
  obtain ⟨cA, gA⟩ := ask_one hN h4 kx (q := 0) (n := m') (L := 1000000) (by omega) (by omega) (-6) ct
  have e00 : nI (0 / 10) - nI (0 % 10) = nI 0 := by decide
  rw [e00, if_pos ⟨hpos _, by omega⟩] at gA
  obtain ⟨L1, fd1, cB, p1, p2, p3, p4, p5⟩ := ask_row0 hN h4 ha hpos (fun v2_21 v3_21 v4_21 => fX6_bestQuestion_L58 (s.1, s.2.1, arr, s.2.2.2) kc m2 v2_21 v3_21 (nI 1)) kx 9 1 m m' (Mx s N (nI 0)) (nI 0) cA (by omega) (by omega) (by omega) hm0 (fun y' hy' => by
    obtain rfl : y' = 0 := by omega
    rw [show -(nI 0) = nI 0 by decide]; exact Nat.le_refl _) (by decide)
  obtain ⟨L2, fd2, cC, q1, q2, q3⟩ := ask_rows hN h4 ha hpos kc kx 9 1 m2 (m' - 9) L1 fd1 cB (by omega) (by omega) (by omega) (by omega) p1 p2 (fun x' hx' => by
    obtain rfl : x' = 0 := by omega
    have := p2 0 (by omega)
    rwa [show -(nI 0) = nI 0 by decide] at this) p3
  exact ⟨L2, fd2, cC, q1, p4.trans q2, gA.trans (p5.trans q3)⟩
theorem op_ask {s : SSI} {n : Int32} {f : Nat → Int32} (h : RS s n f) (v : Int32) (ct : Nat → Int32) : ∃ r s' o, fX10_ask v s = some (r, s') ∧ fX11_ask v n f ct = some (r, o) ∧ RS s' n f := by
  by_cases c1 : v < 0 ∨ 1 < v
  · have u1 : fX10_isWithin v 0 1 = 0 := by grind [fX10_isWithin]
    have w1 : fX11_in v 0 1 = 0 := by grind [fX11_in]
    exact ⟨-2, s, ct, by simp only [fX10_ask, cm_let, u1, if_true], by simp only [fX11_ask, cm_let, w1, if_true], h⟩
  · have u1 : fX10_isWithin v 0 1 = 1 := by grind [fX10_isWithin]
    have w1 : fX11_in v 0 1 = 1 := by grind [fX11_in]
    have hv : v = 0 ∨ v = 1 := by grind
    obtain ⟨h1, h2, h3, h4⟩ := id h
    obtain ⟨N, hN, rfl⟩ := nI_of2 (x := n) (M := 8) (n := 8) (by decide) (by grind) h3
    obtain ⟨arr, ha, ht⟩ := tally_ok hN h1
    have hV : fX10_ask v s = (fX6_bestQuestion v s).bind (fun u => some (u.1, u.2)) := by
      rcases hv with rfl | rfl
      · simp only [fX10_ask, cm_let, u1, n10, if_false, show ¬ (0 : Int32) = 1 by decide]
      · simp only [fX10_ask, cm_let, u1, n10, if_false, if_true]
    have hM : ∃ K, K = 4999 ∧ fX11_ask v (nI N) f ct = fX11_ask_L21 (nI N) f (fun v2_21 v3_21 v4_21 m_counts_21 => (if v2_21 < 0 then some (v2_21, m_counts_21) else (if v = 0 then some (v2_21, m_counts_21) else some (v3_21, m_counts_21)))) (K + 1) (-6) (nI 1000000) (nI 0) ct := by
      refine ⟨4999, rfl, ?_⟩
      simp only [fX11_ask, cm_let, w1, n10, if_false]
      rw [litK, ← lit6, nI_0]
    obtain ⟨K, hK, hM⟩ := hM
    by_cases c0 : sm (yj s N) 17 = 0
    · have hz : ∀ l, Mx s N l = 0 := fun l => by
        have := Sv_tot s N l 17
        unfold Mx; omega
      obtain ⟨ct', g⟩ := ask_skip0 hN h4 hz (fun v2_21 v3_21 v4_21 m_counts_21 => (if v2_21 < 0 then some (v2_21, m_counts_21) else (if v = 0 then some (v2_21, m_counts_21) else some (v3_21, m_counts_21)))) (-6) (L := 1000000) (by omega) 100 0 (K + 1) ct (by omega) (by omega)
      refine ⟨-6, (s.1, s.2.1, arr, s.2.2.2), ct', ?_, ?_, h.ch arr⟩
      · rw [hV]
        have z0 : nI 0 = 0 := rfl
        simp only [fX6_bestQuestion, ht, c0, z0, Option.bind_some, if_true]
      · rw [hM, g, if_pos (by decide)]
    · have hpos : ∀ l, 0 < Mx s N l := fun l => by
        have := Sv_tot s N l 17
        unfold Mx; omega
      have hT : sm (yj s N) 17 ≤ 17 * 5 := sm_le (fun j hj => by
        have := num_le j hj
        unfold yj
        split <;> omega)
      have hC : ∃ K1 K2, K1 = 5000 ∧ K2 = 5000 ∧ fX6_bestQuestion v s = fX6_bestQuestion_L21 (s.1, s.2.1, arr, s.2.2.2) (fun v2_21 v3_21 v4_21 => fX6_bestQuestion_L58 (s.1, s.2.1, arr, s.2.2.2) (fun v2_58 v3_58 v4_58 => (if v = 0 then some (v2_58, (s.1, s.2.1, arr, s.2.2.2)) else some (v3_58, (s.1, s.2.1, arr, s.2.2.2)))) K1 v2_21 v3_21 (nI 1)) K2 (nI 0) (nI (Mx s N (nI 0))) (nI 1) := by
        refine ⟨5000, 5000, rfl, rfl, ?_⟩
        have t0 : ¬ nI (sm (yj s N) 17) = 0 := nI_ne0 (by omega) (by omega)
        have m0 := most_ok (s := s) (N := N) ha (nI 0)
        rw [nI_0] at m0 ⊢
        rw [litA]
        unfold fX6_bestQuestion
        generalize 5000 = K5
        rw [ht, Option.bind_some, if_neg t0, m0, Option.bind_some]
      obtain ⟨K1, K2, hK1, hK2, hC⟩ := hC
      obtain ⟨L2, fd2, cC, q1, q2, q3⟩ := ask_all hN h4 ha hpos (fun v2_58 v3_58 v4_58 => (if v = 0 then some (v2_58, (s.1, s.2.1, arr, s.2.2.2)) else some (v3_58, (s.1, s.2.1, arr, s.2.2.2)))) (fun v2_21 v3_21 v4_21 m_counts_21 => (if v2_21 < 0 then some (v2_21, m_counts_21) else (if v = 0 then some (v2_21, m_counts_21) else some (v3_21, m_counts_21)))) ct K2 K K1 (by omega) (by omega) (by omega)
      have hfd : ¬ fd2 < 0 := by grind
      rw [if_neg hfd] at q3
      rw [hV, hC, hM, q2, q3]
      by_cases c2 : v = 0
      · rw [if_pos c2, if_pos c2]; exact ⟨fd2, _, _, rfl, rfl, h.ch arr⟩
      · rw [if_neg c2, if_neg c2]; exact ⟨nI L2, _, _, rfl, rfl, h.ch arr⟩
