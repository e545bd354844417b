theorem ask_L34 (kx : Int32 → (Nat → Int32) → Option (Int32 × (Nat → Int32))) : ∀ (d i n : Nat) (f : Nat → Int32), i + d = 3 → d < n → (∀ j, j < i → f j = 0) → ∃ f' : Nat → Int32, (∀ j, j < 3 → f' j = 0) ∧ fX11_ask_L34 kx n (nI i) f = kx (nI 3) f' := by
  intro d
  induction d with
  | zero =>
    intro i n f hi hn hb
    obtain ⟨n, rfl⟩ := suc hn
    obtain rfl : i = 3 := by omega
    exact ⟨f, hb, by rw [fX11_ask_L34, if_pos (by decide)]⟩
  | succ d ih =>
    intro i n f hi hn hb
    obtain ⟨n, rfl⟩ := suc (by omega : 0 < n)
    have h0 : ¬ (3 : Int32) ≤ nI i := nI_ge (b := 3) (by omega) (by decide)
    simp (disch := omega) only [fX11_ask_L34, h0, clm, ixc, if_false, nI_1]
    refine ih (i + 1) n _ (by omega) (by omega) (fun j hj => ?_)
    simp only [up_eq]
    by_cases e : j = i
    · simp [e]
    · simp only [e, if_false]; exact hb j (by omega)
def W3 (s : SSI) (N : Nat) (l : Int32) (c : Nat) : Nat := max (Cv s N l 0 c) (max (Cv s N l 1 c) (Cv s N l 2 c))
theorem Cv_succ (s : SSI) (N : Nat) (l v : Int32) (c : Nat) : Cv s N l v (c + 1) = Cv s N l v c + (if gb s N c && decide (fX6_answerFor (nI (c / 10) - nI (c % 10) + l) = v) then 1 else 0) := rfl
theorem Cv_le (s : SSI) (N : Nat) (l v : Int32) (c : Nat) : Cv s N l v c ≤ c := by
  have h : Cv s N l v c ≤ c * 1 := sm_le (fun j hj => by split <;> omega)
  omega
theorem ask_L57 {s : SSI} {N : Nat} {f : Nat → Int32} (hN : N ≤ 8) (h4 : ∀ i, i < 8 → s.1 i = f (3 * i) - f (3 * i + 1) ∧ s.2.1 i = f (3 * i + 2)) {q : Nat} (hq : q < 100) (kx : Int32 → Int32 → (Nat → Int32) → Option (Int32 × (Nat → Int32))) : ∀ (d c n : Nat) (ct : Nat → Int32), c + d = 81 → d < n → (ct 0 = nI (Cv s N (nI (q / 10) - nI (q % 10)) 0 c) ∧ ct 1 = nI (Cv s N (nI (q / 10) - nI (q % 10)) 1 c) ∧ ct 2 = nI (Cv s N (nI (q / 10) - nI (q % 10)) 2 c)) → ∃ ct' : Nat → Int32, fX11_ask_L57 (nI q) (nI N) f kx n (nI (W3 s N (nI (q / 10) - nI (q % 10)) c)) (nI c) ct = kx (nI (W3 s N (nI (q / 10) - nI (q % 10)) 81)) (nI 81) ct' := by
  intro d
  generalize hl : nI (q / 10) - nI (q % 10) = l
  induction d with
  | zero =>
    intro c n ct hc hn hct
    obtain ⟨n, rfl⟩ := suc hn
    obtain rfl : c = 81 := by omega
    exact ⟨ct, by rw [fX11_ask_L57, if_pos (by decide)]⟩
  | succ d ih =>
    intro c n ct hc hn hct
    obtain ⟨n, rfl⟩ := suc (by omega : 0 < n)
    have h0 : ¬ (81 : Int32) ≤ nI c := nI_ge (b := 81) (by omega) (by decide)
    have hsaid : fX11_saidOf (nI c) (nI (q / 10)) (nI (q % 10)) = fX6_answerFor (nI (c / 10) - nI (c % 10) + l) := by
      simp (disch := omega) only [fX11_saidOf, div10, irm10]
      exact said_ans _ _ _ (by rw [← hl]; grind)
    have b0 := Cv_le s N l 0 c
    have b1' := Cv_le s N l 1 c
    have b2 := Cv_le s N l 2 c
    have e0 := Cv_succ s N l 0 c
    have e1 := Cv_succ s N l 1 c
    have e2 := Cv_succ s N l 2 c
    rw [fX11_ask_L57, if_neg h0, isFit_ok hN h4 (by omega)]
    cases hg : gb s N c with
    | false =>
      simp only [hg, Bool.false_and, Bool.false_eq_true, if_false, Nat.add_zero] at e0 e1 e2
      simp only [Option.bind_some, b1, Bool.false_eq_true, if_false, if_true, nI_1]
      have hw : W3 s N l (c + 1) = W3 s N l c := by simp only [W3, e0, e1, e2]
      rw [← hw]
      exact ih (c + 1) n ct (by omega) (by omega) (by rw [e0, e1, e2]; exact hct)
    | true =>
      simp only [hg, Bool.true_and, decide_eq_true_eq] at e0 e1 e2
      simp (disch := omega) only [Option.bind_some, b1, if_true, n10, if_false, nI_1, div10, irm10, cm_let, hsaid]
      have fin : ∀ (v : Nat) (hv : v < 3) (k : Nat), ct v = nI k → k < 1000 → W3 s N l (c + 1) = max (W3 s N l c) (k + 1) → ((upd ct v (nI (k + 1))) 0 = nI (Cv s N l 0 (c + 1)) ∧ (upd ct v (nI (k + 1))) 1 = nI (Cv s N l 1 (c + 1)) ∧ (upd ct v (nI (k + 1))) 2 = nI (Cv s N l 2 (c + 1))) →
          ∃ ct' : Nat → Int32, (if (nI v) < 0 ∨ 3 ≤ (nI v).toNatClampNeg then none else if (nI v) < 0 ∨ 3 ≤ (nI v).toNatClampNeg then none else if (nI v) < 0 ∨ 3 ≤ (nI v).toNatClampNeg then none else (if ((upd ct (nI v).toNatClampNeg ((ct (nI v).toNatClampNeg) + 1)) (nI v).toNatClampNeg) ≤ nI (W3 s N l c) then fX11_ask_L57 (nI q) (nI N) f kx n (nI (W3 s N l c)) (nI (c + 1)) (upd ct (nI v).toNatClampNeg ((ct (nI v).toNatClampNeg) + 1)) else if (nI v) < 0 ∨ 3 ≤ (nI v).toNatClampNeg then none else fX11_ask_L57 (nI q) (nI N) f kx n ((upd ct (nI v).toNatClampNeg ((ct (nI v).toNatClampNeg) + 1)) (nI v).toNatClampNeg) (nI (c + 1)) (upd ct (nI v).toNatClampNeg ((ct (nI v).toNatClampNeg) + 1)))) = kx (nI (W3 s N l 81)) (nI 81) ct' := by
        intro v hv k hk hk2 hw hu
        have hW : W3 s N l c < 1000 := by unfold W3; omega
        have hself : (upd ct v (nI (k + 1))) v = nI (k + 1) := by rw [up_eq, if_pos rfl]
        simp (disch := omega) only [clm, ixc, if_false, hk, nI_1, hself]
        by_cases c2 : k + 1 ≤ W3 s N l c
        · rw [if_pos (nI_le c2 (by omega))]
          have := ih (c + 1) n (upd ct v (nI (k + 1))) (by omega) (by omega) hu
          rw [hw, Nat.max_eq_left c2] at this
          exact this
        · rw [if_neg (nI_ge (by omega) (by omega))]
          have := ih (c + 1) n (upd ct v (nI (k + 1))) (by omega) (by omega) hu
          rw [hw, Nat.max_eq_right (by omega)] at this
          exact this
      rcases ans3 (nI (c / 10) - nI (c % 10) + l) with a | a | a
      · rw [a, if_pos rfl] at e0
        rw [a, if_neg (show ¬ (0 : Int32) = 1 by decide)] at e1
        rw [a, if_neg (show ¬ (0 : Int32) = 2 by decide)] at e2
        rw [a]
        refine fin 0 (by omega) _ hct.1 (by omega) ?_ ⟨?_, ?_, ?_⟩
        · simp only [W3, e0, e1, e2]; omega
        · rw [e0]; rfl
        · rw [e1, up_eq, if_neg (by omega)]; exact hct.2.1
        · rw [e2, up_eq, if_neg (by omega)]; exact hct.2.2
      · rw [a, if_neg (show ¬ (1 : Int32) = 0 by decide)] at e0
        rw [a, if_pos rfl] at e1
        rw [a, if_neg (show ¬ (1 : Int32) = 2 by decide)] at e2
        rw [a]
        refine fin 1 (by omega) _ hct.2.1 (by omega) ?_ ⟨?_, ?_, ?_⟩
        · simp only [W3, e0, e1, e2]; omega
        · rw [e0, up_eq, if_neg (by omega)]; exact hct.1
        · rw [e1]; rfl
        · rw [e2, up_eq, if_neg (by omega)]; exact hct.2.2
      · rw [a, if_neg (show ¬ (2 : Int32) = 0 by decide)] at e0
        rw [a, if_neg (show ¬ (2 : Int32) = 1 by decide)] at e1
        rw [a, if_pos rfl] at e2
        rw [a]
        refine fin 2 (by omega) _ hct.2.2 (by omega) ?_ ⟨?_, ?_, ?_⟩
        · simp only [W3, e0, e1, e2]; omega
        · rw [e0, up_eq, if_neg (by omega)]; exact hct.1
        · rw [e1, up_eq, if_neg (by omega)]; exact hct.2.1
        · rw [e2]; rfl
theorem W3_Mx (s : SSI) (N : Nat) (l : Int32) : W3 s N l 81 = Mx s N l := by simp only [W3, Mx, Cv_Sv]
/-- one question of the model -/
theorem ask_one {s : SSI} {N : Nat} {f : Nat → Int32} (hN : N ≤ 8) (h4 : ∀ i, i < 8 → s.1 i = f (3 * i) - f (3 * i + 1) ∧ s.2.1 i = f (3 * i + 2)) (kx : Int32 → Int32 → Int32 → (Nat → Int32) → Option (Int32 × (Nat → Int32))) {q n L : Nat} (hq : q < 100) (hL : L < 2147483648) (fd : Int32) (ct : Nat → Int32) : ∃ ct', fX11_ask_L21 (nI N) f kx (n + 1) fd (nI L) (nI q) ct = if 0 < Mx s N (nI (q / 10) - nI (q % 10)) ∧ Mx s N (nI (q / 10) - nI (q % 10)) < L then fX11_ask_L21 (nI N) f kx n (nI q) (nI (Mx s N (nI (q / 10) - nI (q % 10)))) (nI (q + 1)) ct' else fX11_ask_L21 (nI N) f kx n fd (nI L) (nI (q + 1)) ct' := by
  have h0 : ¬ (100 : Int32) ≤ nI q := nI_ge (b := 100) hq (by decide)
  obtain ⟨c1, g1, g2⟩ := ask_L34 (fun v6_34 m_counts_34 => fX11_ask_L57 (nI q) (nI N) f (fun v5_57 v6_57 m_counts_57 => cm_let ((if v5_57 ≤ 0 then 0 else (if nI L ≤ v5_57 then 0 else 1)) : Int32) (fun j135 => cm_let ((if j135 = 0 then fd else nI q) : Int32) (fun j153 => (if j135 = 0 then fX11_ask_L21 (nI N) f kx n j153 (nI L) (nI q + 1) m_counts_57 else fX11_ask_L21 (nI N) f kx n j153 v5_57 (nI q + 1) m_counts_57)))) 5000 0 0 m_counts_34) 3 0 5000 ct (by omega) (by omega) (fun j hj => by omega)
  obtain ⟨c2, g3⟩ := ask_L57 hN h4 hq (fun v5_57 v6_57 m_counts_57 => cm_let ((if v5_57 ≤ 0 then 0 else (if nI L ≤ v5_57 then 0 else 1)) : Int32) (fun j135 => cm_let ((if j135 = 0 then fd else nI q) : Int32) (fun j153 => (if j135 = 0 then fX11_ask_L21 (nI N) f kx n j153 (nI L) (nI q + 1) m_counts_57 else fX11_ask_L21 (nI N) f kx n j153 v5_57 (nI q + 1) m_counts_57)))) 81 0 5000 c1 (by omega) (by omega) ⟨g1 0 (by omega), g1 1 (by omega), g1 2 (by omega)⟩
  rw [W3_Mx] at g3
  have z : nI (W3 s N (nI (q / 10) - nI (q % 10)) 0) = 0 := rfl
  rw [z, nI_0] at g3
  rw [nI_0] at g2
  have hm := Mx_le s N (nI (q / 10) - nI (q % 10))
  refine ⟨c2, ?_⟩
  rw [fX11_ask_L21, if_neg h0, g2, g3]
  simp only [cm_let, nI_1]
  generalize Mx s N (nI (q / 10) - nI (q % 10)) = M at hm ⊢
  by_cases c : 0 < M
  · have p1 : ¬ nI M ≤ 0 := nI_nle c (by omega)
    by_cases c3 : M < L
    · have p2 : ¬ nI L ≤ nI M := nI_ge c3 (by omega)
      simp only [p1, p2, if_false, n10, c, c3, and_self, if_true]
    · have p2 : nI L ≤ nI M := nI_le (by omega) (by omega)
      simp only [p1, p2, if_false, c3, and_false, if_true]
  · obtain rfl : M = 0 := by omega
    have p1 : nI 0 ≤ 0 := by decide
    simp only [p1, if_true, Nat.lt_irrefl, false_and, if_false]
