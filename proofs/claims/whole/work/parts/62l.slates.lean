/-! Slates. -/
def ftf (s : SSI) (g : Int32) : Nat → Nat → Bool
  | 0, _ => true
  | d + 1, i => if fX6_answerFor (g + s.1 i) = s.2.1 i then ftf s g d (i + 1) else false
def b1 (b : Bool) : Int32 := if b then 1 else 0
theorem b1_0 {b : Bool} : (b1 b = 0) ↔ b = false := by cases b <;> decide
theorem fits_L2 {s : SSI} {N : Nat} (hN : N ≤ 8) (hs : s.2.2.2 = nI N) (g : Int32) : ∀ (d i n : Nat), i + d = N → d < n → fX6_fits_L2 g s (fun _ => some 1) n (nI i) = some (b1 (ftf s g d i)) := by
  intro d
  induction d with
  | zero =>
    intro i n hi hn
    obtain ⟨n, rfl⟩ := suc hn
    obtain rfl : i = N := by omega
    rw [fX6_fits_L2, hs, if_pos (nI_le (Nat.le_refl i) (by omega))]
    rfl
  | succ d ih =>
    intro i n hi hn
    obtain ⟨n, rfl⟩ := suc (by omega : 0 < n)
    have h0 : ¬ nI N ≤ nI i := nI_ge (by omega) (by omega)
    have h1 : ¬ (8 : Int32) ≤ nI i := nI_ge (b := 8) (by omega) (by decide)
    rw [fX6_fits_L2, hs, if_neg h0, if_neg h1]
    simp (disch := omega) only [clm, ixc, if_false, cm_let, nI_1]
    by_cases c : fX6_answerFor (g + s.1 i) = s.2.1 i
    · rw [if_pos c, ih (i + 1) n (by omega) (by omega)]
      simp only [ftf, c, if_true]
    · rw [if_neg c]
      simp only [ftf, c, if_false]
      rfl
theorem fits_ok {s : SSI} {N : Nat} (hN : N ≤ 8) (hs : s.2.2.2 = nI N) (g : Int32) : fX6_fits g s = some (b1 (ftf s g N 0)) := by
  have h := fits_L2 hN hs g N 0 5000 (by omega) (by omega)
  rw [nI_0] at h
  rw [fX6_fits]
  exact h
theorem said_ans (x g l : Int32) (h : x = g + l) : (if x ≤ 0 then (if 0 ≤ x then (2 : Int32) else 1) else 0) = fX6_answerFor (g + l) := by
  subst h
  grind [fX6_answerFor]
theorem fit_L22 {s : SSI} {N : Nat} {f : Nat → Int32} (hN : N ≤ 8) (h4 : ∀ i, i < 8 → s.1 i = f (3 * i) - f (3 * i + 1) ∧ s.2.1 i = f (3 * i + 2)) {c : Nat} (hc : c < 1000) : ∀ (d i n : Nat), i + d = N → d < n → fX11_isFit_L22 (nI c) (nI N) f (fun v2_22 v3_22 => if v2_22 = 0 ∨ v2_22 = 1 then some v2_22 else none) n 1 (nI i) = some (b1 (ftf s (nI (c / 10) - nI (c % 10)) d i)) := by
  intro d
  induction d with
  | zero =>
    intro i n hi hn
    obtain ⟨n, rfl⟩ := suc hn
    obtain rfl : i = N := by omega
    rw [fX11_isFit_L22, if_pos (nI_le (Nat.le_refl i) (by omega))]
    rfl
  | succ d ih =>
    intro i n hi hn
    obtain ⟨n, rfl⟩ := suc (by omega : 0 < n)
    have h0 : ¬ nI N ≤ nI i := nI_ge (by omega) (by omega)
    have e3 : (3 : Int32) * nI i = nI (3 * i) := pk_mul 3 i
    have e4 : nI (3 * i) + 1 = nI (3 * i + 1) := nI_add (3 * i) 1
    have e5 : nI (3 * i) + 2 = nI (3 * i + 2) := nI_add (3 * i) 2
    obtain ⟨q1, q2⟩ := h4 i (by omega)
    have key : fX11_saidOf (nI c) (f (3 * i)) (f (3 * i + 1)) = fX6_answerFor (nI (c / 10) - nI (c % 10) + s.1 i) := by
      simp (disch := omega) only [fX11_saidOf, div10, irm10]
      exact said_ans _ _ _ (by rw [q1]; grind)
    rw [fX11_isFit_L22, if_neg h0, if_neg (show ¬ (1 : Int32) = 0 by decide)]
    simp (disch := omega) only [e3, e4, e5, clm, ixc, if_false, cm_let, nI_1, key, ← q2]
    by_cases c1 : fX6_answerFor (nI (c / 10) - nI (c % 10) + s.1 i) = s.2.1 i
    · rw [if_pos c1, ih (i + 1) n (by omega) (by omega)]
      simp only [ftf, c1, if_true]
    · rw [if_neg c1]
      simp only [ftf, c1, if_false]
      obtain ⟨n, rfl⟩ := suc (by omega : 0 < n)
      rw [fX11_isFit_L22]
      by_cases c2 : nI N ≤ nI (i + 1)
      · rw [if_pos c2]; rfl
      · rw [if_neg c2]; rfl
def gb (s : SSI) (N c : Nat) : Bool := decide (c / 10 + c % 10 < 9) && ftf s (nI (c / 10) - nI (c % 10)) N 0
theorem isFit_ok {s : SSI} {N : Nat} {f : Nat → Int32} (hN : N ≤ 8) (h4 : ∀ i, i < 8 → s.1 i = f (3 * i) - f (3 * i + 1) ∧ s.2.1 i = f (3 * i + 2)) {c : Nat} (hc : c < 1000) : fX11_isFit (nI c) (nI N) f = some (b1 (gb s N c)) := by
  have e1 : nI (c / 10) + nI (c % 10) = nI (c / 10 + c % 10) := nI_add _ _
  rw [fX11_isFit]
  simp (disch := omega) only [div10, irm10, e1, cm_let]
  by_cases h : c / 10 + c % 10 < 9
  · rw [if_neg (show ¬ (9 : Int32) ≤ nI (c / 10 + c % 10) from nI_ge (b := 9) h (by decide))]
    have g := fit_L22 hN h4 hc N 0 5000 (by omega) (by omega)
    rw [nI_0] at g
    rw [g]
    simp [gb, h]
  · rw [if_pos (show (9 : Int32) ≤ nI (c / 10 + c % 10) from nI_le (a := 9) (by omega) (by omega)), show (5000 : Nat) = 4999 + 1 from rfl, fX11_isFit_L22]
    by_cases c2 : nI N ≤ 0
    · rw [if_pos c2]; simp [gb, h, b1]
    · rw [if_neg c2, if_pos rfl]; simp [gb, h, b1]
theorem gb_in (s : SSI) (N : Nat) {a b : Nat} (h : a + b ≤ 8) : gb s N (10 * a + b) = ftf s (nI a - nI b) N 0 := by
  have e1 : (10 * a + b) / 10 = a := by omega
  have e2 : (10 * a + b) % 10 = b := by omega
  have e3 : a + b < 9 := by omega
  simp [gb, e1, e2, e3]
theorem gb_out (s : SSI) (N : Nat) {a b : Nat} (h : 8 < a + b) (hb : b < 10) : gb s N (10 * a + b) = false := by
  have e1 : (10 * a + b) / 10 = a := by omega
  have e2 : (10 * a + b) % 10 = b := by omega
  have e3 : ¬ a + b < 9 := by omega
  simp [gb, e1, e2, e3]
/-- the model passes over codes that aren't fit -/
theorem sl_skip {s : SSI} {N : Nat} {f : Nat → Int32} (hN : N ≤ 8) (h4 : ∀ i, i < 8 → s.1 i = f (3 * i) - f (3 * i + 1) ∧ s.2.1 i = f (3 * i + 2)) (v : Int32) (ky : Int32 → Int32 → Option Int32) (acc : Int32) : ∀ (e c n : Nat), c + e ≤ 81 → e ≤ n → (∀ j, j < e → gb s N (c + j) = false) → fX11_slates_L4 v (nI N) f ky n acc (nI c) = fX11_slates_L4 v (nI N) f ky (n - e) acc (nI (c + e)) := by
  intro e
  induction e with
  | zero => intro c n _ _ _; rfl
  | succ e ih =>
    intro c n hc hn hg
    obtain ⟨n, rfl⟩ := suc (by omega : 0 < n)
    have h0 : ¬ (81 : Int32) ≤ nI c := nI_ge (b := 81) (by omega) (by decide)
    have h1 : gb s N c = false := hg 0 (by omega)
    rw [fX11_slates_L4, if_neg h0, isFit_ok hN h4 (by omega), h1]
    simp only [Option.bind_some, b1, Bool.false_eq_true, if_false, if_true, nI_1]
    rw [ih (c + 1) n (by omega) (by omega) (fun j hj => by have := hg (j + 1) (by omega); rwa [show c + 1 + j = c + (j + 1) by omega])]
    rw [show c + 1 + e = c + (e + 1) by omega, show n - e = n + 1 - (e + 1) by omega]
theorem sl_row {s : SSI} {N : Nat} {f : Nat → Int32} (hN : N ≤ 8) (hs : s.2.2.2 = nI N) (h4 : ∀ i, i < 8 → s.1 i = f (3 * i) - f (3 * i + 1) ∧ s.2.1 i = f (3 * i + 2)) (v : Int32) (kx ky : Int32 → Int32 → Option Int32) {a : Nat} (ha : a ≤ 8) : ∀ (e b n n' acc : Nat), a + b + e = 9 → e < n → e ≤ n' →
    (∃ r, fX6_slate_L13 v (nI a) s kx n (nI acc) (nI b) = some r ∧ fX11_slates_L4 v (nI N) f ky n' (nI acc) (nI (10 * a + b)) = some r) ∨
    (∃ acc' j, acc' ≤ acc + e ∧ fX6_slate_L13 v (nI a) s kx n (nI acc) (nI b) = kx (nI acc') j ∧ fX11_slates_L4 v (nI N) f ky n' (nI acc) (nI (10 * a + b)) = fX11_slates_L4 v (nI N) f ky (n' - e) (nI acc') (nI (10 * a + b + e))) := by
  intro e
  induction e with
  | zero =>
    intro b n n' acc hb hn hn'
    obtain ⟨n, rfl⟩ := suc hn
    have h0 : (8 : Int32) < nI a + nI b := by rw [nI_add]; exact nI_lt (a := 8) (by omega) (by omega)
    exact Or.inr ⟨acc, nI b, by omega, by rw [fX6_slate_L13, if_pos h0], rfl⟩
  | succ e ih =>
    intro b n n' acc hb hn hn'
    obtain ⟨n, rfl⟩ := suc (by omega : 0 < n)
    obtain ⟨n', rfl⟩ := suc (by omega : 0 < n')
    have h0 : ¬ (8 : Int32) < nI a + nI b := by rw [nI_add]; exact nI_nlt (a := 8) (by omega) (by omega)
    have h1 : ¬ (81 : Int32) ≤ nI (10 * a + b) := nI_ge (b := 81) (by omega) (by decide)
    have e1 : (10 : Int32) * nI a + nI b = nI (10 * a + b) := by rw [show (10 : Int32) = nI 10 from rfl, pk_mul, nI_add]
    have g := gb_in s N (a := a) (b := b) (by omega)
    have step := ih (b + 1) n n'
    rw [fX6_slate_L13, if_neg h0, fits_ok hN hs, fX11_slates_L4, if_neg h1, isFit_ok hN h4 (by omega), g]
    cases hf : ftf s (nI a - nI b) N 0 with
    | false =>
      simp only [Option.bind_some, b1, Bool.false_eq_true, if_false, if_true, nI_1]
      have := step acc (by omega) (by omega) (by omega)
      rw [show 10 * a + b + 1 = 10 * a + (b + 1) by omega]
      rcases this with h | ⟨acc', j, q1, q2, q3⟩
      · exact Or.inl h
      · refine Or.inr ⟨acc', j, by omega, q2, ?_⟩
        rw [q3, show n' + 1 - (e + 1) = n' - e by omega, show 10 * a + (b + 1) + e = 10 * a + b + (e + 1) by omega]
    | true =>
      simp only [Option.bind_some, b1, if_true, n10, if_false, nI_1]
      by_cases cv : nI acc = v
      · exact Or.inl ⟨nI (10 * a + b), by simp only [cv, if_true, e1], by simp only [cv, if_true]⟩
      · simp only [cv, if_false]
        have := step (acc + 1) (by omega) (by omega) (by omega)
        rw [show 10 * a + b + 1 = 10 * a + (b + 1) by omega]
        rcases this with h | ⟨acc', j, q1, q2, q3⟩
        · exact Or.inl h
        · refine Or.inr ⟨acc', j, by omega, q2, ?_⟩
          rw [q3, show n' + 1 - (e + 1) = n' - e by omega, show 10 * a + (b + 1) + e = 10 * a + b + (e + 1) by omega]
