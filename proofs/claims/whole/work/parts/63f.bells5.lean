/-! Bells: one day of the model. -/
theorem bT_bn : ∀ b, b < 13 → ∀ k, k < 13 → bT (13 * b + k) = bn b k := by decide +kernel
theorem mw_L191 {n0 c : Nat} (hn0 : n0 < 13) (hc : c ≤ n0) {ch : Nat → Int64} (hch : ∀ s, s < 169 → ch s = lN (bT s)) (kx : Int32 → (Nat → Int64) → RT3) : ∀ (d t n : Nat) (f : Nat → Int64), t + d = 13 → d < n → (∀ s, s < t → f s = lN (if s = n0 - c then bn n0 c else 0)) → ∃ f', fX11_rung_L191 (nI n0) (nI c) ch kx n (nI t) f = kx 13 f' ∧ ∀ s, s < 13 → f' s = lN (if s = n0 - c then bn n0 c else 0) := by
  intro d
  induction d with
  | zero =>
    intro t n f ht hn h
    obtain ⟨n, rfl⟩ := suc hn
    obtain rfl : t = 13 := by omega
    exact ⟨f, by rw [fX11_rung_L191, if_pos (by decide)]; rfl, h⟩
  | succ d ih =>
    intro t n f ht hn h
    obtain ⟨n, rfl⟩ := suc (by omega : 0 < n)
    have c1 : ¬ (13 : Int32) ≤ nI t := nI_ge (b := 13) (by omega) (by decide)
    have fin : ∀ z, z = lN (if t = n0 - c then bn n0 c else 0) → ∃ f', fX11_rung_L191 (nI n0) (nI c) ch kx n (nI (t + 1)) (vp_updL f t z) = kx 13 f' ∧ ∀ s, s < 13 → f' s = lN (if s = n0 - c then bn n0 c else 0) := fun z hz => by
      refine ih (t + 1) n _ (by omega) (by omega) (fun s hs => ?_)
      rw [upL_eq]
      by_cases q : s = t
      · rw [if_pos q, hz, q]
      · rw [if_neg q]; exact h s (by omega)
    have e1 : (13 : Int32) * nI n0 + nI c = nI (13 * n0 + c) := by rw [← nI_add, ← pk_mul]; rfl
    have ix : (nI t < 0 ∨ 13 ≤ t) = False := ixc (by omega) (by omega)
    rw [fX11_rung_L191, if_neg c1, pk_sub hc, e1, clm (by omega), clm (by omega), nI_1]
    by_cases q : t = n0 - c
    · rw [if_pos (by rw [q]), if_neg (by rw [ixc (by omega) (by omega)]; exact id), if_neg (by rw [ix]; exact id)]
      exact fin _ (by rw [hch _ (by omega), bT_bn n0 hn0 c (by omega), if_pos q])
    · rw [if_neg (fun z => q ((nI_eq (by omega) (by omega)).mp z)), if_neg (by rw [ix]; exact id)]
      exact fin _ (by rw [if_neg q]; rfl)
theorem mm_L287 {a e : Nat} (ha : a < 13) {w : Nat → Nat} {ways ch : Nat → Int64} (hw : ∀ s, s < 13 → ways s = lN (w s)) (hch : ∀ s, s < 169 → ch s = lN (bT s)) (kx : Int32 → (Nat → Int64) → RT3) : ∀ (d b n : Nat) (f : Nat → Int64), b + d = 13 → a + e ≤ b → d < n → f a = lN (su (fun b => if a + e ≤ b then w b * bn b (b - a) else 0) b) → ∃ f', fX11_rung_L287 (nI a) ways ch kx n (nI b) f = kx 13 f' ∧ f' a = lN (Ty e w a) ∧ ∀ s, ¬ s = a → f' s = f s := by
  intro d
  induction d with
  | zero =>
    intro b n f hb hab hn h
    obtain ⟨n, rfl⟩ := suc hn
    obtain rfl : b = 13 := by omega
    exact ⟨f, by rw [fX11_rung_L287, if_pos (by decide)]; rfl, h, fun _ _ => rfl⟩
  | succ d ih =>
    intro b n f hb hab hn h
    obtain ⟨n, rfl⟩ := suc (by omega : 0 < n)
    have c1 : ¬ (13 : Int32) ≤ nI b := nI_ge (b := 13) (by omega) (by decide)
    have e1 : (13 : Int32) * nI b + nI b - nI a = nI (13 * b + (b - a)) := by
      rw [show 13 * b + (b - a) = 13 * b + b - a by omega, ← pk_sub (by omega), ← nI_add, ← pk_mul]; rfl
    rw [fX11_rung_L287, if_neg c1, e1]
    simp (disch := omega) only [clm, ixc, if_false, nI_1]
    obtain ⟨f', g1, g2, g3⟩ := ih (b + 1) n (vp_updL f a (f a + ways b * ch (13 * b + (b - a)))) (by omega) (by omega) (by omega) (by
      rw [upL_eq, if_pos rfl, h, hw b (by omega), hch _ (by omega), bT_bn b (by omega) _ (by omega), lN_mul, lN_add, su, if_pos hab])
    exact ⟨f', g1, g2, fun s hs => by rw [g3 s hs, upL_eq, if_neg hs]⟩
