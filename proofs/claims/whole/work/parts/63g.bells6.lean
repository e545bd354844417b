/-! Bells: the days of the model. -/
theorem mm_day {a e : Nat} (ha : a < 13) (he : e < 100) {w : Nat → Nat} {ways ch : Nat → Int64} (hw : ∀ s, s < 13 → ways s = lN (w s)) (hch : ∀ s, s < 169 → ch s = lN (bT s)) (kx : Int32 → (Nat → Int64) → RT3) {F : Nat} (hF : 20 < F) (f : Nat → Int64) (h0 : f a = 0) : ∃ z f', fX11_rung_L287 (nI a) ways ch kx F (nI a + nI e) f = kx z f' ∧ f' a = lN (Ty e w a) ∧ ∀ s, ¬ s = a → f' s = f s := by
  rw [nI_add]
  rcases Nat.lt_or_ge 13 (a + e) with c | c
  · obtain ⟨F, rfl⟩ := suc (by omega : 0 < F)
    refine ⟨nI (a + e), f, by rw [fX11_rung_L287, if_pos (show (13 : Int32) ≤ nI (a + e) from nI_le (a := 13) (by omega) (by omega))], ?_, fun _ _ => rfl⟩
    rw [h0, Ty, su_zero (fun i hi => if_neg (by omega))]; rfl
  · obtain ⟨f', g1, g2, g3⟩ := mm_L287 (e := e) ha hw hch kx (13 - (a + e)) (a + e) F f (by omega) (by omega) (by omega) (by
      rw [h0, su_zero (fun i hi => if_neg (by omega))]; rfl)
    exact ⟨13, f', g1, g2, g3⟩
theorem mm_L265 {e : Nat} (he : e < 100) {w : Nat → Nat} {ways ch : Nat → Int64} (hw : ∀ s, s < 13 → ways s = lN (w s)) (hch : ∀ s, s < 169 → ch s = lN (bT s)) (kx : Int32 → (Nat → Int64) → RT3) : ∀ (d a n : Nat) (f : Nat → Int64), a + d = 13 → d < n → (∀ s, s < a → f s = lN (Ty e w s)) → ∃ f', fX11_rung_L265 (nI e) ways ch kx n (nI a) f = kx 13 f' ∧ ∀ s, s < 13 → f' s = lN (Ty e w s) := by
  intro d
  induction d with
  | zero =>
    intro a n f ha hn h
    obtain ⟨n, rfl⟩ := suc hn
    obtain rfl : a = 13 := by omega
    exact ⟨f, by rw [fX11_rung_L265, if_pos (by decide)]; rfl, h⟩
  | succ d ih =>
    intro a n f ha hn h
    obtain ⟨n, rfl⟩ := suc (by omega : 0 < n)
    have c1 : ¬ (13 : Int32) ≤ nI a := nI_ge (b := 13) (by omega) (by decide)
    obtain ⟨z, f1, g1, g2, g3⟩ := mm_day (a := a) (e := e) (by omega) he hw hch (fun v16_287 m_more_287 => fX11_rung_L265 (nI e) ways ch kx n (nI a + 1) m_more_287) (F := 5000) (by omega) (vp_updL f a 0) (by rw [upL_eq, if_pos rfl])
    rw [fX11_rung_L265, if_neg c1, clm (by omega), if_neg (by rw [ixc (by omega) (by omega)]; exact id), g1, nI_1]
    refine ih (a + 1) n f1 (by omega) (by omega) (fun s hs => ?_)
    by_cases q : s = a
    · rw [q]; exact g2
    · rw [g3 s q, upL_eq, if_neg q]; exact h s (by omega)
theorem mm_L343 {o d : Nat} (hq : ¬ nI o = nI d) {more : Nat → Int64} (kx : Int32 → (Nat → Int64) → RT3) : ∀ (r t n : Nat) (f : Nat → Int64), t + r = 13 → r < n → (∀ s, s < t → f s = more s) → ∃ f', fX11_rung_L343 (nI d) (nI o) more kx n (nI t) f = kx 13 f' ∧ ∀ s, s < 13 → f' s = more s := by
  intro r
  induction r with
  | zero =>
    intro t n f ht hn h
    obtain ⟨n, rfl⟩ := suc hn
    obtain rfl : t = 13 := by omega
    exact ⟨f, by rw [fX11_rung_L343, if_pos (by decide)]; rfl, h⟩
  | succ r ih =>
    intro t n f ht hn h
    obtain ⟨n, rfl⟩ := suc (by omega : 0 < n)
    have c1 : ¬ (13 : Int32) ≤ nI t := nI_ge (b := 13) (by omega) (by decide)
    rw [fX11_rung_L343, if_neg c1, if_neg hq]
    simp (disch := omega) only [clm, ixc, if_false, nI_1]
    refine ih (t + 1) n _ (by omega) (by omega) (fun s hs => ?_)
    rw [upL_eq]
    by_cases q : s = t
    · rw [if_pos q, q]
    · rw [if_neg q]; exact h s (by omega)
