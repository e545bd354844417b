/-! Bells: all days, and all counts. -/
theorem mm_L239 {v d c : Nat} (hv : v < 8) (hd : d < v) (hc : c < 13) {ch : Nat → Int64} (hch : ∀ s, s < 169 → ch s = lN (bT s)) (e0 : Nat → Nat) (kx : Int32 → (Nat → Int64) → (Nat → Int64) → RT3) : ∀ (r o n : Nat) (ways more : Nat → Int64) (w : Nat → Nat), o + r = v → r < n → (∀ s, s < 13 → ways s = lN (w s)) → ∃ (ways' more' : Nat → Int64) (w' : Nat → Nat), fX11_rung_L239 (nI v) (nI d) (nI c) ch kx n (nI o) ways more = kx (nI v) ways' more' ∧ (∀ s, s < 13 → ways' s = lN (w' s)) ∧ su (fun a => w' a * e0 a) 13 = su (fun a => w a * Vd d c v r e0 a) 13 := by
  intro r
  induction r with
  | zero =>
    intro o n ways more w ho hn h
    obtain ⟨n, rfl⟩ := suc hn
    obtain rfl : o = v := by omega
    exact ⟨ways, more, w, by rw [fX11_rung_L239, if_pos (Int32.le_refl _)], h, rfl⟩
  | succ r ih =>
    intro o n ways more w ho hn h
    obtain ⟨n, rfl⟩ := suc (by omega : 0 < n)
    have hj : ∃ e, e < 100 ∧ (if nI d ≤ nI o then nI c else (nI c + 1)) = nI e ∧ (¬ o = d → e = nd d c o) := by
      rcases Nat.lt_or_ge o d with q | q
      · exact ⟨c + 1, by omega, by rw [if_neg (nI_ge q (by omega)), nI_1], fun z => by unfold nd; rw [if_neg z, if_pos q]⟩
      · exact ⟨c, by omega, by rw [if_pos (nI_le q (by omega))], fun z => by unfold nd; rw [if_neg z, if_neg (by omega)]⟩
    obtain ⟨e, he, e1, e2⟩ := hj
    obtain ⟨more1, g1, g2⟩ := mm_L265 (e := e) he h hch (fun v15_265 m_more_265 => fX11_rung_L343 (nI d) (nI o) m_more_265 (fun v15_343 m_ways_343 => fX11_rung_L239 (nI v) (nI d) (nI c) ch kx n (nI o + 1) m_ways_343 m_more_265) 5000 0 ways) 13 0 5000 more (by omega) (by omega) (fun s hs => by omega)
    rw [nI_0] at g1
    rw [fX11_rung_L239, if_neg (nI_ge (by omega) (by omega)), e1, cm_let, g1]
    have ev : v - (r + 1) = o := by omega
    rw [Vd, ev]
    by_cases q : o = d
    · rw [if_pos q, show (5000 : Nat) = 4999 + 1 from rfl, fX11_rung_L343, if_neg (show ¬ (13 : Int32) ≤ 0 by decide), if_pos (by rw [q]), nI_1]
      exact ih (o + 1) n ways more1 w (by omega) (by omega) h
    · obtain ⟨ways1, k1, k2⟩ := mm_L343 (o := o) (d := d) (fun z => q ((nI_eq (by omega) (by omega)).mp z)) (more := more1) (fun v15_343 m_ways_343 => fX11_rung_L239 (nI v) (nI d) (nI c) ch kx n (nI o + 1) m_ways_343 more1) 13 0 5000 ways (by omega) (by omega) (fun s hs => by omega)
      rw [nI_0] at k1
      rw [k1, nI_1, if_neg q, ← e2 q]
      obtain ⟨w1, m1, w', z1, z2, z3⟩ := ih (o + 1) n ways1 more1 (Ty e w) (by omega) (by omega) (fun s hs => by rw [k2 s hs, g2 s hs])
      exact ⟨w1, m1, w', z1, z2, by rw [z3, pair]⟩
theorem mm_L182 {n0 v d : Nat} (hn0 : n0 < 13) (hv : v < 8) (hd : d < v) {ch : Nat → Int64} (hch : ∀ s, s < 169 → ch s = lN (bT s)) (kx : Int64 → Int32 → (Nat → Int64) → (Nat → Int64) → RT3) : ∀ (r c n : Nat) (ways more : Nat → Int64), c + r = n0 + 1 → r < n → ∃ z ways' more', fX11_rung_L182 (nI n0) (nI v) (nI d) ch kx n (lN (su (fun c => bn n0 c * Ud d c v (n0 - c)) c)) (nI c) ways more = kx (lN (Wr n0 v d)) z ways' more' := by
  intro r
  induction r with
  | zero =>
    intro c n ways more hc hn
    obtain ⟨n, rfl⟩ := suc hn
    obtain rfl : c = n0 + 1 := by omega
    exact ⟨nI (n0 + 1), ways, more, by rw [fX11_rung_L182, if_pos (nI_lt (by omega) (by omega))]; rfl⟩
  | succ r ih =>
    intro c n ways more hc hn
    obtain ⟨n, rfl⟩ := suc (by omega : 0 < n)
    obtain ⟨w1, g1, g2⟩ := mw_L191 (n0 := n0) (c := c) hn0 (by omega) hch (fun v13_191 m_ways_191 => fX11_rung_L239 (nI v) (nI d) (nI c) ch (fun v13_239 m_ways_239 m_more_239 => fX11_rung_L182 (nI n0) (nI v) (nI d) ch kx n ((lN (su (fun c => bn n0 c * Ud d c v (n0 - c)) c)) + (m_ways_239 0)) (nI c + 1) m_ways_239 m_more_239) 5000 0 m_ways_191 more) 13 0 5000 ways (by omega) (by omega) (fun s hs => by omega)
    obtain ⟨w2, m2, w', k1, k2, k3⟩ := mm_L239 hv hd (show c < 13 by omega) hch (Ud d c 0) (fun v13_239 m_ways_239 m_more_239 => fX11_rung_L182 (nI n0) (nI v) (nI d) ch kx n ((lN (su (fun c => bn n0 c * Ud d c v (n0 - c)) c)) + (m_ways_239 0)) (nI c + 1) m_ways_239 m_more_239) v 0 5000 w1 more (fun s => if s = n0 - c then bn n0 c else 0) (by omega) (by omega) g2
    rw [nI_0] at g1 k1
    rw [fX11_rung_L182, if_neg (nI_nlt (by omega) (by omega)), g1, k1, k2 0 (by omega), lN_add, nI_1]
    have e : w' 0 = bn n0 c * Ud d c v (n0 - c) := by
      rw [su_one _ 0 13 (by omega) (fun i _ h => by simp only [Ud]; rw [if_neg h, Nat.mul_zero]), su_one _ (n0 - c) 13 (by omega) (fun i _ h => by rw [if_neg h, Nat.zero_mul])] at k3
      rw [if_pos rfl, Vd_Ud v 0 (n0 - c) (by omega) (by omega)] at k3
      simpa [Ud] using k3
    rw [e]
    exact ih (c + 1) n w2 m2 (by omega) (by omega)
