/-! Rung: the operation. -/
theorem win_of {x lo hi : Int32} (h : ¬ fX10_isWithin x lo hi = 0) : ¬ x < lo ∧ ¬ hi < x := by
  unfold fX10_isWithin at h
  constructor
  · intro z; rw [if_pos z] at h; exact h rfl
  · intro z
    by_cases y : x < lo
    · rw [if_pos y] at h; exact h rfl
    · rw [if_neg y, if_pos z] at h; exact h rfl
theorem win12 {x : Int32} (h : ¬ x < 0 ∧ ¬ 12 < x) : ¬ x < 0 ∧ ¬ 13 ≤ x := by grind
theorem win17 {x : Int32} (h : ¬ x < 1 ∧ ¬ 7 < x) : ¬ x < 0 ∧ ¬ 8 ≤ x ∧ ¬ x = 0 := by grind
theorem win01 {x : Int32} (h : ¬ x < 0 ∧ ¬ 1 < x) : x = 0 ∨ x = 1 := by grind
theorem win0n {x y : Int32} (h : ¬ x < 0 ∧ ¬ y < x) : ¬ x < 0 ∧ x ≤ y := by grind
theorem op_rung (v1 v2 v3 v4 v5 : Int32) (be m1 m2 m3 : Nat → Int64) : ∃ r o o', fX10_rung v1 v2 v3 v4 v5 be = some (r, o) ∧ fX11_rung v1 v2 v3 v4 v5 m1 m2 m3 = some (r, o') := by
  have q : ∀ x y z, fX11_in x y z = fX10_isWithin x y z := fun _ _ _ => rfl
  by_cases c1 : fX10_isWithin v1 0 12 = 0
  · exact ⟨-1000000000000000002, be, (m1, m2, m3), by rw [fX10_rung, c1, cm_let, if_pos rfl], by rw [fX11_rung, q, c1, cm_let, if_pos rfl]⟩
  by_cases c2 : fX10_isWithin v2 1 7 = 0
  · exact ⟨-1000000000000000002, be, (m1, m2, m3), by rw [fX10_rung, cm_let, if_neg c1, c2, cm_let, if_pos rfl], by rw [fX11_rung, q, cm_let, if_neg c1, q, c2, cm_let, if_pos rfl]⟩
  by_cases c3 : fX10_isWithin v3 0 (v2 - 1) = 0
  · exact ⟨-1000000000000000002, be, (m1, m2, m3), by rw [fX10_rung, cm_let, if_neg c1, cm_let, if_neg c2, c3, cm_let, if_pos rfl], by rw [fX11_rung, q, cm_let, if_neg c1, q, cm_let, if_neg c2, q, c3, cm_let, if_pos rfl]⟩
  by_cases c4 : fX10_isWithin v4 0 1 = 0
  · exact ⟨-1000000000000000002, be, (m1, m2, m3), by rw [fX10_rung, cm_let, if_neg c1, cm_let, if_neg c2, cm_let, if_neg c3, c4, cm_let, if_pos rfl], by rw [fX11_rung, q, cm_let, if_neg c1, q, cm_let, if_neg c2, q, cm_let, if_neg c3, q, c4, cm_let, if_pos rfl]⟩
  by_cases c5 : fX10_isWithin v5 0 1 = 0
  · exact ⟨-1000000000000000002, be, (m1, m2, m3), by rw [fX10_rung, cm_let, if_neg c1, cm_let, if_neg c2, cm_let, if_neg c3, cm_let, if_neg c4, c5, cm_let, if_pos rfl], by rw [fX11_rung, q, cm_let, if_neg c1, q, cm_let, if_neg c2, q, cm_let, if_neg c3, q, cm_let, if_neg c4, q, c5, cm_let, if_pos rfl]⟩
  have a1 : ¬ v1 < 0 ∧ ¬ 13 ≤ v1 := win12 (win_of c1)
  have a2 : ¬ v2 < 0 ∧ ¬ 8 ≤ v2 ∧ ¬ v2 = 0 := win17 (win_of c2)
  have a4 : v4 = 0 ∨ v4 = 1 := win01 (win_of c4)
  obtain ⟨n0, hn0, rfl⟩ := i_of (x := v1) (N := 13) (by decide) a1.1 a1.2
  obtain ⟨v, hv, rfl⟩ := i_of (x := v2) (N := 8) (by decide) a2.1 a2.2.1
  have hv0 : v ≠ 0 := fun z => a2.2.2 (by rw [z]; rfl)
  have e1 : nI v - 1 = nI (v - 1) := pk_sub (b := 1) (by omega)
  have a3 : ¬ v3 < 0 ∧ v3 ≤ nI (v - 1) := by rw [e1] at c3; exact win0n (win_of c3)
  obtain ⟨d, hd, rfl⟩ := nI_of2 (x := v3) (n := v - 1) (nI_toInt (by omega)) a3.1 a3.2
  have hp : ∀ a, a ≤ 7 → a ^ n0 < 2 ^ 63 := fun a ha => Nat.lt_of_le_of_lt (Nat.le_trans (Nat.pow_le_pow_left ha n0) (Nat.pow_le_pow_right (by omega) (by omega : n0 ≤ 12))) (by decide)
  have hp0 : 0 < v ^ n0 := Nat.pow_pos (by omega)
  have m0 : ∀ kx : Int64 → Int64 → Int32 → RT3, fX11_rung_L64 (nI n0) (nI v) kx 5000 1 1 0 = kx (lN (v ^ n0)) (lN ((v - 1) ^ n0)) (nI n0) := fun kx => by
    have := mp_L64 hn0 hv (by omega) kx n0 0 5000 (by omega) (by omega)
    rw [Nat.pow_zero, Nat.pow_zero, show lN 1 = 1 from rfl, nI_0] at this
    exact this
  rcases a4 with rfl | rfl
  · obtain ⟨be', w1⟩ := wr_ok hn0 hv (by omega : d < v) be
    obtain ⟨r, l1, l2⟩ := low_ok (a := Wr n0 v d) (b := v ^ n0) (Wr_le hn0 hv) hp0 (hp v (by omega)) v5
    obtain ⟨ch, g1, g2⟩ := mc_L111 (fun v10_111 m_chooses_111 => fX11_rung_L182 (nI n0) (nI v) (nI d) m_chooses_111 (fun v10_182 v12_182 m_ways_182 m_more_182 => Option.bind (fX11_lowest v10_182 (lN (v ^ n0)) v5) (fun u405 => some (u405, m_ways_182, m_more_182, m_chooses_111))) 5000 0 0 m1 m2) 169 0 5000 m3 (by omega) (by omega) (fun s hs => by omega)
    obtain ⟨z, ways', more', k1⟩ := mm_L182 hn0 hv (by omega : d < v) g2 (fun v10_182 v12_182 m_ways_182 m_more_182 => Option.bind (fX11_lowest v10_182 (lN (v ^ n0)) v5) (fun u405 => some (u405, m_ways_182, m_more_182, ch))) (n0 + 1) 0 5000 m1 m2 (by omega) (by omega)
    rw [nI_0] at g1 k1
    rw [su, show lN 0 = 0 from rfl] at k1
    refine ⟨r, be', (ways', more', ch), ?_, ?_⟩
    · rw [fX10_rung, cm_let, if_neg c1, cm_let, if_neg c2, cm_let, if_neg c3, cm_let, if_neg c4, cm_let, if_neg c5, if_pos rfl, w1, Option.bind_some, Option.bind_some, pw_ok (by omega) (by omega), Option.bind_some, l1, Option.bind_some]
    · rw [fX11_rung, q, cm_let, if_neg c1, q, cm_let, if_neg c2, q, cm_let, if_neg c3, q, cm_let, if_neg c4, q, cm_let, if_neg c5, m0, if_neg (show ¬ (0 : Int32) = 1 by decide), g1, k1, l2, Option.bind_some]
  · obtain ⟨r, l1, l2⟩ := low_ok (a := (v - 1) ^ n0) (b := v ^ n0) (hp (v - 1) (by omega)) hp0 (hp v (by omega)) v5
    refine ⟨r, be, (m1, m2, m3), ?_, ?_⟩
    · rw [fX10_rung, cm_let, if_neg c1, cm_let, if_neg c2, cm_let, if_neg c3, cm_let, if_neg c4, cm_let, if_neg c5, if_neg (show ¬ (1 : Int32) = 0 by decide), e1, pw_ok (by omega) (by omega), Option.bind_some, Option.bind_some, pw_ok (by omega) (by omega), Option.bind_some, l1, Option.bind_some]
    · rw [fX11_rung, q, cm_let, if_neg c1, q, cm_let, if_neg c2, q, cm_let, if_neg c3, q, cm_let, if_neg c4, q, cm_let, if_neg c5, m0, if_pos rfl, l2, Option.bind_some]
