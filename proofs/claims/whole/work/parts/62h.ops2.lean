/-! Weeks: judge, done, behind, comes, then. -/
theorem fault_sign {N : Nat} {f : Nat → Int32} (hN : N ≤ 60) : ∀ (d i n : Nat) (st r : Int32), i + d = N → d < n → fX11_faultOf_L4 (nI N) f (fun v1_4 v2_4 => (if v1_4 = 0 then some (-6) else some (nI N))) n st (nI i) = some r → r = -6 ∨ 0 ≤ r := by
  intro d
  induction d with
  | zero =>
    intro i n st r hi hn h
    obtain ⟨n, rfl⟩ := suc hn
    obtain rfl : i = N := by omega
    have h0 : nI i ≤ nI i := nI_le (Nat.le_refl i) (by omega)
    rw [fX11_faultOf_L4, if_pos h0] at h
    by_cases c : st = 0
    · rw [if_pos c] at h; exact Or.inl (Option.some.inj h).symm
    · rw [if_neg c] at h
      exact Or.inr (Option.some.inj h ▸ nI_pos' (by omega))
  | succ d ih =>
    intro i n st r hi hn h
    obtain ⟨n, rfl⟩ := suc (by omega : 0 < n)
    have h0 : ¬ nI N ≤ nI i := nI_ge (by omega) (by omega)
    simp (disch := omega) only [fX11_faultOf_L4, h0, clm, ixc, if_false, cm_let, nI_1] at h
    by_cases c : 0 ≤ fX11_step st (f i)
    · rw [if_pos c] at h
      exact ih (i + 1) n _ r (by omega) (by omega) h
    · rw [if_neg c] at h
      exact Or.inr (Option.some.inj h ▸ nI_pos' (by omega))
theorem fault_pos {q : SPA} {n r : Int32} {f : Nat → Int32} (hP : RP q n f) (h : fX11_faultOf n f = some r) (c : ¬ r = -6) : 0 ≤ r := by
  obtain ⟨h1, h2, h3, h4⟩ := hP
  obtain ⟨N, hN, rfl⟩ := nI_of2 (x := n) (M := 60) (n := 60) (by decide) (by grind) h3
  have h' : fX11_faultOf_L4 (nI N) f (fun v1_4 v2_4 => (if v1_4 = 0 then some (-6) else some (nI N))) 5000 0 (nI 0) = some r := by
    rw [fX11_faultOf] at h
    rw [nI_0]
    exact h
  exact (fault_sign hN N 0 5000 0 r (by omega) (by omega) h').resolve_left c
theorem run_ok {b0 : SBO} {book : Nat → Int32} {q : SPA} {n : Int32} {f : Nat → Int32} (hB : RB b0 book) (hP : RP q n f) (hf : fX11_faultOf n f = some (-6)) (tr : STR) (bb : SBO) (rr : SRE) (so mk ma rs ac : Int32) (nw : Nat → Int32) : ∃ (r : Int32) (a : Nat) (fm : Int32) (b : SBO) (k : Nat → Int32) (so' mk' : Int32) (re : SRE), fX8_run tr bb rr q b0 = some ((nI a, r, fm), b, re) ∧ RT b0 b k so' mk' ∧ 0 ≤ r ∧ a ≤ 60 ∧ ((r = 0 ∧ ∃ rs', fX11_goWeeks n so mk ma rs ac book nw f = some (-6, so', mk', fm, rs', nI a, k)) ∨ (0 < r ∧ fX11_goWeeks n so mk ma rs ac book nw f = some (nI a, so', mk', fm, r, nI a, k))) := by
  obtain ⟨h1, h2, h3, h4⟩ := hP
  obtain ⟨N, hN, rfl⟩ := nI_of2 (x := n) (M := 60) (n := 60) (by decide) (by grind) h3
  obtain ⟨b1, hc, hcp⟩ := copy_ok bb b0
  obtain ⟨k1, hk1, hk2⟩ := asNow_ok so mk ma book nw
  have hg : gk f N 0 0 := by
    rw [fX11_faultOf] at hf
    have hf' : fX11_faultOf_L4 (nI N) f (fun v1_4 v2_4 => (if v1_4 = 0 then some (-6) else some (nI N))) 5000 0 (nI 0) = some (-6) := by
      rw [nI_0]
      exact hf
    exact gk_of hN N 0 5000 0 (by omega) (by omega) hf'
  have hB1 : RB b1 k1 := (hB.copy hcp).cong hk1
  have hg8 := hB.2.2.2.2.2.2.2
  have hT : RT b0 b1 k1 0 0 := ⟨hB1, by rw [hcp.2.2]; grind, by rw [hcp.2.2]; grind, hg8.1, by rw [hcp.2.2]; grind⟩
  obtain ⟨r, a, fm, b, k, so', mk', re, j, g1, g2, g3, g4, g5⟩ := weeks hN h1 h4 b0 (fun v3_33 tr_33 borough_bo_33 reader_re_33 => some (tr_33, borough_bo_33, reader_re_33)) (fun v1_11 m_sold_11 m_markets_11 m_marketAt_11 m_reason_11 m_acts_11 m_now_11 => some ((-6), m_sold_11, m_markets_11, m_marketAt_11, m_reason_11, m_acts_11, m_now_11)) N N 0 5000 5000 0 (-6) 0 0 rs b1 k1 (fX4_begin rr) (Nat.le_refl _) (by omega) (by omega) (by omega) (by omega) hg rfl hT (Or.inl ⟨rfl, rfl⟩)
  rw [nI_0] at g4 g5
  refine ⟨r, a, fm, b, k, so', mk', re, ?_, g1, g2, by omega, ?_⟩
  · simp only [fX8_run, hc, Option.bind_some, cm_let]
    exact g4
  · simp only [fX11_goWeeks, hk2, Option.bind_some]
    rcases g5 with ⟨e, j', rs', g5⟩ | ⟨e, g5⟩
    · exact Or.inl ⟨e, rs', g5⟩
    · exact Or.inr ⟨e, g5⟩
/-- both bars -/
theorem can_ok {b0 : SBO} {book : Nat → Int32} {q : SPA} {n : Int32} {f : Nat → Int32} (hB : RB b0 book) (hP : RP q n f) (tr : STR) (re : SRE) (bb : SBO) (rr : SRE) (so mk ma rs ac : Int32) (nw : Nat → Int32) : ∃ (tr' : STR) (re' : SRE) (bb' : SBO) (rr' : SRE) (so' mk' ma' rs' ac' : Int32) (nw' : Nat → Int32),
    (fX10_canBeDone b0 q tr re bb rr = some (0, tr', re', bb', rr') ∧ fX11_barOfWeeks n so mk ma rs ac book nw f = some (-5, so', mk', ma', rs', ac', nw')) ∨
    (fX10_canBeDone b0 q tr re bb rr = some (1, tr', re', bb', rr') ∧ fX11_barOfWeeks n so mk ma rs ac book nw f = some (0, so', mk', ma', rs', ac', nw') ∧ RT b0 bb' nw' so' mk' ∧ tr'.1 = ac' ∧ tr'.2.2 = ma') := by
  obtain ⟨r0, re', h1, h2⟩ := fault_ok hP re
  by_cases c : r0 = -6
  · subst c
    obtain ⟨r, a, fm, b, k, so', mk', re2, g1, g2, g3, g4, g5⟩ := run_ok hB hP h2 tr bb rr so mk ma rs ac nw
    have z : ¬ (0 : Int32) ≤ -6 := by decide
    rcases g5 with ⟨e, rs', g5⟩ | ⟨e, g5⟩
    · subst e
      refine ⟨(nI a, 0, fm), re', b, re2, so', mk', fm, rs', nI a, k, Or.inr ⟨?_, ?_, g2, rfl, rfl⟩⟩
      · simp only [fX10_canBeDone, h1, Option.bind_some, if_true, g1]
      · have z2 : (-6 : Int32) < 0 := by decide
        simp only [fX11_barOfWeeks, h2, Option.bind_some, z, if_false, g5, z2, if_true]
    · have e2 : ¬ r = 0 := by grind
      have e3 : ¬ nI a < 0 := nI_pos (by omega)
      refine ⟨(nI a, r, fm), re', b, re2, so', mk', fm, r, nI a, k, Or.inl ⟨?_, ?_⟩⟩
      · simp only [fX10_canBeDone, h1, Option.bind_some, if_true, g1, e2, if_false]
      · simp only [fX11_barOfWeeks, h2, Option.bind_some, z, if_false, g5, e3]
  · have c2 : 0 ≤ r0 := fault_pos hP h2 c
    exact ⟨tr, re', bb, rr, so, mk, ma, rs, ac, nw, Or.inl ⟨by simp only [fX10_canBeDone, h1, Option.bind_some, c, if_false], by simp only [fX11_barOfWeeks, h2, Option.bind_some, c2, if_true]⟩⟩
theorem op_judge {b0 : SBO} {book : Nat → Int32} {q : SPA} {n : Int32} {f : Nat → Int32} (hB : RB b0 book) (hP : RP q n f) (v : Int32) (tr : STR) (re : SRE) (bb : SBO) (rr : SRE) (so mk ma rs ac : Int32) (nw : Nat → Int32) : ∃ r o1 o2, fX10_judge v b0 q tr re bb rr = some (r, o1) ∧ fX11_judge v n so mk ma rs ac book nw f = some (r, o2) := by
  by_cases c1 : v < 0 ∨ 1 < v
  · have u1 : fX10_isWithin v 0 1 = 0 := by grind [fX10_isWithin]
    have w1 : fX11_in v 0 1 = 0 := by grind [fX11_in]
    exact ⟨-2, _, _, by simp only [fX10_judge, cm_let, u1, if_true]; rfl, by simp only [fX11_judge, cm_let, w1, if_true]; rfl⟩
  · have u1 : fX10_isWithin v 0 1 = 1 := by grind [fX10_isWithin]
    have w1 : fX11_in v 0 1 = 1 := by grind [fX11_in]
    obtain ⟨r0, re', h1, h2⟩ := fault_ok hP re
    by_cases c : r0 = -6
    · subst c
      obtain ⟨r, a, fm, b, k, so', mk', re2, g1, g2, g3, g4, g5⟩ := run_ok hB hP h2 tr bb rr so mk ma rs ac nw
      have z : (-6 : Int32) < 0 := by decide
      rcases g5 with ⟨e, rs', g5⟩ | ⟨e, g5⟩
      · subst e
        exact ⟨-6, _, _, by simp only [fX10_judge, cm_let, u1, n10, if_false, h1, Option.bind_some, if_true, g1]; rfl, by simp only [fX11_judge, cm_let, w1, n10, if_false, h2, Option.bind_some, z, if_true, g5]; rfl⟩
      · have e2 : ¬ r = 0 := by grind
        have e3 : ¬ nI a < 0 := nI_pos (by omega)
        by_cases c2 : v = 0
        · subst c2
          exact ⟨nI a, _, _, by simp only [fX10_judge, cm_let, u1, n10, if_false, h1, Option.bind_some, if_true, g1, e2]; rfl, by simp only [fX11_judge, cm_let, w1, n10, if_false, h2, Option.bind_some, z, if_true, g5, e3]; rfl⟩
        · exact ⟨r, _, _, by simp only [fX10_judge, cm_let, u1, n10, if_false, h1, Option.bind_some, if_true, g1, e2, c2]; rfl, by simp only [fX11_judge, cm_let, w1, n10, if_false, h2, Option.bind_some, z, if_true, g5, e3, c2]; rfl⟩
    · have c2 : ¬ r0 < 0 := by
        have := fault_pos hP h2 c
        grind
      exact ⟨-5, _, _, by simp only [fX10_judge, cm_let, u1, n10, if_false, h1, Option.bind_some, c]; rfl, by simp only [fX11_judge, cm_let, w1, n10, if_false, h2, Option.bind_some, c2]; rfl⟩
theorem mdone_L12 (m : Nat → Int32) (kx : Int32 → (Nat → Int32) → Option (Int32 × Int32 × Int32 × Int32 × Int32 × Int32 × Int32 × (Nat → Int32) × (Nat → Int32))) : ∀ (d i n : Nat) (f : Nat → Int32), i + d = 31 → d < n → (∀ j, j < i → f j = m j) → ∃ f' : Nat → Int32, (∀ j, j < 31 → f' j = m j) ∧ fX11_done_L12 m kx n (nI i) f = kx (nI 31) f' := by
  intro d
  induction d with
  | zero =>
    intro i n f hi hn hb
    obtain ⟨n, rfl⟩ := suc hn
    obtain rfl : i = 31 := by omega
    exact ⟨f, hb, by rw [fX11_done_L12, if_pos (by decide)]⟩
  | succ d ih =>
    intro i n f hi hn hb
    obtain ⟨n, rfl⟩ := suc (by omega : 0 < n)
    have h0 : ¬ (31 : Int32) ≤ nI i := nI_ge (b := 31) (by omega) (by decide)
    simp (disch := omega) only [fX11_done_L12, h0, clm, ixc, if_false, nI_1]
    refine ih (i + 1) n _ (by omega) (by omega) (fun j hj => ?_)
    simp only [up_eq]
    by_cases e : j = i
    · simp [e]
    · simp only [e, if_false]; exact hb j (by omega)
theorem z5 : ¬ (0 : Int32) ≤ -5 := by decide
theorem z00 : (0 : Int32) ≤ 0 := by decide
theorem op_done {b0 : SBO} {book : Nat → Int32} {q : SPA} {n : Int32} {f : Nat → Int32} (hB : RB b0 book) (hP : RP q n f) (tr : STR) (re : SRE) (bb : SBO) (rr : SRE) (so mk ma rs ac : Int32) (nw : Nat → Int32) : ∃ r b1 q1 o1 n1 s1 s2 s3 s4 s5 k1 w1, fX10_done b0 q tr re bb rr = some (r, b1, q1, o1) ∧ fX11_done n so mk ma rs ac book nw f = some (r, n1, s1, s2, s3, s4, s5, k1, w1) ∧ RB b1 k1 ∧ RP q1 n1 f := by
  obtain ⟨tr', re', bb', rr', so', mk', ma', rs', ac', nw', ⟨h1, h2⟩ | ⟨h1, h2, h3, h4, h5⟩⟩ := can_ok hB hP tr re bb rr so mk ma rs ac nw
  · exact ⟨-5, b0, q, (tr', re', bb', rr'), n, so', mk', ma', rs', ac', book, nw', by simp only [fX10_done, h1, Option.bind_some, if_true], by simp only [fX11_done, h2, Option.bind_some, z5, if_false], hB, hP⟩
  · obtain ⟨b1, g1, g2⟩ := copy_ok b0 bb'
    obtain ⟨k1, g3, g4⟩ := mdone_L12 nw' (fun v1_12 m_book_12 => some (ac', 0, so', mk', ma', rs', ac', m_book_12, nw')) 31 0 5000 book (by omega) (by omega) (fun j hj => by omega)
    rw [nI_0] at g4
    refine ⟨ac', b1, (q.1, 0), (tr', re', bb', rr'), 0, so', mk', ma', rs', ac', k1, nw', ?_, ?_, (h3.1.copy g2).cong g3, ⟨rfl, by decide, by decide, hP.2.2.2⟩⟩
    · simp only [fX10_done, h1, Option.bind_some, n10, if_false, g1, cm_let, fX3_clear, h4]
    · simp only [fX11_done, h2, Option.bind_some, z00, if_true]
      exact g4
theorem op_behind {b0 : SBO} {book : Nat → Int32} {q : SPA} {n : Int32} {f : Nat → Int32} (hB : RB b0 book) (hP : RP q n f) (v w : Int32) (tr : STR) (re : SRE) (bb : SBO) (rr : SRE) (so mk ma rs ac : Int32) (nw : Nat → Int32) : ∃ r o1 o2, fX10_behind v w b0 q tr re bb rr = some (r, o1) ∧ fX11_behind v w n so mk ma rs ac book nw f = some (r, o2) := by
  by_cases c1 : v < 0 ∨ 8 ≤ v
  · have u1 : fX10_isOne v = 0 := by grind [fX10_isOne]
    have w1 : fX11_in v 0 7 = 0 := by grind [fX11_in]
    exact ⟨-1, _, _, by simp only [fX10_behind, cm_let, u1, if_true]; rfl, by simp only [fX11_behind, cm_let, w1, if_true]; rfl⟩
  · have u1 : fX10_isOne v = 1 := by grind [fX10_isOne]
    have w1 : fX11_in v 0 7 = 1 := by grind [fX11_in]
    by_cases c2 : w < 0 ∨ 2 < w
    · have u2 : fX10_isWithin w 0 2 = 0 := by grind [fX10_isWithin]
      have w2 : fX11_in w 0 2 = 0 := by grind [fX11_in]
      exact ⟨-2, _, _, by simp only [fX10_behind, cm_let, u1, u2, n10, if_false, if_true]; rfl, by simp only [fX11_behind, cm_let, w1, w2, n10, if_false, if_true]; rfl⟩
    · have u2 : fX10_isWithin w 0 2 = 1 := by grind [fX10_isWithin]
      have w2 : fX11_in w 0 2 = 1 := by grind [fX11_in]
      obtain ⟨tr', re', bb', rr', so', mk', ma', rs', ac', nw', ⟨h1, h2⟩ | ⟨h1, h2, h3, h4, h5⟩⟩ := can_ok hB hP tr re bb rr so mk ma rs ac nw
      · exact ⟨-5, _, _, by simp only [fX10_behind, cm_let, u1, u2, n10, if_false, h1, Option.bind_some, if_true]; rfl, by simp only [fX11_behind, cm_let, w1, w2, n10, if_false, h2, Option.bind_some, z5]; rfl⟩
      · obtain ⟨j, hj, rfl⟩ := i_of (x := v) (N := 8) (by decide) (fun z => c1 (Or.inl z)) (fun z => c1 (Or.inr z))
        have hw : w = 0 ∨ w = 1 ∨ w = 2 := by grind
        rcases hw with rfl | rfl | rfl
        · have e : (8 : Int32) * 0 + nI j = nI j := by grind
          have e1 := h3.1.1 j hj
          have e3 : fX10_dayOrNone (bb'.1 j) = nw' j := by grind [fX10_dayOrNone]
          exact ⟨nw' j, _, _, by simp (disch := omega) only [fX10_behind, cm_let, u1, u2, n10, if_false, h1, Option.bind_some, if_true, clm, ixc, e3]; rfl, by simp (disch := omega) only [fX11_behind, cm_let, w1, w2, n10, if_false, h2, Option.bind_some, z00, if_true, e, clm, ixc]; rfl⟩
        · have e : (8 : Int32) * 1 + nI j = nI (8 + j) := ad8 j
          exact ⟨bb'.2.1 j, _, _, by simp (disch := omega) only [fX10_behind, cm_let, u1, u2, n10, if_false, h1, Option.bind_some, if_true, clm, ixc]; rfl, by simp (disch := omega) only [fX11_behind, cm_let, w1, w2, n10, if_false, h2, Option.bind_some, z00, if_true, e, clm, ixc, (h3.1.2.1 j hj).1]; rfl⟩
        · have e : (8 : Int32) * 2 + nI j = nI (16 + j) := ad16 j
          have e2 : ¬ (2 : Int32) = 0 := by decide
          have e3 : ¬ (2 : Int32) = 1 := by decide
          exact ⟨bb'.2.2.1 j, _, _, by simp (disch := omega) only [fX10_behind, cm_let, u1, u2, n10, if_false, h1, Option.bind_some, e2, e3, clm, ixc]; rfl, by simp (disch := omega) only [fX11_behind, cm_let, w1, w2, n10, if_false, h2, Option.bind_some, z00, if_true, e, clm, ixc, h3.1.2.2.1 j hj]; rfl⟩
theorem op_comes {b0 : SBO} {book : Nat → Int32} {q : SPA} {n : Int32} {f : Nat → Int32} (hB : RB b0 book) (hP : RP q n f) (v : Int32) (tr : STR) (re : SRE) (bb : SBO) (rr : SRE) (so mk ma rs ac : Int32) (nw : Nat → Int32) : ∃ r o1 o2, fX10_comes v b0 q tr re bb rr = some (r, o1) ∧ fX11_comes v n so mk ma rs ac book nw f = some (r, o2) := by
  by_cases c1 : v < 0 ∨ 4 ≤ v
  · have u1 : fX10_isCart v = 0 := by grind [fX10_isCart]
    have w1 : fX11_in v 0 3 = 0 := by grind [fX11_in]
    exact ⟨-1, _, _, by simp only [fX10_comes, cm_let, u1, if_true]; rfl, by simp only [fX11_comes, cm_let, w1, if_true]; rfl⟩
  · have u1 : fX10_isCart v = 1 := by grind [fX10_isCart]
    have w1 : fX11_in v 0 3 = 1 := by grind [fX11_in]
    obtain ⟨tr', re', bb', rr', so', mk', ma', rs', ac', nw', ⟨h1, h2⟩ | ⟨h1, h2, h3, h4, h5⟩⟩ := can_ok hB hP tr re bb rr so mk ma rs ac nw
    · exact ⟨-5, _, _, by simp only [fX10_comes, cm_let, u1, n10, if_false, h1, Option.bind_some, if_true]; rfl, by simp only [fX11_comes, cm_let, w1, n10, if_false, h2, Option.bind_some, z5]; rfl⟩
    · obtain ⟨j, hj, rfl⟩ := i_of (x := v) (N := 4) (by decide) (fun z => c1 (Or.inl z)) (fun z => c1 (Or.inr z))
      exact ⟨bb'.2.2.2.1 j, _, _, by simp (disch := omega) only [fX10_comes, cm_let, u1, n10, if_false, h1, Option.bind_some, clm, ixc]; rfl, by simp (disch := omega) only [fX11_comes, cm_let, w1, n10, if_false, h2, Option.bind_some, z00, if_true, ad24, clm, ixc, h3.1.2.2.2.1 j hj]; rfl⟩
theorem chalkOf_ok (b : SBO) {j : Nat} (hj : j < 7) : ∃ ch : Nat → Int32, fX1_chalkOf (nI j) b = some (cnt b.1 (nI j) 8, (b.1, b.2.1, b.2.2.1, b.2.2.2.1, ch, b.2.2.2.2.2)) ∧ (∀ e, e < 7 → ch e = cnt b.1 (nI e) 8) := by
  obtain ⟨ch, h1, h2⟩ := countChalk_ok b
  have u : fX10_isDay (nI j) = 1 := by
    have a1 : ¬ nI j < 0 := nI_pos (by omega)
    have a2 : ¬ (7 : Int32) ≤ nI j := nI_ge (b := 7) hj (by decide)
    simp only [fX10_isDay, a1, a2, if_false]
  refine ⟨ch, ?_, h1⟩
  simp (disch := omega) only [fX1_chalkOf, h2, Option.bind_some, cm_let, u, n10, if_false, clm, ixc, h1 j hj]
theorem op_then {b0 : SBO} {book : Nat → Int32} {q : SPA} {n : Int32} {f : Nat → Int32} (hB : RB b0 book) (hP : RP q n f) (v : Int32) (tr : STR) (re : SRE) (bb : SBO) (rr : SRE) (so mk ma rs ac : Int32) (nw : Nat → Int32) : ∃ r o1 o2, fX10_then v b0 q tr re bb rr = some (r, o1) ∧ fX11_then v n so mk ma rs ac book nw f = some (r, o2) := by
  by_cases c1 : v < 0 ∨ 6 < v
  · have u1 : fX10_isWithin v 0 6 = 0 := by grind [fX10_isWithin]
    have w1 : fX11_in v 0 6 = 0 := by grind [fX11_in]
    exact ⟨-2, _, _, by simp only [fX10_then, cm_let, u1, if_true]; rfl, by simp only [fX11_then, cm_let, w1, if_true]; rfl⟩
  · have u1 : fX10_isWithin v 0 6 = 1 := by grind [fX10_isWithin]
    have w1 : fX11_in v 0 6 = 1 := by grind [fX11_in]
    obtain ⟨tr', re', bb', rr', so', mk', ma', rs', ac', nw', ⟨h1, h2⟩ | ⟨h1, h2, h3, h4, h5⟩⟩ := can_ok hB hP tr re bb rr so mk ma rs ac nw
    · exact ⟨-5, _, _, by simp only [fX10_then, cm_let, u1, n10, if_false, h1, Option.bind_some, if_true]; rfl, by simp only [fX11_then, cm_let, w1, n10, if_false, h2, Option.bind_some, z5]; rfl⟩
    · have hd := RB_day h3.1
      have hle := am_le (fun e => cnt bb'.1 (nI e) 8) 6
      obtain ⟨ch, hl1, hl2⟩ := least_ok bb'
      have C : ∀ x, fX10_then v b0 q tr re bb rr = x → fX10_then v b0 q tr re bb rr = x := fun _ h => h
      by_cases d0 : v = 0
      · subst d0
        exact ⟨bb'.2.2.2.2.2.1, _, _, by simp only [fX10_then, cm_let, u1, n10, if_false, h1, Option.bind_some, if_true]; rfl, by simp only [fX11_then, cm_let, w1, n10, if_false, h2, Option.bind_some, z00, if_true, h3.1.2.2.2.2.1.1]; rfl⟩
      · by_cases d1 : v = 1
        · subst d1
          exact ⟨_, _, _, by simp only [fX10_then, cm_let, u1, n10, if_false, h1, Option.bind_some, if_true, hl2, hd]; rfl, by simp only [fX11_then, cm_let, w1, n10, if_false, h2, Option.bind_some, z00, if_true, mday_ok]; rfl⟩
        · by_cases d2 : v = 2
          · subst d2
            obtain ⟨ch2, hc1, hc2⟩ := chalkOf_ok (bb'.1, bb'.2.1, bb'.2.2.1, bb'.2.2.2.1, ch, bb'.2.2.2.2.2) (j := am (fun e => cnt bb'.1 (nI e) 8) 6) (by omega)
            have e : cnt bb'.1 (nI (am (fun e => cnt bb'.1 (nI e) 8) 6)) 8 = cnt nw' (nI (am (fun e => cnt nw' (nI e) 8) 6)) 8 := by
              rw [← hd]; exact RB_cnt h3.1 (by omega)
            have e2 : ¬ (2 : Int32) = 0 := by decide
            have e3 : ¬ (2 : Int32) = 1 := by decide
            simp only at hc1
            rw [e] at hc1
            exact ⟨cnt nw' (nI (am (fun e => cnt nw' (nI e) 8) 6)) 8, _, _, by simp only [fX10_then, cm_let, u1, n10, if_false, h1, Option.bind_some, e2, e3, if_true, hl2, hc1]; rfl, by simp only [fX11_then, cm_let, w1, n10, if_false, h2, Option.bind_some, z00, if_true, e2, e3, mday_ok, mchalk_ok]; rfl⟩
          · by_cases d3 : v = 3
            · subst d3
              have e2 : ¬ (3 : Int32) = 0 := by decide
              have e3 : ¬ (3 : Int32) = 1 := by decide
              have e4 : ¬ (3 : Int32) = 2 := by decide
              have e5 : bb'.2.2.2.2.2.2.2.1 - b0.2.2.2.2.2.2.2.1 = so' := by rw [h3.2.1]; grind
              exact ⟨so', _, _, by simp only [fX10_then, cm_let, u1, n10, if_false, h1, Option.bind_some, e2, e3, e4, if_true, e5]; rfl, by simp only [fX11_then, cm_let, w1, n10, if_false, h2, Option.bind_some, z00, if_true, e2, e3, e4]; rfl⟩
            · by_cases d4 : v = 4
              · subst d4
                have e2 : ¬ (4 : Int32) = 0 := by decide
                have e3 : ¬ (4 : Int32) = 1 := by decide
                have e4 : ¬ (4 : Int32) = 2 := by decide
                have e5 : ¬ (4 : Int32) = 3 := by decide
                exact ⟨bb'.2.2.2.2.2.2.1, _, _, by simp only [fX10_then, cm_let, u1, n10, if_false, h1, Option.bind_some, e2, e3, e4, e5, if_true]; rfl, by simp only [fX11_then, cm_let, w1, n10, if_false, h2, Option.bind_some, z00, if_true, e2, e3, e4, e5, h3.1.2.2.2.2.2.1.1]; rfl⟩
              · by_cases d5 : v = 5
                · subst d5
                  have e2 : ¬ (5 : Int32) = 0 := by decide
                  have e3 : ¬ (5 : Int32) = 1 := by decide
                  have e4 : ¬ (5 : Int32) = 2 := by decide
                  have e5 : ¬ (5 : Int32) = 3 := by decide
                  have e6 : ¬ (5 : Int32) = 4 := by decide
                  have e7 : bb'.2.2.2.2.2.2.2.2 - b0.2.2.2.2.2.2.2.2 = mk' := by rw [h3.2.2.1]; grind
                  exact ⟨mk', _, _, by simp only [fX10_then, cm_let, u1, n10, if_false, h1, Option.bind_some, e2, e3, e4, e5, e6, if_true, e7]; rfl, by simp only [fX11_then, cm_let, w1, n10, if_false, h2, Option.bind_some, z00, if_true, e2, e3, e4, e5, e6]; rfl⟩
                · exact ⟨ma', _, _, by simp only [fX10_then, cm_let, u1, n10, if_false, h1, Option.bind_some, d0, d1, d2, d3, d4, d5, h5]; rfl, by simp only [fX11_then, cm_let, w1, n10, if_false, h2, Option.bind_some, z00, if_true, d0, d1, d2, d3, d4, d5]; rfl⟩
