/-! Acts: the class's borough and the model's row do the same. -/
def RT (b0 b : SBO) (k : Nat → Int32) (so mk : Int32) : Prop := RB b k ∧ b.2.2.2.2.2.2.2.1 = b0.2.2.2.2.2.2.2.1 + so ∧ b.2.2.2.2.2.2.2.2 = b0.2.2.2.2.2.2.2.2 + mk ∧ 0 ≤ b0.2.2.2.2.2.2.2.2 ∧ b0.2.2.2.2.2.2.2.2 ≤ b.2.2.2.2.2.2.2.2
theorem isOne1 {j : Nat} (hj : j < 8) : fX10_isOne (nI j) = 1 := by
  have h1 : ¬ nI j < 0 := nI_pos (by omega)
  have h2 : ¬ (8 : Int32) ≤ nI j := nI_ge (b := 8) hj (by decide)
  simp only [fX10_isOne, h1, h2, if_false]
theorem isCart1 {j : Nat} (hj : j < 4) : fX10_isCart (nI j) = 1 := by
  have h1 : ¬ nI j < 0 := nI_pos (by omega)
  have h2 : ¬ (4 : Int32) ≤ nI j := nI_ge (b := 4) hj (by decide)
  simp only [fX10_isCart, h1, h2, if_false]
theorem RB.th {b : SBO} {k : Nat → Int32} (h : RB b k) {j : Nat} (hj : j < 8) {d d' : Int32} (hd : (d = -1 ∧ d' = -6) ∨ (0 ≤ d ∧ d ≤ 6 ∧ d' = d)) : RB (upd b.1 j d, b.2) (upd k j d') := by
  obtain ⟨g1, g2, g3, g4, g5, g6, g7, g8⟩ := h
  refine ⟨fun i hi => ?_, fun i hi => ?_, fun i hi => ?_, fun i hi => ?_, ?_, ?_, ?_, g8⟩
  · have := g1 i hi
    simp only [up_eq]; grind
  · have := g2 i hi
    simp only [up_eq]; grind
  · have := g3 i hi
    simp only [up_eq]; grind
  · have := g4 i hi
    simp only [up_eq]; grind
  · simp only [up_eq]; grind
  · simp only [up_eq]; grind
  · simp only [up_eq]; grind
theorem RB.su {b : SBO} {k : Nat → Int32} (h : RB b k) {j : Nat} (hj : j < 8) {d : Int32} (hd : 0 ≤ d ∧ d ≤ 9) : RB (b.1, upd b.2.1 j d, b.2.2) (upd k (8 + j) d) := by
  obtain ⟨g1, g2, g3, g4, g5, g6, g7, g8⟩ := h
  refine ⟨fun i hi => ?_, fun i hi => ?_, fun i hi => ?_, fun i hi => ?_, ?_, ?_, ?_, g8⟩
  · have := g1 i hi
    simp only [up_eq]; grind
  · have := g2 i hi
    simp only [up_eq]; grind
  · have := g3 i hi
    simp only [up_eq]; grind
  · have := g4 i hi
    simp only [up_eq]; grind
  · simp only [up_eq]; grind
  · simp only [up_eq]; grind
  · simp only [up_eq]; grind
theorem RB.co {b : SBO} {k : Nat → Int32} (h : RB b k) {j : Nat} (hj : j < 8) (d : Int32) : RB (b.1, b.2.1, upd b.2.2.1 j d, b.2.2.2) (upd k (16 + j) d) := by
  obtain ⟨g1, g2, g3, g4, g5, g6, g7, g8⟩ := h
  refine ⟨fun i hi => ?_, fun i hi => ?_, fun i hi => ?_, fun i hi => ?_, ?_, ?_, ?_, g8⟩
  · have := g1 i hi
    simp only [up_eq]; grind
  · have := g2 i hi
    simp only [up_eq]; grind
  · have := g3 i hi
    simp only [up_eq]; grind
  · have := g4 i hi
    simp only [up_eq]; grind
  · simp only [up_eq]; grind
  · simp only [up_eq]; grind
  · simp only [up_eq]; grind
theorem RB.fa {b : SBO} {k : Nat → Int32} (h : RB b k) {j : Nat} (hj : j < 4) (d : Int32) : RB (b.1, b.2.1, b.2.2.1, upd b.2.2.2.1 j d, b.2.2.2.2) (upd k (24 + j) d) := by
  obtain ⟨g1, g2, g3, g4, g5, g6, g7, g8⟩ := h
  refine ⟨fun i hi => ?_, fun i hi => ?_, fun i hi => ?_, fun i hi => ?_, ?_, ?_, ?_, g8⟩
  · have := g1 i hi
    simp only [up_eq]; grind
  · have := g2 i hi
    simp only [up_eq]; grind
  · have := g3 i hi
    simp only [up_eq]; grind
  · have := g4 i hi
    simp only [up_eq]; grind
  · simp only [up_eq]; grind
  · simp only [up_eq]; grind
  · simp only [up_eq]; grind
theorem RB.ch {b : SBO} {k : Nat → Int32} (h : RB b k) (c : Nat → Int32) : RB (b.1, b.2.1, b.2.2.1, b.2.2.2.1, c, b.2.2.2.2.2) k := h
theorem RB.so {b : SBO} {k : Nat → Int32} (h : RB b k) (x : Int32) : RB (b.1, b.2.1, b.2.2.1, b.2.2.2.1, b.2.2.2.2.1, b.2.2.2.2.2.1, b.2.2.2.2.2.2.1, x, b.2.2.2.2.2.2.2.2) (upd k 30 x) := by
  obtain ⟨g1, g2, g3, g4, g5, g6, g7, g8⟩ := h
  refine ⟨fun i hi => ?_, fun i hi => ?_, fun i hi => ?_, fun i hi => ?_, ?_, ?_, ?_, g8⟩
  · have := g1 i hi
    simp only [up_eq]; grind
  · have := g2 i hi
    simp only [up_eq]; grind
  · have := g3 i hi
    simp only [up_eq]; grind
  · have := g4 i hi
    simp only [up_eq]; grind
  · simp only [up_eq]; grind
  · simp only [up_eq]; grind
  · simp only [up_eq]; grind
theorem act_think {b0 b : SBO} {k : Nat → Int32} {so mk : Int32} (h : RT b0 b k so mk) {j : Nat} (hj : j < 8) {d d' : Int32} (hd : (d = -1 ∧ d' = -6) ∨ (0 ≤ d ∧ d ≤ 6 ∧ d' = d)) : ∃ r b' k', fX1_think (nI j) d b = some (r, b') ∧ fX11_think (nI j) d' k = some (r, k') ∧ RT b0 b' k' so mk ∧ 0 ≤ r := by
  obtain ⟨hB, h1, h2, h3, h4⟩ := h
  have e := hB.1 j hj
  by_cases c : b.1 j = d
  · have c' : k j = d' := by grind
    exact ⟨1, b, k, by simp (disch := omega) only [fX1_think, cm_let, isOne1 hj, n10, clm, ixc, if_false, c, if_true], by simp (disch := omega) only [fX11_think, clm, ixc, if_false, c', if_true], ⟨hB, h1, h2, h3, h4⟩, by decide⟩
  · have c' : ¬ k j = d' := by grind
    exact ⟨0, (upd b.1 j d, b.2), upd k j d', by simp (disch := omega) only [fX1_think, cm_let, isOne1 hj, n10, clm, ixc, if_false, c], by simp (disch := omega) only [fX11_think, clm, ixc, if_false, c'], ⟨hB.th hj hd, h1, h2, h3, h4⟩, by decide⟩
theorem act_grow {b0 b : SBO} {k : Nat → Int32} {so mk : Int32} (h : RT b0 b k so mk) {j : Nat} (hj : j < 8) : ∃ r b' k', fX1_beSurer (nI j) b = some (r, b') ∧ fX11_grow (nI j) k = some (r, k') ∧ RT b0 b' k' so mk ∧ 0 ≤ r := by
  obtain ⟨hB, h1, h2, h3, h4⟩ := h
  have e := hB.2.1 j hj
  by_cases c : b.2.1 j < 9
  · have c' : ¬ b.2.1 j = 9 := by grind
    exact ⟨0, (b.1, upd b.2.1 j (b.2.1 j + 1), b.2.2), upd k (8 + j) (b.2.1 j + 1), by simp (disch := omega) only [fX1_beSurer, cm_let, isOne1 hj, n10, clm, ixc, if_false, c, if_true], by simp (disch := omega) only [fX11_grow, ad8, clm, ixc, if_false, e.1, c'], ⟨hB.su hj (by grind), h1, h2, h3, h4⟩, by decide⟩
  · have c' : b.2.1 j = 9 := by grind
    exact ⟨2, b, k, by simp (disch := omega) only [fX1_beSurer, cm_let, isOne1 hj, n10, clm, ixc, if_false, c], by simp (disch := omega) only [fX11_grow, ad8, clm, ixc, if_false, e.1, c', if_true], ⟨hB, h1, h2, h3, h4⟩, by decide⟩
theorem act_drive {b0 b : SBO} {k : Nat → Int32} {so mk : Int32} (h : RT b0 b k so mk) {j : Nat} (hj : j < 4) : ∃ r b' k', fX1_come (nI j) b = some (r, b') ∧ fX11_drive (nI j) k = some (r, k') ∧ RT b0 b' k' so mk ∧ 0 ≤ r := by
  obtain ⟨hB, h1, h2, h3, h4⟩ := h
  have e := hB.2.2.2.1 j hj
  by_cases c : b.2.2.2.1 j = 0
  · exact ⟨7, b, k, by simp (disch := omega) only [fX1_come, cm_let, isCart1 hj, n10, clm, ixc, if_false, c, if_true], by simp (disch := omega) only [fX11_drive, ad24, clm, ixc, if_false, e, c, if_true], ⟨hB, h1, h2, h3, h4⟩, by decide⟩
  · exact ⟨0, (b.1, b.2.1, b.2.2.1, upd b.2.2.2.1 j (b.2.2.2.1 j - 1), b.2.2.2.2), upd k (24 + j) (b.2.2.2.1 j - 1), by simp (disch := omega) only [fX1_come, cm_let, isCart1 hj, n10, clm, ixc, if_false, c], by simp (disch := omega) only [fX11_drive, ad24, clm, ixc, if_false, e, c], ⟨hB.fa hj _, h1, h2, h3, h4⟩, by decide⟩
theorem act_talk {b0 b : SBO} {k : Nat → Int32} {so mk : Int32} (h : RT b0 b k so mk) {i j : Nat} (hi : i < 8) (hj : j < 8) : ∃ r b' k', fX1_talk (nI i) (nI j) b = some (r, b') ∧ fX11_talk (nI i) (nI j) k = some (r, k') ∧ RT b0 b' k' so mk ∧ 0 ≤ r := by
  obtain ⟨hB, h1, h2, h3, h4⟩ := h
  by_cases c : i = j
  · subst c
    exact ⟨3, b, k, by simp [fX1_talk, cm_let, isOne1 hi], by simp [fX11_talk], ⟨hB, h1, h2, h3, h4⟩, by decide⟩
  · have c' : ¬ nI i = nI j := fun q => c ((nI_eq (by omega) (by omega)).mp q)
    have e1 := hB.1 i hi
    have e2 := hB.2.1 i hi
    have e3 := hB.2.1 j hj
    by_cases d : b.1 i = -1
    · have d' : ¬ 0 ≤ k i := by grind
      exact ⟨4, b, k, by simp (disch := omega) only [fX1_talk, cm_let, isOne1 hi, isOne1 hj, c', n10, clm, ixc, if_false, d, if_true], by simp (disch := omega) only [fX11_talk, c', clm, ixc, if_false, d'], ⟨hB, h1, h2, h3, h4⟩, by decide⟩
    · have d' : 0 ≤ k i := by grind
      by_cases s : b.2.1 j < b.2.1 i
      · have e4 : ¬ (8 + j = j) := by omega
        have e5 : (if 0 < b.2.1 j - 1 then b.2.1 j - 1 else 0) = b.2.1 j - (if b.2.1 j ≤ 0 then (0 : Int32) else 1) := by grind
        have e6 : k i = b.1 i := by grind
        have d'' : 0 ≤ b.1 i := by grind
        refine ⟨0, (upd b.1 j (b.1 i), upd b.2.1 j (b.2.1 j - (if b.2.1 j ≤ 0 then (0 : Int32) else 1)), b.2.2), upd (upd k j (b.1 i)) (8 + j) (b.2.1 j - (if b.2.1 j ≤ 0 then (0 : Int32) else 1)), ?_, ?_, ⟨?_, h1, h2, h3, h4⟩, by decide⟩
        · simp (disch := omega) only [fX1_talk, cm_let, isOne1 hi, isOne1 hj, c', n10, clm, ixc, if_false, d, s, if_true, e5]
        · simp (disch := omega) only [fX11_talk, c', ad8, clm, ixc, if_false, d'', if_true, e2.1, e3.1, s, cm_let, up_eq k, e4, e6]
        · exact (hB.th hj (d := b.1 i) (d' := b.1 i) (Or.inr (by grind))).su hj (by grind)
      · exact ⟨5, b, k, by simp (disch := omega) only [fX1_talk, cm_let, isOne1 hi, isOne1 hj, c', n10, clm, ixc, if_false, d, s], by simp (disch := omega) only [fX11_talk, c', ad8, clm, ixc, if_false, d', if_true, e2.1, e3.1, s], ⟨hB, h1, h2, h3, h4⟩, by decide⟩
theorem act_pay {b0 b : SBO} {k : Nat → Int32} {so mk : Int32} (h : RT b0 b k so mk) {i j : Nat} (hi : i < 8) (hj : j < 8) : ∃ r b' k', fX1_pay (nI i) (nI j) b = some (r, b') ∧ fX11_pay (nI i) (nI j) k = some (r, k') ∧ RT b0 b' k' so mk ∧ 0 ≤ r := by
  obtain ⟨hB, h1, h2, h3, h4⟩ := h
  by_cases c : i = j
  · subst c
    exact ⟨3, b, k, by simp [fX1_pay, cm_let, isOne1 hi], by simp [fX11_pay], ⟨hB, h1, h2, h3, h4⟩, by decide⟩
  · have c' : ¬ nI i = nI j := fun q => c ((nI_eq (by omega) (by omega)).mp q)
    have e1 := hB.2.2.1 i hi
    have e2 := hB.2.2.1 j hj
    by_cases s : 3 ≤ b.2.2.1 i
    · have e4 : ¬ (16 + j = 16 + i) := by omega
      have e5 : ¬ (j = i) := by omega
      refine ⟨0, (b.1, upd b.2.1 j 9, upd (upd b.2.2.1 i (b.2.2.1 i - 3)) j (b.2.2.1 j + 3), b.2.2.2), upd (upd (upd k (16 + i) (b.2.2.1 i - 3)) (16 + j) (b.2.2.1 j + 3)) (8 + j) 9, ?_, ?_, ⟨?_, h1, h2, h3, h4⟩, by decide⟩
      · simp (disch := omega) only [fX1_pay, cm_let, isOne1 hi, isOne1 hj, c', n10, clm, ixc, if_false, s, if_true]
        simp only [up_eq b.2.2.1 i (b.2.2.1 i - 3) j, e5, if_false]
      · simp (disch := omega) only [fX11_pay, c', ad8, ad16, clm, ixc, if_false, e1, s, if_true]
        simp only [up_eq k (16 + i) (b.2.2.1 i - 3) (16 + j), e4, if_false, e2]
      · exact ((hB.co hi (b.2.2.1 i - 3)).co hj (b.2.2.1 j + 3)).su hj (by decide)
    · exact ⟨6, b, k, by simp (disch := omega) only [fX1_pay, cm_let, isOne1 hi, isOne1 hj, c', n10, clm, ixc, if_false, s], by simp (disch := omega) only [fX11_pay, c', ad16, clm, ixc, if_false, e1, s], ⟨hB, h1, h2, h3, h4⟩, by decide⟩
