/-! The relation between the class's state and the model's, and the plain calls. -/
def RB (b : SBO) (k : Nat → Int32) : Prop :=
  (∀ i, i < 8 → (b.1 i = -1 ∧ k i = -6) ∨ (0 ≤ b.1 i ∧ b.1 i ≤ 6 ∧ k i = b.1 i)) ∧
  (∀ i, i < 8 → k (8 + i) = b.2.1 i ∧ 0 ≤ b.2.1 i ∧ b.2.1 i ≤ 9) ∧
  (∀ i, i < 8 → k (16 + i) = b.2.2.1 i) ∧
  (∀ i, i < 4 → k (24 + i) = b.2.2.2.1 i) ∧
  (k 28 = b.2.2.2.2.2.1 ∧ 0 ≤ b.2.2.2.2.2.1 ∧ b.2.2.2.2.2.1 ≤ 6) ∧
  (k 29 = b.2.2.2.2.2.2.1 ∧ b.2.2.2.2.2.2.1 ≤ 99) ∧ k 30 = b.2.2.2.2.2.2.2.1 ∧
  (0 ≤ b.2.2.2.2.2.2.2.2 ∧ b.2.2.2.2.2.2.2.2 ≤ b.2.2.2.2.2.2.1)
def RP (q : SPA) (n : Int32) (f : Nat → Int32) : Prop := q.2 = n ∧ 0 ≤ n ∧ n ≤ 60 ∧ ∀ i, i < 60 → q.1 i = f i
theorem up_eq (f : Nat → Int32) (k : Nat) (x : Int32) (j : Nat) : upd f k x j = if j = k then x else f j := rfl
theorem i_of {x : Int32} {N : Nat} (hN : N < 2 ^ 31) (h : ¬ x < 0) (h2 : ¬ nI N ≤ x) : ∃ k, k < N ∧ x = nI k := by
  rcases pk_ix x hN with h3 | h3 | h3
  · exact absurd h3 h
  · exact absurd h3 h2
  · exact h3
theorem n10 : ((1 : Int32) = 0) = False := by decide
theorem clm {n : Nat} (h : n < 2147483648) : (nI n).toNatClampNeg = n := nI_clamp h
theorem ixc {n N : Nat} (h : n < N) (hN : N < 2147483648) : (nI n < 0 ∨ N ≤ n) = False := by
  simp only [eq_iff_iff, iff_false, not_or]
  exact ⟨nI_pos (by omega), by omega⟩
theorem ad8 (j : Nat) : (8 : Int32) + nI j = nI (8 + j) := nI_add 8 j
theorem ad16 (j : Nat) : (16 : Int32) + nI j = nI (16 + j) := nI_add 16 j
theorem ad24 (j : Nat) : (24 : Int32) + nI j = nI (24 + j) := nI_add 24 j
theorem ixb {n N : Nat} (h : n < N) (hN : N < 2 ^ 31) : ¬ (nI n < 0 ∨ N ≤ (nI n).toNatClampNeg) := by
  rintro (h1 | h1)
  · exact nI_pos (by omega) h1
  · rw [nI_clamp (by omega)] at h1; omega
theorem op_one {b : SBO} {k : Nat → Int32} (h : RB b k) (v1 v2 v3 v4 : Int32) : ∃ r b' k', fX10_one v1 v2 v3 v4 b = some (r, b') ∧ fX11_one v1 v2 v3 v4 k = some (r, k') ∧ RB b' k' := by
  by_cases c1 : v1 < 0 ∨ 8 ≤ v1
  · exact ⟨-1, b, k, by grind [fX10_one, fX10_isOne, cm_let], by grind [fX11_one, fX11_in, cm_let], h⟩
  · by_cases c2 : (v2 < -1 ∨ 6 < v2) ∨ (v3 < 0 ∨ 9 < v3) ∨ (v4 < 0 ∨ 99 < v4)
    · have u1 : fX10_isOne v1 = 1 := by grind [fX10_isOne]
      have w1 : fX11_in v1 0 7 = 1 := by grind [fX11_in]
      refine ⟨-2, b, k, ?_, ?_, h⟩
      · simp only [fX10_one, cm_let, u1, n10, if_false]
        grind (splits := 20) [fX10_isDay, fX10_isWithin]
      · simp only [fX11_one, cm_let, w1, n10, if_false]
        grind (splits := 20) [fX11_in]
    · obtain ⟨j, hj, rfl⟩ := i_of (N := 8) (by decide) (fun q => c1 (Or.inl q)) (fun q => c1 (Or.inr q))
      refine ⟨100 * b.2.1 j + b.2.2.1 j, (upd b.1 j v2, upd b.2.1 j v3, upd b.2.2.1 j v4, b.2.2.2.1, b.2.2.2.2.1, b.2.2.2.2.2.1, b.2.2.2.2.2.2.1, b.2.2.2.2.2.2.2.1, b.2.2.2.2.2.2.2.2), upd (upd (upd k j (if 0 ≤ v2 then v2 else -6)) (8 + j) v3) (16 + j) v4, ?_, ?_, ?_⟩
      · have u1 : fX10_isOne (nI j) = 1 := by grind [fX10_isOne]
        have u2 : (if fX10_isDay v2 = 0 then (if v2 = (-1) then (1 : Int32) else 0) else 1) = 1 := by grind [fX10_isDay]
        have u3 : fX10_isWithin v3 0 9 = 1 := by grind [fX10_isWithin]
        have u4 : fX10_isWithin v4 0 99 = 1 := by grind [fX10_isWithin]
        simp (disch := omega) only [fX10_one, cm_let, u1, u2, u3, u4, n10, clm, ixc, if_false]
      · have u1 : fX11_in (nI j) 0 7 = 1 := by grind [fX11_in]
        have u2 : fX11_in v2 (-1) 6 = 1 := by grind [fX11_in]
        have u3 : fX11_in v3 0 9 = 1 := by grind [fX11_in]
        have u4 : fX11_in v4 0 99 = 1 := by grind [fX11_in]
        simp (disch := omega) only [fX11_one, cm_let, u1, u2, u3, u4, n10, ad8, ad16, clm, ixc, if_false, h.2.1 j hj, h.2.2.1 j hj]
      · obtain ⟨g1, g2, g3, g4, g5, g6, g7, g8⟩ := h
        refine ⟨fun i hi => ?_, fun i hi => ?_, fun i hi => ?_, fun i hi => ?_, ?_, ?_, ?_, g8⟩
        · have := g1 i hi
          simp only [up_eq]
          grind
        · have := g2 i hi
          simp only [up_eq]
          grind
        · have := g3 i hi
          simp only [up_eq]
          grind
        · have := g4 i hi
          simp only [up_eq]
          grind
        · simp only [up_eq]
          grind
        · simp only [up_eq]
          grind
        · simp only [up_eq]
          grind
theorem op_cart {b : SBO} {k : Nat → Int32} (h : RB b k) (v1 v2 : Int32) : ∃ r b' k', fX10_cart v1 v2 b = some (r, b') ∧ fX11_cart v1 v2 k = some (r, k') ∧ RB b' k' := by
  by_cases c1 : v1 < 0 ∨ 4 ≤ v1
  · exact ⟨-1, b, k, by grind [fX10_cart, fX10_isCart, cm_let], by grind [fX11_cart, fX11_in, cm_let], h⟩
  · have u1 : fX10_isCart v1 = 1 := by grind [fX10_isCart]
    have w1 : fX11_in v1 0 3 = 1 := by grind [fX11_in]
    by_cases c2 : v2 < 0 ∨ 9 < v2
    · have u2 : fX10_isWithin v2 0 9 = 0 := by grind [fX10_isWithin]
      have w2 : fX11_in v2 0 9 = 0 := by grind [fX11_in]
      exact ⟨-2, b, k, by simp only [fX10_cart, cm_let, u1, u2, n10, if_false, if_true], by simp only [fX11_cart, cm_let, w1, w2, n10, if_false, if_true], h⟩
    · have u2 : fX10_isWithin v2 0 9 = 1 := by grind [fX10_isWithin]
      have w2 : fX11_in v2 0 9 = 1 := by grind [fX11_in]
      obtain ⟨j, hj, rfl⟩ := i_of (N := 4) (by decide) (fun q => c1 (Or.inl q)) (fun q => c1 (Or.inr q))
      refine ⟨b.2.2.2.1 j, (b.1, b.2.1, b.2.2.1, upd b.2.2.2.1 j v2, b.2.2.2.2), upd k (24 + j) v2, ?_, ?_, ?_⟩
      · simp (disch := omega) only [fX10_cart, cm_let, u1, u2, n10, clm, ixc, if_false]
      · simp (disch := omega) only [fX11_cart, cm_let, w1, w2, n10, ad24, clm, ixc, if_false, h.2.2.2.1 j hj]
      · obtain ⟨g1, g2, g3, g4, g5, g6, g7, g8⟩ := h
        refine ⟨fun i hi => ?_, fun i hi => ?_, fun i hi => ?_, fun i hi => ?_, ?_, ?_, ?_, g8⟩
        · have := g1 i hi
          simp only [up_eq]
          grind
        · have := g2 i hi
          simp only [up_eq]
          grind
        · have := g3 i hi
          simp only [up_eq]
          grind
        · have := g4 i hi
          simp only [up_eq]
          grind
        · simp only [up_eq]
          grind
        · simp only [up_eq]
          grind
        · simp only [up_eq]
          grind
theorem op_day {b : SBO} {k : Nat → Int32} (h : RB b k) (v1 : Int32) : ∃ r b' k', fX10_day v1 b = (r, b') ∧ fX11_day v1 k = some (r, k') ∧ RB b' k' := by
  by_cases c1 : v1 < 0 ∨ 6 < v1
  · exact ⟨-2, b, k, by grind [fX10_day, fX10_isDay, cm_let], by grind [fX11_day, fX11_in, cm_let], h⟩
  · have u1 : fX10_isDay v1 = 1 := by grind [fX10_isDay]
    have w1 : fX11_in v1 0 6 = 1 := by grind [fX11_in]
    obtain ⟨g1, g2, g3, g4, g5, g6, g7, g8⟩ := h
    refine ⟨b.2.2.2.2.2.1, (b.1, b.2.1, b.2.2.1, b.2.2.2.1, b.2.2.2.2.1, v1, b.2.2.2.2.2.2), upd k 28 v1, ?_, ?_, ?_⟩
    · simp only [fX10_day, cm_let, u1, n10, if_false]
    · simp only [fX11_day, cm_let, w1, n10, if_false, g5.1]
    · refine ⟨fun i hi => ?_, fun i hi => ?_, fun i hi => ?_, fun i hi => ?_, ?_, ?_, ?_, g8⟩
      · have := g1 i hi
        simp only [up_eq]
        grind
      · have := g2 i hi
        simp only [up_eq]
        grind
      · have := g3 i hi
        simp only [up_eq]
        grind
      · have := g4 i hi
        simp only [up_eq]
        grind
      · simp only [up_eq]
        grind
      · simp only [up_eq]
        grind
      · simp only [up_eq]
        grind
theorem op_say {q : SPA} {n : Int32} {f : Nat → Int32} (h : RP q n f) (v1 : Int32) : ∃ r q' n' f', fX10_say v1 q = some (r, q') ∧ fX11_say v1 n f = some (r, n', f') ∧ RP q' n' f' := by
  obtain ⟨h1, h2, h3, h4⟩ := h
  by_cases c1 : v1 < 33 ∨ 126 < v1
  · exact ⟨-2, q, n, f, by grind [fX10_say, fX10_isWithin, cm_let], by grind [fX11_say, fX11_in, cm_let], h1, h2, h3, h4⟩
  · have u1 : fX10_isWithin v1 33 126 = 1 := by grind [fX10_isWithin]
    have w1 : fX11_in v1 33 126 = 1 := by grind [fX11_in]
    by_cases c2 : n = 60
    · refine ⟨-4, q, n, f, ?_, ?_, h1, h2, h3, h4⟩
      · have e : fX3_add v1 q = some (0, q) := by grind [fX3_add]
        simp [fX10_say, cm_let, u1, n10, e]
      · simp only [fX11_say, cm_let, w1, n10, if_false, c2, if_true]
    · obtain ⟨j, hj, e⟩ := i_of (x := n) (N := 60) (by decide) (by grind) (fun z => by have : (60 : Int32) ≤ n := z; grind)
      subst e
      refine ⟨nI j + 1, (upd q.1 j v1, nI j + 1), nI j + 1, upd f j v1, ?_, ?_, rfl, by grind, by grind, fun i hi => ?_⟩
      · have e : fX3_add v1 q = some (1, (upd q.1 j v1, nI j + 1)) := by
          have c3 : nI j < 60 := by grind
          simp (disch := omega) only [fX3_add, h1, c3, clm, ixc, if_true, if_false]
        simp [fX10_say, cm_let, u1, n10, e]
      · simp (disch := omega) only [fX11_say, cm_let, w1, n10, if_false, c2, clm, ixc]
      · simp only [up_eq]
        have := h4 i hi
        grind
theorem op_wipe {q : SPA} {n : Int32} {f : Nat → Int32} (h : RP q n f) : ∃ r q' n', fX10_wipe q = (r, q') ∧ fX11_wipe n = (r, n') ∧ RP q' n' f := by
  obtain ⟨h1, h2, h3, h4⟩ := h
  exact ⟨n, (q.1, 0), 0, by simp [fX10_wipe, cm_let, fX3_clear, h1], rfl, rfl, by decide, by decide, h4⟩
