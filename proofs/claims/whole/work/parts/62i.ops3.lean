/-! Sights, images, and what is told. -/
def RS (s : SSI) (n : Int32) (f : Nat → Int32) : Prop := s.2.2.2 = n ∧ 0 ≤ n ∧ n ≤ 8 ∧ ∀ i, i < 8 → s.1 i = f (3 * i) - f (3 * i + 1) ∧ s.2.1 i = f (3 * i + 2)
theorem op_seen {s : SSI} {n : Int32} {f : Nat → Int32} (h : RS s n f) (v1 v2 v3 : Int32) : ∃ r s' n' f', fX10_seen v1 v2 v3 s = some (r, s') ∧ fX11_seen v1 v2 v3 n f = some (r, n', f') ∧ RS s' n' f' := by
  obtain ⟨h1, h2, h3, h4⟩ := h
  by_cases c1 : (v1 < 0 ∨ 9 < v1) ∨ (v2 < 0 ∨ 9 < v2) ∨ (v3 < 0 ∨ 2 < v3)
  · refine ⟨-2, s, n, f, ?_, ?_, h1, h2, h3, h4⟩
    · simp only [fX10_seen, cm_let]
      grind (splits := 20) [fX10_isWithin]
    · simp only [fX11_seen, cm_let]
      grind (splits := 20) [fX11_in]
  · have u1 : fX10_isWithin v1 0 9 = 1 := by grind [fX10_isWithin]
    have w1 : fX11_in v1 0 9 = 1 := by grind [fX11_in]
    have u2 : fX10_isWithin v2 0 9 = 1 := by grind [fX10_isWithin]
    have w2 : fX11_in v2 0 9 = 1 := by grind [fX11_in]
    have u3 : fX10_isWithin v3 0 2 = 1 := by grind [fX10_isWithin]
    have w3 : fX11_in v3 0 2 = 1 := by grind [fX11_in]
    by_cases c2 : n = 8
    · refine ⟨-4, s, n, f, ?_, ?_, h1, h2, h3, h4⟩
      · have e : fX6_add (v1 - v2) v3 s = some (0, s) := by
          have c3 : ¬ s.2.2.2 < 8 := by grind
          simp only [fX6_add, c3, if_false]
        simp only [fX10_seen, cm_let, u1, u2, u3, n10, if_false, e, Option.bind_some, if_true]
      · simp only [fX11_seen, cm_let, w1, w2, w3, n10, if_false, c2, if_true]
    · obtain ⟨j, hj, e⟩ := i_of (x := n) (N := 8) (by decide) (by grind) (fun z => by have : (8 : Int32) ≤ n := z; grind)
      subst e
      have e3 : (3 : Int32) * nI j = nI (3 * j) := pk_mul 3 j
      have e4 : nI (3 * j) + 1 = nI (3 * j + 1) := nI_add (3 * j) 1
      have e5 : nI (3 * j) + 2 = nI (3 * j + 2) := nI_add (3 * j) 2
      have c3 : nI j < 8 := by grind
      refine ⟨nI j + 1, (upd s.1 j (v1 - v2), upd s.2.1 j v3, s.2.2.1, nI j + 1), nI j + 1, upd (upd (upd f (3 * j) v1) (3 * j + 1) v2) (3 * j + 2) v3, ?_, ?_, rfl, by grind, by grind, fun i hi => ?_⟩
      · have e : fX6_add (v1 - v2) v3 s = some (1, (upd s.1 j (v1 - v2), upd s.2.1 j v3, s.2.2.1, nI j + 1)) := by
          simp (disch := omega) only [fX6_add, h1, c3, clm, ixc, if_true, if_false]
        simp only [fX10_seen, cm_let, u1, u2, u3, n10, if_false, e, Option.bind_some]
      · simp (disch := omega) only [fX11_seen, cm_let, w1, w2, w3, n10, if_false, c2, e3, e4, e5, clm, ixc]
      · have h5 := h4 i hi
        simp only [up_eq]
        by_cases ee : i = j
        · subst ee
          have a1 : ¬ 3 * i = 3 * i + 2 := by omega
          have a2 : ¬ 3 * i = 3 * i + 1 := by omega
          have a3 : ¬ 3 * i + 1 = 3 * i + 2 := by omega
          simp [a1, a2, a3]
        · have a1 : ¬ 3 * i = 3 * j + 2 := by omega
          have a2 : ¬ 3 * i = 3 * j + 1 := by omega
          have a3 : ¬ 3 * i = 3 * j := by omega
          have a4 : ¬ 3 * i + 1 = 3 * j + 2 := by omega
          have a5 : ¬ 3 * i + 1 = 3 * j + 1 := by omega
          have a6 : ¬ 3 * i + 1 = 3 * j := by omega
          have a7 : ¬ 3 * i + 2 = 3 * j + 2 := by omega
          have a8 : ¬ 3 * i + 2 = 3 * j + 1 := by omega
          have a9 : ¬ 3 * i + 2 = 3 * j := by omega
          simp only [ee, a1, a2, a3, a4, a5, a6, a7, a8, a9, if_false]
          exact h5
theorem op_forget {s : SSI} {n : Int32} {f : Nat → Int32} (h : RS s n f) : ∃ r s' n', fX10_forget s = (r, s') ∧ fX11_forget n = (r, n') ∧ RS s' n' f := by
  obtain ⟨h1, h2, h3, h4⟩ := h
  exact ⟨n, (s.1, s.2.1, s.2.2.1, 0), 0, by simp [fX10_forget, cm_let, fX6_clear, h1], rfl, rfl, by decide, by decide, h4⟩
theorem scopy_L2 (p : SSI) (kx : Int32 → SSI → Option SSI) : ∀ (d i n : Nat) (b : SSI), i + d = 8 → d < n → (∀ j, j < i → b.1 j = p.1 j ∧ b.2.1 j = p.2.1 j) → ∃ b' : SSI, (∀ j, j < 8 → b'.1 j = p.1 j ∧ b'.2.1 j = p.2.1 j) ∧ fX6_copyFrom_L2 p kx n (nI i) b = kx (nI 8) b' := by
  intro d
  induction d with
  | zero =>
    intro i n b hi hn hb
    obtain ⟨n, rfl⟩ := suc hn
    obtain rfl : i = 8 := by omega
    exact ⟨b, hb, by rw [fX6_copyFrom_L2, if_pos (by decide)]⟩
  | succ d ih =>
    intro i n b hi hn hb
    obtain ⟨n, rfl⟩ := suc (by omega : 0 < n)
    have h0 : ¬ (8 : Int32) ≤ nI i := nI_ge (b := 8) (by omega) (by decide)
    simp (disch := omega) only [fX6_copyFrom_L2, h0, clm, ixc, if_false, nI_1]
    refine ih (i + 1) n _ (by omega) (by omega) (fun j hj => ?_)
    simp only [up_eq]
    by_cases e : j = i
    · simp [e]
    · simp only [e, if_false]; exact hb j (by omega)
theorem scopy_ok (b p : SSI) : ∃ b' : SSI, fX6_copyFrom b p = some b' ∧ (∀ j, j < 8 → b'.1 j = p.1 j ∧ b'.2.1 j = p.2.1 j) ∧ b'.2.2.2 = p.2.2.2 := by
  obtain ⟨b', h1, h2⟩ := scopy_L2 p (fun v2_2 si_2 => some (si_2.1, si_2.2.1, si_2.2.2.1, p.2.2.2)) 8 0 5000 b (by omega) (by omega) (fun j hj => by omega)
  rw [nI_0] at h2
  exact ⟨(b'.1, b'.2.1, b'.2.2.1, p.2.2.2), by rw [fX6_copyFrom, h2], h1, rfl⟩
theorem RS.copy {b p : SSI} {n : Int32} {f : Nat → Int32} (h : RS p n f) (c : ∀ j, j < 8 → b.1 j = p.1 j ∧ b.2.1 j = p.2.1 j) (e : b.2.2.2 = p.2.2.2) : RS b n f := ⟨e.trans h.1, h.2.1, h.2.2.1, fun i hi => by rw [(c i hi).1, (c i hi).2]; exact h.2.2.2 i hi⟩
theorem RS.cong {b : SSI} {n : Int32} {f g : Nat → Int32} (h : RS b n f) (c : ∀ j, j < 24 → g j = f j) : RS b n g := ⟨h.1, h.2.1, h.2.2.1, fun i hi => by rw [c (3 * i) (by omega), c (3 * i + 1) (by omega), c (3 * i + 2) (by omega)]; exact h.2.2.2 i hi⟩
def RI (ik : Int32) (b : SBO) (s : SSI) (z : Nat) (img kept : Nat → Int32) : Prop := (ik = 0 ∧ kept z = 0) ∨ (ik = 1 ∧ kept z = 1 ∧ RB b (fun k => img (60 * z + k)) ∧ RS s (img (60 * z + 56)) (fun k => img (60 * z + 31 + k)))
theorem RI.other {ik : Int32} {b : SBO} {s : SSI} {z : Nat} {img kept img' kept' : Nat → Int32} (h : RI ik b s z img kept) (h1 : kept' z = kept z) (h2 : ∀ k, k < 60 → img' (60 * z + k) = img (60 * z + k)) : RI ik b s z img' kept' := by
  rcases h with ⟨e1, e2⟩ | ⟨e1, e2, e3, e4⟩
  · exact Or.inl ⟨e1, h1.trans e2⟩
  · refine Or.inr ⟨e1, h1.trans e2, e3.cong (fun i hi => h2 i (by omega)), ?_⟩
    rw [h2 56 (by omega)]
    exact e4.cong (fun i hi => by have := h2 (31 + i) (by omega); simpa [Nat.add_assoc] using this)
theorem img_L19 (z : Nat) (hz : z < 2) (m : Nat → Int32) (kx : Int32 → (Nat → Int32) → Option (Int32 × (Nat → Int32) × (Nat → Int32))) : ∀ (d i n : Nat) (f : Nat → Int32), i + d = 31 → d < n → (∀ j, j < i → f (60 * z + j) = m j) → ∃ f' : Nat → Int32, (∀ j, j < 31 → f' (60 * z + j) = m j) ∧ (∀ q, (q < 60 * z ∨ 60 * z + 31 ≤ q) → f' q = f q) ∧ fX11_image_L19 (nI (60 * z)) m kx n (nI i) f = kx (nI 31) f' := by
  intro d
  induction d with
  | zero =>
    intro i n f hi hn hb
    obtain ⟨n, rfl⟩ := suc hn
    obtain rfl : i = 31 := by omega
    exact ⟨f, hb, fun _ _ => rfl, by rw [fX11_image_L19, if_pos (by decide)]⟩
  | succ d ih =>
    intro i n f hi hn hb
    obtain ⟨n, rfl⟩ := suc (by omega : 0 < n)
    have h0 : ¬ (31 : Int32) ≤ nI i := nI_ge (b := 31) (by omega) (by decide)
    simp (disch := omega) only [fX11_image_L19, h0, nI_add, clm, ixc, if_false, nI_1]
    obtain ⟨f', g1, g2, g3⟩ := ih (i + 1) n (upd f (60 * z + i) (m i)) (by omega) (by omega) (fun j hj => by
      simp only [up_eq]
      by_cases e : j = i
      · simp [e]
      · have e2 : ¬ 60 * z + j = 60 * z + i := by omega
        simp only [e2, if_false]; exact hb j (by omega))
    refine ⟨f', g1, fun q hq => ?_, g3⟩
    rw [g2 q hq, up_eq, if_neg (by omega)]
theorem img_L47 (z : Nat) (hz : z < 2) (m : Nat → Int32) (kx : Int32 → (Nat → Int32) → Option (Int32 × (Nat → Int32) × (Nat → Int32))) : ∀ (d i n : Nat) (f : Nat → Int32), i + d = 24 → d < n → (∀ j, j < i → f (60 * z + 31 + j) = m j) → ∃ f' : Nat → Int32, (∀ j, j < 24 → f' (60 * z + 31 + j) = m j) ∧ (∀ q, (q < 60 * z + 31 ∨ 60 * z + 55 ≤ q) → f' q = f q) ∧ fX11_image_L47 (nI (60 * z)) m kx n (nI i) f = kx (nI 24) f' := by
  intro d
  induction d with
  | zero =>
    intro i n f hi hn hb
    obtain ⟨n, rfl⟩ := suc hn
    obtain rfl : i = 24 := by omega
    exact ⟨f, hb, fun _ _ => rfl, by rw [fX11_image_L47, if_pos (by decide)]⟩
  | succ d ih =>
    intro i n f hi hn hb
    obtain ⟨n, rfl⟩ := suc (by omega : 0 < n)
    have h0 : ¬ (24 : Int32) ≤ nI i := nI_ge (b := 24) (by omega) (by decide)
    have e31 : nI (60 * z) + 31 = nI (60 * z + 31) := nI_add (60 * z) 31
    simp (disch := omega) only [fX11_image_L47, h0, e31, nI_add, clm, ixc, if_false, nI_1]
    obtain ⟨f', g1, g2, g3⟩ := ih (i + 1) n (upd f (60 * z + 31 + i) (m i)) (by omega) (by omega) (fun j hj => by
      simp only [up_eq]
      by_cases e : j = i
      · simp [e]
      · have e2 : ¬ 60 * z + 31 + j = 60 * z + 31 + i := by omega
        simp only [e2, if_false]; exact hb j (by omega))
    refine ⟨f', g1, fun q hq => ?_, g3⟩
    rw [g2 q hq, up_eq, if_neg (by omega)]
theorem nar1 : vp_nar .boolean 1 = 1 := by decide +kernel
theorem mimg_ok (z : Nat) (hz : z < 2) (sn : Int32) (bk sg img kept : Nat → Int32) : ∃ img' : Nat → Int32, fX11_image (nI z) sn bk sg img kept = some (1, img', upd kept z 1) ∧ (∀ j, j < 31 → img' (60 * z + j) = bk j) ∧ (∀ j, j < 24 → img' (60 * z + 31 + j) = sg j) ∧ img' (60 * z + 56) = sn ∧ (∀ q, (q < 60 * z ∨ 60 * z + 60 ≤ q) → img' q = img q) := by
  have w1 : fX11_in (nI z) 0 1 = 1 := by
    rcases (show z = 0 ∨ z = 1 by omega) with rfl | rfl <;> decide
  have e60 : (60 : Int32) * nI z = nI (60 * z) := pk_mul 60 z
  have e56 : nI (60 * z) + 56 = nI (60 * z + 56) := nI_add (60 * z) 56
  obtain ⟨f1, g1, g2, g3⟩ := img_L19 z hz bk (fun v3_19 m_image_19 => fX11_image_L47 (nI (60 * z)) sg (fun v3_47 m_image_47 => if (nI (60 * z) + 56) < 0 ∨ 120 ≤ (nI (60 * z) + 56).toNatClampNeg then none else if nI z < 0 ∨ 2 ≤ (nI z).toNatClampNeg then none else some (1, (upd m_image_47 (nI (60 * z) + 56).toNatClampNeg sn), (upd kept (nI z).toNatClampNeg (vp_nar .boolean 1)))) 5000 0 m_image_19) 31 0 5000 img (by omega) (by omega) (fun j hj => by omega)
  obtain ⟨f2, k1, k2, k3⟩ := img_L47 z hz sg (fun v3_47 m_image_47 => if (nI (60 * z) + 56) < 0 ∨ 120 ≤ (nI (60 * z) + 56).toNatClampNeg then none else if nI z < 0 ∨ 2 ≤ (nI z).toNatClampNeg then none else some (1, (upd m_image_47 (nI (60 * z) + 56).toNatClampNeg sn), (upd kept (nI z).toNatClampNeg (vp_nar .boolean 1)))) 24 0 5000 f1 (by omega) (by omega) (fun j hj => by omega)
  rw [nI_0] at g3 k3
  refine ⟨upd f2 (60 * z + 56) sn, ?_, fun j hj => ?_, fun j hj => ?_, ?_, fun q hq => ?_⟩
  · simp only [fX11_image, cm_let, w1, n10, if_false, e60]
    rw [g3, k3]
    simp (disch := omega) only [e56, clm, ixc, if_false, nar1]
  · rw [up_eq, if_neg (by omega), k2 _ (by omega), g1 j hj]
  · rw [up_eq, if_neg (by omega), k1 j hj]
  · rw [up_eq, if_pos rfl]
  · rw [up_eq, if_neg (by omega), k2 _ (by omega), g2 q (by omega)]
theorem op_image {i0 i1 : Int32} {nb : SBO} {ns : SSI} {b0 b1 : SBO} {s0 s1 : SSI} {sn : Int32} {bk sg img kept : Nat → Int32} (hB : RB nb bk) (hS : RS ns sn sg) (h0 : RI i0 b0 s0 0 img kept) (h1 : RI i1 b1 s1 1 img kept) (v : Int32) : ∃ r i0' i1' b0' s0' b1' s1' img' kept', fX10_image v i0 i1 nb ns b0 s0 b1 s1 = some (r, i0', i1', b0', s0', b1', s1') ∧ fX11_image v sn bk sg img kept = some (r, img', kept') ∧ RI i0' b0' s0' 0 img' kept' ∧ RI i1' b1' s1' 1 img' kept' := by
  by_cases c1 : v < 0 ∨ 1 < v
  · have u1 : fX10_isWithin v 0 1 = 0 := by grind [fX10_isWithin]
    have w1 : fX11_in v 0 1 = 0 := by grind [fX11_in]
    exact ⟨-2, i0, i1, b0, s0, b1, s1, img, kept, by simp only [fX10_image, cm_let, u1, if_true], by simp only [fX11_image, cm_let, w1, if_true], h0, h1⟩
  · have hv : v = nI 0 ∨ v = nI 1 := by
      have : v = 0 ∨ v = 1 := by grind
      exact this
    rcases hv with rfl | rfl
    · obtain ⟨img', g1, g2, g3, g4, g5⟩ := mimg_ok 0 (by omega) sn bk sg img kept
      obtain ⟨bb, p1, p2⟩ := copy_ok b0 nb
      obtain ⟨ss, q1, q2, q3⟩ := scopy_ok s0 ns
      refine ⟨1, 1, i1, bb, ss, b1, s1, img', upd kept 0 1, ?_, g1, Or.inr ⟨rfl, rfl, ?_, ?_⟩, h1.other rfl (fun k hk => g5 _ (by omega))⟩
      · have u1 : fX10_isWithin 0 0 1 = 1 := by decide
        have u2 : (nI 0) = 0 := rfl
        simp only [fX10_image, cm_let, u1, n10, if_false, u2, if_true, fX2_keep, p1, q1, Option.bind_some]
      · exact (hB.copy p2).cong g2
      · rw [g4]
        exact (hS.copy q2 q3).cong g3
    · obtain ⟨img', g1, g2, g3, g4, g5⟩ := mimg_ok 1 (by omega) sn bk sg img kept
      obtain ⟨bb, p1, p2⟩ := copy_ok b1 nb
      obtain ⟨ss, q1, q2, q3⟩ := scopy_ok s1 ns
      refine ⟨1, i0, 1, b0, s0, bb, ss, img', upd kept 1 1, ?_, g1, h0.other rfl (fun k hk => g5 _ (by omega)), Or.inr ⟨rfl, rfl, ?_, ?_⟩⟩
      · have u1 : fX10_isWithin 1 0 1 = 1 := by decide
        have u2 : (nI 1) = 1 := rfl
        simp only [fX10_image, cm_let, u1, n10, if_false, u2, if_true, fX2_keep, p1, q1, Option.bind_some]
      · exact (hB.copy p2).cong g2
      · rw [g4]
        exact (hS.copy q2 q3).cong g3
