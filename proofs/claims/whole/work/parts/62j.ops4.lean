/-! Images given back, what is told, chalk, years. -/
theorem res_L31 (z : Nat) (hz : z < 2) (m : Nat → Int32) (kx : Int32 → (Nat → Int32) → Option (Int32 × Int32 × (Nat → Int32) × (Nat → Int32))) : ∀ (d i n : Nat) (f : Nat → Int32), i + d = 31 → d < n → (∀ j, j < i → f j = m (60 * z + j)) → ∃ f' : Nat → Int32, (∀ j, j < 31 → f' j = m (60 * z + j)) ∧ fX11_restore_L31 (nI (60 * z)) m kx n (nI i) f = kx (nI 31) f' := by
  intro d
  induction d with
  | zero =>
    intro i n f hi hn hb
    obtain ⟨n, rfl⟩ := suc hn
    obtain rfl : i = 31 := by omega
    exact ⟨f, hb, by rw [fX11_restore_L31, if_pos (by decide)]⟩
  | succ d ih =>
    intro i n f hi hn hb
    obtain ⟨n, rfl⟩ := suc (by omega : 0 < n)
    have h0 : ¬ (31 : Int32) ≤ nI i := nI_ge (b := 31) (by omega) (by decide)
    simp (disch := omega) only [fX11_restore_L31, h0, nI_add, clm, ixc, if_false, nI_1]
    refine ih (i + 1) n _ (by omega) (by omega) (fun j hj => ?_)
    simp only [up_eq]
    by_cases e : j = i
    · simp [e]
    · simp only [e, if_false]; exact hb j (by omega)
theorem res_L59 (z : Nat) (hz : z < 2) (m : Nat → Int32) (kx : Int32 → (Nat → Int32) → Option (Int32 × Int32 × (Nat → Int32) × (Nat → Int32))) : ∀ (d i n : Nat) (f : Nat → Int32), i + d = 24 → d < n → (∀ j, j < i → f j = m (60 * z + 31 + j)) → ∃ f' : Nat → Int32, (∀ j, j < 24 → f' j = m (60 * z + 31 + j)) ∧ fX11_restore_L59 (nI (60 * z)) m kx n (nI i) f = kx (nI 24) f' := by
  intro d
  induction d with
  | zero =>
    intro i n f hi hn hb
    obtain ⟨n, rfl⟩ := suc hn
    obtain rfl : i = 24 := by omega
    exact ⟨f, hb, by rw [fX11_restore_L59, if_pos (by decide)]⟩
  | succ d ih =>
    intro i n f hi hn hb
    obtain ⟨n, rfl⟩ := suc (by omega : 0 < n)
    have h0 : ¬ (24 : Int32) ≤ nI i := nI_ge (b := 24) (by omega) (by decide)
    have e31 : nI (60 * z) + 31 = nI (60 * z + 31) := nI_add (60 * z) 31
    simp (disch := omega) only [fX11_restore_L59, h0, e31, nI_add, clm, ixc, if_false, nI_1]
    refine ih (i + 1) n _ (by omega) (by omega) (fun j hj => ?_)
    simp only [up_eq]
    by_cases e : j = i
    · simp [e]
    · simp only [e, if_false]; exact hb j (by omega)
theorem mres_ok (z : Nat) (hz : z < 2) (sn : Int32) (bk sg img kept : Nat → Int32) (hk : kept z = 1) : ∃ bk' sg' : Nat → Int32, fX11_restore (nI z) sn bk sg img kept = some (1, img (60 * z + 56), bk', sg') ∧ (∀ j, j < 31 → bk' j = img (60 * z + j)) ∧ (∀ j, j < 24 → sg' j = img (60 * z + 31 + j)) := by
  have w1 : fX11_in (nI z) 0 1 = 1 := by
    rcases (show z = 0 ∨ z = 1 by omega) with rfl | rfl <;> decide
  have e60 : (60 : Int32) * nI z = nI (60 * z) := pk_mul 60 z
  have e56 : nI (60 * z) + 56 = nI (60 * z + 56) := nI_add (60 * z) 56
  obtain ⟨f2, k1, k3⟩ := res_L59 z hz img (fun v3_59 m_sight_59 => if (nI (60 * z) + 56) < 0 ∨ 120 ≤ (nI (60 * z) + 56).toNatClampNeg then none else some (1, (img (nI (60 * z) + 56).toNatClampNeg), bk, m_sight_59)) 24 0 5000 sg (by omega) (by omega) (fun j hj => by omega)
  obtain ⟨f1, g1, g3⟩ := res_L31 z hz img (fun v3_31 m_book_31 => fX11_restore_L59 (nI (60 * z)) img (fun v3_59 m_sight_59 => if (nI (60 * z) + 56) < 0 ∨ 120 ≤ (nI (60 * z) + 56).toNatClampNeg then none else some (1, (img (nI (60 * z) + 56).toNatClampNeg), m_book_31, m_sight_59)) 5000 0 sg) 31 0 5000 bk (by omega) (by omega) (fun j hj => by omega)
  obtain ⟨f2, k1, k3⟩ := res_L59 z hz img (fun v3_59 m_sight_59 => if (nI (60 * z) + 56) < 0 ∨ 120 ≤ (nI (60 * z) + 56).toNatClampNeg then none else some (1, (img (nI (60 * z) + 56).toNatClampNeg), f1, m_sight_59)) 24 0 5000 sg (by omega) (by omega) (fun j hj => by omega)
  rw [nI_0] at g3 k3
  refine ⟨f1, f2, ?_, g1, k1⟩
  simp (disch := omega) only [fX11_restore, cm_let, w1, n10, if_false, clm, ixc, hk, e60]
  rw [g3, k3]
  simp (disch := omega) only [e56, clm, ixc, if_false]
theorem op_restore {i0 i1 : Int32} {nb : SBO} {ns : SSI} {b0 b1 : SBO} {s0 s1 : SSI} {sn : Int32} {bk sg img kept : Nat → Int32} (hB : RB nb bk) (hS : RS ns sn sg) (h0 : RI i0 b0 s0 0 img kept) (h1 : RI i1 b1 s1 1 img kept) (v : Int32) : ∃ r nb' ns' sn' bk' sg', fX10_restore v i0 i1 nb ns b0 s0 b1 s1 = some (r, nb', ns') ∧ fX11_restore v sn bk sg img kept = some (r, sn', bk', sg') ∧ RB nb' bk' ∧ RS ns' sn' sg' := by
  by_cases c1 : v < 0 ∨ 1 < v
  · have u1 : fX10_isWithin v 0 1 = 0 := by grind [fX10_isWithin]
    have w1 : fX11_in v 0 1 = 0 := by grind [fX11_in]
    exact ⟨-2, nb, ns, sn, bk, sg, by simp only [fX10_restore, cm_let, u1, if_true], by simp only [fX11_restore, cm_let, w1, if_true], hB, hS⟩
  · have hv : v = nI 0 ∨ v = nI 1 := by
      have : v = 0 ∨ v = 1 := by grind
      exact this
    have key : ∀ (z : Nat) (ik : Int32) (b : SBO) (s : SSI), z < 2 → RI ik b s z img kept → ∃ r nb' ns' sn' bk' sg', (∃ u : Int32 × SBO × SSI, fX2_giveBack ik b s nb ns = some u ∧ (if u.1 = 0 then some ((-3 : Int32), u.2.1, u.2.2) else some (1, u.2.1, u.2.2)) = some (r, nb', ns')) ∧ fX11_restore (nI z) sn bk sg img kept = some (r, sn', bk', sg') ∧ RB nb' bk' ∧ RS ns' sn' sg' := by
      intro z ik b s hz h
      rcases h with ⟨e1, e2⟩ | ⟨e1, e2, e3, e4⟩
      · have w1 : fX11_in (nI z) 0 1 = 1 := by
          rcases (show z = 0 ∨ z = 1 by omega) with rfl | rfl <;> decide
        exact ⟨-3, nb, ns, sn, bk, sg, ⟨(0, nb, ns), by simp only [fX2_giveBack, e1, if_true], by simp only [if_true]⟩, by simp (disch := omega) only [fX11_restore, cm_let, w1, n10, if_false, clm, ixc, e2, if_true], hB, hS⟩
      · obtain ⟨bk', sg', g1, g2, g3⟩ := mres_ok z hz sn bk sg img kept e2
        obtain ⟨bb, p1, p2⟩ := copy_ok nb b
        obtain ⟨ss, q1, q2, q3⟩ := scopy_ok ns s
        exact ⟨1, bb, ss, img (60 * z + 56), bk', sg', ⟨(1, bb, ss), by simp only [fX2_giveBack, e1, n10, if_false, p1, q1, Option.bind_some], by simp only [n10, if_false]⟩, g1, (e3.copy p2).cong g2, (e4.copy q2 q3).cong g3⟩
    rcases hv with rfl | rfl
    · obtain ⟨r, nb', ns', sn', bk', sg', ⟨u, g1, g2⟩, g3, g4, g5⟩ := key 0 i0 b0 s0 (by omega) h0
      refine ⟨r, nb', ns', sn', bk', sg', ?_, g3, g4, g5⟩
      have u1 : fX10_isWithin 0 0 1 = 1 := by decide
      have u2 : (nI 0) = 0 := rfl
      simp only [fX10_restore, cm_let, u2, u1, n10, if_false, if_true, g1, Option.bind_some]
      exact g2
    · obtain ⟨r, nb', ns', sn', bk', sg', ⟨u, g1, g2⟩, g3, g4, g5⟩ := key 1 i1 b1 s1 (by omega) h1
      refine ⟨r, nb', ns', sn', bk', sg', ?_, g3, g4, g5⟩
      have u1 : fX10_isWithin 1 0 1 = 1 := by decide
      have u2 : (nI 1) = 1 := rfl
      simp only [fX10_restore, cm_let, u2, u1, n10, if_false, if_true, g1, Option.bind_some]
      exact g2
theorem op_chalk {b : SBO} {k : Nat → Int32} (h : RB b k) (v so mk ma : Int32) (nw : Nat → Int32) : ∃ r b' o, fX10_chalk v b = some (r, b') ∧ fX11_chalk v so mk ma k nw = some (r, o) ∧ RB b' k := by
  obtain ⟨k1, hk1, hk2⟩ := asNow_ok so mk ma k nw
  by_cases c1 : v < 0 ∨ 7 ≤ v
  · have u1 : fX10_isDay v = 0 := by grind [fX10_isDay]
    have w1 : fX11_in v 0 6 = 0 := by grind [fX11_in]
    exact ⟨-2, b, _, by simp only [fX10_chalk, cm_let, u1, if_true], by simp only [fX11_chalk, hk2, Option.bind_some, cm_let, w1, if_true]; rfl, h⟩
  · have u1 : fX10_isDay v = 1 := by grind [fX10_isDay]
    have w1 : fX11_in v 0 6 = 1 := by grind [fX11_in]
    obtain ⟨j, hj, rfl⟩ := i_of (x := v) (N := 7) (by decide) (fun z => c1 (Or.inl z)) (fun z => c1 (Or.inr z))
    obtain ⟨ch, hc1, hc2⟩ := chalkOf_ok b hj
    have e : cnt b.1 (nI j) 8 = cnt k1 (nI j) 8 := RB_cnt (h.cong hk1) hj
    exact ⟨cnt k1 (nI j) 8, (b.1, b.2.1, b.2.2.1, b.2.2.2.1, ch, b.2.2.2.2.2), _, by simp only [fX10_chalk, cm_let, u1, n10, if_false, hc1, Option.bind_some, e], by simp only [fX11_chalk, hk2, Option.bind_some, cm_let, w1, n10, if_false, mchalk_ok]; rfl, h.ch ch⟩
theorem irm10 {j : Nat} (h : j < 2147483648) : irm (nI j) 10 = nI (j % 10) := pk_rem (d := 10) h (by decide) (by decide)
theorem div10 {j : Nat} (h : j < 2147483648) : nI j / 10 = nI (j / 10) := pk_div (d := 10) h (by decide) (by decide)
theorem sub_nI {a b : Nat} (h : b ≤ a) (x : Int32) (hx : x = nI b) : nI a - x = nI (a - b) := by rw [hx]; exact pk_sub h
theorem isOneLow {j b : Nat} (h : j < b) (hb : b < 1000) (hj : j < 1000) : fX10_isOne (nI j - nI b) = 0 := by
  have := pk_sneg (a := j) (b := b) (by omega) h
  simp only [fX10_isOne, this, if_true]
theorem isOneHigh {j : Nat} (h : 8 ≤ j) (hj : j < 1000) : fX10_isOne (nI j) = 0 := by
  have h1 : ¬ nI j < 0 := nI_pos (by omega)
  have h2 : (8 : Int32) ≤ nI j := nI_le (a := 8) h (by omega)
  simp only [fX10_isOne, h1, h2, if_false, if_true]
theorem isCartLow {j b : Nat} (h : j < b) (hb : b < 1000) (hj : j < 1000) : fX10_isCart (nI j - nI b) = 0 := by
  have := pk_sneg (a := j) (b := b) (by omega) h
  simp only [fX10_isCart, this, if_true]
theorem tos_none {v : Int32} {b : SBO} (h1 : fX10_isOne (v - 10) = 0) (h2 : fX10_isOne (v - 20) = 0) (h3 : fX10_isOne (v - 30) = 0) (h4 : fX10_isCart (v - 40) = 0) : fX10_toldOfSome v b = some (-2) := by
  simp only [fX10_toldOfSome, cm_let, h1, h2, h3, h4, if_true]
set_option maxHeartbeats 1000000 in
theorem op_told {b : SBO} {k : Nat → Int32} {q : SPA} {n : Int32} {f : Nat → Int32} {s : SSI} {sn : Int32} {sg : Nat → Int32} (h : RB b k) (hP : RP q n f) (hS : RS s sn sg) (v so mk ma : Int32) (nw : Nat → Int32) : ∃ r b' o, fX10_told v b q s = some (r, b') ∧ fX11_told v sn n so mk ma k nw = some (r, o) ∧ RB b' k := by
  obtain ⟨k1, hk1, hk2⟩ := asNow_ok so mk ma k nw
  by_cases c10 : v < 10
  · by_cases d0 : v = 0
    · subst d0
      exact ⟨n, b, _, by simp only [fX10_told, if_true, hP.1], by simp only [fX11_told, c10, if_true, hk2, Option.bind_some]; rfl, h⟩
    · by_cases d1 : v = 1
      · subst d1
        exact ⟨b.2.2.2.2.2.1, b, _, by simp only [fX10_told, n10, if_false, if_true], by simp only [fX11_told, c10, if_true, hk2, Option.bind_some, n10, if_false, h.2.2.2.2.1.1]; rfl, h⟩
      · by_cases d2 : v = 2
        · subst d2
          obtain ⟨ch, hl1, hl2⟩ := least_ok b
          have hd := RB_day (h.cong hk1)
          exact ⟨nI (am (fun e => cnt k1 (nI e) 8) 6), (b.1, b.2.1, b.2.2.1, b.2.2.2.1, ch, b.2.2.2.2.2), _, by simp only [fX10_told, d0, d1, if_false, if_true, hl2, Option.bind_some, hd], by simp only [fX11_told, c10, if_true, hk2, Option.bind_some, d0, d1, if_false, mday_ok]; rfl, h.ch ch⟩
        · by_cases d3 : v = 3
          · subst d3
            exact ⟨b.2.2.2.2.2.2.2.1, b, _, by simp only [fX10_told, d0, d1, d2, if_false, if_true], by simp only [fX11_told, c10, if_true, hk2, Option.bind_some, d0, d1, d2, if_false, h.2.2.2.2.2.2.1]; rfl, h⟩
          · by_cases d4 : v = 4
            · subst d4
              exact ⟨b.2.2.2.2.2.2.1, b, _, by simp only [fX10_told, d0, d1, d2, d3, if_false, if_true], by simp only [fX11_told, c10, if_true, hk2, Option.bind_some, d0, d1, d2, d3, if_false, h.2.2.2.2.2.1.1]; rfl, h⟩
            · by_cases d5 : v = 5
              · subst d5
                exact ⟨sn, b, _, by simp only [fX10_told, d0, d1, d2, d3, d4, if_false, if_true, hS.1], by simp only [fX11_told, c10, if_true, hk2, Option.bind_some, d0, d1, d2, d3, d4, if_false]; rfl, h⟩
              · have t := tos_none (v := v) (b := b) (by grind [fX10_isOne]) (by grind [fX10_isOne]) (by grind [fX10_isOne]) (by grind [fX10_isCart])
                exact ⟨-2, b, _, by simp only [fX10_told, d0, d1, d2, d3, d4, d5, if_false, t, Option.bind_some], by simp only [fX11_told, c10, if_true, hk2, Option.bind_some, d0, d1, d2, d3, d4, d5, if_false]; rfl, h⟩
  · have e0 : ¬ v = 0 := by grind
    have e1 : ¬ v = 1 := by grind
    have e2 : ¬ v = 2 := by grind
    have e3 : ¬ v = 3 := by grind
    have e4 : ¬ v = 4 := by grind
    have e5 : ¬ v = 5 := by grind
    have T : ∀ r, fX10_toldOfSome v b = some r → fX10_told v b q s = some (r, b) := fun r hr => by simp only [fX10_told, e0, e1, e2, e3, e4, e5, if_false, hr, Option.bind_some]
    by_cases c44 : 44 ≤ v
    · have c40 : ¬ v < 40 := by grind
      exact ⟨-2, b, _, T _ (tos_none (by grind [fX10_isOne]) (by grind [fX10_isOne]) (by grind [fX10_isOne]) (by grind [fX10_isCart])), by simp only [fX11_told, c10, c40, c44, if_false, if_true]; rfl, h⟩
    · obtain ⟨j, hj, rfl⟩ := i_of (x := v) (N := 44) (by decide) (by grind) c44
      have hj10 : 10 ≤ j := by
        rcases Nat.lt_or_ge j 10 with q | q
        · exact absurd (nI_lt (b := 10) q (by decide)) c10
        · exact q
      have m10 : nI j - 10 = nI (j - 10) := sub_nI hj10 10 rfl
      by_cases c40 : 40 ≤ j
      · have c40' : ¬ nI j < 40 := nI_nlt (b := 40) c40 (by omega)
        have m40 : nI j - 40 = nI (j - 40) := sub_nI c40 40 rfl
        have m30 : nI j - 30 = nI (j - 30) := sub_nI (by omega) 30 rfl
        have m20 : nI j - 20 = nI (j - 20) := sub_nI (by omega) 20 rfl
        have y : j % 10 = j - 40 := by omega
        have g : fX10_toldOfSome (nI j) b = some (b.2.2.2.1 (j - 40)) := by
          simp (disch := omega) only [fX10_toldOfSome, cm_let, m10, m20, m30, m40, isOneHigh, isCart1, n10, if_false, if_true, clm, ixc]
        exact ⟨b.2.2.2.1 (j - 40), b, _, T _ g, by simp (disch := omega) only [fX11_told, c10, c40', c44, if_false, irm10, y, ad24, clm, ixc, h.2.2.2.1 (j - 40) (by omega)]; rfl, h⟩
      · have c40' : nI j < 40 := nI_lt (b := 40) (by omega) (by decide)
        have x1 : nI (j / 10) - 1 = nI (j / 10 - 1) := sub_nI (by omega) 1 rfl
        have x2 : (8 : Int32) * nI (j / 10 - 1) = nI (8 * (j / 10 - 1)) := pk_mul 8 _
        by_cases c7 : 7 < j % 10
        · have c7' : ¬ nI (j % 10) ≤ 7 := nI_ge (a := 7) c7 (by omega)
          have t : fX10_toldOfSome (nI j) b = some (-2) := by
            refine tos_none ?_ ?_ ?_ (isCartLow (b := 40) (by omega) (by omega) (by omega))
            · rw [m10]; exact isOneHigh (by omega) (by omega)
            · rcases Nat.lt_or_ge j 20 with q | q
              · exact isOneLow (b := 20) q (by omega) (by omega)
              · rw [sub_nI q 20 rfl]; exact isOneHigh (by omega) (by omega)
            · rcases Nat.lt_or_ge j 30 with q | q
              · exact isOneLow (b := 30) q (by omega) (by omega)
              · rw [sub_nI q 30 rfl]; exact isOneHigh (by omega) (by omega)
          exact ⟨-2, b, _, T _ t, by simp (disch := omega) only [fX11_told, c10, c40', if_false, if_true, irm10, c7']; rfl, h⟩
        · have c7' : nI (j % 10) ≤ 7 := nI_le (b := 7) (by omega) (by decide)
          have x3 : nI (8 * (j / 10 - 1)) + nI (j % 10) = nI (8 * (j / 10 - 1) + j % 10) := nI_add _ _
          have M : fX11_told (nI j) sn n so mk ma k nw = some (k (8 * (j / 10 - 1) + j % 10), so, mk, ma, nw) := by
            simp (disch := omega) only [fX11_told, c10, c40', if_false, if_true, irm10, c7', div10, x1, x2, x3, clm, ixc]
          rcases (show j / 10 = 1 ∨ j / 10 = 2 ∨ j / 10 = 3 by omega) with w | w | w
          · have z : 8 * (j / 10 - 1) + j % 10 = j - 10 := by omega
            rw [z] at M
            have e := h.1 (j - 10) (by omega)
            have d : fX10_dayOrNone (b.1 (j - 10)) = k (j - 10) := by grind [fX10_dayOrNone]
            have g : fX10_toldOfSome (nI j) b = some (k (j - 10)) := by
              simp (disch := omega) only [fX10_toldOfSome, cm_let, m10, isOne1, n10, if_false, clm, ixc, d]
            exact ⟨_, b, _, T _ g, M, h⟩
          · have z : 8 * (j / 10 - 1) + j % 10 = 8 + (j - 20) := by omega
            rw [z, (h.2.1 (j - 20) (by omega)).1] at M
            have m20 : nI j - 20 = nI (j - 20) := sub_nI (by omega) 20 rfl
            have g : fX10_toldOfSome (nI j) b = some (b.2.1 (j - 20)) := by
              simp (disch := omega) only [fX10_toldOfSome, cm_let, m10, m20, isOneHigh, isOne1, n10, if_false, if_true, clm, ixc]
            exact ⟨_, b, _, T _ g, M, h⟩
          · have z : 8 * (j / 10 - 1) + j % 10 = 16 + (j - 30) := by omega
            rw [z, h.2.2.1 (j - 30) (by omega)] at M
            have m20 : nI j - 20 = nI (j - 20) := sub_nI (by omega) 20 rfl
            have m30 : nI j - 30 = nI (j - 30) := sub_nI (by omega) 30 rfl
            have g : fX10_toldOfSome (nI j) b = some (b.2.2.1 (j - 30)) := by
              simp (disch := omega) only [fX10_toldOfSome, cm_let, m10, m20, m30, isOneHigh, isOne1, n10, if_false, if_true, clm, ixc]
            exact ⟨_, b, _, T _ g, M, h⟩
