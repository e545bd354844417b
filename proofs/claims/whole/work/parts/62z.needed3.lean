/-! Needed: the operation. -/
theorem set_need {g : Nat → Nat} {ro : SRO} {N v Q : Nat} (hN : N ≤ 9) (hg : ∀ i, g i ≤ 9) (hv : v < N) (hQ0 : 0 < Q) (hQ : Q ≤ 81) (hr : ro.2 = nI N) (hd : ∀ i, i < N → ro.1 i = nI (g i)) (vo : Nat → Int32) : ∃ vo', fX9_neededSets (nI Q) (nI v) vo ro = some (nI (sR g v N (Q - g v) (Q - (Q - g v))), vo') := by
  obtain ⟨vo', k1, k2⟩ := cs_ok (V := nI v) (v := v) hN hg hr hd (fun i hi => nI_eq (by omega) (by omega)) vo
  have hgv := hg v
  have e0 : sR g v N (Q - g v) 0 = 0 := rfl
  have e1 : nI Q - 1 = nI (Q - 1) := pk_sub (b := 1) hQ0
  have l := sw_L9 (g := g) (N := N) (v := v) (a := Q - g v) (E := Q - 1) (by omega) k2 (fun v3_9 v4_9 => some v3_9) (Q - (Q - g v)) 0 5000 (by omega) (by omega)
  rw [e0, nI_0, Nat.add_zero, Nat.zero_add] at l
  refine ⟨vo', ?_⟩
  rw [fX9_neededSets, k1, Option.bind_some, dig_ok (by omega), Option.bind_some, hd v hv, fX9_setsWithin, sub0 (by omega) (by omega), e1, l, Option.bind_some]
theorem set_carry {g : Nat → Nat} {ro : SRO} {N Q : Nat} (hN : N ≤ 9) (hg : ∀ i, g i ≤ 9) (hQ0 : 0 < Q) (hQ : Q ≤ 81) (hr : ro.2 = nI N) (hd : ∀ i, i < N → ro.1 i = nI (g i)) (vo : Nat → Int32) : ∃ vo', fX9_carryingSets (nI Q) vo ro = some (nI (sR g 100 N Q (82 - Q)), vo') := by
  obtain ⟨vo', k1, k2⟩ := cs_ok (V := -1) (v := 100) hN hg hr hd (fun i hi => ⟨fun z => absurd (show nI i < 0 by rw [z]; decide) (nI_pos (by omega)), fun z => by omega⟩) vo
  have e0 : sR g 100 N Q 0 = 0 := rfl
  have eq : (if 0 < nI Q then nI Q else 0) = nI Q := if_pos (show 0 < nI Q from nI_lt (a := 0) hQ0 (by omega))
  have l := sw_L9 (g := g) (N := N) (v := 100) (a := Q) (E := 81) (by omega) k2 (fun v3_9 v4_9 => some v3_9) (82 - Q) 0 5000 (by omega) (by omega)
  rw [e0, nI_0, Nat.add_zero, Nat.zero_add] at l
  refine ⟨vo', ?_⟩
  rw [fX9_carryingSets, k1, Option.bind_some, fX9_setsWithin, eq]
  exact Eq.trans (congrArg (fun z => Option.bind z (fun u10 => some (u10, vo'))) l) (by rw [Option.bind_some])
theorem op_needed (v1 v2 v3 v4 v5 : Int32) (ro : SRO) (vo f : Nat → Int32) : ∃ r o o', fX10_needed v1 v2 v3 v4 v5 ro vo = some (r, o) ∧ fX11_needed v1 v2 v3 v4 v5 f = some (r, o') := by
  obtain ⟨r, ro', f', h1, h2, h3⟩ := read_ok v1 v2 ro f
  have q : ∀ x y z, fX11_in x y z = fX10_isWithin x y z := fun _ _ _ => rfl
  by_cases c0 : r = 0
  · subst c0
    exact ⟨-2, (ro', vo), f', by rw [fX10_needed, h1, Option.bind_some, if_pos rfl], by rw [fX11_needed, h2, Option.bind_some, if_pos rfl]⟩
  by_cases c1 : fX10_isWithin v3 1 81 = 0
  · exact ⟨-2, (ro', vo), f', by rw [fX10_needed, h1, Option.bind_some, if_neg c0, c1, cm_let, if_pos rfl], by rw [fX11_needed, h2, Option.bind_some, if_neg c0, q, c1, cm_let, if_pos rfl]⟩
  by_cases c2 : fX10_isWithin v4 0 (v2 - 1) = 0
  · exact ⟨-2, (ro', vo), f', by rw [fX10_needed, h1, Option.bind_some, if_neg c0, cm_let, if_neg c1, c2, cm_let, if_pos rfl], by rw [fX11_needed, h2, Option.bind_some, if_neg c0, q, cm_let, if_neg c1, q, c2, cm_let, if_pos rfl]⟩
  by_cases c3 : fX10_isWithin v5 0 1 = 0
  · exact ⟨-2, (ro', vo), f', by rw [fX10_needed, h1, Option.bind_some, if_neg c0, cm_let, if_neg c1, cm_let, if_neg c2, c3, cm_let, if_pos rfl], by rw [fX11_needed, h2, Option.bind_some, if_neg c0, q, cm_let, if_neg c1, q, cm_let, if_neg c2, q, c3, cm_let, if_pos rfl]⟩
  obtain ⟨-, N, hN0, hN, rfl, hr, hd⟩ := h3.resolve_left c0
  have a1 : ¬ v3 < 0 ∧ ¬ 82 ≤ v3 ∧ ¬ v3 = 0 := by grind [fX10_isWithin]
  obtain ⟨Q, hQ, rfl⟩ := i_of (x := v3) (N := 82) (by decide) a1.1 a1.2.1
  have hQ0 : Q ≠ 0 := fun z => a1.2.2 (by rw [z]; rfl)
  have e1 : nI N - 1 = nI (N - 1) := pk_sub (b := 1) hN0
  have a2 : ¬ v4 < 0 ∧ v4 ≤ nI (N - 1) := by rw [e1] at c2; grind [fX10_isWithin]
  obtain ⟨v, hv, rfl⟩ := nI_of2 (x := v4) (n := N - 1) (nI_toInt (by omega)) a2.1 a2.2
  let g : Nat → Nat := fun i => if i < N then (f' i).toNatClampNeg else 0
  have hfg : ∀ i, i < N → f' i = nI (g i) ∧ g i ≤ 9 := fun i hi => by
    obtain ⟨-, z, z1, z2⟩ := hd i hi
    have : g i = z := by
      show (if i < N then (f' i).toNatClampNeg else 0) = z
      rw [if_pos hi, z2, clm (by omega)]
    rw [this]; exact ⟨z2, z1⟩
  have hg : ∀ i, g i ≤ 9 := fun i => by
    by_cases c : i < N
    · exact (hfg i c).2
    · show (if i < N then (f' i).toNatClampNeg else 0) ≤ 9
      rw [if_neg c]; omega
  have hro : ∀ i, i < N → ro'.1 i = nI (g i) := fun i hi => by rw [(hd i hi).1]; exact (hfg i hi).1
  have h2p : 2 ^ N ≤ 512 := Nat.pow_le_pow_right (by omega) hN
  obtain ⟨vo1, s1⟩ := set_need (v := v) (Q := Q) hN hg (by omega) (by omega) (by omega) hr hro vo
  obtain ⟨vo2, s2⟩ := set_carry (Q := Q) hN hg (by omega) (by omega) hr hro vo
  have m := nd_L53 (v := v) (Q := Q) hN hg (by omega) (by omega) (fun i hi => (hfg i hi).1) (fun v6_53 v7_53 v8_53 => (if v5 = 0 then some (v6_53, f') else some (v7_53, f'))) (2 ^ N) 0 5000 (by omega) (by omega)
  rw [show ∀ F, nI (sT F 0) = 0 from fun _ => rfl, show ∀ F, nI (sT F 0) = 0 from fun _ => rfl, nI_0, nd_need hg (by omega), nd_carry hN (by omega) hg] at m
  have hmod : fX11_needed v1 (nI N) (nI Q) (nI v) v5 f = (if v5 = 0 then some (nI (sR g v N (Q - g v) (Q - (Q - g v))), f') else some (nI (sR g 100 N Q (82 - Q)), f')) := by
    rw [fX11_needed, h2, Option.bind_some, if_neg c0, q, cm_let, if_neg c1, q, cm_let, if_neg c2, q, cm_let, if_neg c3]
    exact m
  rw [hmod]
  by_cases c : v5 = 0
  · refine ⟨nI (sR g v N (Q - g v) (Q - (Q - g v))), (ro', vo1), f', ?_, by rw [if_pos c]⟩
    rw [fX10_needed, h1, Option.bind_some, if_neg c0, cm_let, if_neg c1, cm_let, if_neg c2, cm_let, if_neg c3, if_pos c, s1, Option.bind_some]
  · refine ⟨nI (sR g 100 N Q (82 - Q)), (ro', vo2), f', ?_, by rw [if_neg c]⟩
    rw [fX10_needed, h1, Option.bind_some, if_neg c0, cm_let, if_neg c1, cm_let, if_neg c2, cm_let, if_neg c3, if_neg c, s2, Option.bind_some]
