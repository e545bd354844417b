/-! Cakes. -/
def FT (j : Nat) : Nat := ([1000000, 1, 2, 3, 1, 5, 1, 2, 8, 1, 2, 3, 1, 13, 1, 2, 3, 1, 5, 1, 2, 21, 1, 2, 3, 1, 5, 1, 2, 8, 1, 2, 3, 1, 34, 1, 2, 3, 1, 5, 1, 2, 8, 1, 2, 3, 1, 13, 1, 2, 3, 1, 5, 1, 2, 55, 1, 2, 3, 1, 5, 1, 2, 8, 1, 2, 3, 1, 13, 1, 2, 3, 1, 5, 1, 2, 21, 1, 2, 3, 1, 5, 1, 2, 8, 1, 2, 3, 1, 89, 1, 2, 3, 1, 5, 1, 2, 8, 1, 2] : List Nat).getD j 0
def inn (j : Nat) : Nat → Nat → Nat
  | 0, m => m
  | t + 1, m => inn j t (if FT (j - (t + 1)) ≤ 2 * (t + 1) then m else t + 1)
theorem FT_inn : ∀ j, j < 100 → 0 < j → inn j j j = FT j := by decide +kernel
theorem FT_le : ∀ j, j < 100 → FT j ≤ 1000000 := by decide +kernel
theorem FT_lw : ∀ j, j < 100 → fX10_leastWinningTake (nI j) = some (nI (if j = 0 then 0 else FT j)) := by decide +kernel
theorem FT_lo : ∀ j, j < 100 → 0 < j → FT j ≤ 99 := by decide +kernel
theorem ck_L62 {j : Nat} (hj : j < 100) (kx : Int32 → (Nat → Int32) → Option (Int32 × (Nat → Int32))) : ∀ (t n m : Nat) (f : Nat → Int32), t ≤ j → t < n → (∀ i, i < j → f i = nI (FT i)) → f j = nI m → ∃ f', fX11_cakes_L62 (nI j) kx n (nI t) f = kx 0 f' ∧ (∀ i, i < j → f' i = nI (FT i)) ∧ f' j = nI (inn j t m) := by
  intro t
  induction t with
  | zero =>
    intro n m f ht hn h1 h2
    obtain ⟨n, rfl⟩ := suc hn
    exact ⟨f, by rw [fX11_cakes_L62, if_pos (by decide), nI_0], h1, h2⟩
  | succ t ih =>
    intro n m f ht hn h1 h2
    obtain ⟨n, rfl⟩ := suc (by omega : 0 < n)
    have p0 : ¬ nI (t + 1) ≤ 0 := nI_nle (by omega) (by omega)
    have pr : nI (t + 1) + (-1) = nI t := by have := nI_pred t; grind
    have hF := FT_le (j - (t + 1)) (by omega)
    have hl : fX11_hasLeft (nI j) (nI (t + 1)) f = some (if FT (j - (t + 1)) ≤ 2 * (t + 1) then 0 else 1) := by
      have e2 : (2 : Int32) * nI (t + 1) = nI (2 * (t + 1)) := pk_mul 2 (t + 1)
      rw [fX11_hasLeft, pk_sub ht]
      simp (disch := omega) only [clm, ixc, if_false, e2]
      rw [h1 _ (by omega)]
      by_cases c : FT (j - (t + 1)) ≤ 2 * (t + 1)
      · rw [if_pos (nI_le c (by omega)), if_pos c]
      · rw [if_neg (nI_ge (by omega) (by omega)), if_neg c]
    rw [fX11_cakes_L62, if_neg p0, hl]
    simp (disch := omega) only [Option.bind_some, clm, ixc, if_false, pr]
    by_cases c : FT (j - (t + 1)) ≤ 2 * (t + 1)
    · rw [if_pos c, if_pos rfl]
      obtain ⟨f', g1, g2, g3⟩ := ih n m (upd f j (f j)) (by omega) (by omega) (fun i hi => by rw [up_eq, if_neg (by omega)]; exact h1 i hi) (by rw [up_eq, if_pos rfl]; exact h2)
      exact ⟨f', g1, g2, by rw [inn, if_pos c]; exact g3⟩
    · rw [if_neg c, if_neg (show ¬ (1 : Int32) = 0 by decide)]
      obtain ⟨f', g1, g2, g3⟩ := ih n (t + 1) (upd f j (nI (t + 1))) (by omega) (by omega) (fun i hi => by rw [up_eq, if_neg (by omega)]; exact h1 i hi) (by rw [up_eq, if_pos rfl])
      exact ⟨f', g1, g2, by rw [inn, if_neg c]; exact g3⟩
theorem ck_L43 {V : Nat} (hV : V < 100) (kx : Int32 → (Nat → Int32) → Option (Int32 × (Nat → Int32))) : ∀ (d j n : Nat) (f : Nat → Int32), j + d = V + 1 → d < n → 0 < j → (∀ i, i < j → f i = nI (FT i)) → ∃ f', fX11_cakes_L43 (nI V) kx n (nI j) f = kx (nI (V + 1)) f' ∧ (∀ i, i < V + 1 → f' i = nI (FT i)) := by
  intro d
  induction d with
  | zero =>
    intro j n f hj hn h0 h1
    obtain ⟨n, rfl⟩ := suc hn
    obtain rfl : j = V + 1 := by omega
    exact ⟨f, by rw [fX11_cakes_L43, if_pos (nI_lt (by omega) (by omega))], h1⟩
  | succ d ih =>
    intro j n f hj hn h0 h1
    obtain ⟨n, rfl⟩ := suc (by omega : 0 < n)
    rw [fX11_cakes_L43, if_neg (nI_nlt (by omega) (by omega))]
    have h5 : j < 5000 := by omega
    generalize 5000 = F at h5 ⊢
    rw [clm (by omega), if_neg (by rw [ixc (by omega) (by omega)]; exact id)]
    obtain ⟨f', g1, g2, g3⟩ := ck_L62 (j := j) (by omega) (fun v5_62 m_fewest_62 => fX11_cakes_L43 (nI V) kx n (nI j + 1) m_fewest_62) j F j (upd f j (nI j)) (Nat.le_refl j) h5 (fun i hi => by rw [up_eq, if_neg (by omega)]; exact h1 i hi) (by rw [up_eq, if_pos rfl])
    rw [g1, nI_1]
    rw [FT_inn j (by omega) h0] at g3
    refine ih (j + 1) n f' (by omega) (by omega) (by omega) (fun i hi => ?_)
    rcases Nat.lt_or_ge i j with c | c
    · exact g2 i c
    · obtain rfl : i = j := by omega
      exact g3
theorem op_cakes (v1 v2 v3 : Int32) (f : Nat → Int32) : ∃ r f', fX10_cakes v1 v2 v3 = some r ∧ fX11_cakes v1 v2 v3 f = some (r, f') := by
  have q : ∀ a b c, fX11_in a b c = fX10_isWithin a b c := fun _ _ _ => rfl
  by_cases c1 : fX10_isWithin v1 0 99 = 0
  · exact ⟨-2, f, by rw [fX10_cakes, c1, cm_let, if_pos rfl], by rw [fX11_cakes, q, c1, cm_let, if_pos rfl]⟩
  by_cases c2 : fX10_isWithin v2 0 99 = 0
  · exact ⟨-2, f, by rw [fX10_cakes, cm_let, if_neg c1, c2, cm_let, if_pos rfl], by rw [fX11_cakes, q, cm_let, if_neg c1, q, c2, cm_let, if_pos rfl]⟩
  by_cases c3 : fX10_isWithin v3 0 1 = 0
  · exact ⟨-2, f, by rw [fX10_cakes, cm_let, if_neg c1, cm_let, if_neg c2, c3, cm_let, if_pos rfl], by rw [fX11_cakes, q, cm_let, if_neg c1, q, cm_let, if_neg c2, q, c3, cm_let, if_pos rfl]⟩
  have a1 : ¬ v1 < 0 ∧ ¬ 100 ≤ v1 := by grind [fX10_isWithin]
  have a2 : ¬ v2 < 0 ∧ ¬ 100 ≤ v2 := by grind [fX10_isWithin]
  obtain ⟨V, hV, rfl⟩ := i_of (x := v1) (N := 100) (by decide) a1.1 a1.2
  obtain ⟨E, hE, rfl⟩ := i_of (x := v2) (N := 100) (by decide) a2.1 a2.2
  obtain ⟨f', g1, g2⟩ := ck_L43 hV (fun v4_43 m_fewest_43 => if nI V < 0 ∨ 100 ≤ (nI V).toNatClampNeg then none else cm_let ((if nI E < (m_fewest_43 (nI V).toNatClampNeg) then 0 else 1) : Int32) (fun j116 => (if v3 = 0 then (if j116 = 0 then some (0, m_fewest_43) else some (1, m_fewest_43)) else (if j116 = 0 then some ((-6), m_fewest_43) else if nI V < 0 ∨ 100 ≤ (nI V).toNatClampNeg then none else some ((m_fewest_43 (nI V).toNatClampNeg), m_fewest_43))))) V 1 5000 (upd f 0 1000000) (by omega) (by omega) (by omega) (fun i hi => by
    obtain rfl : i = 0 := by omega
    rfl)
  have e3 := g2 V (by omega)
  have hz : (nI V < 0 ∨ 100 ≤ V) = False := ixc hV (by omega)
  have hF := FT_le V hV
  rw [show nI 1 = (1 : Int32) from rfl] at g1
  have m1 : fX11_cakes (nI V) (nI E) v3 f = (if v3 = 0 then (if (if nI E < nI (FT V) then (0 : Int32) else 1) = 0 then some (0, f') else some (1, f')) else (if (if nI E < nI (FT V) then (0 : Int32) else 1) = 0 then some ((-6), f') else some (nI (FT V), f'))) := by
    rw [fX11_cakes, q, cm_let, if_neg c1, q, cm_let, if_neg c2, q, cm_let, if_neg c3]
    refine Eq.trans g1 ?_
    simp only [clm (show V < 2147483648 by omega), hz, if_false, cm_let, e3]
  have m2 : fX10_cakes (nI V) (nI E) v3 = (if v3 = 0 then (if (if nI E < nI (FT V) then (0 : Int32) else 1) = 0 then some 0 else some 1) else (if (if nI E < nI (FT V) then (0 : Int32) else 1) = 0 then some (-6) else some (nI (FT V)))) := by
    rw [fX10_cakes, cm_let, if_neg c1, cm_let, if_neg c2, cm_let, if_neg c3, FT_lw V hV, Option.bind_some]
    simp only [cm_let]
    by_cases c : V = 0
    · subst c
      have p1 : nI 0 ≤ 0 := by decide
      have p2 : nI E < nI (FT 0) := nI_lt (show E < 1000000 by omega) (by decide)
      simp only [p1, p2, if_true]
    · have p1 : ¬ nI V ≤ 0 := nI_nle (by omega) (by omega)
      simp only [p1, c, if_false]
  rw [m1, m2]
  by_cases d1 : v3 = 0 <;> by_cases d2 : nI E < nI (FT V) <;> simp only [d1, d2, if_true, if_false, n10]
  · exact ⟨_, _, rfl, rfl⟩
  · exact ⟨_, _, rfl, rfl⟩
  · exact ⟨_, _, rfl, rfl⟩
  · exact ⟨_, _, rfl, rfl⟩
