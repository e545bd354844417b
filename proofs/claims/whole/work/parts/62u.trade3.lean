/-! Trading: both sides in step. -/
def TI (K b : Nat) (w i a c : Nat → Int32) : Prop :=
  (∀ t, t ≤ K → w t = a t ∧ 0 ≤ w t ∧ w t ≤ nI b ∧ (i t = c t ∧ -9 ≤ i t ∧ i t ≤ nI b ∨ i t = -1000 ∧ c t = -1000000)) ∧
  (∀ t, t < K → w t ≤ w (t + 1) ∧ i t ≤ i (t + 1)) ∧ i 0 = -1000 ∧ c 0 = -1000000
theorem i3A {x y : Int32} (h1 : -100000000 ≤ x.toInt) (h2 : x.toInt ≤ 100000000) (h3 : -100000000 ≤ y.toInt) (h4 : y.toInt ≤ 100000000) : (x + y).toInt = x.toInt + y.toInt := by
  rw [Int32.toInt_add, Int.bmod_eq_of_le (by omega) (by omega)]
theorem i3S {x y : Int32} (h1 : -100000000 ≤ x.toInt) (h2 : x.toInt ≤ 100000000) (h3 : -100000000 ≤ y.toInt) (h4 : y.toInt ≤ 100000000) : (x - y).toInt = x.toInt - y.toInt := by
  rw [Int32.toInt_sub, Int.bmod_eq_of_le (by omega) (by omega)]
theorem i3L (x y : Int32) : x ≤ y ↔ x.toInt ≤ y.toInt := Int32.le_iff_toInt_le
theorem i3M (x y : Int32) : x < y ↔ x.toInt < y.toInt := Int32.lt_iff_toInt_lt
theorem i3N (x y : Int32) : x = y ↔ x.toInt = y.toInt := Int32.toInt_inj.symm
theorem ti_1 {p B w i a c : Int32} (hp : 0 ≤ p) (hp9 : p ≤ 9) (hB : 0 ≤ B) (hB2 : B ≤ 72) (h1 : w = a) (h2 : 0 ≤ w) (h3 : w ≤ B) (h4 : i = c ∧ -9 ≤ i ∧ i ≤ B ∨ i = -1000 ∧ c = -1000000) : (if w < i + p then i + p else w) = (if c + p ≤ a then a else c + p) ∧ 0 ≤ (if w < i + p then i + p else w) ∧ (if w < i + p then i + p else w) ≤ B + 9 ∧ w ≤ (if w < i + p then i + p else w) := by
  subst h1
  simp only [i3L, i3M, i3N, show (0 : Int32).toInt = 0 from rfl, show (9 : Int32).toInt = 9 from rfl, show (72 : Int32).toInt = 72 from rfl, show (-9 : Int32).toInt = -9 from rfl, show (-1000 : Int32).toInt = -1000 from rfl, show (-1000000 : Int32).toInt = -1000000 from rfl] at *
  have e1 := i3A (x := i) (y := p) (by omega) (by omega) (by omega) (by omega)
  have e2 := i3A (x := c) (y := p) (by omega) (by omega) (by omega) (by omega)
  have e3 := i3A (x := B) (y := 9) (by omega) (by omega) (by decide) (by decide)
  have e9 : (9 : Int32).toInt = 9 := rfl
  rw [e1, e2, e3]
  split <;> split <;> omega
theorem ti_2 {p B w i c : Int32} (hp : 0 ≤ p) (hp9 : p ≤ 9) (hB : 0 ≤ B) (hB2 : B ≤ 72) (h2 : 0 ≤ w) (h3 : w ≤ B + 9) (h4 : i = c ∧ -9 ≤ i ∧ i ≤ B ∨ i = -1000 ∧ c = -1000000) : (if i < w - p then w - p else i) = (if w - p ≤ c then c else w - p) ∧ -9 ≤ (if i < w - p then w - p else i) ∧ (if i < w - p then w - p else i) ≤ B + 9 := by
  simp only [i3L, i3M, i3N, show (0 : Int32).toInt = 0 from rfl, show (9 : Int32).toInt = 9 from rfl, show (72 : Int32).toInt = 72 from rfl, show (-9 : Int32).toInt = -9 from rfl, show (-1000 : Int32).toInt = -1000 from rfl, show (-1000000 : Int32).toInt = -1000000 from rfl] at *
  have e9 : (9 : Int32).toInt = 9 := rfl
  have e3 := i3A (x := B) (y := 9) (by omega) (by omega) (by decide) (by decide)
  rw [e3] at h3 ⊢
  have e1 := i3S (x := w) (y := p) (by omega) (by omega) (by omega) (by omega)
  rw [e1]
  split <;> split <;> omega
theorem ti_3 {p B w i w' i' : Int32} (hp : 0 ≤ p) (hp9 : p ≤ 9) (hB : B ≤ 81) (h1 : 0 ≤ w) (h2 : w' ≤ B) (h3 : -1000 ≤ i) (h4 : i' ≤ B) (h5 : w ≤ w') (h6 : i ≤ i') : (if w < i + p then i + p else w) ≤ (if w' < i' + p then i' + p else w') := by
  simp only [i3L, i3M, i3N, show (0 : Int32).toInt = 0 from rfl, show (9 : Int32).toInt = 9 from rfl, show (81 : Int32).toInt = 81 from rfl, show (-1000 : Int32).toInt = -1000 from rfl] at *
  have e1 := i3A (x := i) (y := p) (by omega) (by omega) (by omega) (by omega)
  have e2 := i3A (x := i') (y := p) (by omega) (by omega) (by omega) (by omega)
  rw [e1, e2]
  split <;> split <;> omega
theorem ti_4 {p B w i w' i' : Int32} (hp : 0 ≤ p) (hp9 : p ≤ 9) (hB : B ≤ 81) (h1 : 0 ≤ w) (h2 : w' ≤ B) (h3 : -1000 ≤ i) (h4 : i' ≤ B) (h5 : w ≤ w') (h6 : i ≤ i') : (if i < w - p then w - p else i) ≤ (if i' < w' - p then w' - p else i') := by
  simp only [i3L, i3M, i3N, show (0 : Int32).toInt = 0 from rfl, show (9 : Int32).toInt = 9 from rfl, show (81 : Int32).toInt = 81 from rfl, show (-1000 : Int32).toInt = -1000 from rfl] at *
  have e1 := i3S (x := w) (y := p) (by omega) (by omega) (by omega) (by omega)
  have e2 := i3S (x := w') (y := p) (by omega) (by omega) (by omega) (by omega)
  rw [e1, e2]
  split <;> split <;> omega
theorem i3u {w B : Int32} (hB : 0 ≤ B) (hB2 : B ≤ 72) (h3 : w ≤ B) : w ≤ B + 9 := by
  simp only [i3L, show (0 : Int32).toInt = 0 from rfl, show (72 : Int32).toInt = 72 from rfl] at *
  have e9 : (9 : Int32).toInt = 9 := rfl
  have e3 := i3A (x := B) (y := 9) (by omega) (by omega) (by decide) (by decide)
  rw [e3]; omega
theorem i3v {w B : Int32} (hB : 0 ≤ B) (hB2 : B ≤ 72) (h3 : w ≤ B + 9) : w ≤ 81 := by
  simp only [i3L, show (0 : Int32).toInt = 0 from rfl, show (72 : Int32).toInt = 72 from rfl, show (81 : Int32).toInt = 81 from rfl] at *
  have e9 : (9 : Int32).toInt = 9 := rfl
  have e3 := i3A (x := B) (y := 9) (by omega) (by omega) (by decide) (by decide)
  rw [e3] at h3; omega
theorem i3w {i c B : Int32} (hB : 0 ≤ B) (hB2 : B ≤ 72) (h4 : i = c ∧ -9 ≤ i ∧ i ≤ B ∨ i = -1000 ∧ c = -1000000) : -1000 ≤ i ∧ i ≤ 81 := by
  simp only [i3L, i3N, show (0 : Int32).toInt = 0 from rfl, show (72 : Int32).toInt = 72 from rfl, show (81 : Int32).toInt = 81 from rfl, show (-9 : Int32).toInt = -9 from rfl, show (-1000 : Int32).toInt = -1000 from rfl, show (-1000000 : Int32).toInt = -1000000 from rfl] at *
  omega
theorem trW_in {K t : Nat} (p : Int32) (w i : Nat → Int32) (h : 0 < t) (h2 : t ≤ K) : trW K p w i t = (if w t < i t + p then i t + p else w t) := by rw [trW, if_pos ⟨h, h2⟩]
theorem tmW_in {K t : Nat} (p : Int32) (w i : Nat → Int32) (h : 0 < t) (h2 : t ≤ K) : tmW K p w i t = (if i t + p ≤ w t then w t else i t + p) := by rw [tmW, if_pos ⟨h, h2⟩]
theorem trI_in {K t : Nat} (p : Int32) (w i : Nat → Int32) (h2 : t < K) : trI K p w i (t + 1) = (if i (t + 1) < trW K p w i t - p then trW K p w i t - p else i (t + 1)) := by rw [trI, if_pos ⟨Nat.succ_pos t, h2⟩, Nat.add_sub_cancel]
theorem tmI_in {K t : Nat} (p : Int32) (w i : Nat → Int32) (h2 : t < K) : tmI K p w i (t + 1) = (if tmW K p w i t - p ≤ i (t + 1) then i (t + 1) else tmW K p w i t - p) := by rw [tmI, if_pos ⟨Nat.succ_pos t, h2⟩, Nat.add_sub_cancel]
theorem TI_step {K b g : Nat} {w i a c : Nat → Int32} (hg : g ≤ 9) (hb : b ≤ 72) (h : TI K b w i a c) : TI K (b + 9) (trW K (nI g) w i) (trI K (nI g) w i) (tmW K (nI g) a c) (tmI K (nI g) a c) := by
  obtain ⟨h1, h2, h3, h4⟩ := h
  have p1 : 0 ≤ nI g := nI_pos' (by omega)
  have p2 : nI g ≤ 9 := nI_le (b := 9) hg (by decide)
  have q1 : 0 ≤ nI b := nI_pos' (by omega)
  have q2 : nI b ≤ 72 := nI_le (b := 72) hb (by decide)
  have e : nI (b + 9) = nI b + 9 := (nI_add b 9).symm
  have sW : ∀ t, t ≤ K → trW K (nI g) w i t = tmW K (nI g) a c t ∧ 0 ≤ trW K (nI g) w i t ∧ trW K (nI g) w i t ≤ nI b + 9 ∧ w t ≤ trW K (nI g) w i t := fun t ht => by
    obtain ⟨x1, x2, x3, x4⟩ := h1 t ht
    by_cases c0 : 0 < t
    · rw [trW_in _ _ _ c0 ht, tmW_in _ _ _ c0 ht]
      exact ti_1 p1 p2 q1 q2 x1 x2 x3 x4
    · rw [trW, tmW, if_neg (by omega), if_neg (by omega)]
      exact ⟨x1, x2, i3u q1 q2 x3, Int32.le_refl _⟩
  have sI : ∀ t, t < K → trI K (nI g) w i (t + 1) = tmI K (nI g) a c (t + 1) ∧ -9 ≤ trI K (nI g) w i (t + 1) ∧ trI K (nI g) w i (t + 1) ≤ nI b + 9 := fun t ht => by
    obtain ⟨x1, x2, x3, x4⟩ := h1 (t + 1) ht
    obtain ⟨y1, y2, y3, y4⟩ := sW t (by omega)
    rw [trI_in _ _ _ ht, tmI_in _ _ _ ht, ← y1]
    exact ti_2 p1 p2 q1 q2 y2 y3 x4
  have i0 : trI K (nI g) w i 0 = -1000 := by rw [trI, if_neg (by omega)]; exact h3
  have c0 : tmI K (nI g) a c 0 = -1000000 := by rw [tmI, if_neg (by omega)]; exact h4
  refine ⟨fun t ht => ?_, fun t ht => ?_, i0, c0⟩
  · obtain ⟨y1, y2, y3, y4⟩ := sW t ht
    refine ⟨y1, y2, by rw [e]; exact y3, ?_⟩
    rcases t with _ | t
    · exact Or.inr ⟨i0, c0⟩
    · left; rw [e]; exact sI t ht
  · obtain ⟨x1, x2, x3, x4⟩ := h1 t (by omega)
    obtain ⟨z1, z2, z3, z4⟩ := h1 (t + 1) ht
    obtain ⟨m1, m2⟩ := h2 t ht
    constructor
    · rcases t with _ | t
      · have := (sW 1 ht).2.2.2
        have e0 : trW K (nI g) w i 0 = w 0 := by rw [trW, if_neg (by omega)]
        rw [e0]; exact Int32.le_trans m1 this
      · rw [trW_in _ _ _ (by omega) (by omega), trW_in _ _ _ (by omega) (by omega)]
        exact ti_3 (B := 81) p1 p2 (by decide) x2 (i3v q1 q2 (i3u q1 q2 z3)) (i3w q1 q2 x4).1 (i3w q1 q2 z4).2 m1 m2
    · rcases t with _ | t
      · rw [i0]; exact Int32.le_trans (by decide) (sI 0 ht).2.1
      · have mW : trW K (nI g) w i t ≤ trW K (nI g) w i (t + 1) := by
          obtain ⟨u1, u2, u3, u4⟩ := h1 t (by omega)
          obtain ⟨n1, n2⟩ := h2 t (by omega)
          rcases t with _ | t
          · have := (sW 1 (by omega)).2.2.2
            have e0 : trW K (nI g) w i 0 = w 0 := by rw [trW, if_neg (by omega)]
            rw [e0]; exact Int32.le_trans n1 this
          · rw [trW_in _ _ _ (by omega) (by omega), trW_in _ _ _ (by omega) (by omega)]
            exact ti_3 (B := 81) p1 p2 (by decide) u2 (i3v q1 q2 (i3u q1 q2 x3)) (i3w q1 q2 u4).1 (i3w q1 q2 x4).2 n1 n2
        have o1 := sW t (by omega)
        have o2 := sW (t + 1) (by omega)
        rw [trI_in _ _ _ (by omega), trI_in _ _ _ ht]
        exact ti_4 (B := 81) p1 p2 (by decide) o1.2.1 (i3v q1 q2 o2.2.2.1) (i3w q1 q2 x4).1 (i3w q1 q2 z4).2 mW m2
theorem TI_cong {K b : Nat} {w i a c w' i' a' c' : Nat → Int32} (h : TI K b w i a c) (h1 : ∀ t, t ≤ K → w' t = w t ∧ i' t = i t) (h2 : ∀ t, t ≤ K → a' t = a t ∧ c' t = c t) : TI K b w' i' a' c' := by
  obtain ⟨g1, g2, g3, g4⟩ := h
  refine ⟨fun t ht => ?_, fun t ht => ?_, ?_, ?_⟩
  · rw [(h1 t ht).1, (h1 t ht).2, (h2 t ht).1, (h2 t ht).2]; exact g1 t ht
  · rw [(h1 t (by omega)).1, (h1 t (by omega)).2, (h1 (t + 1) ht).1, (h1 (t + 1) ht).2]; exact g2 t ht
  · rw [(h1 0 (by omega)).2]; exact g3
  · rw [(h2 0 (by omega)).2]; exact g4
