/-! Copies; how many think of a day; the day that has least. -/
def cnt (f : Nat → Int32) (d : Int32) : Nat → Int32
  | 0 => 0
  | n + 1 => cnt f d n + (if f n = d then 1 else 0)
def am (c : Nat → Int32) : Nat → Nat
  | 0 => 0
  | n + 1 => if c (am c n) ≤ c (n + 1) then am c n else n + 1
theorem am_le (c : Nat → Int32) : ∀ n, am c n ≤ n
  | 0 => Nat.le_refl 0
  | n + 1 => by
    have := am_le c n
    simp only [am]
    split <;> omega
theorem am_cong {c c' : Nat → Int32} : ∀ {n : Nat}, (∀ d, d ≤ n → c d = c' d) → am c n = am c' n
  | 0, _ => rfl
  | n + 1, h => by
    have h1 := am_cong (c := c) (c' := c') (n := n) (fun d hd => h d (by omega))
    have h2 := am_le c' n
    simp only [am, h1, h (n + 1) (by omega), h (am c' n) (by omega)]
theorem suc {n : Nat} (h : 0 < n) : ∃ m, n = m + 1 := ⟨n - 1, by omega⟩
theorem copy_L2 (p : SBO) (kx : Int32 → SBO → Option SBO) : ∀ (d i n : Nat) (b : SBO), i + d = 8 → d < n → (∀ j, j < i → b.1 j = p.1 j ∧ b.2.1 j = p.2.1 j ∧ b.2.2.1 j = p.2.2.1 j) → ∃ b' : SBO, (∀ j, j < 8 → b'.1 j = p.1 j ∧ b'.2.1 j = p.2.1 j ∧ b'.2.2.1 j = p.2.2.1 j) ∧ fX1_copyFrom_L2 p kx n (nI i) b = kx (nI 8) b' := by
  intro d
  induction d with
  | zero =>
    intro i n b hi hn hb
    obtain ⟨n, rfl⟩ := suc hn
    obtain rfl : i = 8 := by omega
    exact ⟨b, hb, by rw [fX1_copyFrom_L2, if_pos (by decide)]⟩
  | succ d ih =>
    intro i n b hi hn hb
    obtain ⟨n, rfl⟩ := suc (by omega : 0 < n)
    have h0 : ¬ (8 : Int32) ≤ nI i := nI_ge (b := 8) (by omega) (by decide)
    simp (disch := omega) only [fX1_copyFrom_L2, h0, clm, ixc, if_false, nI_1]
    refine ih (i + 1) n _ (by omega) (by omega) (fun j hj => ?_)
    simp only [up_eq]
    by_cases e : j = i
    · simp [e]
    · simp only [e, if_false]; exact hb j (by omega)
theorem copy_L52 (p : SBO) (kx : Int32 → SBO → Option SBO) : ∀ (d i n : Nat) (b : SBO), i + d = 4 → d < n → (∀ j, j < i → b.2.2.2.1 j = p.2.2.2.1 j) → ∃ b' : SBO, b'.1 = b.1 ∧ b'.2.1 = b.2.1 ∧ b'.2.2.1 = b.2.2.1 ∧ (∀ j, j < 4 → b'.2.2.2.1 j = p.2.2.2.1 j) ∧ fX1_copyFrom_L52 p kx n (nI i) b = kx (nI 4) b' := by
  intro d
  induction d with
  | zero =>
    intro i n b hi hn hb
    obtain ⟨n, rfl⟩ := suc hn
    obtain rfl : i = 4 := by omega
    exact ⟨b, rfl, rfl, rfl, hb, by rw [fX1_copyFrom_L52, if_pos (by decide)]⟩
  | succ d ih =>
    intro i n b hi hn hb
    obtain ⟨n, rfl⟩ := suc (by omega : 0 < n)
    have h0 : ¬ (4 : Int32) ≤ nI i := nI_ge (b := 4) (by omega) (by decide)
    simp (disch := omega) only [fX1_copyFrom_L52, h0, clm, ixc, if_false, nI_1]
    obtain ⟨b', h1, h2, h3, h4, h5⟩ := ih (i + 1) n (b.1, b.2.1, b.2.2.1, upd b.2.2.2.1 i (p.2.2.2.1 i), b.2.2.2.2) (by omega) (by omega) (fun j hj => by
      simp only [up_eq]
      by_cases e : j = i
      · simp [e]
      · simp only [e, if_false]; exact hb j (by omega))
    exact ⟨b', h1, h2, h3, h4, h5⟩
/-- what a borough is copied from -/
def CP (b p : SBO) : Prop := (∀ j, j < 8 → b.1 j = p.1 j ∧ b.2.1 j = p.2.1 j ∧ b.2.2.1 j = p.2.2.1 j) ∧ (∀ j, j < 4 → b.2.2.2.1 j = p.2.2.2.1 j) ∧ b.2.2.2.2.2 = p.2.2.2.2.2
theorem copy_ok (b p : SBO) : ∃ b', fX1_copyFrom b p = some b' ∧ CP b' p := by
  obtain ⟨b1, h1, h2⟩ := copy_L2 p (fun v2_2 bo_2 => fX1_copyFrom_L52 p (fun v2_52 bo_52 => some (bo_52.1, bo_52.2.1, bo_52.2.2.1, bo_52.2.2.2.1, bo_52.2.2.2.2.1, p.2.2.2.2.2.1, p.2.2.2.2.2.2.1, p.2.2.2.2.2.2.2.1, p.2.2.2.2.2.2.2.2)) 5000 0 bo_2) 8 0 5000 b (by omega) (by omega) (fun j hj => by omega)
  obtain ⟨b2, g1, g2, g3, g4, g5⟩ := copy_L52 p (fun v2_52 bo_52 => some (bo_52.1, bo_52.2.1, bo_52.2.2.1, bo_52.2.2.2.1, bo_52.2.2.2.2.1, p.2.2.2.2.2.1, p.2.2.2.2.2.2.1, p.2.2.2.2.2.2.2.1, p.2.2.2.2.2.2.2.2)) 4 0 5000 b1 (by omega) (by omega) (fun j hj => by omega)
  rw [nI_0] at h2 g5
  refine ⟨(b2.1, b2.2.1, b2.2.2.1, b2.2.2.2.1, b2.2.2.2.2.1, p.2.2.2.2.2), ?_, ?_⟩
  · rw [fX1_copyFrom, h2, g5]
  · exact ⟨fun j hj => by simp only [g1, g2, g3]; exact h1 j hj, g4, rfl⟩
theorem RB.copy {b p : SBO} {k : Nat → Int32} (h : RB p k) (c : CP b p) : RB b k := by
  obtain ⟨g1, g2, g3, g4, g5, g6, g7, g8⟩ := h
  obtain ⟨c1, c2, c3⟩ := c
  refine ⟨fun i hi => ?_, fun i hi => ?_, fun i hi => ?_, fun i hi => ?_, ?_, ?_, ?_, ?_⟩
  · rw [(c1 i hi).1]; exact g1 i hi
  · rw [(c1 i hi).2.1]; exact g2 i hi
  · rw [(c1 i hi).2.2]; exact g3 i hi
  · rw [c2 i hi]; exact g4 i hi
  · rw [c3]; exact g5
  · rw [c3]; exact g6
  · rw [c3]; exact g7
  · rw [c3]; exact g8
theorem RB.cong {b : SBO} {k k' : Nat → Int32} (h : RB b k) (c : ∀ i, i < 31 → k' i = k i) : RB b k' := by
  obtain ⟨g1, g2, g3, g4, g5, g6, g7, g8⟩ := h
  refine ⟨fun i hi => ?_, fun i hi => ?_, fun i hi => ?_, fun i hi => ?_, ?_, ?_, ?_, g8⟩
  · rw [c i (by omega)]; exact g1 i hi
  · rw [c (8 + i) (by omega)]; exact g2 i hi
  · rw [c (16 + i) (by omega)]; exact g3 i hi
  · rw [c (24 + i) (by omega)]; exact g4 i hi
  · rw [c 28 (by omega)]; exact g5
  · rw [c 29 (by omega)]; exact g6
  · rw [c 30 (by omega)]; exact g7
theorem asNow_L2 (m : Nat → Int32) (kx : Int32 → (Nat → Int32) → Option (Int32 × Int32 × Int32 × (Nat → Int32))) : ∀ (d i n : Nat) (f : Nat → Int32), i + d = 31 → d < n → (∀ j, j < i → f j = m j) → ∃ f' : Nat → Int32, (∀ j, j < 31 → f' j = m j) ∧ fX11_asNow_L2 m kx n (nI i) f = kx (nI 31) f' := by
  intro d
  induction d with
  | zero =>
    intro i n f hi hn hb
    obtain ⟨n, rfl⟩ := suc hn
    obtain rfl : i = 31 := by omega
    exact ⟨f, hb, by rw [fX11_asNow_L2, if_pos (by decide)]⟩
  | succ d ih =>
    intro i n f hi hn hb
    obtain ⟨n, rfl⟩ := suc (by omega : 0 < n)
    have h0 : ¬ (31 : Int32) ≤ nI i := nI_ge (b := 31) (by omega) (by decide)
    simp (disch := omega) only [fX11_asNow_L2, h0, clm, ixc, if_false, nI_1]
    refine ih (i + 1) n _ (by omega) (by omega) (fun j hj => ?_)
    simp only [up_eq]
    by_cases e : j = i
    · simp [e]
    · simp only [e, if_false]; exact hb j (by omega)
theorem asNow_ok (s mk ma : Int32) (m f : Nat → Int32) : ∃ f' : Nat → Int32, (∀ j, j < 31 → f' j = m j) ∧ fX11_asNow s mk ma m f = some (0, 0, -6, f') := by
  obtain ⟨f', h1, h2⟩ := asNow_L2 m (fun v1_2 m_now_2 => some (0, 0, (-6), m_now_2)) 31 0 5000 f (by omega) (by omega) (fun j hj => by omega)
  rw [nI_0] at h2
  exact ⟨f', h1, by rw [fX11_asNow, h2]⟩
theorem cc_L2 (kx : Int32 → SBO → Option SBO) : ∀ (d i n : Nat) (b : SBO), i + d = 7 → d < n → (∀ j, j < i → b.2.2.2.2.1 j = 0) → ∃ ch : Nat → Int32, (∀ j, j < 7 → ch j = 0) ∧ fX1_countChalk_L2 kx n (nI i) b = kx (nI 7) (b.1, b.2.1, b.2.2.1, b.2.2.2.1, ch, b.2.2.2.2.2) := by
  intro d
  induction d with
  | zero =>
    intro i n b hi hn hb
    obtain ⟨n, rfl⟩ := suc hn
    obtain rfl : i = 7 := by omega
    exact ⟨b.2.2.2.2.1, hb, by rw [fX1_countChalk_L2, if_pos (by decide)]⟩
  | succ d ih =>
    intro i n b hi hn hb
    obtain ⟨n, rfl⟩ := suc (by omega : 0 < n)
    have h0 : ¬ (7 : Int32) ≤ nI i := nI_ge (b := 7) (by omega) (by decide)
    simp (disch := omega) only [fX1_countChalk_L2, h0, clm, ixc, if_false, nI_1]
    exact ih (i + 1) n (b.1, b.2.1, b.2.2.1, b.2.2.2.1, upd b.2.2.2.2.1 i 0, b.2.2.2.2.2) (by omega) (by omega) (fun j hj => by
      simp only [up_eq]
      by_cases e : j = i
      · simp [e]
      · simp only [e, if_false]; exact hb j (by omega))
theorem cc_L23 (kx : Int32 → SBO → Option SBO) : ∀ (d i n : Nat) (b : SBO), i + d = 8 → d < n → (∀ e, e < 7 → b.2.2.2.2.1 e = cnt b.1 (nI e) i) → ∃ ch : Nat → Int32, (∀ e, e < 7 → ch e = cnt b.1 (nI e) 8) ∧ fX1_countChalk_L23 kx n (nI i) b = kx (nI 8) (b.1, b.2.1, b.2.2.1, b.2.2.2.1, ch, b.2.2.2.2.2) := by
  intro d
  induction d with
  | zero =>
    intro i n b hi hn hb
    obtain ⟨n, rfl⟩ := suc hn
    obtain rfl : i = 8 := by omega
    exact ⟨b.2.2.2.2.1, hb, by rw [fX1_countChalk_L23, if_pos (by decide)]⟩
  | succ d ih =>
    intro i n b hi hn hb
    obtain ⟨n, rfl⟩ := suc (by omega : 0 < n)
    have h0 : ¬ (8 : Int32) ≤ nI i := nI_ge (b := 8) (by omega) (by decide)
    by_cases c1 : b.1 i < 0
    · simp (disch := omega) only [fX1_countChalk_L23, h0, clm, ixc, if_false, nI_1, c1, if_true]
      refine ih (i + 1) n b (by omega) (by omega) (fun e he => ?_)
      have h2 : ¬ b.1 i = nI e := fun q => nI_pos (n := e) (by omega) (q ▸ c1)
      simp only [cnt, h2, if_false, hb e he]
      grind
    · by_cases c2 : (7 : Int32) ≤ b.1 i
      · simp (disch := omega) only [fX1_countChalk_L23, h0, clm, ixc, if_false, nI_1, c1, c2, if_true]
        refine ih (i + 1) n b (by omega) (by omega) (fun e he => ?_)
        have h2 : ¬ b.1 i = nI e := fun q => nI_ge (a := e) (b := 7) he (by decide) (q ▸ c2)
        simp only [cnt, h2, if_false, hb e he]
        grind
      · obtain ⟨z, hz, ez⟩ := i_of (x := b.1 i) (N := 7) (by decide) c1 c2
        have q1 : ¬ nI z < 0 := by rw [← ez]; exact c1
        have q2 : ¬ (7 : Int32) ≤ nI z := by rw [← ez]; exact c2
        have q3 : ¬ 7 ≤ z := by omega
        simp (disch := omega) only [fX1_countChalk_L23, h0, clm, ixc, if_false, nI_1, ez, q1, q2, q3, or_self]
        refine ih (i + 1) n (b.1, b.2.1, b.2.2.1, b.2.2.2.1, upd b.2.2.2.2.1 z (b.2.2.2.2.1 z + 1), b.2.2.2.2.2) (by omega) (by omega) (fun e he => ?_)
        simp only [cnt, up_eq, ez]
        by_cases ee : e = z
        · subst ee; simp [hb e he]
        · have h3 : ¬ nI z = nI e := fun q => ee ((nI_eq (by omega) (by omega)).mp q).symm
          simp only [ee, h3, if_false, hb e he]
          grind
theorem countChalk_ok (b : SBO) : ∃ ch : Nat → Int32, (∀ e, e < 7 → ch e = cnt b.1 (nI e) 8) ∧ fX1_countChalk b = some (b.1, b.2.1, b.2.2.1, b.2.2.2.1, ch, b.2.2.2.2.2) := by
  obtain ⟨c1, h1, h2⟩ := cc_L2 (fun v1_2 bo_2 => fX1_countChalk_L23 (fun v1_23 bo_23 => some bo_23) 5000 0 bo_2) 7 0 5000 b (by omega) (by omega) (fun j hj => by omega)
  obtain ⟨c2, g1, g2⟩ := cc_L23 (fun v1_23 bo_23 => some bo_23) 8 0 5000 (b.1, b.2.1, b.2.2.1, b.2.2.2.1, c1, b.2.2.2.2.2) (by omega) (by omega) (fun e he => h1 e he)
  rw [nI_0] at h2 g2
  exact ⟨c2, g1, by rw [fX1_countChalk, h2, g2]⟩
theorem least_L8 (u : SBO) (kx : Int32 → Int32 → Option (Int32 × SBO)) : ∀ (d i n : Nat), i + 1 + d = 7 → d < n → fX1_leastDay_L8 u kx n (nI (am u.2.2.2.2.1 i)) (nI (i + 1)) = kx (nI (am u.2.2.2.2.1 6)) (nI 7) := by
  intro d
  induction d with
  | zero =>
    intro i n hi hn
    obtain ⟨n, rfl⟩ := suc hn
    obtain rfl : i = 6 := by omega
    rw [fX1_leastDay_L8, if_pos (by decide)]
  | succ d ih =>
    intro i n hi hn
    obtain ⟨n, rfl⟩ := suc (by omega : 0 < n)
    have h0 : ¬ (7 : Int32) ≤ nI (i + 1) := nI_ge (b := 7) (by omega) (by decide)
    have h1 := am_le u.2.2.2.2.1 i
    simp (disch := omega) only [fX1_leastDay_L8, h0, clm, ixc, if_false, nI_1]
    have h2 := ih (i + 1) n (by omega) (by omega)
    by_cases c : u.2.2.2.2.1 (am u.2.2.2.2.1 i) ≤ u.2.2.2.2.1 (i + 1)
    · rw [if_pos c]
      rw [show am u.2.2.2.2.1 (i + 1) = am u.2.2.2.2.1 i by simp only [am, c, if_true]] at h2
      exact h2
    · rw [if_neg c]
      rw [show am u.2.2.2.2.1 (i + 1) = i + 1 by simp only [am, c, if_false]] at h2
      exact h2
theorem least_ok (b : SBO) : ∃ ch : Nat → Int32, (∀ e, e < 7 → ch e = cnt b.1 (nI e) 8) ∧ fX1_leastDay b = some (nI (am (fun e => cnt b.1 (nI e) 8) 6), (b.1, b.2.1, b.2.2.1, b.2.2.2.1, ch, b.2.2.2.2.2)) := by
  obtain ⟨ch, h1, h2⟩ := countChalk_ok b
  refine ⟨ch, h1, ?_⟩
  have h3 := least_L8 (b.1, b.2.1, b.2.2.1, b.2.2.2.1, ch, b.2.2.2.2.2) (fun v1_8 v2_8 => some (v1_8, (b.1, b.2.1, b.2.2.1, b.2.2.2.1, ch, b.2.2.2.2.2))) 6 0 5000 (by omega) (by omega)
  have h4 : am ch 6 = am (fun e => cnt b.1 (nI e) 8) 6 := am_cong (fun d hd => h1 d (by omega))
  simp only [am, nI_0] at h3
  simp only [fX1_leastDay, h2, Option.bind_some]
  rw [← h4]
  exact h3
theorem mchalk_L4 (v : Int32) (f : Nat → Int32) (kx : Int32 → Int32 → Option Int32) : ∀ (d i n : Nat), i + d = 8 → d < n → fX11_chalkOf_L4 v f kx n (cnt f v i) (nI i) = kx (cnt f v 8) (nI 8) := by
  intro d
  induction d with
  | zero =>
    intro i n hi hn
    obtain ⟨n, rfl⟩ := suc hn
    obtain rfl : i = 8 := by omega
    rw [fX11_chalkOf_L4, if_pos (by decide)]
  | succ d ih =>
    intro i n hi hn
    obtain ⟨n, rfl⟩ := suc (by omega : 0 < n)
    have h0 : ¬ (8 : Int32) ≤ nI i := nI_ge (b := 8) (by omega) (by decide)
    simp (disch := omega) only [fX11_chalkOf_L4, h0, clm, ixc, if_false, nI_1, cm_let]
    exact ih (i + 1) n (by omega) (by omega)
theorem mchalk_ok (v : Int32) (f : Nat → Int32) : fX11_chalkOf v f = some (cnt f v 8) := by
  have h := mchalk_L4 v f (fun v2_4 v3_4 => some v2_4) 8 0 5000 (by omega) (by omega)
  rw [nI_0] at h
  rw [fX11_chalkOf]
  exact h
theorem mday_L4 (f : Nat → Int32) (kx : Int32 → Int32 → Option Int32) : ∀ (d i n : Nat), i + 1 + d = 7 → d < n → fX11_theDay_L4 f kx n (nI (am (fun e => cnt f (nI e) 8) i)) (nI (i + 1)) = kx (nI (am (fun e => cnt f (nI e) 8) 6)) (nI 7) := by
  intro d
  induction d with
  | zero =>
    intro i n hi hn
    obtain ⟨n, rfl⟩ := suc hn
    obtain rfl : i = 6 := by omega
    rw [fX11_theDay_L4, if_pos (by decide)]
  | succ d ih =>
    intro i n hi hn
    obtain ⟨n, rfl⟩ := suc (by omega : 0 < n)
    have h0 : ¬ (7 : Int32) ≤ nI (i + 1) := nI_ge (b := 7) (by omega) (by decide)
    simp (disch := omega) only [fX11_theDay_L4, h0, if_false, nI_1, mchalk_ok, Option.bind_some]
    have h2 := ih (i + 1) n (by omega) (by omega)
    by_cases c : cnt f (nI (am (fun e => cnt f (nI e) 8) i)) 8 ≤ cnt f (nI (i + 1)) 8
    · rw [if_pos c]
      rw [show am (fun e => cnt f (nI e) 8) (i + 1) = am (fun e => cnt f (nI e) 8) i by simp only [am, c, if_true]] at h2
      exact h2
    · rw [if_neg c]
      rw [show am (fun e => cnt f (nI e) 8) (i + 1) = i + 1 by simp only [am, c, if_false]] at h2
      exact h2
theorem mday_ok (f : Nat → Int32) : fX11_theDay f = some (nI (am (fun e => cnt f (nI e) 8) 6)) := by
  have h := mday_L4 f (fun v1_4 v2_4 => some v1_4) 6 0 5000 (by omega) (by omega)
  simp only [am, nI_0] at h
  rw [fX11_theDay]
  exact h
theorem cnt_cong {f g : Nat → Int32} {d : Int32} : ∀ {n : Nat}, (∀ i, i < n → (f i = d ↔ g i = d)) → cnt f d n = cnt g d n
  | 0, _ => rfl
  | n + 1, h => by
    have h1 := cnt_cong (f := f) (g := g) (d := d) (n := n) (fun i hi => h i (by omega))
    have h2 := h n (by omega)
    simp only [cnt, h1]
    by_cases c : f n = d
    · simp only [c, h2.mp c]
    · have h3 : ¬ g n = d := fun q => c (h2.mpr q)
      simp only [c, h3, if_false]
theorem RB_cnt {b : SBO} {k : Nat → Int32} (h : RB b k) {e : Nat} (he : e < 7) : cnt b.1 (nI e) 8 = cnt k (nI e) 8 := by
  refine cnt_cong (fun i hi => ?_)
  have h0 : ¬ nI e < 0 := nI_pos (by omega)
  have h1 := h.1 i hi
  grind
theorem RB_day {b : SBO} {k : Nat → Int32} (h : RB b k) : am (fun e => cnt b.1 (nI e) 8) 6 = am (fun e => cnt k (nI e) 8) 6 := am_cong (fun d hd => RB_cnt h (by omega))
