/-! What to ask about next. -/
def num (j : Nat) : Nat := if j ≤ 8 then j / 2 + 1 else (16 - j) / 2 + 1
def sm (f : Nat → Nat) : Nat → Nat
  | 0 => 0
  | n + 1 => sm f n + f n
theorem sm_cong {f g : Nat → Nat} : ∀ {n : Nat}, (∀ i, i < n → f i = g i) → sm f n = sm g n
  | 0, _ => rfl
  | n + 1, h => by rw [sm, sm, sm_cong (fun i hi => h i (by omega)), h n (by omega)]
theorem sm_le {f : Nat → Nat} {c : Nat} : ∀ {n : Nat}, (∀ i, i < n → f i ≤ c) → sm f n ≤ n * c
  | 0, _ => by simp [sm]
  | n + 1, h => by
    have h1 := sm_le (f := f) (c := c) (n := n) (fun i hi => h i (by omega))
    have h2 := h n (by omega)
    rw [sm, Nat.succ_mul]; omega
theorem num_le : ∀ j, j < 17 → num j ≤ 5 := by decide
theorem num_ok : ∀ j, j < 17 → ((8 - (if 0 ≤ nI j - 8 then nI j - 8 else 0 - (nI j - 8))) / 2) + 1 = nI (num j) := by decide +kernel
theorem ftf_cong (s : SSI) (arr : Nat → Int32) (x : Int32) (g : Int32) : ∀ d i, ftf (s.1, s.2.1, arr, x) g d i = ftf s g d i
  | 0, _ => rfl
  | d + 1, i => by simp only [ftf, ftf_cong s arr x g d (i + 1)]
/-- fit, by the gap's place -/
def ph (s : SSI) (N j : Nat) : Bool := ftf s (nI j - 8) N 0
def yj (s : SSI) (N j : Nat) : Nat := if ph s N j then num j else 0
theorem gp {j : Nat} : nI j - 8 + 8 = nI j := by grind
theorem gs {j : Nat} : nI j - 8 + 1 = nI (j + 1) - 8 := by rw [← nI_1]; grind
theorem tally_L5 {s : SSI} {N : Nat} (hN : N ≤ 8) (hs : s.2.2.2 = nI N) (kx : Int32 → Int32 → SSI → Option (Int32 × SSI)) : ∀ (d j n : Nat) (arr : Nat → Int32), j + d = 17 → d < n → (∀ i, i < j → arr i = nI (yj s N i)) → ∃ arr' : Nat → Int32, (∀ i, i < 17 → arr' i = nI (yj s N i)) ∧ fX6_tallySlates_L5 kx n (nI (sm (yj s N) j)) (nI j - 8) (s.1, s.2.1, arr, s.2.2.2) = kx (nI (sm (yj s N) 17)) (nI 17 - 8) (s.1, s.2.1, arr', s.2.2.2) := by
  intro d
  induction d with
  | zero =>
    intro j n arr hj hn ha
    obtain ⟨n, rfl⟩ := suc hn
    obtain rfl : j = 17 := by omega
    exact ⟨arr, ha, by rw [fX6_tallySlates_L5, if_pos (by decide)]⟩
  | succ d ih =>
    intro j n arr hj hn ha
    obtain ⟨n, rfl⟩ := suc (by omega : 0 < n)
    have b1' : nI j ≤ 16 := nI_le (b := 16) (by omega) (by decide)
    have b2' : 0 ≤ nI j := nI_pos' (by omega)
    have h0 : ¬ (8 : Int32) < nI j - 8 := by grind
    have hft : fX6_fits (nI j - 8) (s.1, s.2.1, arr, s.2.2.2) = some (b1 (ph s N j)) := by
      rw [fits_ok (s := (s.1, s.2.1, arr, s.2.2.2)) hN hs, ftf_cong]; rfl
    rw [fX6_tallySlates_L5, if_neg h0, hft]
    have hy : (if b1 (ph s N j) = 0 then (0 : Int32) else (((8 - (if 0 ≤ nI j - 8 then nI j - 8 else 0 - (nI j - 8))) / 2) + 1)) = nI (yj s N j) := by
      rw [num_ok j (by omega)]
      unfold yj
      cases ph s N j
      · rfl
      · simp only [b1, if_true, n10, if_false]
    simp (disch := omega) only [Option.bind_some, cm_let, hy, gp, gs, clm, ixc, if_false, nI_add]
    obtain ⟨arr', g1, g2⟩ := ih (j + 1) n (upd arr j (nI (yj s N j))) (by omega) (by omega) (fun i hi => by
      rw [up_eq]
      by_cases e : i = j
      · rw [if_pos e, e]
      · rw [if_neg e]; exact ha i (by omega))
    exact ⟨arr', g1, g2⟩
def Sv (s : SSI) (N : Nat) (l : Int32) (v : Int32) (n : Nat) : Nat := sm (fun j => if fX6_answerFor (nI j - 8 + l) = v then yj s N j else 0) n
theorem ans3 (x : Int32) : fX6_answerFor x = 0 ∨ fX6_answerFor x = 1 ∨ fX6_answerFor x = 2 := by grind [fX6_answerFor]
theorem Sv_le (s : SSI) (N : Nat) (l v : Int32) {n : Nat} (hn : n ≤ 17) : Sv s N l v n ≤ 85 := by
  have h : Sv s N l v n ≤ n * 5 := sm_le (fun j hj => by
    have := num_le j (by omega)
    unfold yj
    split
    · split <;> omega
    · omega)
  omega
theorem most_L11 {s : SSI} {N : Nat} {arr : Nat → Int32} (ha : ∀ i, i < 17 → arr i = nI (yj s N i)) (l : Int32) (kx : Int32 → Int32 → Int32 → Int32 → Option Int32) : ∀ (d j n : Nat), j + d = 17 → d < n → fX6_mostLeft_L11 l (s.1, s.2.1, arr, s.2.2.2) kx n (nI (Sv s N l 0 j)) (nI (Sv s N l 1 j)) (nI (Sv s N l 2 j)) (nI j - 8) = kx (nI (Sv s N l 0 17)) (nI (Sv s N l 1 17)) (nI (Sv s N l 2 17)) (nI 17 - 8) := by
  intro d
  induction d with
  | zero =>
    intro j n hj hn
    obtain ⟨n, rfl⟩ := suc hn
    obtain rfl : j = 17 := by omega
    rw [fX6_mostLeft_L11, if_pos (by decide)]
  | succ d ih =>
    intro j n hj hn
    obtain ⟨n, rfl⟩ := suc (by omega : 0 < n)
    have b1' : nI j ≤ 16 := nI_le (b := 16) (by omega) (by decide)
    have b2' : 0 ≤ nI j := nI_pos' (by omega)
    have h0 : ¬ (8 : Int32) < nI j - 8 := by grind
    have hi := ih (j + 1) n (by omega) (by omega)
    rw [fX6_mostLeft_L11, if_neg h0]
    simp (disch := omega) only [cm_let, gp, gs, clm, ixc, if_false, ha j (by omega), nI_add]
    have e : ∀ v, Sv s N l v (j + 1) = Sv s N l v j + (if fX6_answerFor (nI j - 8 + l) = v then yj s N j else 0) := fun v => rfl
    rcases ans3 (nI j - 8 + l) with c | c | c
    · rw [e, e, e] at hi
      simp only [c, show ¬ (0 : Int32) = 1 by decide, show ¬ (0 : Int32) = 2 by decide, if_true, if_false, Nat.add_zero] at hi ⊢
      exact hi
    · rw [e, e, e] at hi
      simp only [c, n10, show ¬ (1 : Int32) = 2 by decide, if_true, if_false, Nat.add_zero] at hi ⊢
      exact hi
    · rw [e, e, e] at hi
      simp only [c, show ¬ (2 : Int32) = 0 by decide, show ¬ (2 : Int32) = 1 by decide, if_true, if_false, Nat.add_zero] at hi ⊢
      exact hi
def Mx (s : SSI) (N : Nat) (l : Int32) : Nat := max (Sv s N l 0 17) (max (Sv s N l 1 17) (Sv s N l 2 17))
theorem Mx_le (s : SSI) (N : Nat) (l : Int32) : Mx s N l ≤ 85 := by
  have h0 := Sv_le s N l 0 (n := 17) (by omega)
  have h1 := Sv_le s N l 1 (n := 17) (by omega)
  have h2 := Sv_le s N l 2 (n := 17) (by omega)
  unfold Mx; omega
theorem max_nI {a b : Nat} (ha : a < 2147483648) (hb : b < 2147483648) : (if nI a < nI b then nI b else nI a) = nI (max a b) := by
  by_cases h : a < b
  · rw [if_pos (nI_lt h hb), Nat.max_eq_right (by omega)]
  · rw [if_neg (nI_nlt (by omega) ha), Nat.max_eq_left (by omega)]
theorem most_ok {s : SSI} {N : Nat} {arr : Nat → Int32} (ha : ∀ i, i < 17 → arr i = nI (yj s N i)) (l : Int32) : fX6_mostLeft l (s.1, s.2.1, arr, s.2.2.2) = some (nI (Mx s N l)) := by
  have h := most_L11 (s := s) (N := N) ha l (fun v2_11 v3_11 v4_11 v5_11 => some (if v2_11 < (if v3_11 < v4_11 then v4_11 else v3_11) then (if v3_11 < v4_11 then v4_11 else v3_11) else v2_11)) 17 0 5000 (by omega) (by omega)
  have h0 := Sv_le s N l 0 (n := 17) (by omega)
  have h1 := Sv_le s N l 1 (n := 17) (by omega)
  have h2 := Sv_le s N l 2 (n := 17) (by omega)
  have z : nI 0 - 8 = -8 := by decide
  have z0 : ∀ v, Sv s N l v 0 = 0 := fun _ => rfl
  rw [z0, z0, z0, z, nI_0] at h
  rw [fX6_mostLeft]
  refine h.trans ?_
  rw [max_nI (by omega) (by omega), max_nI (by omega) (by omega)]
  rfl
theorem tally_ok {s : SSI} {N : Nat} (hN : N ≤ 8) (hs : s.2.2.2 = nI N) : ∃ arr : Nat → Int32, (∀ i, i < 17 → arr i = nI (yj s N i)) ∧ fX6_tallySlates s = some (nI (sm (yj s N) 17), (s.1, s.2.1, arr, s.2.2.2)) := by
  obtain ⟨arr, h1, h2⟩ := tally_L5 hN hs (fun v1_5 v2_5 si_5 => some (v1_5, si_5)) 17 0 5000 s.2.2.1 (by omega) (by omega) (fun i hi => by omega)
  have z : nI 0 - 8 = -8 := by decide
  have z0 : sm (yj s N) 0 = 0 := rfl
  rw [z0, z, nI_0] at h2
  exact ⟨arr, h1, by rw [fX6_tallySlates]; exact h2⟩
/-- the model's counts over the codes -/
def Cv (s : SSI) (N : Nat) (l v : Int32) (n : Nat) : Nat := sm (fun c => if gb s N c && decide (fX6_answerFor (nI (c / 10) - nI (c % 10) + l) = v) then 1 else 0) n
theorem codes_sum (x : Nat → Nat) : sm (fun c => if c / 10 + c % 10 < 9 then x (c / 10 + 8 - c % 10) else 0) 81 = sm (fun j => num j * x j) 17 := by
  simp [sm, num]
  omega
theorem Cv_Sv (s : SSI) (N : Nat) (l v : Int32) : Cv s N l v 81 = Sv s N l v 17 := by
  have h1 : Cv s N l v 81 = sm (fun c => if c / 10 + c % 10 < 9 then (fun j => if ph s N j && decide (fX6_answerFor (nI j - 8 + l) = v) then 1 else 0) (c / 10 + 8 - c % 10) else 0) 81 := by
    refine sm_cong (fun c hc => ?_)
    by_cases h : c / 10 + c % 10 < 9
    · have e : nI (c / 10) - nI (c % 10) = nI (c / 10 + 8 - c % 10) - 8 := by
        have q := pk_sub (a := c / 10 + 8) (b := c % 10) (by omega)
        have q2 := nI_add (c / 10) 8
        have q3 : nI 8 = 8 := rfl
        grind
      simp only [gb, ph, h, e, decide_true, Bool.true_and, if_true]
      rfl
    · simp only [gb, h, decide_false, Bool.false_and, if_false, Bool.false_eq_true]
  rw [h1]
  refine (codes_sum (fun j => if ph s N j && decide (fX6_answerFor (nI j - 8 + l) = v) then 1 else 0)).trans ?_
  refine sm_cong (fun j hj => ?_)
  unfold yj
  cases ph s N j
  · simp
  · by_cases c : fX6_answerFor (nI j - 8 + l) = v
    · simp [c]
    · simp [c]
