/-! Needed: the model, and the operation. -/
theorem sh9 : ∀ i, i < 9 → ((nI i &&& 31).toBitVec.smod 32).toNat = i := by decide +kernel
theorem shl9 : ∀ N, N < 10 → (1 : Int32) <<< (nI N &&& 31) = nI (2 ^ N) := by decide +kernel
theorem has_ok {S i : Nat} (hS : S < 2147483648) (hi : i < 9) : fX11_has (nI S) (nI i) = if S / 2 ^ i % 2 = 1 then 1 else 0 := by
  have q : S / 2 ^ i < 2147483648 := Nat.lt_of_le_of_lt (Nat.div_le_self _ _) hS
  rw [fX11_has, pk_shrN hS _ i (sh9 i hi), pk_andN (by omega) 1 (by rfl)]
  by_cases c : S / 2 ^ i % 2 = 1
  · rw [if_pos c, show S / 2 ^ i % 2 ^ 1 = 1 from c]; rfl
  · have : S / 2 ^ i % 2 ^ 1 = 0 := by have : S / 2 ^ i % 2 ^ 1 = S / 2 ^ i % 2 := rfl
                                       omega
    rw [if_neg c, this]; rfl
theorem sS_le (g : Nat → Nat) (S : Nat) (hg : ∀ i, g i ≤ 9) : ∀ n, sS g S n ≤ 9 * n
  | 0 => by simp [sS]
  | n + 1 => by
    have h1 := sS_le g S hg n
    have h2 := hg n
    rw [sS]; split <;> omega
theorem sS_mem (g : Nat → Nat) (S v : Nat) (h : S / 2 ^ v % 2 = 1) : ∀ n, v < n → g v ≤ sS g S n
  | 0, h1 => by omega
  | n + 1, h1 => by
    rw [sS]
    by_cases c : n = v
    · subst c; rw [if_pos h]; omega
    · have := sS_mem g S v h n (by omega); omega
theorem nd_L67 {g : Nat → Nat} {f : Nat → Int32} {N S : Nat} (hN : N ≤ 9) (hd : ∀ i, i < N → f i = nI (g i)) (hS : S < 2147483648) (kx : Int32 → Int32 → Option (Int32 × (Nat → Int32))) : ∀ (d i n : Nat), i + d = N → d < n → fX11_needed_L67 (nI N) (nI S) f kx n (nI (sS g S i)) (nI i) = kx (nI (sS g S N)) (nI N) := by
  intro d
  induction d with
  | zero =>
    intro i n hi hn
    obtain ⟨n, rfl⟩ := suc hn
    obtain rfl : i = N := by omega
    rw [fX11_needed_L67, if_pos (Int32.le_refl _)]
  | succ d ih =>
    intro i n hi hn
    obtain ⟨n, rfl⟩ := suc (by omega : 0 < n)
    have hi2 := ih (i + 1) n (by omega) (by omega)
    rw [sS] at hi2
    rw [fX11_needed_L67, if_neg (nI_ge (by omega) (by omega)), has_ok hS (by omega)]
    by_cases c : S / 2 ^ i % 2 = 1
    · rw [if_pos c] at hi2
      simp (disch := omega) only [c, if_true, cm_let, n10, if_false, clm, ixc, Option.bind_some, hd i (by omega), nI_add, nI_1]
      exact hi2
    · rw [if_neg c, Nat.add_zero] at hi2
      have z : nI (sS g S i) + 0 = nI (sS g S i) := by grind
      simp only [c, if_false, cm_let, if_true, Option.bind_some, z, nI_1]
      exact hi2
def nP (Q gv : Nat) (s : Nat) (b : Bool) : Nat := if b = true ∧ Q ≤ s ∧ s - gv < Q then 1 else 0
def nQ (Q : Nat) (s : Nat) (_ : Bool) : Nat := if Q ≤ s then 1 else 0
def nF (g : Nat → Nat) (v N : Nat) (P : Nat → Bool → Nat) (S : Nat) : Nat := P (sS g S N) (decide (v < N) && decide (S / 2 ^ v % 2 = 1))
theorem nd_L53 {g : Nat → Nat} {f : Nat → Int32} {N v Q : Nat} (hN : N ≤ 9) (hg : ∀ i, g i ≤ 9) (hv : v < N) (hQ : Q ≤ 81) (hd : ∀ i, i < N → f i = nI (g i)) (kx : Int32 → Int32 → Int32 → Option (Int32 × (Nat → Int32))) : ∀ (d S n : Nat), S + d = 2 ^ N → d < n → fX11_needed_L53 (nI N) (nI Q) (nI v) f kx n (nI (sT (nF g v N (nP Q (g v))) S)) (nI (sT (nF g v N (nQ Q)) S)) (nI S) = kx (nI (sT (nF g v N (nP Q (g v))) (2 ^ N))) (nI (sT (nF g v N (nQ Q)) (2 ^ N))) (nI (2 ^ N)) := by
  have h2 : 2 ^ N ≤ 512 := Nat.pow_le_pow_right (by omega) hN
  intro d
  induction d with
  | zero =>
    intro S n hS hn
    obtain ⟨n, rfl⟩ := suc hn
    obtain rfl : S = 2 ^ N := by omega
    rw [fX11_needed_L53, shl9 N (by omega), if_pos (Int32.le_refl _)]
  | succ d ih =>
    intro S n hS hn
    obtain ⟨n, rfl⟩ := suc (by omega : 0 < n)
    have hi2 := ih (S + 1) n (by omega) (by omega)
    rw [sT, sT] at hi2
    have hs := sS_le g S hg N
    have hgv := hg v
    rw [fX11_needed_L53, shl9 N (by omega), if_neg (nI_ge (by omega) (by omega))]
    have l := fun F (hF : N < F) => nd_L67 (g := g) (f := f) (N := N) (S := S) hN hd (by omega) (fun v9_67 v10_67 => cm_let ((if v9_67 < nI Q then 0 else 1) : Int32) (fun j110 => cm_let (fX11_has (nI S) (nI v)) (fun u127 => Option.bind ((if u127 = 0 then some 0 else (if v9_67 < nI Q then some 0 else if nI v < 0 ∨ 9 ≤ (nI v).toNatClampNeg then none else (if nI Q ≤ (v9_67 - (f (nI v).toNatClampNeg)) then some 0 else some 1))) : Option (Int32)) (fun j130 => fX11_needed_L53 (nI N) (nI Q) (nI v) f kx n ((nI (sT (nF g v N (nP Q (g v))) S)) + j130) ((nI (sT (nF g v N (nQ Q)) S)) + j110) (nI S + 1))))) N 0 F (by omega) hF
    rw [show nI (sS g S 0) = 0 from rfl, nI_0] at l
    rw [l 5000 (by omega), has_ok (by omega) (by omega)]
    have z0 : ∀ x : Int32, x + 0 = x := fun x => by grind
    have dv : decide (v < N) = true := decide_eq_true hv
    have e7 : nF g v N (nQ Q) S = if Q ≤ sS g S N then 1 else 0 := rfl
    have e6 : nF g v N (nP Q (g v)) S = if S / 2 ^ v % 2 = 1 ∧ Q ≤ sS g S N ∧ sS g S N - g v < Q then 1 else 0 := by
      unfold nF nP
      rw [dv, Bool.true_and]
      simp only [decide_eq_true_eq]
    rw [e6, e7] at hi2
    by_cases c1 : sS g S N < Q
    · have p1 : nI (sS g S N) < nI Q := nI_lt c1 (by omega)
      rw [if_neg (by omega), if_neg (by omega), Nat.add_zero, Nat.add_zero] at hi2
      by_cases c2 : S / 2 ^ v % 2 = 1
      · simp only [cm_let, p1, if_true, c2, n10, if_false, Option.bind_some, z0, nI_1]; exact hi2
      · simp only [cm_let, p1, if_true, c2, if_false, Option.bind_some, z0, nI_1]; exact hi2
    · have p1 : ¬ nI (sS g S N) < nI Q := nI_nlt (by omega) (by omega)
      rw [if_pos (by omega : Q ≤ sS g S N)] at hi2
      by_cases c2 : S / 2 ^ v % 2 = 1
      · have hm := sS_mem g S v c2 N hv
        by_cases c3 : sS g S N - g v < Q
        · have p2 : ¬ nI Q ≤ nI (sS g S N - g v) := nI_ge c3 (by omega)
          rw [if_pos ⟨c2, by omega, c3⟩] at hi2
          simp (disch := omega) only [cm_let, p1, if_false, c2, if_true, n10, clm, ixc, hd v hv, pk_sub hm, p2, Option.bind_some, nI_1]
          exact hi2
        · have p2 : nI Q ≤ nI (sS g S N - g v) := nI_le (by omega) (by omega)
          rw [if_neg (by omega), Nat.add_zero] at hi2
          simp (disch := omega) only [cm_let, p1, if_false, c2, if_true, n10, clm, ixc, hd v hv, pk_sub hm, p2, Option.bind_some, nI_1, z0]
          exact hi2
      · rw [if_neg (by omega), Nat.add_zero] at hi2
        simp only [cm_let, p1, if_false, c2, if_true, Option.bind_some, z0, nI_1]
        exact hi2
theorem nd_need {g : Nat → Nat} {N v Q : Nat} (hg : ∀ i, g i ≤ 9) (hv : v < N) : sT (nF g v N (nP Q (g v))) (2 ^ N) = sR g v N (Q - g v) (Q - (Q - g v)) := by
  have e := sT_sA g v N (nP Q (g v))
  rw [show sT (nF g v N (nP Q (g v))) (2 ^ N) = sA g v N (nP Q (g v)) from e, sA_high g v N _ hv (fun s => by unfold nP; rw [if_neg (fun z => by cases z.1)]), sR_eq]
  refine congrArg (sB g v N) (funext fun s => ?_)
  unfold nP
  by_cases c : Q ≤ s + g v ∧ s < Q
  · rw [if_pos ⟨rfl, c.1, by omega⟩, if_pos (by omega)]
  · rw [if_neg (fun z => c ⟨z.2.1, by omega⟩), if_neg (by omega)]
theorem nd_carry {g : Nat → Nat} {N v Q : Nat} (hN : N ≤ 9) (hQ : Q ≤ 81) (hg : ∀ i, g i ≤ 9) : sT (nF g v N (nQ Q)) (2 ^ N) = sR g 100 N Q (82 - Q) := by
  have e := sT_sA g v N (nQ Q)
  rw [show sT (nF g v N (nQ Q)) (2 ^ N) = sA g v N (nQ Q) from e]
  refine (sA_all g v 100 N (fun s => if Q ≤ s then 1 else 0) (by omega)).trans ?_
  rw [sR_eq]
  refine sB_cong g 100 hg N _ _ (fun s hs => ?_)
  by_cases c : Q ≤ s
  · rw [if_pos c, if_pos (by omega)]
  · rw [if_neg c, if_neg (by omega)]
