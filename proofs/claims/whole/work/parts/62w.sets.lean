/-! Sets of voters. -/
def sA (g : Nat → Nat) (v : Nat) : Nat → (Nat → Bool → Nat) → Nat
  | 0, P => P 0 false
  | N + 1, P => sA g v N P + sA g v N (fun s b => P (s + g N) (b || decide (N = v)))
def sB (g : Nat → Nat) (v : Nat) : Nat → (Nat → Nat) → Nat
  | 0, R => R 0
  | N + 1, R => if N = v then sB g v N R else sB g v N R + sB g v N (fun s => R (s + g N))
theorem sA_low (g : Nat → Nat) (v : Nat) : ∀ (N : Nat) (P : Nat → Bool → Nat), N ≤ v → sA g v N P = sB g v N (fun s => P s false)
  | 0, P, _ => rfl
  | N + 1, P, h => by
    have e : ¬ N = v := by omega
    rw [sA, sB, if_neg e, sA_low g v N _ (by omega), sA_low g v N _ (by omega)]
    simp only [e, decide_false, Bool.or_false]
theorem sB_zero (g : Nat → Nat) (v : Nat) : ∀ (N : Nat), sB g v N (fun _ => 0) = 0
  | 0 => rfl
  | N + 1 => by rw [sB, sB_zero g v N]; split <;> rfl
theorem sA_high (g : Nat → Nat) (v : Nat) : ∀ (N : Nat) (P : Nat → Bool → Nat), v < N → (∀ s, P s false = 0) → sA g v N P = sB g v N (fun s => P (s + g v) true)
  | 0, P, h, _ => by omega
  | N + 1, P, h, h0 => by
    by_cases c : N = v
    · subst c
      rw [sA, sB, if_pos rfl, sA_low g N N _ (Nat.le_refl _), sA_low g N N _ (Nat.le_refl _)]
      simp only [h0, sB_zero, decide_true, Bool.or_true, Nat.zero_add]
    · rw [sA, sB, if_neg c, sA_high g v N P (by omega) h0, sA_high g v N _ (by omega) (fun s => by simp only [c, decide_false, Bool.or_false, h0])]
      simp only [c, decide_false, Bool.or_false, Nat.add_right_comm]
theorem sA_all (g : Nat → Nat) (v w : Nat) : ∀ (N : Nat) (R : Nat → Nat), N ≤ w → sA g v N (fun s _ => R s) = sB g w N R
  | 0, R, _ => rfl
  | N + 1, R, h => by
    rw [sA, sB, if_neg (by omega), sA_all g v w N R (by omega)]
    exact congrArg (sB g w N R + ·) (sA_all g v w N (fun s => R (s + g N)) (by omega))
theorem sB_add (g : Nat → Nat) (v : Nat) : ∀ (N : Nat) (R S : Nat → Nat), sB g v N (fun s => R s + S s) = sB g v N R + sB g v N S
  | 0, R, S => rfl
  | N + 1, R, S => by
    rw [sB, sB, sB]
    split
    · exact sB_add g v N R S
    · rw [sB_add g v N R S, sB_add g v N (fun s => R (s + g N)) (fun s => S (s + g N))]
      omega
theorem sB_cong (g : Nat → Nat) (v : Nat) (hg : ∀ i, g i ≤ 9) : ∀ (N : Nat) (R S : Nat → Nat), (∀ x, x ≤ 9 * N → R x = S x) → sB g v N R = sB g v N S
  | 0, R, S, h => h 0 (by omega)
  | N + 1, R, S, h => by
    rw [sB, sB, sB_cong g v hg N R S (fun x hx => h x (by omega)), sB_cong g v hg N (fun s => R (s + g N)) (fun s => S (s + g N)) (fun x hx => h _ (by have := hg N; omega))]
def sC (g : Nat → Nat) (v N s : Nat) : Nat := sB g v N (fun x => if x = s then 1 else 0)
theorem sC_step (g : Nat → Nat) (v N s : Nat) (h : ¬ N = v) : sC g v (N + 1) s = sC g v N s + (if g N ≤ s then sC g v N (s - g N) else 0) := by
  unfold sC
  rw [sB, if_neg h]
  by_cases c : g N ≤ s
  · rw [if_pos c]
    refine congrArg (_ + ·) (congrArg (sB g v N) (funext fun x => ?_))
    by_cases d : x + g N = s
    · rw [if_pos d, if_pos (by omega)]
    · rw [if_neg d, if_neg (by omega)]
  · rw [if_neg c]
    have : (fun x => if x + g N = s then 1 else 0) = (fun _ => 0) := funext fun x => if_neg (by omega)
    rw [this, sB_zero]
theorem sC_skip (g : Nat → Nat) (v s : Nat) : sC g v (v + 1) s = sC g v v s := by
  unfold sC
  rw [sB, if_pos rfl]
def sR (g : Nat → Nat) (v N a : Nat) : Nat → Nat
  | 0 => 0
  | d + 1 => sR g v N a d + sC g v N (a + d)
theorem sR_eq (g : Nat → Nat) (v N a : Nat) : ∀ d, sR g v N a d = sB g v N (fun x => if a ≤ x ∧ x < a + d then 1 else 0)
  | 0 => by
    have : (fun x => if a ≤ x ∧ x < a + 0 then 1 else 0) = (fun _ => 0) := funext fun x => if_neg (by omega)
    rw [this, sB_zero]; rfl
  | d + 1 => by
    rw [sR, sR_eq g v N a d, sC, ← sB_add]
    refine congrArg (sB g v N) (funext fun x => ?_)
    by_cases c : x = a + d
    · rw [if_neg (by omega), if_pos c, if_pos (by omega)]
    · rw [if_neg c]
      by_cases e : a ≤ x ∧ x < a + d
      · rw [if_pos e, if_pos (by omega)]
      · rw [if_neg e, if_neg (by omega)]
/-- the sum of a set -/
def sS (g : Nat → Nat) (S : Nat) : Nat → Nat
  | 0 => 0
  | n + 1 => sS g S n + (if S / 2 ^ n % 2 = 1 then g n else 0)
theorem sS_low (g : Nat → Nat) (S N : Nat) : ∀ n, n ≤ N → sS g (2 ^ N + S) n = sS g S n
  | 0, _ => rfl
  | n + 1, h => by
    obtain ⟨k, rfl⟩ : ∃ k, N = n + 1 + k := ⟨N - (n + 1), by omega⟩
    rw [sS, sS, sS_low g S (n + 1 + k) n (by omega)]
    have : (2 ^ (n + 1 + k) + S) / 2 ^ n % 2 = S / 2 ^ n % 2 := by
      rw [show 2 ^ (n + 1 + k) = 2 ^ n * (2 * 2 ^ k) by rw [Nat.pow_add, Nat.pow_succ, Nat.mul_assoc], Nat.mul_add_div (Nat.two_pow_pos n)]
      omega
    rw [this]
def sT (F : Nat → Nat) : Nat → Nat
  | 0 => 0
  | n + 1 => sT F n + F n
theorem sT_add (F : Nat → Nat) (a : Nat) : ∀ n, sT F (a + n) = sT F a + sT (fun i => F (a + i)) n
  | 0 => rfl
  | n + 1 => by rw [← Nat.add_assoc, sT, sT, sT_add F a n, Nat.add_assoc]
theorem sT_cong {F G : Nat → Nat} : ∀ {n : Nat}, (∀ i, i < n → F i = G i) → sT F n = sT G n
  | 0, _ => rfl
  | n + 1, h => by rw [sT, sT, sT_cong (fun i hi => h i (by omega)), h n (by omega)]
/-- all sets of N voters -/
theorem sT_sA (g : Nat → Nat) (v : Nat) : ∀ (N : Nat) (P : Nat → Bool → Nat), sT (fun S => P (sS g S N) (decide (v < N) && decide (S / 2 ^ v % 2 = 1))) (2 ^ N) = sA g v N P
  | 0, P => by simp [sT, sS, sA]
  | N + 1, P => by
    rw [Nat.pow_succ, Nat.mul_two, sT_add, sA, ← sT_sA g v N P, ← sT_sA g v N (fun s b => P (s + g N) (b || decide (N = v)))]
    congr 1
    · refine sT_cong (fun S hS => ?_)
      have e0 : S / 2 ^ N = 0 := Nat.div_eq_of_lt hS
      rw [sS, e0, if_neg (by omega), Nat.add_zero]
      by_cases c : v < N
      · simp only [c, decide_true, show v < N + 1 by omega]
      · by_cases d : v = N
        · subst d; simp [e0]
        · simp only [c, show ¬ v < N + 1 by omega]
    · refine sT_cong (fun S hS => ?_)
      have e1 : (2 ^ N + S) / 2 ^ N = 1 := by
        rw [Nat.add_div_left _ (Nat.two_pow_pos N), Nat.div_eq_of_lt hS]
      rw [sS, e1, if_pos (by omega), sS_low g S N N (Nat.le_refl _)]
      by_cases c : v < N
      · have : (2 ^ N + S) / 2 ^ v % 2 = S / 2 ^ v % 2 := by
          obtain ⟨k, rfl⟩ : ∃ k, N = v + 1 + k := ⟨N - (v + 1), by omega⟩
          rw [show 2 ^ (v + 1 + k) = 2 ^ v * (2 * 2 ^ k) by rw [Nat.pow_add, Nat.pow_succ, Nat.mul_assoc], Nat.mul_add_div (Nat.two_pow_pos v)]
          omega
        simp only [c, decide_true, show v < N + 1 by omega, this, show ¬ N = v by omega, decide_false, Bool.or_false]
      · by_cases d : v = N
        · subst d; simp [e1]
        · simp only [c, show ¬ v < N + 1 by omega, decide_false, Bool.false_and, show ¬ N = v by omega, Bool.or_false]
