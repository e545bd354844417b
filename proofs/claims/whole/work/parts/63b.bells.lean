/-! Bells: the counting. -/
def bn : Nat → Nat → Nat
  | _, 0 => 1
  | 0, _ + 1 => 0
  | n + 1, k + 1 => bn n k + bn n (k + 1)
/-- a sum over the first n -/
def su (F : Nat → Nat) : Nat → Nat
  | 0 => 0
  | n + 1 => su F n + F n
theorem su_cong {F G : Nat → Nat} : ∀ {n : Nat}, (∀ i, i < n → F i = G i) → su F n = su G n
  | 0, _ => rfl
  | n + 1, h => by rw [su, su, su_cong (fun i hi => h i (by omega)), h n (by omega)]
theorem su_zero {F : Nat → Nat} : ∀ {n : Nat}, (∀ i, i < n → F i = 0) → su F n = 0
  | 0, _ => rfl
  | n + 1, h => by rw [su, su_zero (fun i hi => h i (by omega)), h n (by omega)]
theorem su_add (F G : Nat → Nat) : ∀ n, su (fun i => F i + G i) n = su F n + su G n
  | 0 => rfl
  | n + 1 => by rw [su, su, su, su_add F G n]; omega
theorem su_mul (F : Nat → Nat) (c : Nat) : ∀ n, su (fun i => c * F i) n = c * su F n
  | 0 => rfl
  | n + 1 => by rw [su, su, su_mul F c n, Nat.mul_add]
theorem su_mulr (F : Nat → Nat) (c : Nat) : ∀ n, su (fun i => F i * c) n = su F n * c
  | 0 => by simp [su]
  | n + 1 => by rw [su, su, su_mulr F c n, Nat.add_mul]
theorem su_swap (F : Nat → Nat → Nat) (m : Nat) : ∀ n, su (fun i => su (fun j => F i j) m) n = su (fun j => su (fun i => F i j) n) m
  | 0 => by rw [su]; exact (su_zero (fun _ _ => rfl)).symm
  | n + 1 => by
    rw [su, su_swap F m n, ← su_add]
    exact su_cong (fun j _ => rfl)
theorem su_le {F G : Nat → Nat} : ∀ {n : Nat}, (∀ i, i < n → F i ≤ G i) → su F n ≤ su G n
  | 0, _ => Nat.le_refl _
  | n + 1, h => by
    have h1 := su_le (F := F) (G := G) (n := n) (fun i hi => h i (by omega))
    have h2 := h n (by omega)
    rw [su, su]; omega
/-- one day more, seen from the class -/
def Dy (e : Nat) (u : Nat → Nat) (m : Nat) : Nat := su (fun k => if e ≤ k ∧ k ≤ m then bn m k * u (m - k) else 0) 13
/-- the same, seen from the model -/
def Ty (e : Nat) (w : Nat → Nat) (a : Nat) : Nat := su (fun b => if a + e ≤ b then w b * bn b (b - a) else 0) 13
theorem su_one (F : Nat → Nat) (c : Nat) : ∀ n, c < n → (∀ i, i < n → ¬ i = c → F i = 0) → su F n = F c
  | 0, h, _ => by omega
  | n + 1, h, h2 => by
    rw [su]
    by_cases e : n = c
    · subst e; rw [su_zero (fun i hi => h2 i (by omega) (by omega))]; omega
    · rw [su_one F c n (by omega) (fun i hi => h2 i (by omega)), h2 n (by omega) e]; omega
/-- the k-th of m is the a-th from below -/
theorem su_rev (F : Nat → Nat) : ∀ m, su (fun k => F (m - k)) (m + 1) = su F (m + 1)
  | 0 => rfl
  | m + 1 => by
    have h : ∀ n, su (fun k => F (m + 1 - k)) (n + 1) = F (m + 1) + su (fun k => F (m - k)) n := by
      intro n
      induction n with
      | zero => simp [su]
      | succ n ih =>
        rw [su, ih, su, show m + 1 - (n + 1) = m - n by omega]; omega
    rw [h (m + 1), su_rev F m, su]
    rw [show su F (m + 1 + 1) = su F (m + 1) + F (m + 1) from rfl]
    rw [su]; omega
theorem su_cut (F : Nat → Nat) (m : Nat) : ∀ n, m ≤ n → (∀ i, m ≤ i → i < n → F i = 0) → su F n = su F m
  | 0, h, _ => by obtain rfl : m = 0 := by omega
                  rfl
  | n + 1, h, h2 => by
    by_cases c : m = n + 1
    · rw [c]
    · rw [su, su_cut F m n (by omega) (fun i h3 h4 => h2 i h3 (by omega)), h2 n (by omega) (by omega)]; rfl
theorem Dy_rev (e : Nat) (u : Nat → Nat) {m : Nat} (hm : m < 13) : Dy e u m = su (fun a => if a + e ≤ m then bn m (m - a) * u a else 0) 13 := by
  unfold Dy
  rw [su_cut _ (m + 1) 13 (by omega) (fun i h1 _ => if_neg (by omega)), su_cut (fun a => if a + e ≤ m then bn m (m - a) * u a else 0) (m + 1) 13 (by omega) (fun i h1 _ => if_neg (by omega))]
  refine Eq.trans ?_ (su_rev (fun a => if a + e ≤ m then bn m (m - a) * u a else 0) m)
  refine su_cong (fun k hk => ?_)
  by_cases c : e ≤ k
  · rw [if_pos (by omega), if_pos (by omega), show m - (m - k) = k by omega]
  · rw [if_neg (by omega), if_neg (by omega)]
theorem pair (e : Nat) (w u : Nat → Nat) : su (fun a => Ty e w a * u a) 13 = su (fun b => w b * Dy e u b) 13 := by
  have l : su (fun a => Ty e w a * u a) 13 = su (fun a => su (fun b => if a + e ≤ b then w b * bn b (b - a) * u a else 0) 13) 13 := by
    refine su_cong (fun a _ => ?_)
    unfold Ty
    rw [← su_mulr]
    refine su_cong (fun b _ => ?_)
    by_cases c : a + e ≤ b
    · rw [if_pos c, if_pos c]
    · rw [if_neg c, if_neg c, Nat.zero_mul]
  rw [l, su_swap]
  refine su_cong (fun b hb => ?_)
  rw [Dy_rev e u hb, ← su_mul]
  refine su_cong (fun a _ => ?_)
  by_cases c : a + e ≤ b
  · rw [if_pos c, if_pos c, Nat.mul_assoc]
  · rw [if_neg c, if_neg c, Nat.mul_zero]
theorem bn_sym : ∀ m, m < 13 → ∀ k, k < 13 → ∀ l, l < 13 → k + l ≤ m → bn m k * bn (m - k) l = bn m l * bn (m - l) k := by decide +kernel
theorem Dy_comm (e f : Nat) (u : Nat → Nat) {m : Nat} (hm : m < 13) : Dy e (Dy f u) m = Dy f (Dy e u) m := by
  have h : ∀ e f, Dy e (Dy f u) m = su (fun k => su (fun l => if e ≤ k ∧ f ≤ l ∧ k + l ≤ m then bn m k * bn (m - k) l * u (m - k - l) else 0) 13) 13 := by
    intro e f
    refine su_cong (fun k _ => ?_)
    by_cases c : e ≤ k ∧ k ≤ m
    · rw [if_pos c, Dy, ← su_mul]
      refine su_cong (fun l _ => ?_)
      by_cases d : f ≤ l ∧ l ≤ m - k
      · rw [if_pos d, if_pos (by omega), Nat.mul_assoc]
      · rw [if_neg d, if_neg (by omega), Nat.mul_zero]
    · rw [if_neg c]
      exact (su_zero (fun l _ => if_neg (by omega))).symm
  rw [h e f, h f e, su_swap]
  refine su_cong (fun k hk => su_cong (fun l hl => ?_))
  by_cases c : e ≤ l ∧ f ≤ k ∧ l + k ≤ m
  · rw [if_pos c, if_pos (by omega), bn_sym m hm l hl k hk c.2.2, Nat.sub_right_comm]
  · rw [if_neg c, if_neg (by omega)]
/-- the class's ways after o days -/
def Ud (d c : Nat) : Nat → Nat → Nat
  | 0, m => if m = 0 then 1 else 0
  | o + 1, m => if o = d then Ud d c o m else Dy (nd d c o) (Ud d c o) m
theorem Dy_cong {e m : Nat} {u w : Nat → Nat} (h : ∀ j, j ≤ m → u j = w j) : Dy e u m = Dy e w m := by
  refine su_cong (fun k _ => ?_)
  by_cases c : e ≤ k ∧ k ≤ m
  · rw [if_pos c, if_pos c, h _ (by omega)]
  · rw [if_neg c, if_neg c]
/-- the model's days from o on, pulled back -/
def Vd (d c v : Nat) : Nat → (Nat → Nat) → Nat → Nat
  | 0, u => u
  | r + 1, u => if v - (r + 1) = d then Vd d c v r u else Dy (nd d c (v - (r + 1))) (Vd d c v r u)
theorem Dy_Vd {d c v e : Nat} (u : Nat → Nat) : ∀ (r m : Nat), m < 13 → Dy e (Vd d c v r u) m = Vd d c v r (Dy e u) m
  | 0, m, _ => rfl
  | r + 1, m, h => by
    rw [Vd, Vd]
    by_cases q : v - (r + 1) = d
    · rw [if_pos q, if_pos q]; exact Dy_Vd u r m h
    · rw [if_neg q, if_neg q, Dy_comm _ _ _ h]
      exact Dy_cong (fun j hj => Dy_Vd u r j (by omega))
theorem Vd_cong {d c v : Nat} {u w : Nat → Nat} (hu : ∀ j, j < 13 → u j = w j) : ∀ (r m : Nat), m < 13 → Vd d c v r u m = Vd d c v r w m
  | 0, m, h => hu m h
  | r + 1, m, h => by
    rw [Vd, Vd]
    by_cases q : v - (r + 1) = d
    · rw [if_pos q, if_pos q]; exact Vd_cong hu r m h
    · rw [if_neg q, if_neg q]
      exact Dy_cong (fun j hj => Vd_cong hu r j (by omega))
/-- the two orders agree -/
theorem Vd_Ud {d c v : Nat} : ∀ (r o m : Nat), o + r = v → m < 13 → Vd d c v r (Ud d c o) m = Ud d c v m
  | 0, o, m, h, _ => by
    obtain rfl : o = v := by omega
    rfl
  | r + 1, o, m, h, hm => by
    have ih := Vd_Ud (d := d) (c := c) (v := v) r (o + 1) m (by omega) hm
    have e : v - (r + 1) = o := by omega
    rw [Vd, e]
    by_cases q : o = d
    · rw [if_pos q, ← ih]
      exact Vd_cong (fun j _ => by rw [Ud, if_pos q]) r m hm
    · rw [if_neg q, Dy_Vd _ r m hm, ← ih]
      exact Vd_cong (fun j _ => by rw [Ud, if_neg q]) r m hm
theorem Dy_low {e m t : Nat} {u : Nat → Nat} (h : ∀ j, j < t → u j = 0) (hm : m < t + e) : Dy e u m = 0 := by
  refine su_zero (fun k _ => ?_)
  by_cases c : e ≤ k ∧ k ≤ m
  · rw [if_pos c, h _ (by omega), Nat.mul_zero]
  · rw [if_neg c]
def nb (d c : Nat) : Nat → Nat
  | 0 => 0
  | o + 1 => nb d c o + (if o = d then 0 else c)
theorem Ud_low (d c : Nat) : ∀ (o m : Nat), m < nb d c o → Ud d c o m = 0
  | 0, m, h => by simp only [nb] at h; omega
  | o + 1, m, h => by
    rw [Ud]
    rw [nb] at h
    by_cases q : o = d
    · rw [if_pos q] at h ⊢; exact Ud_low d c o m (by omega)
    · rw [if_neg q] at h ⊢
      have hn : c ≤ nd d c o := by unfold nd; rw [if_neg q]; split <;> omega
      exact Dy_low (t := nb d c o) (fun j hj => Ud_low d c o j hj) (by omega)
theorem nb_eq (d c : Nat) : ∀ o, nb d c o = (if d < o then (o - 1) * c else o * c)
  | 0 => by simp [nb]
  | o + 1 => by
    rw [nb, nb_eq d c o]
    by_cases q : o = d
    · subst q; rw [if_pos rfl, if_neg (by omega), if_pos (by omega), Nat.add_sub_cancel]; omega
    · rw [if_neg q]
      by_cases q2 : d < o
      · rw [if_pos q2, if_pos (by omega), Nat.add_sub_cancel]
        obtain ⟨p, rfl⟩ : ∃ p, o = p + 1 := ⟨o - 1, by omega⟩
        rw [Nat.add_sub_cancel, Nat.succ_mul]
      · rw [if_neg q2, if_neg (by omega), Nat.succ_mul]
theorem Ud_over {d c v n : Nat} (hd : d < v) (hc : c ≤ n) (h : n < c * v) : Ud d c v (n - c) = 0 := by
  refine Ud_low d c v (n - c) ?_
  rw [nb_eq, if_pos hd]
  obtain ⟨p, rfl⟩ : ∃ p, v = p + 1 := ⟨v - 1, by omega⟩
  rw [Nat.add_sub_cancel]
  rw [Nat.mul_succ, Nat.mul_comm] at h
  omega
theorem binom : ∀ q, q < 8 → ∀ m, m < 13 → su (fun k => if k ≤ m then bn m k * q ^ (m - k) else 0) 13 = (q + 1) ^ m := by decide +kernel
theorem Ud_le (d c : Nat) : ∀ (o m : Nat), o < 8 → m < 13 → Ud d c o m ≤ o ^ m
  | 0, m, _, _ => by
    rw [Ud]
    by_cases q : m = 0
    · subst q; decide
    · rw [if_neg q]; exact Nat.zero_le _
  | o + 1, m, h, hm => by
    rw [Ud]
    by_cases q : o = d
    · rw [if_pos q]
      exact Nat.le_trans (Ud_le d c o m (by omega) hm) (Nat.pow_le_pow_left (by omega) m)
    · rw [if_neg q, ← binom o (by omega) m hm]
      refine su_le (fun k _ => ?_)
      by_cases z : nd d c o ≤ k ∧ k ≤ m
      · rw [if_pos z, if_pos z.2]
        exact Nat.mul_le_mul_left _ (Ud_le d c o (m - k) (by omega) (by omega))
      · rw [if_neg z]; exact Nat.zero_le _
theorem bn_le : ∀ m, m < 13 → ∀ k, k < 13 → bn m k ≤ 924 := by decide +kernel
/-- all ways to ring -/
def Wr (n v d : Nat) : Nat := su (fun c => bn n c * Ud d c v (n - c)) (n + 1)
theorem Wr_le {n v d : Nat} (hn : n < 13) (hv : v < 8) : Wr n v d < 2 ^ 63 := by
  have h1 : Wr n v d ≤ su (fun _ => 924 * 7 ^ 12) (n + 1) := by
    refine su_le (fun c hc => Nat.mul_le_mul (bn_le n hn c (by omega)) ?_)
    refine Nat.le_trans (Ud_le d c v (n - c) hv (by omega)) (Nat.le_trans (Nat.pow_le_pow_left (by omega : v ≤ 7) _) (Nat.pow_le_pow_right (by omega) (by omega)))
  have h2 : ∀ k, su (fun _ => 924 * 7 ^ 12) k = k * (924 * 7 ^ 12) := by
    intro k
    induction k with
    | zero => simp [su]
    | succ k ih => rw [su, ih, Nat.add_mul k 1, Nat.one_mul]
  rw [h2] at h1
  have h3 : (n + 1) * (924 * 7 ^ 12) ≤ 13 * (924 * 7 ^ 12) := Nat.mul_le_mul_right _ (by omega)
  have h4 : 13 * (924 * 7 ^ 12) < 2 ^ 63 := by decide
  omega
