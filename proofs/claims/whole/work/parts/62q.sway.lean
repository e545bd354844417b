/-! Swaying. -/
def cntN (f : Nat → Int32) (d : Int32) : Nat → Nat
  | 0 => 0
  | n + 1 => cntN f d n + (if f n = d then 1 else 0)
theorem cntN_le (f : Nat → Int32) (d : Int32) : ∀ n, cntN f d n ≤ n
  | 0 => Nat.le_refl 0
  | n + 1 => by
    have := cntN_le f d n
    simp only [cntN]
    split <;> omega
theorem cnt_N (f : Nat → Int32) (d : Int32) : ∀ n, cnt f d n = nI (cntN f d n)
  | 0 => rfl
  | n + 1 => by
    rw [cnt, cntN, cnt_N f d n, ← nI_add]
    by_cases c : f n = d
    · rw [if_pos c, if_pos c]; rfl
    · rw [if_neg c, if_neg c]; rfl
def nd (D own o : Nat) : Nat := if o = D then 0 else if o < D then own + 1 else own
def wN (D own : Nat) : Nat → Nat
  | 0 => own
  | n + 1 => wN D own n + nd D own n
def gN (C : Nat → Nat) (D own : Nat) : Nat → Nat
  | 0 => 0
  | n + 1 => gN C D own n + (nd D own n - C n)
theorem nd_le (D own o : Nat) : nd D own o ≤ own + 1 := by unfold nd; split <;> (try split) <;> omega
theorem wN_le (D own : Nat) : ∀ n, wN D own n ≤ own + n * (own + 1)
  | 0 => by simp [wN]
  | n + 1 => by
    have h := wN_le D own n
    have h2 := nd_le D own n
    rw [wN, Nat.succ_mul]; omega
theorem gN_le (C : Nat → Nat) (D own : Nat) : ∀ n, gN C D own n ≤ n * (own + 1)
  | 0 => by simp [gN]
  | n + 1 => by
    have h := gN_le C D own n
    have h2 := nd_le D own n
    rw [gN, Nat.succ_mul]; omega
theorem nd_mono (D o : Nat) {a b : Nat} (h : a ≤ b) : nd D a o ≤ nd D b o := by unfold nd; split <;> (try split) <;> omega
theorem wN_mono (D : Nat) {a b : Nat} (h : a ≤ b) : ∀ n, wN D a n ≤ wN D b n
  | 0 => h
  | n + 1 => by
    have h1 := wN_mono D h n
    have h2 := nd_mono D n h
    simp only [wN]; omega
theorem gN_mono (C : Nat → Nat) (D : Nat) {a b : Nat} (h : a ≤ b) : ∀ n, gN C D a n ≤ gN C D b n
  | 0 => Nat.le_refl 0
  | n + 1 => by
    have h1 := gN_mono C D h n
    have h2 := nd_mono D n h
    simp only [gN]; omega
theorem sub0 {a b : Nat} (ha : a < 1000) (hb : b < 1000) : (if 0 < nI a - nI b then nI a - nI b else 0) = nI (a - b) := by
  rcases Nat.lt_or_ge b a with h | h
  · rw [pk_sub (by omega), if_pos (show 0 < nI (a - b) from nI_lt (a := 0) (by omega) (by omega))]
  · have h2 : ¬ 0 < nI a - nI b := by
      rcases Nat.lt_or_ge a b with h3 | h3
      · have := pk_sneg (a := a) (b := b) (by omega) h3
        grind
      · obtain rfl : a = b := by omega
        rw [pk_sub (Nat.le_refl _), Nat.sub_self]
        decide
    rw [if_neg h2, Nat.sub_eq_zero_of_le h]; rfl
theorem sub1 {a b : Nat} (ha : a < 1000) (hb : b < 1000) : (if nI a ≤ nI b then (some 0 : Option Int32) else some (nI a - nI b)) = some (nI (a - b)) := by
  rcases Nat.lt_or_ge b a with h | h
  · rw [if_neg (nI_ge h (by omega)), pk_sub (by omega)]
  · rw [if_pos (nI_le h (by omega)), Nat.sub_eq_zero_of_le h]; rfl
theorem leastB {o D own : Nat} (ho : o < 100) (hD : D < 100) (h : o ≠ D) : fX10_leastBeside (nI o) (nI D) (nI own) = nI (nd D own o) := by
  unfold nd
  rw [if_neg h]
  rcases Nat.lt_or_ge o D with c | c
  · have : ¬ nI D ≤ nI o := nI_ge c (by omega)
    simp only [fX10_leastBeside, this, c, if_true, if_false, nI_1]
  · have : nI D ≤ nI o := nI_le c (by omega)
    have c2 : ¬ o < D := by omega
    simp only [fX10_leastBeside, this, c2, if_true, if_false]
theorem move_L8 {C : Nat → Nat} {b : SBO} (hC : ∀ o, o < 7 → C o ≤ 8) (hch : ∀ o, o < 7 → b.2.2.2.2.1 o = nI (C o)) {D own : Nat} (hD : D < 7) (ho : own ≤ 8) (kx : Int32 → Int32 → Int32 → Option Int32) : ∀ (d o n : Nat), o + d = 7 → d < n → fX1_movesToLeave_L8 (nI D) (nI own) b kx n (nI (gN C D own o)) (nI (wN D own o)) (nI o) = kx (nI (gN C D own 7)) (nI (wN D own 7)) (nI 7) := by
  intro d
  induction d with
  | zero =>
    intro o n hi hn
    obtain ⟨n, rfl⟩ := suc hn
    obtain rfl : o = 7 := by omega
    rw [fX1_movesToLeave_L8, if_pos (by decide)]
  | succ d ih =>
    intro o n hi hn
    obtain ⟨n, rfl⟩ := suc (by omega : 0 < n)
    have h0 : ¬ (7 : Int32) ≤ nI o := nI_ge (b := 7) (by omega) (by decide)
    have hi2 := ih (o + 1) n (by omega) (by omega)
    rw [fX1_movesToLeave_L8, if_neg h0]
    by_cases c : o = D
    · subst c
      rw [if_pos rfl, nI_1]
      have e : nd o own o = 0 := by simp [nd]
      simp only [gN, wN, e, Nat.zero_sub, Nat.add_zero] at hi2
      exact hi2
    · rw [if_neg (show ¬ nI o = nI D from fun q => c ((nI_eq (by omega) (by omega)).mp q))]
      have h1 := hC o (by omega)
      have h2 := nd_le D own o
      simp (disch := omega) only [cm_let, leastB (by omega : o < 100) (by omega : D < 100) c, clm, ixc, if_false, hch o (by omega), sub0, nI_add, nI_1]
      exact hi2
def mv (C : Nat → Nat) (D own : Nat) : Nat := if wN D own 7 ≤ 8 then max (C D - own) (gN C D own 7) else 8
theorem move_ok {C : Nat → Nat} {b : SBO} (hC : ∀ o, o < 7 → C o ≤ 8) (hch : ∀ o, o < 7 → b.2.2.2.2.1 o = nI (C o)) {D own : Nat} (hD : D < 7) (ho : own ≤ C D) : fX1_movesToLeave (nI D) (nI own) b = some (nI (mv C D own)) := by
  have hc := hC D hD
  have h := move_L8 hC hch hD (own := own) (by omega) (fun v3_8 v4_8 v5_8 => cm_let (fX10_isDay (nI D)) (fun u61 => Option.bind ((if u61 = 0 then some 0 else if nI D < 0 ∨ 7 ≤ (nI D).toNatClampNeg then none else some ((b.2.2.2.2.1 (nI D).toNatClampNeg) - nI own)) : Option (Int32)) (fun j64 => (if v4_8 ≤ 8 then some (if j64 < v3_8 then v3_8 else j64) else some 8)))) 7 0 5000 (by omega) (by omega)
  have u : fX10_isDay (nI D) = 1 := by
    have a1 : ¬ nI D < 0 := nI_pos (by omega)
    have a2 : ¬ (7 : Int32) ≤ nI D := nI_ge (b := 7) hD (by decide)
    simp only [fX10_isDay, a1, a2, if_false]
  have z1 : gN C D own 0 = 0 := rfl
  have z2 : wN D own 0 = own := rfl
  rw [z1, z2, nI_0] at h
  rw [fX1_movesToLeave]
  refine h.trans ?_
  have b1' := gN_le C D own 7
  have b2' := wN_le D own 7
  simp (disch := omega) only [cm_let, u, n10, if_false, clm, ixc, hch D hD, pk_sub ho, Option.bind_some, max_nI]
  unfold mv
  by_cases c : wN D own 7 ≤ 8
  · rw [if_pos (show nI (wN D own 7) ≤ (8 : Int32) from nI_le (b := 8) c (by decide)), if_pos c]
  · rw [if_neg (show ¬ nI (wN D own 7) ≤ (8 : Int32) from nI_ge (a := 8) (by omega) (by omega)), if_neg c]; rfl
theorem few_L12 {C : Nat → Nat} {b : SBO} (hC : ∀ o, o < 7 → C o ≤ 8) (hch : ∀ o, o < 7 → b.2.2.2.2.1 o = nI (C o)) {D : Nat} (hD : D < 7) (kx : Int32 → Int32 → Option (Int32 × SBO)) (Fn : Nat → Nat) (hF : ∀ i, Fn (i + 1) = min (mv C D i) (Fn i)) (hF8 : ∀ i, Fn i ≤ 8) : ∀ (d i n : Nat), i + d = C D + 1 → d < n → fX1_fewestToSway_L12 (nI D) (nI (C D)) b kx n (nI (Fn i)) (nI i) = kx (nI (Fn (C D + 1))) (nI (C D + 1)) := by
  have hc := hC D hD
  intro d
  induction d with
  | zero =>
    intro i n hi hn
    obtain ⟨n, rfl⟩ := suc hn
    obtain rfl : i = C D + 1 := by omega
    rw [fX1_fewestToSway_L12, if_pos (nI_lt (by omega) (by omega))]
  | succ d ih =>
    intro i n hi hn
    obtain ⟨n, rfl⟩ := suc (by omega : 0 < n)
    have h8 := hF8 i
    have hm : mv C D i ≤ 1000 := by
      have b1' := gN_le C D i 7
      unfold mv; split <;> omega
    rw [fX1_fewestToSway_L12, if_neg (nI_nlt (by omega) (by omega)), move_ok hC hch hD (by omega)]
    simp only [Option.bind_some, nI_1]
    have e : (if nI (mv C D i) < nI (Fn i) then nI (mv C D i) else nI (Fn i)) = nI (Fn (i + 1)) := by
      rw [hF]
      by_cases c : mv C D i < Fn i
      · rw [if_pos (nI_lt c (by omega)), Nat.min_eq_left (by omega)]
      · rw [if_neg (nI_nlt (by omega) (by omega)), Nat.min_eq_right (by omega)]
    rw [e]
    exact ih (i + 1) n (by omega) (by omega)
theorem msw_L78 {C : Nat → Nat} {f : Nat → Int32} (hC : ∀ o, o < 7 → C o ≤ 8) (hch : ∀ o, o < 7 → cnt f (nI o) 8 = nI (C o)) {D own : Nat} (hD : D < 7) (ho : own ≤ 8) (x : Nat) (hx : x ≤ 8) (kx : Int32 → Int32 → Int32 → Option (Int32 × Int32 × Int32 × Int32 × (Nat → Int32))) : ∀ (d o n : Nat), o + d = 7 → d < n → fX11_sway_L78 (nI D) (nI own) f kx n (nI (wN D own o)) (nI (x + gN C D own o)) (nI o) = kx (nI (wN D own 7)) (nI (x + gN C D own 7)) (nI 7) := by
  intro d
  induction d with
  | zero =>
    intro o n hi hn
    obtain ⟨n, rfl⟩ := suc hn
    obtain rfl : o = 7 := by omega
    rw [fX11_sway_L78, if_pos (by decide)]
  | succ d ih =>
    intro o n hi hn
    obtain ⟨n, rfl⟩ := suc (by omega : 0 < n)
    have h0 : ¬ (7 : Int32) ≤ nI o := nI_ge (b := 7) (by omega) (by decide)
    have hi2 := ih (o + 1) n (by omega) (by omega)
    have h1 := hC o (by omega)
    have h2 := nd_le D own o
    have e : (if nI o = nI D then (0 : Int32) else (if nI D ≤ nI o then nI own else (nI own + 1))) = nI (nd D own o) := by
      unfold nd
      by_cases c : o = D
      · rw [if_pos (by rw [c]), if_pos c]; rfl
      · rw [if_neg (show ¬ nI o = nI D from fun q => c ((nI_eq (by omega) (by omega)).mp q)), if_neg c]
        rcases Nat.lt_or_ge o D with c2 | c2
        · rw [if_neg (nI_ge c2 (by omega)), if_pos c2, nI_1]
        · rw [if_pos (nI_le c2 (by omega)), if_neg (by omega)]
    rw [fX11_sway_L78, if_neg h0]
    simp only [cm_let]
    rw [e]
    simp (disch := omega) only [mchalk_ok, hch o (by omega), Option.bind_some, sub1, nI_add, nI_1]
    rw [Nat.add_assoc]
    exact hi2
theorem msw_pre {α : Type} {c o : Nat} (hc : c < 1000) (ho : o < 1000) (K : Int32 → Int32 → Option α) : Option.bind (some (nI c)) (fun u34 => Option.bind ((if nI o ≤ u34 then some 0 else Option.bind (some (nI c)) (fun u43 => some (nI o - u43))) : Option Int32) (fun j37 => Option.bind (some (nI c)) (fun u55 => Option.bind ((if u55 ≤ nI o then some 0 else Option.bind (some (nI c)) (fun u64 => some (u64 - nI o))) : Option Int32) (fun j59 => K j37 j59)))) = K (nI (o - c)) (nI (c - o)) := by
  simp only [Option.bind_some, sub1 ho hc, sub1 hc ho]
def Mv (C : Nat → Nat) (D own : Nat) : Nat := max ((own - C D) + gN C D own 7) (C D - own)
theorem msw_one {C : Nat → Nat} {f : Nat → Int32} (hC : ∀ o, o < 7 → C o ≤ 8) (hch : ∀ o, o < 7 → cnt f (nI o) 8 = nI (C o)) {D own L n : Nat} (hD : D < 7) (ho : own ≤ 8) (hL : L < 2147483648) (kx : Int32 → Int32 → Option (Int32 × Int32 × Int32 × Int32 × (Nat → Int32))) : fX11_sway_L22 (nI D) f kx (n + 1) (nI L) (nI own) = fX11_sway_L22 (nI D) f kx n (nI (if wN D own 7 ≤ 8 then min L (Mv C D own) else L)) (nI (own + 1)) := by
  have h0 : ¬ (9 : Int32) ≤ nI own := nI_ge (b := 9) (by omega) (by decide)
  have hc := hC D hD
  have b1' := gN_le C D own 7
  have b2' := wN_le D own 7
  rw [fX11_sway_L22, if_neg h0]
  have h5 : 7 < 5000 := by omega
  generalize 5000 = F at h5 ⊢
  have h := msw_L78 hC hch hD ho (own - C D) (by omega) (fun v4_78 v5_78 v7_78 => cm_let ((if v5_78 ≤ nI (C D - own) then nI (C D - own) else v5_78) : Int32) (fun j156 => (if 9 ≤ v4_78 then fX11_sway_L22 (nI D) f kx n (nI L) (nI own + 1) else (if nI L ≤ j156 then fX11_sway_L22 (nI D) f kx n (nI L) (nI own + 1) else fX11_sway_L22 (nI D) f kx n j156 (nI own + 1))))) 7 0 F (by omega) h5
  have z1 : gN C D own 0 = 0 := rfl
  have z2 : wN D own 0 = own := rfl
  rw [z1, z2, Nat.add_zero, nI_0] at h
  rw [mchalk_ok, hch D hD]
  refine Eq.trans (msw_pre (c := C D) (o := own) (by omega) (by omega) (fun j37 j59 => fX11_sway_L78 (nI D) (nI own) f (fun v4_78 v5_78 v7_78 => cm_let ((if v5_78 ≤ j59 then j59 else v5_78) : Int32) (fun j156 => (if 9 ≤ v4_78 then fX11_sway_L22 (nI D) f kx n (nI L) (nI own + 1) else (if nI L ≤ j156 then fX11_sway_L22 (nI D) f kx n (nI L) (nI own + 1) else fX11_sway_L22 (nI D) f kx n j156 (nI own + 1))))) F (nI own) j37 0)) ?_
  refine Eq.trans h ?_
  simp only [cm_let, nI_1]
  have e : (if nI (own - C D + gN C D own 7) ≤ nI (C D - own) then nI (C D - own) else nI (own - C D + gN C D own 7)) = nI (Mv C D own) := by
    unfold Mv
    by_cases c : own - C D + gN C D own 7 ≤ C D - own
    · rw [if_pos (nI_le c (by omega)), Nat.max_eq_right c]
    · rw [if_neg (nI_ge (by omega) (by omega)), Nat.max_eq_left (by omega)]
  have hM : Mv C D own < 1000 := by unfold Mv; omega
  rw [e]
  by_cases c : wN D own 7 ≤ 8
  · rw [if_neg (show ¬ (9 : Int32) ≤ nI (wN D own 7) from nI_ge (b := 9) (by omega) (by decide)), if_pos c]
    by_cases c2 : L ≤ Mv C D own
    · rw [if_pos (nI_le c2 (by omega)), Nat.min_eq_left c2]
    · rw [if_neg (nI_ge (by omega) (by omega)), Nat.min_eq_right (by omega)]
  · rw [if_pos (show (9 : Int32) ≤ nI (wN D own 7) from nI_le (a := 9) (by omega) (by omega)), if_neg c]
def Fc (C : Nat → Nat) (D : Nat) : Nat → Nat
  | 0 => 8
  | i + 1 => min (mv C D i) (Fc C D i)
def Gm (C : Nat → Nat) (D : Nat) : Nat → Nat
  | 0 => 1000000
  | i + 1 => if wN D i 7 ≤ 8 then min (Gm C D i) (Mv C D i) else Gm C D i
theorem Fc_le (C : Nat → Nat) (D : Nat) : ∀ i, Fc C D i ≤ 8
  | 0 => Nat.le_refl 8
  | i + 1 => by have := Fc_le C D i; simp only [Fc]; omega
theorem Gm_le (C : Nat → Nat) (D : Nat) : ∀ i, Gm C D i ≤ 1000000
  | 0 => Nat.le_refl 1000000
  | i + 1 => by have := Gm_le C D i; simp only [Gm]; split <;> omega
theorem msw_run {C : Nat → Nat} {f : Nat → Int32} (hC : ∀ o, o < 7 → C o ≤ 8) (hch : ∀ o, o < 7 → cnt f (nI o) 8 = nI (C o)) {D : Nat} (hD : D < 7) (kx : Int32 → Int32 → Option (Int32 × Int32 × Int32 × Int32 × (Nat → Int32))) : ∀ (d i n : Nat), i + d = 9 → d < n → fX11_sway_L22 (nI D) f kx n (nI (Gm C D i)) (nI i) = kx (nI (Gm C D 9)) (nI 9) := by
  intro d
  induction d with
  | zero =>
    intro i n hi hn
    obtain ⟨n, rfl⟩ := suc hn
    obtain rfl : i = 9 := by omega
    rw [fX11_sway_L22, if_pos (by decide)]
  | succ d ih =>
    intro i n hi hn
    obtain ⟨n, rfl⟩ := suc (by omega : 0 < n)
    have hG := Gm_le C D i
    rw [msw_one hC hch hD (by omega) (by omega)]
    exact ih (i + 1) n (by omega) (by omega)
theorem wN0 {D : Nat} (hD : D < 7) : wN D 0 7 ≤ 8 := by
  have : D = 0 ∨ D = 1 ∨ D = 2 ∨ D = 3 ∨ D = 4 ∨ D = 5 ∨ D = 6 := by omega
  rcases this with rfl | rfl | rfl | rfl | rfl | rfl | rfl <;> decide
theorem GF1 {C : Nat → Nat} (hC : ∀ o, o < 7 → C o ≤ 8) {D : Nat} (hD : D < 7) : ∀ i, i ≤ C D → Gm C D (i + 1) = Fc C D (i + 1)
  | 0, _ => by
    have h1 := wN0 hD
    have h2 := gN_le C D 0 7
    have h3 := hC D hD
    simp only [Gm, Fc, if_pos h1, mv, Mv]
    omega
  | i + 1, h => by
    have ih := GF1 hC hD i (by omega)
    have h8 := Fc_le C D (i + 1)
    rw [Gm, Fc, ih]
    unfold mv Mv
    by_cases c : wN D (i + 1) 7 ≤ 8
    · rw [if_pos c, if_pos c]; omega
    · rw [if_neg c, if_neg c]; omega
theorem GF2 {C : Nat → Nat} (hC : ∀ o, o < 7 → C o ≤ 8) {D : Nat} (hD : D < 7) : ∀ e, Gm C D (C D + 1 + e) = Fc C D (C D + 1)
  | 0 => GF1 hC hD (C D) (Nat.le_refl _)
  | e + 1 => by
    have ih := GF2 hC hD e
    rw [← Nat.add_assoc, Gm, ih]
    by_cases c : wN D (C D + 1 + e) 7 ≤ 8
    · rw [if_pos c]
      have m1 := wN_mono D (a := C D) (b := C D + 1 + e) (by omega) 7
      have m2 := gN_mono C D (a := C D) (b := C D + 1 + e) (by omega) 7
      have m3 : Fc C D (C D + 1) ≤ mv C D (C D) := by rw [Fc]; omega
      unfold mv at m3
      rw [if_pos (by omega)] at m3
      unfold Mv
      omega
    · rw [if_neg c]
theorem op_sway {b : SBO} {k : Nat → Int32} (h : RB b k) (v so mk ma : Int32) (nw : Nat → Int32) : ∃ r b' o, fX10_sway v b = some (r, b') ∧ fX11_sway v so mk ma k nw = some (r, o) ∧ RB b' k := by
  obtain ⟨k1, hk1, hk2⟩ := asNow_ok so mk ma k nw
  by_cases c1 : v < 0 ∨ 7 ≤ v
  · have u1 : fX10_isDay v = 0 := by grind [fX10_isDay]
    have w1 : fX11_in v 0 6 = 0 := by grind [fX11_in]
    exact ⟨-2, b, _, by rw [fX10_sway, u1, cm_let, if_pos rfl], by rw [fX11_sway, w1, cm_let, if_pos rfl], h⟩
  · have u1 : fX10_isDay v = 1 := by grind [fX10_isDay]
    have w1 : fX11_in v 0 6 = 1 := by grind [fX11_in]
    obtain ⟨D, hD, rfl⟩ := i_of (x := v) (N := 7) (by decide) (fun z => c1 (Or.inl z)) (fun z => c1 (Or.inr z))
    obtain ⟨ch, hc1, hc2⟩ := chalkOf_ok b hD
    have hC : ∀ o, o < 7 → cntN b.1 (nI o) 8 ≤ 8 := fun o _ => cntN_le _ _ 8
    have hb : ∀ o, o < 7 → ch o = nI (cntN b.1 (nI o) 8) := fun o ho => by rw [hc2 o ho, cnt_N]
    have hm : ∀ o, o < 7 → cnt k1 (nI o) 8 = nI (cntN b.1 (nI o) 8) := fun o ho => by rw [← RB_cnt (h.cong hk1) ho, cnt_N]
    have hCD := hC D hD
    have g1 := few_L12 (C := fun o => cntN b.1 (nI o) 8) (b := (b.1, b.2.1, b.2.2.1, b.2.2.2.1, ch, b.2.2.2.2.2)) hC hb hD (fun v3_12 v4_12 => some (v3_12, (b.1, b.2.1, b.2.2.1, b.2.2.2.1, ch, b.2.2.2.2.2))) (Fc (fun o => cntN b.1 (nI o) 8) D) (fun i => rfl) (Fc_le _ D) (cntN b.1 (nI D) 8 + 1) 0 5000 (by omega) (by omega)
    have g2 := msw_run (C := fun o => cntN b.1 (nI o) 8) (f := k1) hC hm hD (fun v2_22 v3_22 => (if 1000000 ≤ v2_22 then some ((-6), 0, 0, -6, k1) else some (v2_22, 0, 0, -6, k1))) 9 0 5000 (by omega) (by omega)
    have e9 := GF2 (C := fun o => cntN b.1 (nI o) 8) hC hD (8 - cntN b.1 (nI D) 8)
    rw [show cntN b.1 (nI D) 8 + 1 + (8 - cntN b.1 (nI D) 8) = 9 by omega] at e9
    have f8 := Fc_le (fun o => cntN b.1 (nI o) 8) D (cntN b.1 (nI D) 8 + 1)
    rw [e9, show nI (Gm (fun o => cntN b.1 (nI o) 8) D 0) = 1000000 from rfl, nI_0] at g2
    rw [show nI (Fc (fun o => cntN b.1 (nI o) 8) D 0) = 8 from rfl, nI_0] at g1
    have p : ¬ (1000000 : Int32) ≤ nI (Fc (fun o => cntN b.1 (nI o) 8) D (cntN b.1 (nI D) 8 + 1)) := nI_ge (b := 1000000) (by omega) (by decide)
    refine ⟨nI (Fc (fun o => cntN b.1 (nI o) 8) D (cntN b.1 (nI D) 8 + 1)), (b.1, b.2.1, b.2.2.1, b.2.2.2.1, ch, b.2.2.2.2.2), (0, 0, -6, k1), ?_, ?_, h.ch ch⟩
    rotate_left 1
    · rw [fX11_sway, w1, cm_let, if_neg (show ¬ (1 : Int32) = 0 by decide), hk2, Option.bind_some]
      refine Eq.trans g2 ?_
      rw [if_neg p]
    · rw [fX10_sway, u1, cm_let, if_neg (show ¬ (1 : Int32) = 0 by decide), fX1_fewestToSway, hc1, Option.bind_some, cnt_N]
      exact Eq.trans (congrArg (fun z => Option.bind z (fun u12 => some (u12.1, u12.2))) g1) (by rw [Option.bind_some])
