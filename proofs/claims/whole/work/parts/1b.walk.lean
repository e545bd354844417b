def fX1_copyFrom_L2 (p1_bo : SBO) (kx : Int32 → SBO → Option (SBO)) : Nat → Int32 → SBO → Option (SBO)
  | 0, _, _ => none
  | n + 1, v2_2, bo_2 => (if 8 ≤ v2_2 then kx v2_2 bo_2 else if v2_2 < 0 ∨ 8 ≤ v2_2.toNatClampNeg then none else if v2_2 < 0 ∨ 8 ≤ v2_2.toNatClampNeg then none else if v2_2 < 0 ∨ 8 ≤ v2_2.toNatClampNeg then none else if v2_2 < 0 ∨ 8 ≤ v2_2.toNatClampNeg then none else if v2_2 < 0 ∨ 8 ≤ v2_2.toNatClampNeg then none else if v2_2 < 0 ∨ 8 ≤ v2_2.toNatClampNeg then none else fX1_copyFrom_L2 p1_bo kx n (v2_2 + 1) ((upd bo_2.1 v2_2.toNatClampNeg (p1_bo.1 v2_2.toNatClampNeg)), (upd bo_2.2.1 v2_2.toNatClampNeg (p1_bo.2.1 v2_2.toNatClampNeg)), (upd bo_2.2.2.1 v2_2.toNatClampNeg (p1_bo.2.2.1 v2_2.toNatClampNeg)), bo_2.2.2.2.1, bo_2.2.2.2.2.1, bo_2.2.2.2.2.2.1, bo_2.2.2.2.2.2.2.1, bo_2.2.2.2.2.2.2.2.1, bo_2.2.2.2.2.2.2.2.2))
def fX1_copyFrom_L52 (p1_bo : SBO) (kx : Int32 → SBO → Option (SBO)) : Nat → Int32 → SBO → Option (SBO)
  | 0, _, _ => none
  | n + 1, v2_52, bo_52 => (if 4 ≤ v2_52 then kx v2_52 bo_52 else if v2_52 < 0 ∨ 4 ≤ v2_52.toNatClampNeg then none else if v2_52 < 0 ∨ 4 ≤ v2_52.toNatClampNeg then none else fX1_copyFrom_L52 p1_bo kx n (v2_52 + 1) (bo_52.1, bo_52.2.1, bo_52.2.2.1, (upd bo_52.2.2.2.1 v2_52.toNatClampNeg (p1_bo.2.2.2.1 v2_52.toNatClampNeg)), bo_52.2.2.2.2.1, bo_52.2.2.2.2.2.1, bo_52.2.2.2.2.2.2.1, bo_52.2.2.2.2.2.2.2.1, bo_52.2.2.2.2.2.2.2.2))
def fX1_copyFrom (bo : SBO) (p1_bo : SBO) : Option (SBO) := fX1_copyFrom_L2 p1_bo (fun v2_2 bo_2 => fX1_copyFrom_L52 p1_bo (fun v2_52 bo_52 => some (bo_52.1, bo_52.2.1, bo_52.2.2.1, bo_52.2.2.2.1, bo_52.2.2.2.2.1, p1_bo.2.2.2.2.2.1, p1_bo.2.2.2.2.2.2.1, p1_bo.2.2.2.2.2.2.2.1, p1_bo.2.2.2.2.2.2.2.2)) 5000 0 bo_2) 5000 0 bo
def rmX1_copyFrom : Room := { frames := 0, cells := 0, slots := 0, locals := 0 }
set_option maxRecDepth 100000 in
set_option maxHeartbeats 4000000 in
theorem c_X1_copyFrom (l : Launch) (D : va_G) (cI cJ cZ : ClassId) (a a_thinks a_sure a_coin a_far a_chalk a_p1 a_p1_thinks a_p1_sure a_p1_coin a_p1_far a_p1_chalk : Nat) (bo : SBO) (p1_bo : SBO) (res : SBO) (hf : fX1_copyFrom bo p1_bo = some res) : Ct l yX1_copyFrom (cm_ws yX1_copyFrom cX1_copyFrom 3 none) rmX1_copyFrom D (cm_T cI cJ cZ) [.ref a, .ref a_p1] [(a, .inr (1, [.ref a_thinks, .ref a_sure, .ref a_coin, .ref a_far, .ref a_chalk, .int bo.2.2.2.2.2.1, .int bo.2.2.2.2.2.2.1, .int bo.2.2.2.2.2.2.2.1, .int bo.2.2.2.2.2.2.2.2])), cm_kI cI a_thinks 8 bo.1, cm_kI cI a_sure 8 bo.2.1, cm_kI cI a_coin 8 bo.2.2.1, cm_kI cI a_far 4 bo.2.2.2.1, cm_kI cI a_chalk 7 bo.2.2.2.2.1, (a_p1, .inr (1, [.ref a_p1_thinks, .ref a_p1_sure, .ref a_p1_coin, .ref a_p1_far, .ref a_p1_chalk, .int p1_bo.2.2.2.2.2.1, .int p1_bo.2.2.2.2.2.2.1, .int p1_bo.2.2.2.2.2.2.2.1, .int p1_bo.2.2.2.2.2.2.2.2])), cm_kI cI a_p1_thinks 8 p1_bo.1, cm_kI cI a_p1_sure 8 p1_bo.2.1, cm_kI cI a_p1_coin 8 p1_bo.2.2.1, cm_kI cI a_p1_far 4 p1_bo.2.2.2.1, cm_kI cI a_p1_chalk 7 p1_bo.2.2.2.2.1] none [(a, .inr (1, [.ref a_thinks, .ref a_sure, .ref a_coin, .ref a_far, .ref a_chalk, .int res.2.2.2.2.2.1, .int res.2.2.2.2.2.2.1, .int res.2.2.2.2.2.2.2.1, .int res.2.2.2.2.2.2.2.2])), cm_kI cI a_thinks 8 res.1, cm_kI cI a_sure 8 res.2.1, cm_kI cI a_coin 8 res.2.2.1, cm_kI cI a_far 4 res.2.2.2.1, cm_kI cI a_chalk 7 res.2.2.2.2.1, (a_p1, .inr (1, [.ref a_p1_thinks, .ref a_p1_sure, .ref a_p1_coin, .ref a_p1_far, .ref a_p1_chalk, .int p1_bo.2.2.2.2.2.1, .int p1_bo.2.2.2.2.2.2.1, .int p1_bo.2.2.2.2.2.2.2.1, .int p1_bo.2.2.2.2.2.2.2.2])), cm_kI cI a_p1_thinks 8 p1_bo.1, cm_kI cI a_p1_sure 8 p1_bo.2.1, cm_kI cI a_p1_coin 8 p1_bo.2.2.1, cm_kI cI a_p1_far 4 p1_bo.2.2.2.1, cm_kI cI a_p1_chalk 7 p1_bo.2.2.2.2.1] := by
  refine Ct.of (cc := cX1_copyFrom) (maxL := 3) (ret := none) (by decide) (Nat.le_of_ble_eq_true rfl) ?_
  intro p e s m below meth c ls args A Q hav hAe hQ hx hb hr hml hown hlocks hts hK hP hD hA hS hl
  have hKa := hK.1
  have hl : lv_has ls 3 [(0, .ref a), (1, .ref a_p1)] := hl
  unfold fX1_copyFrom at hf
  refine lv_iconst (pc := 0) (v := 0) hx hb dX1_copyFrom_0 (by decide) ?_
  refine lv_istore_n (pc := 1) (lv' := [(2, .int 0), (0, .ref a), (1, .ref a_p1)]) hx hb dX1_copyFrom_1 rfl hl (by decide) rfl (fun ls hl => ?_)
  have L2 : ∀ (kx : Int32 → SBO → Option (SBO)), (∀ (v2_2 : Int32) (bo_2 : SBO) (H : Heap) (locs : List Loc) (ls : Array Slot), va_P D vwCl [(a, .inr (1, [.ref a_thinks, .ref a_sure, .ref a_coin, .ref a_far, .ref a_chalk, .int bo_2.2.2.2.2.2.1, .int bo_2.2.2.2.2.2.2.1, .int bo_2.2.2.2.2.2.2.2.1, .int bo_2.2.2.2.2.2.2.2.2])), cm_kI cI a_thinks 8 bo_2.1, cm_kI cI a_sure 8 bo_2.2.1, cm_kI cI a_coin 8 bo_2.2.2.1, cm_kI cI a_far 4 bo_2.2.2.2.1, cm_kI cI a_chalk 7 bo_2.2.2.2.2.1, (a_p1, .inr (1, [.ref a_p1_thinks, .ref a_p1_sure, .ref a_p1_coin, .ref a_p1_far, .ref a_p1_chalk, .int p1_bo.2.2.2.2.2.1, .int p1_bo.2.2.2.2.2.2.1, .int p1_bo.2.2.2.2.2.2.2.1, .int p1_bo.2.2.2.2.2.2.2.2])), cm_kI cI a_p1_thinks 8 p1_bo.1, cm_kI cI a_p1_sure 8 p1_bo.2.1, cm_kI cI a_p1_coin 8 p1_bo.2.2.1, cm_kI cI a_p1_far 4 p1_bo.2.2.2.1, cm_kI cI a_p1_chalk 7 p1_bo.2.2.2.2.1] H → va_D A [(a, .inr (1, [.ref a_thinks, .ref a_sure, .ref a_coin, .ref a_far, .ref a_chalk, .int bo_2.2.2.2.2.2.1, .int bo_2.2.2.2.2.2.2.1, .int bo_2.2.2.2.2.2.2.2.1, .int bo_2.2.2.2.2.2.2.2.2])), cm_kI cI a_thinks 8 bo_2.1, cm_kI cI a_sure 8 bo_2.2.1, cm_kI cI a_coin 8 bo_2.2.2.1, cm_kI cI a_far 4 bo_2.2.2.2.1, cm_kI cI a_chalk 7 bo_2.2.2.2.2.1, (a_p1, .inr (1, [.ref a_p1_thinks, .ref a_p1_sure, .ref a_p1_coin, .ref a_p1_far, .ref a_p1_chalk, .int p1_bo.2.2.2.2.2.1, .int p1_bo.2.2.2.2.2.2.1, .int p1_bo.2.2.2.2.2.2.2.1, .int p1_bo.2.2.2.2.2.2.2.2])), cm_kI cI a_p1_thinks 8 p1_bo.1, cm_kI cI a_p1_sure 8 p1_bo.2.1, cm_kI cI a_p1_coin 8 p1_bo.2.2.1, cm_kI cI a_p1_far 4 p1_bo.2.2.2.1, cm_kI cI a_p1_chalk 7 p1_bo.2.2.2.2.1] → va_S A s.heap H locs → lv_has ls 3 [(0, .ref a), (1, .ref a_p1)] → kx v2_2 bo_2 = some res → W p l e rmX1_copyFrom s m args below meth c H locs 0 0 Q (F0 m 50 ls [])) → ∀ (n : Nat) (v2_2 : Int32) (bo_2 : SBO) (H : Heap) (locs : List Loc) (ls : Array Slot), va_P D vwCl [(a, .inr (1, [.ref a_thinks, .ref a_sure, .ref a_coin, .ref a_far, .ref a_chalk, .int bo_2.2.2.2.2.2.1, .int bo_2.2.2.2.2.2.2.1, .int bo_2.2.2.2.2.2.2.2.1, .int bo_2.2.2.2.2.2.2.2.2])), cm_kI cI a_thinks 8 bo_2.1, cm_kI cI a_sure 8 bo_2.2.1, cm_kI cI a_coin 8 bo_2.2.2.1, cm_kI cI a_far 4 bo_2.2.2.2.1, cm_kI cI a_chalk 7 bo_2.2.2.2.2.1, (a_p1, .inr (1, [.ref a_p1_thinks, .ref a_p1_sure, .ref a_p1_coin, .ref a_p1_far, .ref a_p1_chalk, .int p1_bo.2.2.2.2.2.1, .int p1_bo.2.2.2.2.2.2.1, .int p1_bo.2.2.2.2.2.2.2.1, .int p1_bo.2.2.2.2.2.2.2.2])), cm_kI cI a_p1_thinks 8 p1_bo.1, cm_kI cI a_p1_sure 8 p1_bo.2.1, cm_kI cI a_p1_coin 8 p1_bo.2.2.1, cm_kI cI a_p1_far 4 p1_bo.2.2.2.1, cm_kI cI a_p1_chalk 7 p1_bo.2.2.2.2.1] H → va_D A [(a, .inr (1, [.ref a_thinks, .ref a_sure, .ref a_coin, .ref a_far, .ref a_chalk, .int bo_2.2.2.2.2.2.1, .int bo_2.2.2.2.2.2.2.1, .int bo_2.2.2.2.2.2.2.2.1, .int bo_2.2.2.2.2.2.2.2.2])), cm_kI cI a_thinks 8 bo_2.1, cm_kI cI a_sure 8 bo_2.2.1, cm_kI cI a_coin 8 bo_2.2.2.1, cm_kI cI a_far 4 bo_2.2.2.2.1, cm_kI cI a_chalk 7 bo_2.2.2.2.2.1, (a_p1, .inr (1, [.ref a_p1_thinks, .ref a_p1_sure, .ref a_p1_coin, .ref a_p1_far, .ref a_p1_chalk, .int p1_bo.2.2.2.2.2.1, .int p1_bo.2.2.2.2.2.2.1, .int p1_bo.2.2.2.2.2.2.2.1, .int p1_bo.2.2.2.2.2.2.2.2])), cm_kI cI a_p1_thinks 8 p1_bo.1, cm_kI cI a_p1_sure 8 p1_bo.2.1, cm_kI cI a_p1_coin 8 p1_bo.2.2.1, cm_kI cI a_p1_far 4 p1_bo.2.2.2.1, cm_kI cI a_p1_chalk 7 p1_bo.2.2.2.2.1] → va_S A s.heap H locs → lv_has ls 3 [(2, .int v2_2), (0, .ref a), (1, .ref a_p1)] → fX1_copyFrom_L2 p1_bo kx n v2_2 bo_2 = some res → W p l e rmX1_copyFrom s m args below meth c H locs 0 0 Q (F0 m 2 ls []) := by
    intro kx hkx n
    induction n with
    | zero => intro v2_2 bo_2 H locs ls hP hD hS hl hf; cases hf
    | succ n ih =>
      intro v2_2 bo_2 H locs ls hP hD hS hl hf
      rw [fX1_copyFrom_L2] at hf
      refine lv_iload_n (pc := 2) hx hb dX1_copyFrom_2 rfl (lv_at hl 0 rfl) ?_
      refine lv_bipush (pc := 3) (v := 8) hx hb dX1_copyFrom_3 (by decide) ?_
      refine lv_icmp_ge (pc := 5) (tgt := 50) hx hb dX1_copyFrom_5 (by decide) (fun c_5 => ?_) (fun c_5 => ?_)
      · have hf := cm_ip c_5 hf
        exact hkx v2_2 bo_2 _ _ _ hP hD hS (lv_sub hl [1, 2] rfl) hf
      · have hf := cm_in c_5 hf
        refine lv_aload_n (pc := 8) hx hb dX1_copyFrom_8 rfl (lv_at hl 1 rfl) ?_
        refine va_get (pc := 9) (D := D) (ci := 1) (v := .ref a_thinks) (C := RX1) (T := TX1) (N := 9) hx hb hts in_X1 hown hKa hP 0 rfl rfl 0 (by decide) (hts _ tw_72) (fun _ h9 => h9) rfl dX1_copyFrom_9 ?_
        refine lv_iload_n (pc := 12) hx hb dX1_copyFrom_12 rfl (lv_at hl 0 rfl) ?_
        refine lv_aload_n (pc := 13) hx hb dX1_copyFrom_13 rfl (lv_at hl 2 rfl) ?_
        refine va_get (pc := 14) (D := D) (ci := 1) (v := .ref a_p1_thinks) (C := RX1) (T := TX1) (N := 9) hx hb hts in_X1 hown hKa hP 6 rfl rfl 0 (by decide) (hts _ tw_72) (fun _ h9 => h9) rfl dX1_copyFrom_14 ?_
        refine lv_iload_n (pc := 17) hx hb dX1_copyFrom_17 rfl (lv_at hl 0 rfl) ?_
        obtain ⟨b_18, hf⟩ := cm_ob hf
        refine va_iald (pc := 18) hx hb hKa hP 7 0 rfl rfl b_18 dX1_copyFrom_18 ?_
        obtain ⟨b_19, hf⟩ := cm_ob hf
        refine va_iast (pc := 19) hx hb hKa hP hD hS 1 0 rfl rfl b_19 dX1_copyFrom_19 (fun H locs hP hD hS => ?_)
        have hP : va_P D vwCl [(a, .inr (1, [.ref a_thinks, .ref a_sure, .ref a_coin, .ref a_far, .ref a_chalk, .int bo_2.2.2.2.2.2.1, .int bo_2.2.2.2.2.2.2.1, .int bo_2.2.2.2.2.2.2.2.1, .int bo_2.2.2.2.2.2.2.2.2])), cm_kI cI a_thinks 8 (upd bo_2.1 v2_2.toNatClampNeg (p1_bo.1 v2_2.toNatClampNeg)), cm_kI cI a_sure 8 bo_2.2.1, cm_kI cI a_coin 8 bo_2.2.2.1, cm_kI cI a_far 4 bo_2.2.2.2.1, cm_kI cI a_chalk 7 bo_2.2.2.2.2.1, (a_p1, .inr (1, [.ref a_p1_thinks, .ref a_p1_sure, .ref a_p1_coin, .ref a_p1_far, .ref a_p1_chalk, .int p1_bo.2.2.2.2.2.1, .int p1_bo.2.2.2.2.2.2.1, .int p1_bo.2.2.2.2.2.2.2.1, .int p1_bo.2.2.2.2.2.2.2.2])), cm_kI cI a_p1_thinks 8 p1_bo.1, cm_kI cI a_p1_sure 8 p1_bo.2.1, cm_kI cI a_p1_coin 8 p1_bo.2.2.1, cm_kI cI a_p1_far 4 p1_bo.2.2.2.1, cm_kI cI a_p1_chalk 7 p1_bo.2.2.2.2.1] H := hP
        have hD : va_D A [(a, .inr (1, [.ref a_thinks, .ref a_sure, .ref a_coin, .ref a_far, .ref a_chalk, .int bo_2.2.2.2.2.2.1, .int bo_2.2.2.2.2.2.2.1, .int bo_2.2.2.2.2.2.2.2.1, .int bo_2.2.2.2.2.2.2.2.2])), cm_kI cI a_thinks 8 (upd bo_2.1 v2_2.toNatClampNeg (p1_bo.1 v2_2.toNatClampNeg)), cm_kI cI a_sure 8 bo_2.2.1, cm_kI cI a_coin 8 bo_2.2.2.1, cm_kI cI a_far 4 bo_2.2.2.2.1, cm_kI cI a_chalk 7 bo_2.2.2.2.2.1, (a_p1, .inr (1, [.ref a_p1_thinks, .ref a_p1_sure, .ref a_p1_coin, .ref a_p1_far, .ref a_p1_chalk, .int p1_bo.2.2.2.2.2.1, .int p1_bo.2.2.2.2.2.2.1, .int p1_bo.2.2.2.2.2.2.2.1, .int p1_bo.2.2.2.2.2.2.2.2])), cm_kI cI a_p1_thinks 8 p1_bo.1, cm_kI cI a_p1_sure 8 p1_bo.2.1, cm_kI cI a_p1_coin 8 p1_bo.2.2.1, cm_kI cI a_p1_far 4 p1_bo.2.2.2.1, cm_kI cI a_p1_chalk 7 p1_bo.2.2.2.2.1] := hD
        refine lv_aload_n (pc := 20) hx hb dX1_copyFrom_20 rfl (lv_at hl 1 rfl) ?_
        refine va_get (pc := 21) (D := D) (ci := 1) (v := .ref a_sure) (C := RX1) (T := TX1) (N := 9) hx hb hts in_X1 hown hKa hP 0 rfl rfl 1 (by decide) (hts _ tw_74) (fun _ h9 => h9) rfl dX1_copyFrom_21 ?_
        refine lv_iload_n (pc := 24) hx hb dX1_copyFrom_24 rfl (lv_at hl 0 rfl) ?_
        refine lv_aload_n (pc := 25) hx hb dX1_copyFrom_25 rfl (lv_at hl 2 rfl) ?_
        refine va_get (pc := 26) (D := D) (ci := 1) (v := .ref a_p1_sure) (C := RX1) (T := TX1) (N := 9) hx hb hts in_X1 hown hKa hP 6 rfl rfl 1 (by decide) (hts _ tw_74) (fun _ h9 => h9) rfl dX1_copyFrom_26 ?_
        refine lv_iload_n (pc := 29) hx hb dX1_copyFrom_29 rfl (lv_at hl 0 rfl) ?_
        obtain ⟨b_30, hf⟩ := cm_ob hf
        refine va_iald (pc := 30) hx hb hKa hP 8 0 rfl rfl b_30 dX1_copyFrom_30 ?_
        obtain ⟨b_31, hf⟩ := cm_ob hf
        refine va_iast (pc := 31) hx hb hKa hP hD hS 2 0 rfl rfl b_31 dX1_copyFrom_31 (fun H locs hP hD hS => ?_)
        have hP : va_P D vwCl [(a, .inr (1, [.ref a_thinks, .ref a_sure, .ref a_coin, .ref a_far, .ref a_chalk, .int bo_2.2.2.2.2.2.1, .int bo_2.2.2.2.2.2.2.1, .int bo_2.2.2.2.2.2.2.2.1, .int bo_2.2.2.2.2.2.2.2.2])), cm_kI cI a_thinks 8 (upd bo_2.1 v2_2.toNatClampNeg (p1_bo.1 v2_2.toNatClampNeg)), cm_kI cI a_sure 8 (upd bo_2.2.1 v2_2.toNatClampNeg (p1_bo.2.1 v2_2.toNatClampNeg)), cm_kI cI a_coin 8 bo_2.2.2.1, cm_kI cI a_far 4 bo_2.2.2.2.1, cm_kI cI a_chalk 7 bo_2.2.2.2.2.1, (a_p1, .inr (1, [.ref a_p1_thinks, .ref a_p1_sure, .ref a_p1_coin, .ref a_p1_far, .ref a_p1_chalk, .int p1_bo.2.2.2.2.2.1, .int p1_bo.2.2.2.2.2.2.1, .int p1_bo.2.2.2.2.2.2.2.1, .int p1_bo.2.2.2.2.2.2.2.2])), cm_kI cI a_p1_thinks 8 p1_bo.1, cm_kI cI a_p1_sure 8 p1_bo.2.1, cm_kI cI a_p1_coin 8 p1_bo.2.2.1, cm_kI cI a_p1_far 4 p1_bo.2.2.2.1, cm_kI cI a_p1_chalk 7 p1_bo.2.2.2.2.1] H := hP
        have hD : va_D A [(a, .inr (1, [.ref a_thinks, .ref a_sure, .ref a_coin, .ref a_far, .ref a_chalk, .int bo_2.2.2.2.2.2.1, .int bo_2.2.2.2.2.2.2.1, .int bo_2.2.2.2.2.2.2.2.1, .int bo_2.2.2.2.2.2.2.2.2])), cm_kI cI a_thinks 8 (upd bo_2.1 v2_2.toNatClampNeg (p1_bo.1 v2_2.toNatClampNeg)), cm_kI cI a_sure 8 (upd bo_2.2.1 v2_2.toNatClampNeg (p1_bo.2.1 v2_2.toNatClampNeg)), cm_kI cI a_coin 8 bo_2.2.2.1, cm_kI cI a_far 4 bo_2.2.2.2.1, cm_kI cI a_chalk 7 bo_2.2.2.2.2.1, (a_p1, .inr (1, [.ref a_p1_thinks, .ref a_p1_sure, .ref a_p1_coin, .ref a_p1_far, .ref a_p1_chalk, .int p1_bo.2.2.2.2.2.1, .int p1_bo.2.2.2.2.2.2.1, .int p1_bo.2.2.2.2.2.2.2.1, .int p1_bo.2.2.2.2.2.2.2.2])), cm_kI cI a_p1_thinks 8 p1_bo.1, cm_kI cI a_p1_sure 8 p1_bo.2.1, cm_kI cI a_p1_coin 8 p1_bo.2.2.1, cm_kI cI a_p1_far 4 p1_bo.2.2.2.1, cm_kI cI a_p1_chalk 7 p1_bo.2.2.2.2.1] := hD
        refine lv_aload_n (pc := 32) hx hb dX1_copyFrom_32 rfl (lv_at hl 1 rfl) ?_
        refine va_get (pc := 33) (D := D) (ci := 1) (v := .ref a_coin) (C := RX1) (T := TX1) (N := 9) hx hb hts in_X1 hown hKa hP 0 rfl rfl 2 (by decide) (hts _ tw_76) (fun _ h9 => h9) rfl dX1_copyFrom_33 ?_
        refine lv_iload_n (pc := 36) hx hb dX1_copyFrom_36 rfl (lv_at hl 0 rfl) ?_
        refine lv_aload_n (pc := 37) hx hb dX1_copyFrom_37 rfl (lv_at hl 2 rfl) ?_
        refine va_get (pc := 38) (D := D) (ci := 1) (v := .ref a_p1_coin) (C := RX1) (T := TX1) (N := 9) hx hb hts in_X1 hown hKa hP 6 rfl rfl 2 (by decide) (hts _ tw_76) (fun _ h9 => h9) rfl dX1_copyFrom_38 ?_
        refine lv_iload_n (pc := 41) hx hb dX1_copyFrom_41 rfl (lv_at hl 0 rfl) ?_
        obtain ⟨b_42, hf⟩ := cm_ob hf
        refine va_iald (pc := 42) hx hb hKa hP 9 0 rfl rfl b_42 dX1_copyFrom_42 ?_
        obtain ⟨b_43, hf⟩ := cm_ob hf
        refine va_iast (pc := 43) hx hb hKa hP hD hS 3 0 rfl rfl b_43 dX1_copyFrom_43 (fun H locs hP hD hS => ?_)
        have hP : va_P D vwCl [(a, .inr (1, [.ref a_thinks, .ref a_sure, .ref a_coin, .ref a_far, .ref a_chalk, .int bo_2.2.2.2.2.2.1, .int bo_2.2.2.2.2.2.2.1, .int bo_2.2.2.2.2.2.2.2.1, .int bo_2.2.2.2.2.2.2.2.2])), cm_kI cI a_thinks 8 (upd bo_2.1 v2_2.toNatClampNeg (p1_bo.1 v2_2.toNatClampNeg)), cm_kI cI a_sure 8 (upd bo_2.2.1 v2_2.toNatClampNeg (p1_bo.2.1 v2_2.toNatClampNeg)), cm_kI cI a_coin 8 (upd bo_2.2.2.1 v2_2.toNatClampNeg (p1_bo.2.2.1 v2_2.toNatClampNeg)), cm_kI cI a_far 4 bo_2.2.2.2.1, cm_kI cI a_chalk 7 bo_2.2.2.2.2.1, (a_p1, .inr (1, [.ref a_p1_thinks, .ref a_p1_sure, .ref a_p1_coin, .ref a_p1_far, .ref a_p1_chalk, .int p1_bo.2.2.2.2.2.1, .int p1_bo.2.2.2.2.2.2.1, .int p1_bo.2.2.2.2.2.2.2.1, .int p1_bo.2.2.2.2.2.2.2.2])), cm_kI cI a_p1_thinks 8 p1_bo.1, cm_kI cI a_p1_sure 8 p1_bo.2.1, cm_kI cI a_p1_coin 8 p1_bo.2.2.1, cm_kI cI a_p1_far 4 p1_bo.2.2.2.1, cm_kI cI a_p1_chalk 7 p1_bo.2.2.2.2.1] H := hP
        have hD : va_D A [(a, .inr (1, [.ref a_thinks, .ref a_sure, .ref a_coin, .ref a_far, .ref a_chalk, .int bo_2.2.2.2.2.2.1, .int bo_2.2.2.2.2.2.2.1, .int bo_2.2.2.2.2.2.2.2.1, .int bo_2.2.2.2.2.2.2.2.2])), cm_kI cI a_thinks 8 (upd bo_2.1 v2_2.toNatClampNeg (p1_bo.1 v2_2.toNatClampNeg)), cm_kI cI a_sure 8 (upd bo_2.2.1 v2_2.toNatClampNeg (p1_bo.2.1 v2_2.toNatClampNeg)), cm_kI cI a_coin 8 (upd bo_2.2.2.1 v2_2.toNatClampNeg (p1_bo.2.2.1 v2_2.toNatClampNeg)), cm_kI cI a_far 4 bo_2.2.2.2.1, cm_kI cI a_chalk 7 bo_2.2.2.2.2.1, (a_p1, .inr (1, [.ref a_p1_thinks, .ref a_p1_sure, .ref a_p1_coin, .ref a_p1_far, .ref a_p1_chalk, .int p1_bo.2.2.2.2.2.1, .int p1_bo.2.2.2.2.2.2.1, .int p1_bo.2.2.2.2.2.2.2.1, .int p1_bo.2.2.2.2.2.2.2.2])), cm_kI cI a_p1_thinks 8 p1_bo.1, cm_kI cI a_p1_sure 8 p1_bo.2.1, cm_kI cI a_p1_coin 8 p1_bo.2.2.1, cm_kI cI a_p1_far 4 p1_bo.2.2.2.1, cm_kI cI a_p1_chalk 7 p1_bo.2.2.2.2.1] := hD
        refine lv_iinc (pc := 44) (v := (v2_2 + 1)) (lv' := [(2, .int (v2_2 + 1)), (0, .ref a), (1, .ref a_p1)]) hx hb dX1_copyFrom_44 hl (k := 0) rfl rfl (by decide) rfl (fun ls hl => ?_)
        refine lv_goto (pc := 47) (tgt := 2) hx hb dX1_copyFrom_47 (by decide) ?_
        exact ih (v2_2 + 1) ((upd bo_2.1 v2_2.toNatClampNeg (p1_bo.1 v2_2.toNatClampNeg)), (upd bo_2.2.1 v2_2.toNatClampNeg (p1_bo.2.1 v2_2.toNatClampNeg)), (upd bo_2.2.2.1 v2_2.toNatClampNeg (p1_bo.2.2.1 v2_2.toNatClampNeg)), bo_2.2.2.2.1, bo_2.2.2.2.2.1, bo_2.2.2.2.2.2.1, bo_2.2.2.2.2.2.2.1, bo_2.2.2.2.2.2.2.2.1, bo_2.2.2.2.2.2.2.2.2) _ _ _ hP hD hS (lv_sub hl [0, 1, 2] rfl) hf
  refine L2 _ (fun v2_2 bo_2 H locs ls hP hD hS hl hf => ?_) 5000 0 bo _ _ _ hP hD hS (lv_sub hl [0, 1, 2] rfl) hf
  refine lv_iconst (pc := 50) (v := 0) hx hb dX1_copyFrom_50 (by decide) ?_
  refine lv_istore_n (pc := 51) (lv' := [(2, .int 0), (0, .ref a), (1, .ref a_p1)]) hx hb dX1_copyFrom_51 rfl hl (by decide) rfl (fun ls hl => ?_)
  have L52 : ∀ (kx : Int32 → SBO → Option (SBO)), (∀ (v2_52 : Int32) (bo_52 : SBO) (H : Heap) (locs : List Loc) (ls : Array Slot), va_P D vwCl [(a, .inr (1, [.ref a_thinks, .ref a_sure, .ref a_coin, .ref a_far, .ref a_chalk, .int bo_52.2.2.2.2.2.1, .int bo_52.2.2.2.2.2.2.1, .int bo_52.2.2.2.2.2.2.2.1, .int bo_52.2.2.2.2.2.2.2.2])), cm_kI cI a_thinks 8 bo_52.1, cm_kI cI a_sure 8 bo_52.2.1, cm_kI cI a_coin 8 bo_52.2.2.1, cm_kI cI a_far 4 bo_52.2.2.2.1, cm_kI cI a_chalk 7 bo_52.2.2.2.2.1, (a_p1, .inr (1, [.ref a_p1_thinks, .ref a_p1_sure, .ref a_p1_coin, .ref a_p1_far, .ref a_p1_chalk, .int p1_bo.2.2.2.2.2.1, .int p1_bo.2.2.2.2.2.2.1, .int p1_bo.2.2.2.2.2.2.2.1, .int p1_bo.2.2.2.2.2.2.2.2])), cm_kI cI a_p1_thinks 8 p1_bo.1, cm_kI cI a_p1_sure 8 p1_bo.2.1, cm_kI cI a_p1_coin 8 p1_bo.2.2.1, cm_kI cI a_p1_far 4 p1_bo.2.2.2.1, cm_kI cI a_p1_chalk 7 p1_bo.2.2.2.2.1] H → va_D A [(a, .inr (1, [.ref a_thinks, .ref a_sure, .ref a_coin, .ref a_far, .ref a_chalk, .int bo_52.2.2.2.2.2.1, .int bo_52.2.2.2.2.2.2.1, .int bo_52.2.2.2.2.2.2.2.1, .int bo_52.2.2.2.2.2.2.2.2])), cm_kI cI a_thinks 8 bo_52.1, cm_kI cI a_sure 8 bo_52.2.1, cm_kI cI a_coin 8 bo_52.2.2.1, cm_kI cI a_far 4 bo_52.2.2.2.1, cm_kI cI a_chalk 7 bo_52.2.2.2.2.1, (a_p1, .inr (1, [.ref a_p1_thinks, .ref a_p1_sure, .ref a_p1_coin, .ref a_p1_far, .ref a_p1_chalk, .int p1_bo.2.2.2.2.2.1, .int p1_bo.2.2.2.2.2.2.1, .int p1_bo.2.2.2.2.2.2.2.1, .int p1_bo.2.2.2.2.2.2.2.2])), cm_kI cI a_p1_thinks 8 p1_bo.1, cm_kI cI a_p1_sure 8 p1_bo.2.1, cm_kI cI a_p1_coin 8 p1_bo.2.2.1, cm_kI cI a_p1_far 4 p1_bo.2.2.2.1, cm_kI cI a_p1_chalk 7 p1_bo.2.2.2.2.1] → va_S A s.heap H locs → lv_has ls 3 [(0, .ref a), (1, .ref a_p1)] → kx v2_52 bo_52 = some res → W p l e rmX1_copyFrom s m args below meth c H locs 0 0 Q (F0 m 75 ls [])) → ∀ (n : Nat) (v2_52 : Int32) (bo_52 : SBO) (H : Heap) (locs : List Loc) (ls : Array Slot), va_P D vwCl [(a, .inr (1, [.ref a_thinks, .ref a_sure, .ref a_coin, .ref a_far, .ref a_chalk, .int bo_52.2.2.2.2.2.1, .int bo_52.2.2.2.2.2.2.1, .int bo_52.2.2.2.2.2.2.2.1, .int bo_52.2.2.2.2.2.2.2.2])), cm_kI cI a_thinks 8 bo_52.1, cm_kI cI a_sure 8 bo_52.2.1, cm_kI cI a_coin 8 bo_52.2.2.1, cm_kI cI a_far 4 bo_52.2.2.2.1, cm_kI cI a_chalk 7 bo_52.2.2.2.2.1, (a_p1, .inr (1, [.ref a_p1_thinks, .ref a_p1_sure, .ref a_p1_coin, .ref a_p1_far, .ref a_p1_chalk, .int p1_bo.2.2.2.2.2.1, .int p1_bo.2.2.2.2.2.2.1, .int p1_bo.2.2.2.2.2.2.2.1, .int p1_bo.2.2.2.2.2.2.2.2])), cm_kI cI a_p1_thinks 8 p1_bo.1, cm_kI cI a_p1_sure 8 p1_bo.2.1, cm_kI cI a_p1_coin 8 p1_bo.2.2.1, cm_kI cI a_p1_far 4 p1_bo.2.2.2.1, cm_kI cI a_p1_chalk 7 p1_bo.2.2.2.2.1] H → va_D A [(a, .inr (1, [.ref a_thinks, .ref a_sure, .ref a_coin, .ref a_far, .ref a_chalk, .int bo_52.2.2.2.2.2.1, .int bo_52.2.2.2.2.2.2.1, .int bo_52.2.2.2.2.2.2.2.1, .int bo_52.2.2.2.2.2.2.2.2])), cm_kI cI a_thinks 8 bo_52.1, cm_kI cI a_sure 8 bo_52.2.1, cm_kI cI a_coin 8 bo_52.2.2.1, cm_kI cI a_far 4 bo_52.2.2.2.1, cm_kI cI a_chalk 7 bo_52.2.2.2.2.1, (a_p1, .inr (1, [.ref a_p1_thinks, .ref a_p1_sure, .ref a_p1_coin, .ref a_p1_far, .ref a_p1_chalk, .int p1_bo.2.2.2.2.2.1, .int p1_bo.2.2.2.2.2.2.1, .int p1_bo.2.2.2.2.2.2.2.1, .int p1_bo.2.2.2.2.2.2.2.2])), cm_kI cI a_p1_thinks 8 p1_bo.1, cm_kI cI a_p1_sure 8 p1_bo.2.1, cm_kI cI a_p1_coin 8 p1_bo.2.2.1, cm_kI cI a_p1_far 4 p1_bo.2.2.2.1, cm_kI cI a_p1_chalk 7 p1_bo.2.2.2.2.1] → va_S A s.heap H locs → lv_has ls 3 [(2, .int v2_52), (0, .ref a), (1, .ref a_p1)] → fX1_copyFrom_L52 p1_bo kx n v2_52 bo_52 = some res → W p l e rmX1_copyFrom s m args below meth c H locs 0 0 Q (F0 m 52 ls []) := by
    intro kx hkx n
    induction n with
    | zero => intro v2_52 bo_52 H locs ls hP hD hS hl hf; cases hf
    | succ n ih =>
      intro v2_52 bo_52 H locs ls hP hD hS hl hf
      rw [fX1_copyFrom_L52] at hf
      refine lv_iload_n (pc := 52) hx hb dX1_copyFrom_52 rfl (lv_at hl 0 rfl) ?_
      refine lv_iconst (pc := 53) (v := 4) hx hb dX1_copyFrom_53 (by decide) ?_
      refine lv_icmp_ge (pc := 54) (tgt := 75) hx hb dX1_copyFrom_54 (by decide) (fun c_54 => ?_) (fun c_54 => ?_)
      · have hf := cm_ip c_54 hf
        exact hkx v2_52 bo_52 _ _ _ hP hD hS (lv_sub hl [1, 2] rfl) hf
      · have hf := cm_in c_54 hf
        refine lv_aload_n (pc := 57) hx hb dX1_copyFrom_57 rfl (lv_at hl 1 rfl) ?_
        refine va_get (pc := 58) (D := D) (ci := 1) (v := .ref a_far) (C := RX1) (T := TX1) (N := 9) hx hb hts in_X1 hown hKa hP 0 rfl rfl 3 (by decide) (hts _ tw_78) (fun _ h9 => h9) rfl dX1_copyFrom_58 ?_
        refine lv_iload_n (pc := 61) hx hb dX1_copyFrom_61 rfl (lv_at hl 0 rfl) ?_
        refine lv_aload_n (pc := 62) hx hb dX1_copyFrom_62 rfl (lv_at hl 2 rfl) ?_
        refine va_get (pc := 63) (D := D) (ci := 1) (v := .ref a_p1_far) (C := RX1) (T := TX1) (N := 9) hx hb hts in_X1 hown hKa hP 6 rfl rfl 3 (by decide) (hts _ tw_78) (fun _ h9 => h9) rfl dX1_copyFrom_63 ?_
        refine lv_iload_n (pc := 66) hx hb dX1_copyFrom_66 rfl (lv_at hl 0 rfl) ?_
        obtain ⟨b_67, hf⟩ := cm_ob hf
        refine va_iald (pc := 67) hx hb hKa hP 10 0 rfl rfl b_67 dX1_copyFrom_67 ?_
        obtain ⟨b_68, hf⟩ := cm_ob hf
        refine va_iast (pc := 68) hx hb hKa hP hD hS 4 0 rfl rfl b_68 dX1_copyFrom_68 (fun H locs hP hD hS => ?_)
        have hP : va_P D vwCl [(a, .inr (1, [.ref a_thinks, .ref a_sure, .ref a_coin, .ref a_far, .ref a_chalk, .int bo_52.2.2.2.2.2.1, .int bo_52.2.2.2.2.2.2.1, .int bo_52.2.2.2.2.2.2.2.1, .int bo_52.2.2.2.2.2.2.2.2])), cm_kI cI a_thinks 8 bo_52.1, cm_kI cI a_sure 8 bo_52.2.1, cm_kI cI a_coin 8 bo_52.2.2.1, cm_kI cI a_far 4 (upd bo_52.2.2.2.1 v2_52.toNatClampNeg (p1_bo.2.2.2.1 v2_52.toNatClampNeg)), cm_kI cI a_chalk 7 bo_52.2.2.2.2.1, (a_p1, .inr (1, [.ref a_p1_thinks, .ref a_p1_sure, .ref a_p1_coin, .ref a_p1_far, .ref a_p1_chalk, .int p1_bo.2.2.2.2.2.1, .int p1_bo.2.2.2.2.2.2.1, .int p1_bo.2.2.2.2.2.2.2.1, .int p1_bo.2.2.2.2.2.2.2.2])), cm_kI cI a_p1_thinks 8 p1_bo.1, cm_kI cI a_p1_sure 8 p1_bo.2.1, cm_kI cI a_p1_coin 8 p1_bo.2.2.1, cm_kI cI a_p1_far 4 p1_bo.2.2.2.1, cm_kI cI a_p1_chalk 7 p1_bo.2.2.2.2.1] H := hP
        have hD : va_D A [(a, .inr (1, [.ref a_thinks, .ref a_sure, .ref a_coin, .ref a_far, .ref a_chalk, .int bo_52.2.2.2.2.2.1, .int bo_52.2.2.2.2.2.2.1, .int bo_52.2.2.2.2.2.2.2.1, .int bo_52.2.2.2.2.2.2.2.2])), cm_kI cI a_thinks 8 bo_52.1, cm_kI cI a_sure 8 bo_52.2.1, cm_kI cI a_coin 8 bo_52.2.2.1, cm_kI cI a_far 4 (upd bo_52.2.2.2.1 v2_52.toNatClampNeg (p1_bo.2.2.2.1 v2_52.toNatClampNeg)), cm_kI cI a_chalk 7 bo_52.2.2.2.2.1, (a_p1, .inr (1, [.ref a_p1_thinks, .ref a_p1_sure, .ref a_p1_coin, .ref a_p1_far, .ref a_p1_chalk, .int p1_bo.2.2.2.2.2.1, .int p1_bo.2.2.2.2.2.2.1, .int p1_bo.2.2.2.2.2.2.2.1, .int p1_bo.2.2.2.2.2.2.2.2])), cm_kI cI a_p1_thinks 8 p1_bo.1, cm_kI cI a_p1_sure 8 p1_bo.2.1, cm_kI cI a_p1_coin 8 p1_bo.2.2.1, cm_kI cI a_p1_far 4 p1_bo.2.2.2.1, cm_kI cI a_p1_chalk 7 p1_bo.2.2.2.2.1] := hD
        refine lv_iinc (pc := 69) (v := (v2_52 + 1)) (lv' := [(2, .int (v2_52 + 1)), (0, .ref a), (1, .ref a_p1)]) hx hb dX1_copyFrom_69 hl (k := 0) rfl rfl (by decide) rfl (fun ls hl => ?_)
        refine lv_goto (pc := 72) (tgt := 52) hx hb dX1_copyFrom_72 (by decide) ?_
        exact ih (v2_52 + 1) (bo_52.1, bo_52.2.1, bo_52.2.2.1, (upd bo_52.2.2.2.1 v2_52.toNatClampNeg (p1_bo.2.2.2.1 v2_52.toNatClampNeg)), bo_52.2.2.2.2.1, bo_52.2.2.2.2.2.1, bo_52.2.2.2.2.2.2.1, bo_52.2.2.2.2.2.2.2.1, bo_52.2.2.2.2.2.2.2.2) _ _ _ hP hD hS (lv_sub hl [0, 1, 2] rfl) hf
  refine L52 _ (fun v2_52 bo_52 H locs ls hP hD hS hl hf => ?_) 5000 0 bo_2 _ _ _ hP hD hS (lv_sub hl [0, 1, 2] rfl) hf
  refine lv_aload_n (pc := 75) hx hb dX1_copyFrom_75 rfl (lv_at hl 0 rfl) ?_
  refine lv_aload_n (pc := 76) hx hb dX1_copyFrom_76 rfl (lv_at hl 1 rfl) ?_
  refine va_get (pc := 77) (D := D) (ci := 1) (v := .int p1_bo.2.2.2.2.2.1) (C := RX1) (T := TX1) (N := 9) hx hb hts in_X1 hown hKa hP 6 rfl rfl 5 (by decide) (hts _ tw_81) (fun _ h9 => h9) rfl dX1_copyFrom_77 ?_
  refine va_put (pc := 80) (D := D) (ci := 1) (v := .int p1_bo.2.2.2.2.2.1) (ty := .int) (C := RX1) (T := TX1) (N := 9) hx hb hts in_X1 tyX1 tyX1_ok nmX1 hown hKa hP hD hS 0 rfl rfl 5 (by decide) (hts _ tw_81) (fun _ h9 => h9) rfl (by decide +kernel) rfl rfl (Nat.le_of_ble_eq_true rfl) dX1_copyFrom_80 (fun H locs hP hD hS => ?_)
  have hP : va_P D vwCl [(a, .inr (1, [.ref a_thinks, .ref a_sure, .ref a_coin, .ref a_far, .ref a_chalk, .int p1_bo.2.2.2.2.2.1, .int bo_52.2.2.2.2.2.2.1, .int bo_52.2.2.2.2.2.2.2.1, .int bo_52.2.2.2.2.2.2.2.2])), cm_kI cI a_thinks 8 bo_52.1, cm_kI cI a_sure 8 bo_52.2.1, cm_kI cI a_coin 8 bo_52.2.2.1, cm_kI cI a_far 4 bo_52.2.2.2.1, cm_kI cI a_chalk 7 bo_52.2.2.2.2.1, (a_p1, .inr (1, [.ref a_p1_thinks, .ref a_p1_sure, .ref a_p1_coin, .ref a_p1_far, .ref a_p1_chalk, .int p1_bo.2.2.2.2.2.1, .int p1_bo.2.2.2.2.2.2.1, .int p1_bo.2.2.2.2.2.2.2.1, .int p1_bo.2.2.2.2.2.2.2.2])), cm_kI cI a_p1_thinks 8 p1_bo.1, cm_kI cI a_p1_sure 8 p1_bo.2.1, cm_kI cI a_p1_coin 8 p1_bo.2.2.1, cm_kI cI a_p1_far 4 p1_bo.2.2.2.1, cm_kI cI a_p1_chalk 7 p1_bo.2.2.2.2.1] H := hP
  have hD : va_D A [(a, .inr (1, [.ref a_thinks, .ref a_sure, .ref a_coin, .ref a_far, .ref a_chalk, .int p1_bo.2.2.2.2.2.1, .int bo_52.2.2.2.2.2.2.1, .int bo_52.2.2.2.2.2.2.2.1, .int bo_52.2.2.2.2.2.2.2.2])), cm_kI cI a_thinks 8 bo_52.1, cm_kI cI a_sure 8 bo_52.2.1, cm_kI cI a_coin 8 bo_52.2.2.1, cm_kI cI a_far 4 bo_52.2.2.2.1, cm_kI cI a_chalk 7 bo_52.2.2.2.2.1, (a_p1, .inr (1, [.ref a_p1_thinks, .ref a_p1_sure, .ref a_p1_coin, .ref a_p1_far, .ref a_p1_chalk, .int p1_bo.2.2.2.2.2.1, .int p1_bo.2.2.2.2.2.2.1, .int p1_bo.2.2.2.2.2.2.2.1, .int p1_bo.2.2.2.2.2.2.2.2])), cm_kI cI a_p1_thinks 8 p1_bo.1, cm_kI cI a_p1_sure 8 p1_bo.2.1, cm_kI cI a_p1_coin 8 p1_bo.2.2.1, cm_kI cI a_p1_far 4 p1_bo.2.2.2.1, cm_kI cI a_p1_chalk 7 p1_bo.2.2.2.2.1] := hD
  refine lv_aload_n (pc := 83) hx hb dX1_copyFrom_83 rfl (lv_at hl 0 rfl) ?_
  refine lv_aload_n (pc := 84) hx hb dX1_copyFrom_84 rfl (lv_at hl 1 rfl) ?_
  refine va_get (pc := 85) (D := D) (ci := 1) (v := .int p1_bo.2.2.2.2.2.2.1) (C := RX1) (T := TX1) (N := 9) hx hb hts in_X1 hown hKa hP 6 rfl rfl 6 (by decide) (hts _ tw_83) (fun _ h9 => h9) rfl dX1_copyFrom_85 ?_
  refine va_put (pc := 88) (D := D) (ci := 1) (v := .int p1_bo.2.2.2.2.2.2.1) (ty := .int) (C := RX1) (T := TX1) (N := 9) hx hb hts in_X1 tyX1 tyX1_ok nmX1 hown hKa hP hD hS 0 rfl rfl 6 (by decide) (hts _ tw_83) (fun _ h9 => h9) rfl (by decide +kernel) rfl rfl (Nat.le_of_ble_eq_true rfl) dX1_copyFrom_88 (fun H locs hP hD hS => ?_)
  have hP : va_P D vwCl [(a, .inr (1, [.ref a_thinks, .ref a_sure, .ref a_coin, .ref a_far, .ref a_chalk, .int p1_bo.2.2.2.2.2.1, .int p1_bo.2.2.2.2.2.2.1, .int bo_52.2.2.2.2.2.2.2.1, .int bo_52.2.2.2.2.2.2.2.2])), cm_kI cI a_thinks 8 bo_52.1, cm_kI cI a_sure 8 bo_52.2.1, cm_kI cI a_coin 8 bo_52.2.2.1, cm_kI cI a_far 4 bo_52.2.2.2.1, cm_kI cI a_chalk 7 bo_52.2.2.2.2.1, (a_p1, .inr (1, [.ref a_p1_thinks, .ref a_p1_sure, .ref a_p1_coin, .ref a_p1_far, .ref a_p1_chalk, .int p1_bo.2.2.2.2.2.1, .int p1_bo.2.2.2.2.2.2.1, .int p1_bo.2.2.2.2.2.2.2.1, .int p1_bo.2.2.2.2.2.2.2.2])), cm_kI cI a_p1_thinks 8 p1_bo.1, cm_kI cI a_p1_sure 8 p1_bo.2.1, cm_kI cI a_p1_coin 8 p1_bo.2.2.1, cm_kI cI a_p1_far 4 p1_bo.2.2.2.1, cm_kI cI a_p1_chalk 7 p1_bo.2.2.2.2.1] H := hP
  have hD : va_D A [(a, .inr (1, [.ref a_thinks, .ref a_sure, .ref a_coin, .ref a_far, .ref a_chalk, .int p1_bo.2.2.2.2.2.1, .int p1_bo.2.2.2.2.2.2.1, .int bo_52.2.2.2.2.2.2.2.1, .int bo_52.2.2.2.2.2.2.2.2])), cm_kI cI a_thinks 8 bo_52.1, cm_kI cI a_sure 8 bo_52.2.1, cm_kI cI a_coin 8 bo_52.2.2.1, cm_kI cI a_far 4 bo_52.2.2.2.1, cm_kI cI a_chalk 7 bo_52.2.2.2.2.1, (a_p1, .inr (1, [.ref a_p1_thinks, .ref a_p1_sure, .ref a_p1_coin, .ref a_p1_far, .ref a_p1_chalk, .int p1_bo.2.2.2.2.2.1, .int p1_bo.2.2.2.2.2.2.1, .int p1_bo.2.2.2.2.2.2.2.1, .int p1_bo.2.2.2.2.2.2.2.2])), cm_kI cI a_p1_thinks 8 p1_bo.1, cm_kI cI a_p1_sure 8 p1_bo.2.1, cm_kI cI a_p1_coin 8 p1_bo.2.2.1, cm_kI cI a_p1_far 4 p1_bo.2.2.2.1, cm_kI cI a_p1_chalk 7 p1_bo.2.2.2.2.1] := hD
  refine lv_aload_n (pc := 91) hx hb dX1_copyFrom_91 rfl (lv_at hl 0 rfl) ?_
  refine lv_aload_n (pc := 92) hx hb dX1_copyFrom_92 rfl (lv_at hl 1 rfl) ?_
  refine va_get (pc := 93) (D := D) (ci := 1) (v := .int p1_bo.2.2.2.2.2.2.2.1) (C := RX1) (T := TX1) (N := 9) hx hb hts in_X1 hown hKa hP 6 rfl rfl 7 (by decide) (hts _ tw_85) (fun _ h9 => h9) rfl dX1_copyFrom_93 ?_
  refine va_put (pc := 96) (D := D) (ci := 1) (v := .int p1_bo.2.2.2.2.2.2.2.1) (ty := .int) (C := RX1) (T := TX1) (N := 9) hx hb hts in_X1 tyX1 tyX1_ok nmX1 hown hKa hP hD hS 0 rfl rfl 7 (by decide) (hts _ tw_85) (fun _ h9 => h9) rfl (by decide +kernel) rfl rfl (Nat.le_of_ble_eq_true rfl) dX1_copyFrom_96 (fun H locs hP hD hS => ?_)
  have hP : va_P D vwCl [(a, .inr (1, [.ref a_thinks, .ref a_sure, .ref a_coin, .ref a_far, .ref a_chalk, .int p1_bo.2.2.2.2.2.1, .int p1_bo.2.2.2.2.2.2.1, .int p1_bo.2.2.2.2.2.2.2.1, .int bo_52.2.2.2.2.2.2.2.2])), cm_kI cI a_thinks 8 bo_52.1, cm_kI cI a_sure 8 bo_52.2.1, cm_kI cI a_coin 8 bo_52.2.2.1, cm_kI cI a_far 4 bo_52.2.2.2.1, cm_kI cI a_chalk 7 bo_52.2.2.2.2.1, (a_p1, .inr (1, [.ref a_p1_thinks, .ref a_p1_sure, .ref a_p1_coin, .ref a_p1_far, .ref a_p1_chalk, .int p1_bo.2.2.2.2.2.1, .int p1_bo.2.2.2.2.2.2.1, .int p1_bo.2.2.2.2.2.2.2.1, .int p1_bo.2.2.2.2.2.2.2.2])), cm_kI cI a_p1_thinks 8 p1_bo.1, cm_kI cI a_p1_sure 8 p1_bo.2.1, cm_kI cI a_p1_coin 8 p1_bo.2.2.1, cm_kI cI a_p1_far 4 p1_bo.2.2.2.1, cm_kI cI a_p1_chalk 7 p1_bo.2.2.2.2.1] H := hP
  have hD : va_D A [(a, .inr (1, [.ref a_thinks, .ref a_sure, .ref a_coin, .ref a_far, .ref a_chalk, .int p1_bo.2.2.2.2.2.1, .int p1_bo.2.2.2.2.2.2.1, .int p1_bo.2.2.2.2.2.2.2.1, .int bo_52.2.2.2.2.2.2.2.2])), cm_kI cI a_thinks 8 bo_52.1, cm_kI cI a_sure 8 bo_52.2.1, cm_kI cI a_coin 8 bo_52.2.2.1, cm_kI cI a_far 4 bo_52.2.2.2.1, cm_kI cI a_chalk 7 bo_52.2.2.2.2.1, (a_p1, .inr (1, [.ref a_p1_thinks, .ref a_p1_sure, .ref a_p1_coin, .ref a_p1_far, .ref a_p1_chalk, .int p1_bo.2.2.2.2.2.1, .int p1_bo.2.2.2.2.2.2.1, .int p1_bo.2.2.2.2.2.2.2.1, .int p1_bo.2.2.2.2.2.2.2.2])), cm_kI cI a_p1_thinks 8 p1_bo.1, cm_kI cI a_p1_sure 8 p1_bo.2.1, cm_kI cI a_p1_coin 8 p1_bo.2.2.1, cm_kI cI a_p1_far 4 p1_bo.2.2.2.1, cm_kI cI a_p1_chalk 7 p1_bo.2.2.2.2.1] := hD
  refine lv_aload_n (pc := 99) hx hb dX1_copyFrom_99 rfl (lv_at hl 0 rfl) ?_
  refine lv_aload_n (pc := 100) hx hb dX1_copyFrom_100 rfl (lv_at hl 1 rfl) ?_
  refine va_get (pc := 101) (D := D) (ci := 1) (v := .int p1_bo.2.2.2.2.2.2.2.2) (C := RX1) (T := TX1) (N := 9) hx hb hts in_X1 hown hKa hP 6 rfl rfl 8 (by decide) (hts _ tw_87) (fun _ h9 => h9) rfl dX1_copyFrom_101 ?_
  refine va_put (pc := 104) (D := D) (ci := 1) (v := .int p1_bo.2.2.2.2.2.2.2.2) (ty := .int) (C := RX1) (T := TX1) (N := 9) hx hb hts in_X1 tyX1 tyX1_ok nmX1 hown hKa hP hD hS 0 rfl rfl 8 (by decide) (hts _ tw_87) (fun _ h9 => h9) rfl (by decide +kernel) rfl rfl (Nat.le_of_ble_eq_true rfl) dX1_copyFrom_104 (fun H locs hP hD hS => ?_)
  have hP : va_P D vwCl [(a, .inr (1, [.ref a_thinks, .ref a_sure, .ref a_coin, .ref a_far, .ref a_chalk, .int p1_bo.2.2.2.2.2.1, .int p1_bo.2.2.2.2.2.2.1, .int p1_bo.2.2.2.2.2.2.2.1, .int p1_bo.2.2.2.2.2.2.2.2])), cm_kI cI a_thinks 8 bo_52.1, cm_kI cI a_sure 8 bo_52.2.1, cm_kI cI a_coin 8 bo_52.2.2.1, cm_kI cI a_far 4 bo_52.2.2.2.1, cm_kI cI a_chalk 7 bo_52.2.2.2.2.1, (a_p1, .inr (1, [.ref a_p1_thinks, .ref a_p1_sure, .ref a_p1_coin, .ref a_p1_far, .ref a_p1_chalk, .int p1_bo.2.2.2.2.2.1, .int p1_bo.2.2.2.2.2.2.1, .int p1_bo.2.2.2.2.2.2.2.1, .int p1_bo.2.2.2.2.2.2.2.2])), cm_kI cI a_p1_thinks 8 p1_bo.1, cm_kI cI a_p1_sure 8 p1_bo.2.1, cm_kI cI a_p1_coin 8 p1_bo.2.2.1, cm_kI cI a_p1_far 4 p1_bo.2.2.2.1, cm_kI cI a_p1_chalk 7 p1_bo.2.2.2.2.1] H := hP
  have hD : va_D A [(a, .inr (1, [.ref a_thinks, .ref a_sure, .ref a_coin, .ref a_far, .ref a_chalk, .int p1_bo.2.2.2.2.2.1, .int p1_bo.2.2.2.2.2.2.1, .int p1_bo.2.2.2.2.2.2.2.1, .int p1_bo.2.2.2.2.2.2.2.2])), cm_kI cI a_thinks 8 bo_52.1, cm_kI cI a_sure 8 bo_52.2.1, cm_kI cI a_coin 8 bo_52.2.2.1, cm_kI cI a_far 4 bo_52.2.2.2.1, cm_kI cI a_chalk 7 bo_52.2.2.2.2.1, (a_p1, .inr (1, [.ref a_p1_thinks, .ref a_p1_sure, .ref a_p1_coin, .ref a_p1_far, .ref a_p1_chalk, .int p1_bo.2.2.2.2.2.1, .int p1_bo.2.2.2.2.2.2.1, .int p1_bo.2.2.2.2.2.2.2.1, .int p1_bo.2.2.2.2.2.2.2.2])), cm_kI cI a_p1_thinks 8 p1_bo.1, cm_kI cI a_p1_sure 8 p1_bo.2.1, cm_kI cI a_p1_coin 8 p1_bo.2.2.1, cm_kI cI a_p1_far 4 p1_bo.2.2.2.1, cm_kI cI a_p1_chalk 7 p1_bo.2.2.2.2.1] := hD
  obtain rfl := Option.some.inj hf
  exact cm_vret (pc := 107) hAe hQ hx hb hr hlocks hP hD hS [0, 1, 2, 3, 4, 5, 6, 7, 8, 9, 10, 11] (by decide) rfl dX1_copyFrom_107
def fX1_think (v1 : Int32) (v2 : Int32) (bo : SBO) : Option (Int32 × SBO) := cm_let (fX10_isOne v1) (fun u1 => (if u1 = 0 then some (1, bo) else if v1 < 0 ∨ 8 ≤ v1.toNatClampNeg then none else (if (bo.1 v1.toNatClampNeg) = v2 then some (1, bo) else if v1 < 0 ∨ 8 ≤ v1.toNatClampNeg then none else some (0, ((upd bo.1 v1.toNatClampNeg v2), bo.2.1, bo.2.2.1, bo.2.2.2.1, bo.2.2.2.2.1, bo.2.2.2.2.2.1, bo.2.2.2.2.2.2.1, bo.2.2.2.2.2.2.2.1, bo.2.2.2.2.2.2.2.2)))))
def rmX1_think : Room := { frames := 1, cells := 0, slots := 0, locals := 20 }
set_option maxRecDepth 100000 in
set_option maxHeartbeats 4000000 in
theorem c_X1_think (l : Launch) (D : va_G) (cI cJ cZ : ClassId) (a a_thinks a_sure a_coin a_far a_chalk : Nat) (bo : SBO) (v1 : Int32) (v2 : Int32) (res : Int32 × SBO) (hf : fX1_think v1 v2 bo = some res) : Ct l yX1_think (cm_ws yX1_think cX1_think 3 (some .int)) rmX1_think D (cm_T cI cJ cZ) [.ref a, .int v1, .int v2] [(a, .inr (1, [.ref a_thinks, .ref a_sure, .ref a_coin, .ref a_far, .ref a_chalk, .int bo.2.2.2.2.2.1, .int bo.2.2.2.2.2.2.1, .int bo.2.2.2.2.2.2.2.1, .int bo.2.2.2.2.2.2.2.2])), cm_kI cI a_thinks 8 bo.1, cm_kI cI a_sure 8 bo.2.1, cm_kI cI a_coin 8 bo.2.2.1, cm_kI cI a_far 4 bo.2.2.2.1, cm_kI cI a_chalk 7 bo.2.2.2.2.1] (some (.int res.1)) [(a, .inr (1, [.ref a_thinks, .ref a_sure, .ref a_coin, .ref a_far, .ref a_chalk, .int res.2.2.2.2.2.2.1, .int res.2.2.2.2.2.2.2.1, .int res.2.2.2.2.2.2.2.2.1, .int res.2.2.2.2.2.2.2.2.2])), cm_kI cI a_thinks 8 res.2.1, cm_kI cI a_sure 8 res.2.2.1, cm_kI cI a_coin 8 res.2.2.2.1, cm_kI cI a_far 4 res.2.2.2.2.1, cm_kI cI a_chalk 7 res.2.2.2.2.2.1] := by
  refine Ct.of (cc := cX1_think) (maxL := 3) (ret := (some .int)) (by decide) (Nat.le_of_ble_eq_true rfl) ?_
  intro p e s m below meth c ls args A Q hav hAe hQ hx hb hr hml hown hlocks hts hK hP hD hA hS hl
  have hKa := hK.1
  have hl : lv_has ls 3 [(0, .ref a), (1, .int v1), (2, .int v2)] := hl
  unfold fX1_think at hf
  refine lv_iload_n (pc := 0) hx hb dX1_think_0 rfl (lv_at hl 1 rfl) ?_
  obtain ⟨u1, hu1, hf⟩ := cm_lt hf
  refine cm_callN (pc := 1) (As := [.int v1]) (rest := []) (wr := [(a, .inr (1, [.ref a_thinks, .ref a_sure, .ref a_coin, .ref a_far, .ref a_chalk, .int bo.2.2.2.2.2.1, .int bo.2.2.2.2.2.2.1, .int bo.2.2.2.2.2.2.2.1, .int bo.2.2.2.2.2.2.2.2])), cm_kI cI a_thinks 8 bo.1, cm_kI cI a_sure 8 bo.2.1, cm_kI cI a_coin 8 bo.2.2.1, cm_kI cI a_far 4 bo.2.2.2.1, cm_kI cI a_chalk 7 bo.2.2.2.2.1]) (host := RX10) (n := 1) hx hb hml hown hts hK hP hD hS hA (c_X10_isOne l D cI cJ cZ v1 u1 hu1) tw_306 (hK.2 (RX1, 86, yX10_isOne, RX10) (List.mem_of_getElem? (i := 12) rfl)) tw_305 tw_45 rfl rfl (by decide +kernel) rfl ⟨Nat.le_of_ble_eq_true rfl, Nat.le_of_ble_eq_true rfl⟩ [] [0, 1, 2, 3, 4, 5] rfl (by decide) rfl (by decide) (by decide) hl.1 rfl (Nat.le_of_ble_eq_true rfl) dX1_think_1 ⟨Nat.zero_le _, Nat.zero_le _⟩ (fun H locs hP hD hS => ?_)
  have hP : va_P D vwCl [(a, .inr (1, [.ref a_thinks, .ref a_sure, .ref a_coin, .ref a_far, .ref a_chalk, .int bo.2.2.2.2.2.1, .int bo.2.2.2.2.2.2.1, .int bo.2.2.2.2.2.2.2.1, .int bo.2.2.2.2.2.2.2.2])), cm_kI cI a_thinks 8 bo.1, cm_kI cI a_sure 8 bo.2.1, cm_kI cI a_coin 8 bo.2.2.1, cm_kI cI a_far 4 bo.2.2.2.1, cm_kI cI a_chalk 7 bo.2.2.2.2.1] H := hP
  have hD : va_D A [(a, .inr (1, [.ref a_thinks, .ref a_sure, .ref a_coin, .ref a_far, .ref a_chalk, .int bo.2.2.2.2.2.1, .int bo.2.2.2.2.2.2.1, .int bo.2.2.2.2.2.2.2.1, .int bo.2.2.2.2.2.2.2.2])), cm_kI cI a_thinks 8 bo.1, cm_kI cI a_sure 8 bo.2.1, cm_kI cI a_coin 8 bo.2.2.1, cm_kI cI a_far 4 bo.2.2.2.1, cm_kI cI a_chalk 7 bo.2.2.2.2.1] := hD
  refine W.eq (g2 := F0 m 4 ls [.int u1]) rfl ?_
  refine lv_if_eq (pc := 4) (tgt := 17) hx hb dX1_think_4 (by decide) (fun c_4 => ?_) (fun c_4 => ?_)
  · have hf := cm_ip c_4 hf
    refine lv_iconst (pc := 17) (v := 1) hx hb dX1_think_17 (by decide) ?_
    obtain rfl := Option.some.inj hf
    exact cm_iret (pc := 18) hAe hQ hx hb hr hlocks hP hD hS [0, 1, 2, 3, 4, 5] (by decide) rfl dX1_think_18
  · have hf := cm_in c_4 hf
    refine lv_aload_n (pc := 7) hx hb dX1_think_7 rfl (lv_at hl 0 rfl) ?_
    refine va_get (pc := 8) (D := D) (ci := 1) (v := .ref a_thinks) (C := RX1) (T := TX1) (N := 9) hx hb hts in_X1 hown hKa hP 0 rfl rfl 0 (by decide) (hts _ tw_72) (fun _ h9 => h9) rfl dX1_think_8 ?_
    refine lv_iload_n (pc := 11) hx hb dX1_think_11 rfl (lv_at hl 1 rfl) ?_
    obtain ⟨b_12, hf⟩ := cm_ob hf
    refine va_iald (pc := 12) hx hb hKa hP 1 0 rfl rfl b_12 dX1_think_12 ?_
    refine lv_iload_n (pc := 13) hx hb dX1_think_13 rfl (lv_at hl 2 rfl) ?_
    refine lv_icmp_ne (pc := 14) (tgt := 19) hx hb dX1_think_14 (by decide) (fun c_14 => ?_) (fun c_14 => ?_)
    · have hf := cm_in c_14 hf
      refine lv_aload_n (pc := 19) hx hb dX1_think_19 rfl (lv_at hl 0 rfl) ?_
      refine va_get (pc := 20) (D := D) (ci := 1) (v := .ref a_thinks) (C := RX1) (T := TX1) (N := 9) hx hb hts in_X1 hown hKa hP 0 rfl rfl 0 (by decide) (hts _ tw_72) (fun _ h9 => h9) rfl dX1_think_20 ?_
      refine lv_iload_n (pc := 23) hx hb dX1_think_23 rfl (lv_at hl 1 rfl) ?_
      refine lv_iload_n (pc := 24) hx hb dX1_think_24 rfl (lv_at hl 2 rfl) ?_
      obtain ⟨b_25, hf⟩ := cm_ob hf
      refine va_iast (pc := 25) hx hb hKa hP hD hS 1 0 rfl rfl b_25 dX1_think_25 (fun H locs hP hD hS => ?_)
      have hP : va_P D vwCl [(a, .inr (1, [.ref a_thinks, .ref a_sure, .ref a_coin, .ref a_far, .ref a_chalk, .int bo.2.2.2.2.2.1, .int bo.2.2.2.2.2.2.1, .int bo.2.2.2.2.2.2.2.1, .int bo.2.2.2.2.2.2.2.2])), cm_kI cI a_thinks 8 (upd bo.1 v1.toNatClampNeg v2), cm_kI cI a_sure 8 bo.2.1, cm_kI cI a_coin 8 bo.2.2.1, cm_kI cI a_far 4 bo.2.2.2.1, cm_kI cI a_chalk 7 bo.2.2.2.2.1] H := hP
      have hD : va_D A [(a, .inr (1, [.ref a_thinks, .ref a_sure, .ref a_coin, .ref a_far, .ref a_chalk, .int bo.2.2.2.2.2.1, .int bo.2.2.2.2.2.2.1, .int bo.2.2.2.2.2.2.2.1, .int bo.2.2.2.2.2.2.2.2])), cm_kI cI a_thinks 8 (upd bo.1 v1.toNatClampNeg v2), cm_kI cI a_sure 8 bo.2.1, cm_kI cI a_coin 8 bo.2.2.1, cm_kI cI a_far 4 bo.2.2.2.1, cm_kI cI a_chalk 7 bo.2.2.2.2.1] := hD
      refine lv_iconst (pc := 26) (v := 0) hx hb dX1_think_26 (by decide) ?_
      obtain rfl := Option.some.inj hf
      exact cm_iret (pc := 27) hAe hQ hx hb hr hlocks hP hD hS [0, 1, 2, 3, 4, 5] (by decide) rfl dX1_think_27
    · have hf := cm_ip c_14 hf
      refine lv_iconst (pc := 17) (v := 1) hx hb dX1_think_17 (by decide) ?_
      obtain rfl := Option.some.inj hf
      exact cm_iret (pc := 18) hAe hQ hx hb hr hlocks hP hD hS [0, 1, 2, 3, 4, 5] (by decide) rfl dX1_think_18
def fX1_beSurer (v1 : Int32) (bo : SBO) : Option (Int32 × SBO) := cm_let (fX10_isOne v1) (fun u1 => (if u1 = 0 then some (2, bo) else if v1 < 0 ∨ 8 ≤ v1.toNatClampNeg then none else (if (bo.2.1 v1.toNatClampNeg) < 9 then if v1 < 0 ∨ 8 ≤ v1.toNatClampNeg then none else if v1 < 0 ∨ 8 ≤ v1.toNatClampNeg then none else some (0, (bo.1, (upd bo.2.1 v1.toNatClampNeg ((bo.2.1 v1.toNatClampNeg) + 1)), bo.2.2.1, bo.2.2.2.1, bo.2.2.2.2.1, bo.2.2.2.2.2.1, bo.2.2.2.2.2.2.1, bo.2.2.2.2.2.2.2.1, bo.2.2.2.2.2.2.2.2)) else some (2, bo))))
def rmX1_beSurer : Room := { frames := 1, cells := 0, slots := 0, locals := 20 }
set_option maxRecDepth 100000 in
set_option maxHeartbeats 4000000 in
theorem c_X1_beSurer (l : Launch) (D : va_G) (cI cJ cZ : ClassId) (a a_thinks a_sure a_coin a_far a_chalk : Nat) (bo : SBO) (v1 : Int32) (res : Int32 × SBO) (hf : fX1_beSurer v1 bo = some res) : Ct l yX1_beSurer (cm_ws yX1_beSurer cX1_beSurer 2 (some .int)) rmX1_beSurer D (cm_T cI cJ cZ) [.ref a, .int v1] [(a, .inr (1, [.ref a_thinks, .ref a_sure, .ref a_coin, .ref a_far, .ref a_chalk, .int bo.2.2.2.2.2.1, .int bo.2.2.2.2.2.2.1, .int bo.2.2.2.2.2.2.2.1, .int bo.2.2.2.2.2.2.2.2])), cm_kI cI a_thinks 8 bo.1, cm_kI cI a_sure 8 bo.2.1, cm_kI cI a_coin 8 bo.2.2.1, cm_kI cI a_far 4 bo.2.2.2.1, cm_kI cI a_chalk 7 bo.2.2.2.2.1] (some (.int res.1)) [(a, .inr (1, [.ref a_thinks, .ref a_sure, .ref a_coin, .ref a_far, .ref a_chalk, .int res.2.2.2.2.2.2.1, .int res.2.2.2.2.2.2.2.1, .int res.2.2.2.2.2.2.2.2.1, .int res.2.2.2.2.2.2.2.2.2])), cm_kI cI a_thinks 8 res.2.1, cm_kI cI a_sure 8 res.2.2.1, cm_kI cI a_coin 8 res.2.2.2.1, cm_kI cI a_far 4 res.2.2.2.2.1, cm_kI cI a_chalk 7 res.2.2.2.2.2.1] := by
  refine Ct.of (cc := cX1_beSurer) (maxL := 2) (ret := (some .int)) (by decide) (Nat.le_of_ble_eq_true rfl) ?_
  intro p e s m below meth c ls args A Q hav hAe hQ hx hb hr hml hown hlocks hts hK hP hD hA hS hl
  have hKa := hK.1
  have hl : lv_has ls 2 [(0, .ref a), (1, .int v1)] := hl
  unfold fX1_beSurer at hf
  refine lv_iload_n (pc := 0) hx hb dX1_beSurer_0 rfl (lv_at hl 1 rfl) ?_
  obtain ⟨u1, hu1, hf⟩ := cm_lt hf
  refine cm_callN (pc := 1) (As := [.int v1]) (rest := []) (wr := [(a, .inr (1, [.ref a_thinks, .ref a_sure, .ref a_coin, .ref a_far, .ref a_chalk, .int bo.2.2.2.2.2.1, .int bo.2.2.2.2.2.2.1, .int bo.2.2.2.2.2.2.2.1, .int bo.2.2.2.2.2.2.2.2])), cm_kI cI a_thinks 8 bo.1, cm_kI cI a_sure 8 bo.2.1, cm_kI cI a_coin 8 bo.2.2.1, cm_kI cI a_far 4 bo.2.2.2.1, cm_kI cI a_chalk 7 bo.2.2.2.2.1]) (host := RX10) (n := 1) hx hb hml hown hts hK hP hD hS hA (c_X10_isOne l D cI cJ cZ v1 u1 hu1) tw_306 (hK.2 (RX1, 86, yX10_isOne, RX10) (List.mem_of_getElem? (i := 12) rfl)) tw_305 tw_45 rfl rfl (by decide +kernel) rfl ⟨Nat.le_of_ble_eq_true rfl, Nat.le_of_ble_eq_true rfl⟩ [] [0, 1, 2, 3, 4, 5] rfl (by decide) rfl (by decide) (by decide) hl.1 rfl (Nat.le_of_ble_eq_true rfl) dX1_beSurer_1 ⟨Nat.zero_le _, Nat.zero_le _⟩ (fun H locs hP hD hS => ?_)
  have hP : va_P D vwCl [(a, .inr (1, [.ref a_thinks, .ref a_sure, .ref a_coin, .ref a_far, .ref a_chalk, .int bo.2.2.2.2.2.1, .int bo.2.2.2.2.2.2.1, .int bo.2.2.2.2.2.2.2.1, .int bo.2.2.2.2.2.2.2.2])), cm_kI cI a_thinks 8 bo.1, cm_kI cI a_sure 8 bo.2.1, cm_kI cI a_coin 8 bo.2.2.1, cm_kI cI a_far 4 bo.2.2.2.1, cm_kI cI a_chalk 7 bo.2.2.2.2.1] H := hP
  have hD : va_D A [(a, .inr (1, [.ref a_thinks, .ref a_sure, .ref a_coin, .ref a_far, .ref a_chalk, .int bo.2.2.2.2.2.1, .int bo.2.2.2.2.2.2.1, .int bo.2.2.2.2.2.2.2.1, .int bo.2.2.2.2.2.2.2.2])), cm_kI cI a_thinks 8 bo.1, cm_kI cI a_sure 8 bo.2.1, cm_kI cI a_coin 8 bo.2.2.1, cm_kI cI a_far 4 bo.2.2.2.1, cm_kI cI a_chalk 7 bo.2.2.2.2.1] := hD
  refine W.eq (g2 := F0 m 4 ls [.int u1]) rfl ?_
  refine lv_if_eq (pc := 4) (tgt := 18) hx hb dX1_beSurer_4 (by decide) (fun c_4 => ?_) (fun c_4 => ?_)
  · have hf := cm_ip c_4 hf
    refine lv_iconst (pc := 18) (v := 2) hx hb dX1_beSurer_18 (by decide) ?_
    obtain rfl := Option.some.inj hf
    exact cm_iret (pc := 19) hAe hQ hx hb hr hlocks hP hD hS [0, 1, 2, 3, 4, 5] (by decide) rfl dX1_beSurer_19
  · have hf := cm_in c_4 hf
    refine lv_aload_n (pc := 7) hx hb dX1_beSurer_7 rfl (lv_at hl 0 rfl) ?_
    refine va_get (pc := 8) (D := D) (ci := 1) (v := .ref a_sure) (C := RX1) (T := TX1) (N := 9) hx hb hts in_X1 hown hKa hP 0 rfl rfl 1 (by decide) (hts _ tw_74) (fun _ h9 => h9) rfl dX1_beSurer_8 ?_
    refine lv_iload_n (pc := 11) hx hb dX1_beSurer_11 rfl (lv_at hl 1 rfl) ?_
    obtain ⟨b_12, hf⟩ := cm_ob hf
    refine va_iald (pc := 12) hx hb hKa hP 2 0 rfl rfl b_12 dX1_beSurer_12 ?_
    refine lv_bipush (pc := 13) (v := 9) hx hb dX1_beSurer_13 (by decide) ?_
    refine lv_icmp_lt (pc := 15) (tgt := 20) hx hb dX1_beSurer_15 (by decide) (fun c_15 => ?_) (fun c_15 => ?_)
    · have hf := cm_ip c_15 hf
      refine lv_aload_n (pc := 20) hx hb dX1_beSurer_20 rfl (lv_at hl 0 rfl) ?_
      refine va_get (pc := 21) (D := D) (ci := 1) (v := .ref a_sure) (C := RX1) (T := TX1) (N := 9) hx hb hts in_X1 hown hKa hP 0 rfl rfl 1 (by decide) (hts _ tw_74) (fun _ h9 => h9) rfl dX1_beSurer_21 ?_
      refine lv_iload_n (pc := 24) hx hb dX1_beSurer_24 rfl (lv_at hl 1 rfl) ?_
      refine lv_dup2_11 (pc := 25) hx hb dX1_beSurer_25 rfl rfl ?_
      obtain ⟨b_26, hf⟩ := cm_ob hf
      refine va_iald (pc := 26) hx hb hKa hP 2 0 rfl rfl b_26 dX1_beSurer_26 ?_
      refine lv_iconst (pc := 27) (v := 1) hx hb dX1_beSurer_27 (by decide) ?_
      refine lv_iadd (pc := 28) hx hb dX1_beSurer_28 ?_
      obtain ⟨b_29, hf⟩ := cm_ob hf
      refine va_iast (pc := 29) hx hb hKa hP hD hS 2 0 rfl rfl b_29 dX1_beSurer_29 (fun H locs hP hD hS => ?_)
      have hP : va_P D vwCl [(a, .inr (1, [.ref a_thinks, .ref a_sure, .ref a_coin, .ref a_far, .ref a_chalk, .int bo.2.2.2.2.2.1, .int bo.2.2.2.2.2.2.1, .int bo.2.2.2.2.2.2.2.1, .int bo.2.2.2.2.2.2.2.2])), cm_kI cI a_thinks 8 bo.1, cm_kI cI a_sure 8 (upd bo.2.1 v1.toNatClampNeg ((bo.2.1 v1.toNatClampNeg) + 1)), cm_kI cI a_coin 8 bo.2.2.1, cm_kI cI a_far 4 bo.2.2.2.1, cm_kI cI a_chalk 7 bo.2.2.2.2.1] H := hP
      have hD : va_D A [(a, .inr (1, [.ref a_thinks, .ref a_sure, .ref a_coin, .ref a_far, .ref a_chalk, .int bo.2.2.2.2.2.1, .int bo.2.2.2.2.2.2.1, .int bo.2.2.2.2.2.2.2.1, .int bo.2.2.2.2.2.2.2.2])), cm_kI cI a_thinks 8 bo.1, cm_kI cI a_sure 8 (upd bo.2.1 v1.toNatClampNeg ((bo.2.1 v1.toNatClampNeg) + 1)), cm_kI cI a_coin 8 bo.2.2.1, cm_kI cI a_far 4 bo.2.2.2.1, cm_kI cI a_chalk 7 bo.2.2.2.2.1] := hD
      refine lv_iconst (pc := 30) (v := 0) hx hb dX1_beSurer_30 (by decide) ?_
      obtain rfl := Option.some.inj hf
      exact cm_iret (pc := 31) hAe hQ hx hb hr hlocks hP hD hS [0, 1, 2, 3, 4, 5] (by decide) rfl dX1_beSurer_31
    · have hf := cm_in c_15 hf
      refine lv_iconst (pc := 18) (v := 2) hx hb dX1_beSurer_18 (by decide) ?_
      obtain rfl := Option.some.inj hf
      exact cm_iret (pc := 19) hAe hQ hx hb hr hlocks hP hD hS [0, 1, 2, 3, 4, 5] (by decide) rfl dX1_beSurer_19
def fX1_talk (v1 : Int32) (v2 : Int32) (bo : SBO) : Option (Int32 × SBO) := cm_let (fX10_isOne v1) (fun u1 => (if u1 = 0 then some (3, bo) else cm_let (fX10_isOne v2) (fun u8 => (if u8 = 0 then some (3, bo) else (if v1 = v2 then some (3, bo) else if v1 < 0 ∨ 8 ≤ v1.toNatClampNeg then none else (if (bo.1 v1.toNatClampNeg) = (-1) then some (4, bo) else if v2 < 0 ∨ 8 ≤ v2.toNatClampNeg then none else if v1 < 0 ∨ 8 ≤ v1.toNatClampNeg then none else (if (bo.2.1 v2.toNatClampNeg) < (bo.2.1 v1.toNatClampNeg) then if v1 < 0 ∨ 8 ≤ v1.toNatClampNeg then none else if v2 < 0 ∨ 8 ≤ v2.toNatClampNeg then none else if v2 < 0 ∨ 8 ≤ v2.toNatClampNeg then none else if v2 < 0 ∨ 8 ≤ v2.toNatClampNeg then none else some (0, ((upd bo.1 v2.toNatClampNeg (bo.1 v1.toNatClampNeg)), (upd bo.2.1 v2.toNatClampNeg (if 0 < ((bo.2.1 v2.toNatClampNeg) - 1) then ((bo.2.1 v2.toNatClampNeg) - 1) else 0)), bo.2.2.1, bo.2.2.2.1, bo.2.2.2.2.1, bo.2.2.2.2.2.1, bo.2.2.2.2.2.2.1, bo.2.2.2.2.2.2.2.1, bo.2.2.2.2.2.2.2.2)) else some (5, bo))))))))
def rmX1_talk : Room := { frames := 1, cells := 0, slots := 0, locals := 21 }
set_option maxRecDepth 100000 in
set_option maxHeartbeats 4000000 in
theorem c_X1_talk (l : Launch) (D : va_G) (cI cJ cZ : ClassId) (a a_thinks a_sure a_coin a_far a_chalk : Nat) (bo : SBO) (v1 : Int32) (v2 : Int32) (res : Int32 × SBO) (hf : fX1_talk v1 v2 bo = some res) : Ct l yX1_talk (cm_ws yX1_talk cX1_talk 3 (some .int)) rmX1_talk D (cm_T cI cJ cZ) [.ref a, .int v1, .int v2] [(a, .inr (1, [.ref a_thinks, .ref a_sure, .ref a_coin, .ref a_far, .ref a_chalk, .int bo.2.2.2.2.2.1, .int bo.2.2.2.2.2.2.1, .int bo.2.2.2.2.2.2.2.1, .int bo.2.2.2.2.2.2.2.2])), cm_kI cI a_thinks 8 bo.1, cm_kI cI a_sure 8 bo.2.1, cm_kI cI a_coin 8 bo.2.2.1, cm_kI cI a_far 4 bo.2.2.2.1, cm_kI cI a_chalk 7 bo.2.2.2.2.1] (some (.int res.1)) [(a, .inr (1, [.ref a_thinks, .ref a_sure, .ref a_coin, .ref a_far, .ref a_chalk, .int res.2.2.2.2.2.2.1, .int res.2.2.2.2.2.2.2.1, .int res.2.2.2.2.2.2.2.2.1, .int res.2.2.2.2.2.2.2.2.2])), cm_kI cI a_thinks 8 res.2.1, cm_kI cI a_sure 8 res.2.2.1, cm_kI cI a_coin 8 res.2.2.2.1, cm_kI cI a_far 4 res.2.2.2.2.1, cm_kI cI a_chalk 7 res.2.2.2.2.2.1] := by
  refine Ct.of (cc := cX1_talk) (maxL := 3) (ret := (some .int)) (by decide) (Nat.le_of_ble_eq_true rfl) ?_
  intro p e s m below meth c ls args A Q hav hAe hQ hx hb hr hml hown hlocks hts hK hP hD hA hS hl
  have hKa := hK.1
  have hl : lv_has ls 3 [(0, .ref a), (1, .int v1), (2, .int v2)] := hl
  unfold fX1_talk at hf
  refine lv_iload_n (pc := 0) hx hb dX1_talk_0 rfl (lv_at hl 1 rfl) ?_
  obtain ⟨u1, hu1, hf⟩ := cm_lt hf
  refine cm_callN (pc := 1) (As := [.int v1]) (rest := []) (wr := [(a, .inr (1, [.ref a_thinks, .ref a_sure, .ref a_coin, .ref a_far, .ref a_chalk, .int bo.2.2.2.2.2.1, .int bo.2.2.2.2.2.2.1, .int bo.2.2.2.2.2.2.2.1, .int bo.2.2.2.2.2.2.2.2])), cm_kI cI a_thinks 8 bo.1, cm_kI cI a_sure 8 bo.2.1, cm_kI cI a_coin 8 bo.2.2.1, cm_kI cI a_far 4 bo.2.2.2.1, cm_kI cI a_chalk 7 bo.2.2.2.2.1]) (host := RX10) (n := 1) hx hb hml hown hts hK hP hD hS hA (c_X10_isOne l D cI cJ cZ v1 u1 hu1) tw_306 (hK.2 (RX1, 86, yX10_isOne, RX10) (List.mem_of_getElem? (i := 12) rfl)) tw_305 tw_45 rfl rfl (by decide +kernel) rfl ⟨Nat.le_of_ble_eq_true rfl, Nat.le_of_ble_eq_true rfl⟩ [] [0, 1, 2, 3, 4, 5] rfl (by decide) rfl (by decide) (by decide) hl.1 rfl (Nat.le_of_ble_eq_true rfl) dX1_talk_1 ⟨Nat.zero_le _, Nat.zero_le _⟩ (fun H locs hP hD hS => ?_)
  have hP : va_P D vwCl [(a, .inr (1, [.ref a_thinks, .ref a_sure, .ref a_coin, .ref a_far, .ref a_chalk, .int bo.2.2.2.2.2.1, .int bo.2.2.2.2.2.2.1, .int bo.2.2.2.2.2.2.2.1, .int bo.2.2.2.2.2.2.2.2])), cm_kI cI a_thinks 8 bo.1, cm_kI cI a_sure 8 bo.2.1, cm_kI cI a_coin 8 bo.2.2.1, cm_kI cI a_far 4 bo.2.2.2.1, cm_kI cI a_chalk 7 bo.2.2.2.2.1] H := hP
  have hD : va_D A [(a, .inr (1, [.ref a_thinks, .ref a_sure, .ref a_coin, .ref a_far, .ref a_chalk, .int bo.2.2.2.2.2.1, .int bo.2.2.2.2.2.2.1, .int bo.2.2.2.2.2.2.2.1, .int bo.2.2.2.2.2.2.2.2])), cm_kI cI a_thinks 8 bo.1, cm_kI cI a_sure 8 bo.2.1, cm_kI cI a_coin 8 bo.2.2.1, cm_kI cI a_far 4 bo.2.2.2.1, cm_kI cI a_chalk 7 bo.2.2.2.2.1] := hD
  refine W.eq (g2 := F0 m 4 ls [.int u1]) rfl ?_
  refine lv_if_eq (pc := 4) (tgt := 19) hx hb dX1_talk_4 (by decide) (fun c_4 => ?_) (fun c_4 => ?_)
  · have hf := cm_ip c_4 hf
    refine lv_iconst (pc := 19) (v := 3) hx hb dX1_talk_19 (by decide) ?_
    obtain rfl := Option.some.inj hf
    exact cm_iret (pc := 20) hAe hQ hx hb hr hlocks hP hD hS [0, 1, 2, 3, 4, 5] (by decide) rfl dX1_talk_20
  · have hf := cm_in c_4 hf
    refine lv_iload_n (pc := 7) hx hb dX1_talk_7 rfl (lv_at hl 2 rfl) ?_
    obtain ⟨u8, hu8, hf⟩ := cm_lt hf
    refine cm_callN (pc := 8) (As := [.int v2]) (rest := []) (wr := [(a, .inr (1, [.ref a_thinks, .ref a_sure, .ref a_coin, .ref a_far, .ref a_chalk, .int bo.2.2.2.2.2.1, .int bo.2.2.2.2.2.2.1, .int bo.2.2.2.2.2.2.2.1, .int bo.2.2.2.2.2.2.2.2])), cm_kI cI a_thinks 8 bo.1, cm_kI cI a_sure 8 bo.2.1, cm_kI cI a_coin 8 bo.2.2.1, cm_kI cI a_far 4 bo.2.2.2.1, cm_kI cI a_chalk 7 bo.2.2.2.2.1]) (host := RX10) (n := 1) hx hb hml hown hts hK hP hD hS hA (c_X10_isOne l D cI cJ cZ v2 u8 hu8) tw_306 (hK.2 (RX1, 86, yX10_isOne, RX10) (List.mem_of_getElem? (i := 12) rfl)) tw_305 tw_45 rfl rfl (by decide +kernel) rfl ⟨Nat.le_of_ble_eq_true rfl, Nat.le_of_ble_eq_true rfl⟩ [] [0, 1, 2, 3, 4, 5] rfl (by decide) rfl (by decide) (by decide) hl.1 rfl (Nat.le_of_ble_eq_true rfl) dX1_talk_8 ⟨Nat.zero_le _, Nat.zero_le _⟩ (fun H locs hP hD hS => ?_)
    have hP : va_P D vwCl [(a, .inr (1, [.ref a_thinks, .ref a_sure, .ref a_coin, .ref a_far, .ref a_chalk, .int bo.2.2.2.2.2.1, .int bo.2.2.2.2.2.2.1, .int bo.2.2.2.2.2.2.2.1, .int bo.2.2.2.2.2.2.2.2])), cm_kI cI a_thinks 8 bo.1, cm_kI cI a_sure 8 bo.2.1, cm_kI cI a_coin 8 bo.2.2.1, cm_kI cI a_far 4 bo.2.2.2.1, cm_kI cI a_chalk 7 bo.2.2.2.2.1] H := hP
    have hD : va_D A [(a, .inr (1, [.ref a_thinks, .ref a_sure, .ref a_coin, .ref a_far, .ref a_chalk, .int bo.2.2.2.2.2.1, .int bo.2.2.2.2.2.2.1, .int bo.2.2.2.2.2.2.2.1, .int bo.2.2.2.2.2.2.2.2])), cm_kI cI a_thinks 8 bo.1, cm_kI cI a_sure 8 bo.2.1, cm_kI cI a_coin 8 bo.2.2.1, cm_kI cI a_far 4 bo.2.2.2.1, cm_kI cI a_chalk 7 bo.2.2.2.2.1] := hD
    refine W.eq (g2 := F0 m 11 ls [.int u8]) rfl ?_
    refine lv_if_eq (pc := 11) (tgt := 19) hx hb dX1_talk_11 (by decide) (fun c_11 => ?_) (fun c_11 => ?_)
    · have hf := cm_ip c_11 hf
      refine lv_iconst (pc := 19) (v := 3) hx hb dX1_talk_19 (by decide) ?_
      obtain rfl := Option.some.inj hf
      exact cm_iret (pc := 20) hAe hQ hx hb hr hlocks hP hD hS [0, 1, 2, 3, 4, 5] (by decide) rfl dX1_talk_20
    · have hf := cm_in c_11 hf
      refine lv_iload_n (pc := 14) hx hb dX1_talk_14 rfl (lv_at hl 1 rfl) ?_
      refine lv_iload_n (pc := 15) hx hb dX1_talk_15 rfl (lv_at hl 2 rfl) ?_
      refine lv_icmp_ne (pc := 16) (tgt := 21) hx hb dX1_talk_16 (by decide) (fun c_16 => ?_) (fun c_16 => ?_)
      · have hf := cm_in c_16 hf
        refine lv_aload_n (pc := 21) hx hb dX1_talk_21 rfl (lv_at hl 0 rfl) ?_
        refine va_get (pc := 22) (D := D) (ci := 1) (v := .ref a_thinks) (C := RX1) (T := TX1) (N := 9) hx hb hts in_X1 hown hKa hP 0 rfl rfl 0 (by decide) (hts _ tw_72) (fun _ h9 => h9) rfl dX1_talk_22 ?_
        refine lv_iload_n (pc := 25) hx hb dX1_talk_25 rfl (lv_at hl 1 rfl) ?_
        obtain ⟨b_26, hf⟩ := cm_ob hf
        refine va_iald (pc := 26) hx hb hKa hP 1 0 rfl rfl b_26 dX1_talk_26 ?_
        refine lv_iconst (pc := 27) (v := (-1)) hx hb dX1_talk_27 (by decide) ?_
        refine lv_icmp_ne (pc := 28) (tgt := 33) hx hb dX1_talk_28 (by decide) (fun c_28 => ?_) (fun c_28 => ?_)
        · have hf := cm_in c_28 hf
          refine lv_aload_n (pc := 33) hx hb dX1_talk_33 rfl (lv_at hl 0 rfl) ?_
          refine va_get (pc := 34) (D := D) (ci := 1) (v := .ref a_sure) (C := RX1) (T := TX1) (N := 9) hx hb hts in_X1 hown hKa hP 0 rfl rfl 1 (by decide) (hts _ tw_74) (fun _ h9 => h9) rfl dX1_talk_34 ?_
          refine lv_iload_n (pc := 37) hx hb dX1_talk_37 rfl (lv_at hl 2 rfl) ?_
          obtain ⟨b_38, hf⟩ := cm_ob hf
          refine va_iald (pc := 38) hx hb hKa hP 2 0 rfl rfl b_38 dX1_talk_38 ?_
          refine lv_aload_n (pc := 39) hx hb dX1_talk_39 rfl (lv_at hl 0 rfl) ?_
          refine va_get (pc := 40) (D := D) (ci := 1) (v := .ref a_sure) (C := RX1) (T := TX1) (N := 9) hx hb hts in_X1 hown hKa hP 0 rfl rfl 1 (by decide) (hts _ tw_74) (fun _ h9 => h9) rfl dX1_talk_40 ?_
          refine lv_iload_n (pc := 43) hx hb dX1_talk_43 rfl (lv_at hl 1 rfl) ?_
          obtain ⟨b_44, hf⟩ := cm_ob hf
          refine va_iald (pc := 44) hx hb hKa hP 2 0 rfl rfl b_44 dX1_talk_44 ?_
          refine lv_icmp_lt (pc := 45) (tgt := 50) hx hb dX1_talk_45 (by decide) (fun c_45 => ?_) (fun c_45 => ?_)
          · have hf := cm_ip c_45 hf
            refine lv_aload_n (pc := 50) hx hb dX1_talk_50 rfl (lv_at hl 0 rfl) ?_
            refine va_get (pc := 51) (D := D) (ci := 1) (v := .ref a_thinks) (C := RX1) (T := TX1) (N := 9) hx hb hts in_X1 hown hKa hP 0 rfl rfl 0 (by decide) (hts _ tw_72) (fun _ h9 => h9) rfl dX1_talk_51 ?_
            refine lv_iload_n (pc := 54) hx hb dX1_talk_54 rfl (lv_at hl 2 rfl) ?_
            refine lv_aload_n (pc := 55) hx hb dX1_talk_55 rfl (lv_at hl 0 rfl) ?_
            refine va_get (pc := 56) (D := D) (ci := 1) (v := .ref a_thinks) (C := RX1) (T := TX1) (N := 9) hx hb hts in_X1 hown hKa hP 0 rfl rfl 0 (by decide) (hts _ tw_72) (fun _ h9 => h9) rfl dX1_talk_56 ?_
            refine lv_iload_n (pc := 59) hx hb dX1_talk_59 rfl (lv_at hl 1 rfl) ?_
            obtain ⟨b_60, hf⟩ := cm_ob hf
            refine va_iald (pc := 60) hx hb hKa hP 1 0 rfl rfl b_60 dX1_talk_60 ?_
            obtain ⟨b_61, hf⟩ := cm_ob hf
            refine va_iast (pc := 61) hx hb hKa hP hD hS 1 0 rfl rfl b_61 dX1_talk_61 (fun H locs hP hD hS => ?_)
            have hP : va_P D vwCl [(a, .inr (1, [.ref a_thinks, .ref a_sure, .ref a_coin, .ref a_far, .ref a_chalk, .int bo.2.2.2.2.2.1, .int bo.2.2.2.2.2.2.1, .int bo.2.2.2.2.2.2.2.1, .int bo.2.2.2.2.2.2.2.2])), cm_kI cI a_thinks 8 (upd bo.1 v2.toNatClampNeg (bo.1 v1.toNatClampNeg)), cm_kI cI a_sure 8 bo.2.1, cm_kI cI a_coin 8 bo.2.2.1, cm_kI cI a_far 4 bo.2.2.2.1, cm_kI cI a_chalk 7 bo.2.2.2.2.1] H := hP
            have hD : va_D A [(a, .inr (1, [.ref a_thinks, .ref a_sure, .ref a_coin, .ref a_far, .ref a_chalk, .int bo.2.2.2.2.2.1, .int bo.2.2.2.2.2.2.1, .int bo.2.2.2.2.2.2.2.1, .int bo.2.2.2.2.2.2.2.2])), cm_kI cI a_thinks 8 (upd bo.1 v2.toNatClampNeg (bo.1 v1.toNatClampNeg)), cm_kI cI a_sure 8 bo.2.1, cm_kI cI a_coin 8 bo.2.2.1, cm_kI cI a_far 4 bo.2.2.2.1, cm_kI cI a_chalk 7 bo.2.2.2.2.1] := hD
            refine lv_aload_n (pc := 62) hx hb dX1_talk_62 rfl (lv_at hl 0 rfl) ?_
            refine va_get (pc := 63) (D := D) (ci := 1) (v := .ref a_sure) (C := RX1) (T := TX1) (N := 9) hx hb hts in_X1 hown hKa hP 0 rfl rfl 1 (by decide) (hts _ tw_74) (fun _ h9 => h9) rfl dX1_talk_63 ?_
            refine lv_iload_n (pc := 66) hx hb dX1_talk_66 rfl (lv_at hl 2 rfl) ?_
            refine lv_iconst (pc := 67) (v := 0) hx hb dX1_talk_67 (by decide) ?_
            refine lv_aload_n (pc := 68) hx hb dX1_talk_68 rfl (lv_at hl 0 rfl) ?_
            refine va_get (pc := 69) (D := D) (ci := 1) (v := .ref a_sure) (C := RX1) (T := TX1) (N := 9) hx hb hts in_X1 hown hKa hP 0 rfl rfl 1 (by decide) (hts _ tw_74) (fun _ h9 => h9) rfl dX1_talk_69 ?_
            refine lv_iload_n (pc := 72) hx hb dX1_talk_72 rfl (lv_at hl 2 rfl) ?_
            obtain ⟨b_73, hf⟩ := cm_ob hf
            refine va_iald (pc := 73) hx hb hKa hP 2 0 rfl rfl b_73 dX1_talk_73 ?_
            refine lv_iconst (pc := 74) (v := 1) hx hb dX1_talk_74 (by decide) ?_
            refine lv_isub (pc := 75) hx hb dX1_talk_75 ?_
            refine va_mmax (pc := 76) hx hb (hml.trans hl.1.symm) hown (hts _ tw_416) (hts _ tw_417) (hts _ tw_57) (hts _ tw_418) (Nat.le_of_ble_eq_true rfl) (Nat.le_of_ble_eq_true rfl) (Nat.zero_le _) (Nat.zero_le _) dX1_talk_76 ?_
            obtain ⟨b_79, hf⟩ := cm_ob hf
            refine va_iast (pc := 79) hx hb hKa hP hD hS 2 0 rfl rfl b_79 dX1_talk_79 (fun H locs hP hD hS => ?_)
            have hP : va_P D vwCl [(a, .inr (1, [.ref a_thinks, .ref a_sure, .ref a_coin, .ref a_far, .ref a_chalk, .int bo.2.2.2.2.2.1, .int bo.2.2.2.2.2.2.1, .int bo.2.2.2.2.2.2.2.1, .int bo.2.2.2.2.2.2.2.2])), cm_kI cI a_thinks 8 (upd bo.1 v2.toNatClampNeg (bo.1 v1.toNatClampNeg)), cm_kI cI a_sure 8 (upd bo.2.1 v2.toNatClampNeg (if 0 < ((bo.2.1 v2.toNatClampNeg) - 1) then ((bo.2.1 v2.toNatClampNeg) - 1) else 0)), cm_kI cI a_coin 8 bo.2.2.1, cm_kI cI a_far 4 bo.2.2.2.1, cm_kI cI a_chalk 7 bo.2.2.2.2.1] H := hP
            have hD : va_D A [(a, .inr (1, [.ref a_thinks, .ref a_sure, .ref a_coin, .ref a_far, .ref a_chalk, .int bo.2.2.2.2.2.1, .int bo.2.2.2.2.2.2.1, .int bo.2.2.2.2.2.2.2.1, .int bo.2.2.2.2.2.2.2.2])), cm_kI cI a_thinks 8 (upd bo.1 v2.toNatClampNeg (bo.1 v1.toNatClampNeg)), cm_kI cI a_sure 8 (upd bo.2.1 v2.toNatClampNeg (if 0 < ((bo.2.1 v2.toNatClampNeg) - 1) then ((bo.2.1 v2.toNatClampNeg) - 1) else 0)), cm_kI cI a_coin 8 bo.2.2.1, cm_kI cI a_far 4 bo.2.2.2.1, cm_kI cI a_chalk 7 bo.2.2.2.2.1] := hD
            refine lv_iconst (pc := 80) (v := 0) hx hb dX1_talk_80 (by decide) ?_
            obtain rfl := Option.some.inj hf
            exact cm_iret (pc := 81) hAe hQ hx hb hr hlocks hP hD hS [0, 1, 2, 3, 4, 5] (by decide) rfl dX1_talk_81
          · have hf := cm_in c_45 hf
            refine lv_iconst (pc := 48) (v := 5) hx hb dX1_talk_48 (by decide) ?_
            obtain rfl := Option.some.inj hf
            exact cm_iret (pc := 49) hAe hQ hx hb hr hlocks hP hD hS [0, 1, 2, 3, 4, 5] (by decide) rfl dX1_talk_49
        · have hf := cm_ip c_28 hf
          refine lv_iconst (pc := 31) (v := 4) hx hb dX1_talk_31 (by decide) ?_
          obtain rfl := Option.some.inj hf
          exact cm_iret (pc := 32) hAe hQ hx hb hr hlocks hP hD hS [0, 1, 2, 3, 4, 5] (by decide) rfl dX1_talk_32
      · have hf := cm_ip c_16 hf
        refine lv_iconst (pc := 19) (v := 3) hx hb dX1_talk_19 (by decide) ?_
        obtain rfl := Option.some.inj hf
        exact cm_iret (pc := 20) hAe hQ hx hb hr hlocks hP hD hS [0, 1, 2, 3, 4, 5] (by decide) rfl dX1_talk_20
def fX1_pay (v1 : Int32) (v2 : Int32) (bo : SBO) : Option (Int32 × SBO) := cm_let (fX10_isOne v1) (fun u1 => (if u1 = 0 then some (3, bo) else cm_let (fX10_isOne v2) (fun u8 => (if u8 = 0 then some (3, bo) else (if v1 = v2 then some (3, bo) else if v1 < 0 ∨ 8 ≤ v1.toNatClampNeg then none else (if 3 ≤ (bo.2.2.1 v1.toNatClampNeg) then if v1 < 0 ∨ 8 ≤ v1.toNatClampNeg then none else if v1 < 0 ∨ 8 ≤ v1.toNatClampNeg then none else if v2 < 0 ∨ 8 ≤ v2.toNatClampNeg then none else if v2 < 0 ∨ 8 ≤ v2.toNatClampNeg then none else if v2 < 0 ∨ 8 ≤ v2.toNatClampNeg then none else some (0, (bo.1, (upd bo.2.1 v2.toNatClampNeg 9), (upd (upd bo.2.2.1 v1.toNatClampNeg ((bo.2.2.1 v1.toNatClampNeg) - 3)) v2.toNatClampNeg (((upd bo.2.2.1 v1.toNatClampNeg ((bo.2.2.1 v1.toNatClampNeg) - 3)) v2.toNatClampNeg) + 3)), bo.2.2.2.1, bo.2.2.2.2.1, bo.2.2.2.2.2.1, bo.2.2.2.2.2.2.1, bo.2.2.2.2.2.2.2.1, bo.2.2.2.2.2.2.2.2)) else some (6, bo)))))))
def rmX1_pay : Room := { frames := 1, cells := 0, slots := 0, locals := 20 }
set_option maxRecDepth 100000 in
set_option maxHeartbeats 4000000 in
theorem c_X1_pay (l : Launch) (D : va_G) (cI cJ cZ : ClassId) (a a_thinks a_sure a_coin a_far a_chalk : Nat) (bo : SBO) (v1 : Int32) (v2 : Int32) (res : Int32 × SBO) (hf : fX1_pay v1 v2 bo = some res) : Ct l yX1_pay (cm_ws yX1_pay cX1_pay 3 (some .int)) rmX1_pay D (cm_T cI cJ cZ) [.ref a, .int v1, .int v2] [(a, .inr (1, [.ref a_thinks, .ref a_sure, .ref a_coin, .ref a_far, .ref a_chalk, .int bo.2.2.2.2.2.1, .int bo.2.2.2.2.2.2.1, .int bo.2.2.2.2.2.2.2.1, .int bo.2.2.2.2.2.2.2.2])), cm_kI cI a_thinks 8 bo.1, cm_kI cI a_sure 8 bo.2.1, cm_kI cI a_coin 8 bo.2.2.1, cm_kI cI a_far 4 bo.2.2.2.1, cm_kI cI a_chalk 7 bo.2.2.2.2.1] (some (.int res.1)) [(a, .inr (1, [.ref a_thinks, .ref a_sure, .ref a_coin, .ref a_far, .ref a_chalk, .int res.2.2.2.2.2.2.1, .int res.2.2.2.2.2.2.2.1, .int res.2.2.2.2.2.2.2.2.1, .int res.2.2.2.2.2.2.2.2.2])), cm_kI cI a_thinks 8 res.2.1, cm_kI cI a_sure 8 res.2.2.1, cm_kI cI a_coin 8 res.2.2.2.1, cm_kI cI a_far 4 res.2.2.2.2.1, cm_kI cI a_chalk 7 res.2.2.2.2.2.1] := by
  refine Ct.of (cc := cX1_pay) (maxL := 3) (ret := (some .int)) (by decide) (Nat.le_of_ble_eq_true rfl) ?_
  intro p e s m below meth c ls args A Q hav hAe hQ hx hb hr hml hown hlocks hts hK hP hD hA hS hl
  have hKa := hK.1
  have hl : lv_has ls 3 [(0, .ref a), (1, .int v1), (2, .int v2)] := hl
  unfold fX1_pay at hf
  refine lv_iload_n (pc := 0) hx hb dX1_pay_0 rfl (lv_at hl 1 rfl) ?_
  obtain ⟨u1, hu1, hf⟩ := cm_lt hf
  refine cm_callN (pc := 1) (As := [.int v1]) (rest := []) (wr := [(a, .inr (1, [.ref a_thinks, .ref a_sure, .ref a_coin, .ref a_far, .ref a_chalk, .int bo.2.2.2.2.2.1, .int bo.2.2.2.2.2.2.1, .int bo.2.2.2.2.2.2.2.1, .int bo.2.2.2.2.2.2.2.2])), cm_kI cI a_thinks 8 bo.1, cm_kI cI a_sure 8 bo.2.1, cm_kI cI a_coin 8 bo.2.2.1, cm_kI cI a_far 4 bo.2.2.2.1, cm_kI cI a_chalk 7 bo.2.2.2.2.1]) (host := RX10) (n := 1) hx hb hml hown hts hK hP hD hS hA (c_X10_isOne l D cI cJ cZ v1 u1 hu1) tw_306 (hK.2 (RX1, 86, yX10_isOne, RX10) (List.mem_of_getElem? (i := 12) rfl)) tw_305 tw_45 rfl rfl (by decide +kernel) rfl ⟨Nat.le_of_ble_eq_true rfl, Nat.le_of_ble_eq_true rfl⟩ [] [0, 1, 2, 3, 4, 5] rfl (by decide) rfl (by decide) (by decide) hl.1 rfl (Nat.le_of_ble_eq_true rfl) dX1_pay_1 ⟨Nat.zero_le _, Nat.zero_le _⟩ (fun H locs hP hD hS => ?_)
  have hP : va_P D vwCl [(a, .inr (1, [.ref a_thinks, .ref a_sure, .ref a_coin, .ref a_far, .ref a_chalk, .int bo.2.2.2.2.2.1, .int bo.2.2.2.2.2.2.1, .int bo.2.2.2.2.2.2.2.1, .int bo.2.2.2.2.2.2.2.2])), cm_kI cI a_thinks 8 bo.1, cm_kI cI a_sure 8 bo.2.1, cm_kI cI a_coin 8 bo.2.2.1, cm_kI cI a_far 4 bo.2.2.2.1, cm_kI cI a_chalk 7 bo.2.2.2.2.1] H := hP
  have hD : va_D A [(a, .inr (1, [.ref a_thinks, .ref a_sure, .ref a_coin, .ref a_far, .ref a_chalk, .int bo.2.2.2.2.2.1, .int bo.2.2.2.2.2.2.1, .int bo.2.2.2.2.2.2.2.1, .int bo.2.2.2.2.2.2.2.2])), cm_kI cI a_thinks 8 bo.1, cm_kI cI a_sure 8 bo.2.1, cm_kI cI a_coin 8 bo.2.2.1, cm_kI cI a_far 4 bo.2.2.2.1, cm_kI cI a_chalk 7 bo.2.2.2.2.1] := hD
  refine W.eq (g2 := F0 m 4 ls [.int u1]) rfl ?_
  refine lv_if_eq (pc := 4) (tgt := 19) hx hb dX1_pay_4 (by decide) (fun c_4 => ?_) (fun c_4 => ?_)
  · have hf := cm_ip c_4 hf
    refine lv_iconst (pc := 19) (v := 3) hx hb dX1_pay_19 (by decide) ?_
    obtain rfl := Option.some.inj hf
    exact cm_iret (pc := 20) hAe hQ hx hb hr hlocks hP hD hS [0, 1, 2, 3, 4, 5] (by decide) rfl dX1_pay_20
  · have hf := cm_in c_4 hf
    refine lv_iload_n (pc := 7) hx hb dX1_pay_7 rfl (lv_at hl 2 rfl) ?_
    obtain ⟨u8, hu8, hf⟩ := cm_lt hf
    refine cm_callN (pc := 8) (As := [.int v2]) (rest := []) (wr := [(a, .inr (1, [.ref a_thinks, .ref a_sure, .ref a_coin, .ref a_far, .ref a_chalk, .int bo.2.2.2.2.2.1, .int bo.2.2.2.2.2.2.1, .int bo.2.2.2.2.2.2.2.1, .int bo.2.2.2.2.2.2.2.2])), cm_kI cI a_thinks 8 bo.1, cm_kI cI a_sure 8 bo.2.1, cm_kI cI a_coin 8 bo.2.2.1, cm_kI cI a_far 4 bo.2.2.2.1, cm_kI cI a_chalk 7 bo.2.2.2.2.1]) (host := RX10) (n := 1) hx hb hml hown hts hK hP hD hS hA (c_X10_isOne l D cI cJ cZ v2 u8 hu8) tw_306 (hK.2 (RX1, 86, yX10_isOne, RX10) (List.mem_of_getElem? (i := 12) rfl)) tw_305 tw_45 rfl rfl (by decide +kernel) rfl ⟨Nat.le_of_ble_eq_true rfl, Nat.le_of_ble_eq_true rfl⟩ [] [0, 1, 2, 3, 4, 5] rfl (by decide) rfl (by decide) (by decide) hl.1 rfl (Nat.le_of_ble_eq_true rfl) dX1_pay_8 ⟨Nat.zero_le _, Nat.zero_le _⟩ (fun H locs hP hD hS => ?_)
    have hP : va_P D vwCl [(a, .inr (1, [.ref a_thinks, .ref a_sure, .ref a_coin, .ref a_far, .ref a_chalk, .int bo.2.2.2.2.2.1, .int bo.2.2.2.2.2.2.1, .int bo.2.2.2.2.2.2.2.1, .int bo.2.2.2.2.2.2.2.2])), cm_kI cI a_thinks 8 bo.1, cm_kI cI a_sure 8 bo.2.1, cm_kI cI a_coin 8 bo.2.2.1, cm_kI cI a_far 4 bo.2.2.2.1, cm_kI cI a_chalk 7 bo.2.2.2.2.1] H := hP
    have hD : va_D A [(a, .inr (1, [.ref a_thinks, .ref a_sure, .ref a_coin, .ref a_far, .ref a_chalk, .int bo.2.2.2.2.2.1, .int bo.2.2.2.2.2.2.1, .int bo.2.2.2.2.2.2.2.1, .int bo.2.2.2.2.2.2.2.2])), cm_kI cI a_thinks 8 bo.1, cm_kI cI a_sure 8 bo.2.1, cm_kI cI a_coin 8 bo.2.2.1, cm_kI cI a_far 4 bo.2.2.2.1, cm_kI cI a_chalk 7 bo.2.2.2.2.1] := hD
    refine W.eq (g2 := F0 m 11 ls [.int u8]) rfl ?_
    refine lv_if_eq (pc := 11) (tgt := 19) hx hb dX1_pay_11 (by decide) (fun c_11 => ?_) (fun c_11 => ?_)
    · have hf := cm_ip c_11 hf
      refine lv_iconst (pc := 19) (v := 3) hx hb dX1_pay_19 (by decide) ?_
      obtain rfl := Option.some.inj hf
      exact cm_iret (pc := 20) hAe hQ hx hb hr hlocks hP hD hS [0, 1, 2, 3, 4, 5] (by decide) rfl dX1_pay_20
    · have hf := cm_in c_11 hf
      refine lv_iload_n (pc := 14) hx hb dX1_pay_14 rfl (lv_at hl 1 rfl) ?_
      refine lv_iload_n (pc := 15) hx hb dX1_pay_15 rfl (lv_at hl 2 rfl) ?_
      refine lv_icmp_ne (pc := 16) (tgt := 21) hx hb dX1_pay_16 (by decide) (fun c_16 => ?_) (fun c_16 => ?_)
      · have hf := cm_in c_16 hf
        refine lv_aload_n (pc := 21) hx hb dX1_pay_21 rfl (lv_at hl 0 rfl) ?_
        refine va_get (pc := 22) (D := D) (ci := 1) (v := .ref a_coin) (C := RX1) (T := TX1) (N := 9) hx hb hts in_X1 hown hKa hP 0 rfl rfl 2 (by decide) (hts _ tw_76) (fun _ h9 => h9) rfl dX1_pay_22 ?_
        refine lv_iload_n (pc := 25) hx hb dX1_pay_25 rfl (lv_at hl 1 rfl) ?_
        obtain ⟨b_26, hf⟩ := cm_ob hf
        refine va_iald (pc := 26) hx hb hKa hP 3 0 rfl rfl b_26 dX1_pay_26 ?_
        refine lv_iconst (pc := 27) (v := 3) hx hb dX1_pay_27 (by decide) ?_
        refine lv_icmp_ge (pc := 28) (tgt := 34) hx hb dX1_pay_28 (by decide) (fun c_28 => ?_) (fun c_28 => ?_)
        · have hf := cm_ip c_28 hf
          refine lv_aload_n (pc := 34) hx hb dX1_pay_34 rfl (lv_at hl 0 rfl) ?_
          refine va_get (pc := 35) (D := D) (ci := 1) (v := .ref a_coin) (C := RX1) (T := TX1) (N := 9) hx hb hts in_X1 hown hKa hP 0 rfl rfl 2 (by decide) (hts _ tw_76) (fun _ h9 => h9) rfl dX1_pay_35 ?_
          refine lv_iload_n (pc := 38) hx hb dX1_pay_38 rfl (lv_at hl 1 rfl) ?_
          refine lv_dup2_11 (pc := 39) hx hb dX1_pay_39 rfl rfl ?_
          obtain ⟨b_40, hf⟩ := cm_ob hf
          refine va_iald (pc := 40) hx hb hKa hP 3 0 rfl rfl b_40 dX1_pay_40 ?_
          refine lv_iconst (pc := 41) (v := 3) hx hb dX1_pay_41 (by decide) ?_
          refine lv_isub (pc := 42) hx hb dX1_pay_42 ?_
          obtain ⟨b_43, hf⟩ := cm_ob hf
          refine va_iast (pc := 43) hx hb hKa hP hD hS 3 0 rfl rfl b_43 dX1_pay_43 (fun H locs hP hD hS => ?_)
          have hP : va_P D vwCl [(a, .inr (1, [.ref a_thinks, .ref a_sure, .ref a_coin, .ref a_far, .ref a_chalk, .int bo.2.2.2.2.2.1, .int bo.2.2.2.2.2.2.1, .int bo.2.2.2.2.2.2.2.1, .int bo.2.2.2.2.2.2.2.2])), cm_kI cI a_thinks 8 bo.1, cm_kI cI a_sure 8 bo.2.1, cm_kI cI a_coin 8 (upd bo.2.2.1 v1.toNatClampNeg ((bo.2.2.1 v1.toNatClampNeg) - 3)), cm_kI cI a_far 4 bo.2.2.2.1, cm_kI cI a_chalk 7 bo.2.2.2.2.1] H := hP
          have hD : va_D A [(a, .inr (1, [.ref a_thinks, .ref a_sure, .ref a_coin, .ref a_far, .ref a_chalk, .int bo.2.2.2.2.2.1, .int bo.2.2.2.2.2.2.1, .int bo.2.2.2.2.2.2.2.1, .int bo.2.2.2.2.2.2.2.2])), cm_kI cI a_thinks 8 bo.1, cm_kI cI a_sure 8 bo.2.1, cm_kI cI a_coin 8 (upd bo.2.2.1 v1.toNatClampNeg ((bo.2.2.1 v1.toNatClampNeg) - 3)), cm_kI cI a_far 4 bo.2.2.2.1, cm_kI cI a_chalk 7 bo.2.2.2.2.1] := hD
          refine lv_aload_n (pc := 44) hx hb dX1_pay_44 rfl (lv_at hl 0 rfl) ?_
          refine va_get (pc := 45) (D := D) (ci := 1) (v := .ref a_coin) (C := RX1) (T := TX1) (N := 9) hx hb hts in_X1 hown hKa hP 0 rfl rfl 2 (by decide) (hts _ tw_76) (fun _ h9 => h9) rfl dX1_pay_45 ?_
          refine lv_iload_n (pc := 48) hx hb dX1_pay_48 rfl (lv_at hl 2 rfl) ?_
          refine lv_dup2_11 (pc := 49) hx hb dX1_pay_49 rfl rfl ?_
          obtain ⟨b_50, hf⟩ := cm_ob hf
          refine va_iald (pc := 50) hx hb hKa hP 3 0 rfl rfl b_50 dX1_pay_50 ?_
          refine lv_iconst (pc := 51) (v := 3) hx hb dX1_pay_51 (by decide) ?_
          refine lv_iadd (pc := 52) hx hb dX1_pay_52 ?_
          obtain ⟨b_53, hf⟩ := cm_ob hf
          refine va_iast (pc := 53) hx hb hKa hP hD hS 3 0 rfl rfl b_53 dX1_pay_53 (fun H locs hP hD hS => ?_)
          have hP : va_P D vwCl [(a, .inr (1, [.ref a_thinks, .ref a_sure, .ref a_coin, .ref a_far, .ref a_chalk, .int bo.2.2.2.2.2.1, .int bo.2.2.2.2.2.2.1, .int bo.2.2.2.2.2.2.2.1, .int bo.2.2.2.2.2.2.2.2])), cm_kI cI a_thinks 8 bo.1, cm_kI cI a_sure 8 bo.2.1, cm_kI cI a_coin 8 (upd (upd bo.2.2.1 v1.toNatClampNeg ((bo.2.2.1 v1.toNatClampNeg) - 3)) v2.toNatClampNeg (((upd bo.2.2.1 v1.toNatClampNeg ((bo.2.2.1 v1.toNatClampNeg) - 3)) v2.toNatClampNeg) + 3)), cm_kI cI a_far 4 bo.2.2.2.1, cm_kI cI a_chalk 7 bo.2.2.2.2.1] H := hP
          have hD : va_D A [(a, .inr (1, [.ref a_thinks, .ref a_sure, .ref a_coin, .ref a_far, .ref a_chalk, .int bo.2.2.2.2.2.1, .int bo.2.2.2.2.2.2.1, .int bo.2.2.2.2.2.2.2.1, .int bo.2.2.2.2.2.2.2.2])), cm_kI cI a_thinks 8 bo.1, cm_kI cI a_sure 8 bo.2.1, cm_kI cI a_coin 8 (upd (upd bo.2.2.1 v1.toNatClampNeg ((bo.2.2.1 v1.toNatClampNeg) - 3)) v2.toNatClampNeg (((upd bo.2.2.1 v1.toNatClampNeg ((bo.2.2.1 v1.toNatClampNeg) - 3)) v2.toNatClampNeg) + 3)), cm_kI cI a_far 4 bo.2.2.2.1, cm_kI cI a_chalk 7 bo.2.2.2.2.1] := hD
          refine lv_aload_n (pc := 54) hx hb dX1_pay_54 rfl (lv_at hl 0 rfl) ?_
          refine va_get (pc := 55) (D := D) (ci := 1) (v := .ref a_sure) (C := RX1) (T := TX1) (N := 9) hx hb hts in_X1 hown hKa hP 0 rfl rfl 1 (by decide) (hts _ tw_74) (fun _ h9 => h9) rfl dX1_pay_55 ?_
          refine lv_iload_n (pc := 58) hx hb dX1_pay_58 rfl (lv_at hl 2 rfl) ?_
          refine lv_bipush (pc := 59) (v := 9) hx hb dX1_pay_59 (by decide) ?_
          obtain ⟨b_61, hf⟩ := cm_ob hf
          refine va_iast (pc := 61) hx hb hKa hP hD hS 2 0 rfl rfl b_61 dX1_pay_61 (fun H locs hP hD hS => ?_)
          have hP : va_P D vwCl [(a, .inr (1, [.ref a_thinks, .ref a_sure, .ref a_coin, .ref a_far, .ref a_chalk, .int bo.2.2.2.2.2.1, .int bo.2.2.2.2.2.2.1, .int bo.2.2.2.2.2.2.2.1, .int bo.2.2.2.2.2.2.2.2])), cm_kI cI a_thinks 8 bo.1, cm_kI cI a_sure 8 (upd bo.2.1 v2.toNatClampNeg 9), cm_kI cI a_coin 8 (upd (upd bo.2.2.1 v1.toNatClampNeg ((bo.2.2.1 v1.toNatClampNeg) - 3)) v2.toNatClampNeg (((upd bo.2.2.1 v1.toNatClampNeg ((bo.2.2.1 v1.toNatClampNeg) - 3)) v2.toNatClampNeg) + 3)), cm_kI cI a_far 4 bo.2.2.2.1, cm_kI cI a_chalk 7 bo.2.2.2.2.1] H := hP
          have hD : va_D A [(a, .inr (1, [.ref a_thinks, .ref a_sure, .ref a_coin, .ref a_far, .ref a_chalk, .int bo.2.2.2.2.2.1, .int bo.2.2.2.2.2.2.1, .int bo.2.2.2.2.2.2.2.1, .int bo.2.2.2.2.2.2.2.2])), cm_kI cI a_thinks 8 bo.1, cm_kI cI a_sure 8 (upd bo.2.1 v2.toNatClampNeg 9), cm_kI cI a_coin 8 (upd (upd bo.2.2.1 v1.toNatClampNeg ((bo.2.2.1 v1.toNatClampNeg) - 3)) v2.toNatClampNeg (((upd bo.2.2.1 v1.toNatClampNeg ((bo.2.2.1 v1.toNatClampNeg) - 3)) v2.toNatClampNeg) + 3)), cm_kI cI a_far 4 bo.2.2.2.1, cm_kI cI a_chalk 7 bo.2.2.2.2.1] := hD
          refine lv_iconst (pc := 62) (v := 0) hx hb dX1_pay_62 (by decide) ?_
          obtain rfl := Option.some.inj hf
          exact cm_iret (pc := 63) hAe hQ hx hb hr hlocks hP hD hS [0, 1, 2, 3, 4, 5] (by decide) rfl dX1_pay_63
        · have hf := cm_in c_28 hf
          refine lv_bipush (pc := 31) (v := 6) hx hb dX1_pay_31 (by decide) ?_
          obtain rfl := Option.some.inj hf
          exact cm_iret (pc := 33) hAe hQ hx hb hr hlocks hP hD hS [0, 1, 2, 3, 4, 5] (by decide) rfl dX1_pay_33
      · have hf := cm_ip c_16 hf
        refine lv_iconst (pc := 19) (v := 3) hx hb dX1_pay_19 (by decide) ?_
        obtain rfl := Option.some.inj hf
        exact cm_iret (pc := 20) hAe hQ hx hb hr hlocks hP hD hS [0, 1, 2, 3, 4, 5] (by decide) rfl dX1_pay_20
def fX1_come (v1 : Int32) (bo : SBO) : Option (Int32 × SBO) := cm_let (fX10_isCart v1) (fun u1 => (if u1 = 0 then some (7, bo) else if v1 < 0 ∨ 4 ≤ v1.toNatClampNeg then none else (if (bo.2.2.2.1 v1.toNatClampNeg) = 0 then some (7, bo) else if v1 < 0 ∨ 4 ≤ v1.toNatClampNeg then none else if v1 < 0 ∨ 4 ≤ v1.toNatClampNeg then none else some (0, (bo.1, bo.2.1, bo.2.2.1, (upd bo.2.2.2.1 v1.toNatClampNeg ((bo.2.2.2.1 v1.toNatClampNeg) - 1)), bo.2.2.2.2.1, bo.2.2.2.2.2.1, bo.2.2.2.2.2.2.1, bo.2.2.2.2.2.2.2.1, bo.2.2.2.2.2.2.2.2)))))
def rmX1_come : Room := { frames := 1, cells := 0, slots := 0, locals := 20 }
set_option maxRecDepth 100000 in
set_option maxHeartbeats 4000000 in
theorem c_X1_come (l : Launch) (D : va_G) (cI cJ cZ : ClassId) (a a_thinks a_sure a_coin a_far a_chalk : Nat) (bo : SBO) (v1 : Int32) (res : Int32 × SBO) (hf : fX1_come v1 bo = some res) : Ct l yX1_come (cm_ws yX1_come cX1_come 2 (some .int)) rmX1_come D (cm_T cI cJ cZ) [.ref a, .int v1] [(a, .inr (1, [.ref a_thinks, .ref a_sure, .ref a_coin, .ref a_far, .ref a_chalk, .int bo.2.2.2.2.2.1, .int bo.2.2.2.2.2.2.1, .int bo.2.2.2.2.2.2.2.1, .int bo.2.2.2.2.2.2.2.2])), cm_kI cI a_thinks 8 bo.1, cm_kI cI a_sure 8 bo.2.1, cm_kI cI a_coin 8 bo.2.2.1, cm_kI cI a_far 4 bo.2.2.2.1, cm_kI cI a_chalk 7 bo.2.2.2.2.1] (some (.int res.1)) [(a, .inr (1, [.ref a_thinks, .ref a_sure, .ref a_coin, .ref a_far, .ref a_chalk, .int res.2.2.2.2.2.2.1, .int res.2.2.2.2.2.2.2.1, .int res.2.2.2.2.2.2.2.2.1, .int res.2.2.2.2.2.2.2.2.2])), cm_kI cI a_thinks 8 res.2.1, cm_kI cI a_sure 8 res.2.2.1, cm_kI cI a_coin 8 res.2.2.2.1, cm_kI cI a_far 4 res.2.2.2.2.1, cm_kI cI a_chalk 7 res.2.2.2.2.2.1] := by
  refine Ct.of (cc := cX1_come) (maxL := 2) (ret := (some .int)) (by decide) (Nat.le_of_ble_eq_true rfl) ?_
  intro p e s m below meth c ls args A Q hav hAe hQ hx hb hr hml hown hlocks hts hK hP hD hA hS hl
  have hKa := hK.1
  have hl : lv_has ls 2 [(0, .ref a), (1, .int v1)] := hl
  unfold fX1_come at hf
  refine lv_iload_n (pc := 0) hx hb dX1_come_0 rfl (lv_at hl 1 rfl) ?_
  obtain ⟨u1, hu1, hf⟩ := cm_lt hf
  refine cm_callN (pc := 1) (As := [.int v1]) (rest := []) (wr := [(a, .inr (1, [.ref a_thinks, .ref a_sure, .ref a_coin, .ref a_far, .ref a_chalk, .int bo.2.2.2.2.2.1, .int bo.2.2.2.2.2.2.1, .int bo.2.2.2.2.2.2.2.1, .int bo.2.2.2.2.2.2.2.2])), cm_kI cI a_thinks 8 bo.1, cm_kI cI a_sure 8 bo.2.1, cm_kI cI a_coin 8 bo.2.2.1, cm_kI cI a_far 4 bo.2.2.2.1, cm_kI cI a_chalk 7 bo.2.2.2.2.1]) (host := RX10) (n := 1) hx hb hml hown hts hK hP hD hS hA (c_X10_isCart l D cI cJ cZ v1 u1 hu1) tw_319 (hK.2 (RX1, 89, yX10_isCart, RX10) (List.mem_of_getElem? (i := 13) rfl)) tw_318 tw_45 rfl rfl (by decide +kernel) rfl ⟨Nat.le_of_ble_eq_true rfl, Nat.le_of_ble_eq_true rfl⟩ [] [0, 1, 2, 3, 4, 5] rfl (by decide) rfl (by decide) (by decide) hl.1 rfl (Nat.le_of_ble_eq_true rfl) dX1_come_1 ⟨Nat.zero_le _, Nat.zero_le _⟩ (fun H locs hP hD hS => ?_)
  have hP : va_P D vwCl [(a, .inr (1, [.ref a_thinks, .ref a_sure, .ref a_coin, .ref a_far, .ref a_chalk, .int bo.2.2.2.2.2.1, .int bo.2.2.2.2.2.2.1, .int bo.2.2.2.2.2.2.2.1, .int bo.2.2.2.2.2.2.2.2])), cm_kI cI a_thinks 8 bo.1, cm_kI cI a_sure 8 bo.2.1, cm_kI cI a_coin 8 bo.2.2.1, cm_kI cI a_far 4 bo.2.2.2.1, cm_kI cI a_chalk 7 bo.2.2.2.2.1] H := hP
  have hD : va_D A [(a, .inr (1, [.ref a_thinks, .ref a_sure, .ref a_coin, .ref a_far, .ref a_chalk, .int bo.2.2.2.2.2.1, .int bo.2.2.2.2.2.2.1, .int bo.2.2.2.2.2.2.2.1, .int bo.2.2.2.2.2.2.2.2])), cm_kI cI a_thinks 8 bo.1, cm_kI cI a_sure 8 bo.2.1, cm_kI cI a_coin 8 bo.2.2.1, cm_kI cI a_far 4 bo.2.2.2.1, cm_kI cI a_chalk 7 bo.2.2.2.2.1] := hD
  refine W.eq (g2 := F0 m 4 ls [.int u1]) rfl ?_
  refine lv_if_eq (pc := 4) (tgt := 16) hx hb dX1_come_4 (by decide) (fun c_4 => ?_) (fun c_4 => ?_)
  · have hf := cm_ip c_4 hf
    refine lv_bipush (pc := 16) (v := 7) hx hb dX1_come_16 (by decide) ?_
    obtain rfl := Option.some.inj hf
    exact cm_iret (pc := 18) hAe hQ hx hb hr hlocks hP hD hS [0, 1, 2, 3, 4, 5] (by decide) rfl dX1_come_18
  · have hf := cm_in c_4 hf
    refine lv_aload_n (pc := 7) hx hb dX1_come_7 rfl (lv_at hl 0 rfl) ?_
    refine va_get (pc := 8) (D := D) (ci := 1) (v := .ref a_far) (C := RX1) (T := TX1) (N := 9) hx hb hts in_X1 hown hKa hP 0 rfl rfl 3 (by decide) (hts _ tw_78) (fun _ h9 => h9) rfl dX1_come_8 ?_
    refine lv_iload_n (pc := 11) hx hb dX1_come_11 rfl (lv_at hl 1 rfl) ?_
    obtain ⟨b_12, hf⟩ := cm_ob hf
    refine va_iald (pc := 12) hx hb hKa hP 4 0 rfl rfl b_12 dX1_come_12 ?_
    refine lv_if_ne (pc := 13) (tgt := 19) hx hb dX1_come_13 (by decide) (fun c_13 => ?_) (fun c_13 => ?_)
    · have hf := cm_in c_13 hf
      refine lv_aload_n (pc := 19) hx hb dX1_come_19 rfl (lv_at hl 0 rfl) ?_
      refine va_get (pc := 20) (D := D) (ci := 1) (v := .ref a_far) (C := RX1) (T := TX1) (N := 9) hx hb hts in_X1 hown hKa hP 0 rfl rfl 3 (by decide) (hts _ tw_78) (fun _ h9 => h9) rfl dX1_come_20 ?_
      refine lv_iload_n (pc := 23) hx hb dX1_come_23 rfl (lv_at hl 1 rfl) ?_
      refine lv_dup2_11 (pc := 24) hx hb dX1_come_24 rfl rfl ?_
      obtain ⟨b_25, hf⟩ := cm_ob hf
      refine va_iald (pc := 25) hx hb hKa hP 4 0 rfl rfl b_25 dX1_come_25 ?_
      refine lv_iconst (pc := 26) (v := 1) hx hb dX1_come_26 (by decide) ?_
      refine lv_isub (pc := 27) hx hb dX1_come_27 ?_
      obtain ⟨b_28, hf⟩ := cm_ob hf
      refine va_iast (pc := 28) hx hb hKa hP hD hS 4 0 rfl rfl b_28 dX1_come_28 (fun H locs hP hD hS => ?_)
      have hP : va_P D vwCl [(a, .inr (1, [.ref a_thinks, .ref a_sure, .ref a_coin, .ref a_far, .ref a_chalk, .int bo.2.2.2.2.2.1, .int bo.2.2.2.2.2.2.1, .int bo.2.2.2.2.2.2.2.1, .int bo.2.2.2.2.2.2.2.2])), cm_kI cI a_thinks 8 bo.1, cm_kI cI a_sure 8 bo.2.1, cm_kI cI a_coin 8 bo.2.2.1, cm_kI cI a_far 4 (upd bo.2.2.2.1 v1.toNatClampNeg ((bo.2.2.2.1 v1.toNatClampNeg) - 1)), cm_kI cI a_chalk 7 bo.2.2.2.2.1] H := hP
      have hD : va_D A [(a, .inr (1, [.ref a_thinks, .ref a_sure, .ref a_coin, .ref a_far, .ref a_chalk, .int bo.2.2.2.2.2.1, .int bo.2.2.2.2.2.2.1, .int bo.2.2.2.2.2.2.2.1, .int bo.2.2.2.2.2.2.2.2])), cm_kI cI a_thinks 8 bo.1, cm_kI cI a_sure 8 bo.2.1, cm_kI cI a_coin 8 bo.2.2.1, cm_kI cI a_far 4 (upd bo.2.2.2.1 v1.toNatClampNeg ((bo.2.2.2.1 v1.toNatClampNeg) - 1)), cm_kI cI a_chalk 7 bo.2.2.2.2.1] := hD
      refine lv_iconst (pc := 29) (v := 0) hx hb dX1_come_29 (by decide) ?_
      obtain rfl := Option.some.inj hf
      exact cm_iret (pc := 30) hAe hQ hx hb hr hlocks hP hD hS [0, 1, 2, 3, 4, 5] (by decide) rfl dX1_come_30
    · have hf := cm_ip c_13 hf
      refine lv_bipush (pc := 16) (v := 7) hx hb dX1_come_16 (by decide) ?_
      obtain rfl := Option.some.inj hf
      exact cm_iret (pc := 18) hAe hQ hx hb hr hlocks hP hD hS [0, 1, 2, 3, 4, 5] (by decide) rfl dX1_come_18
def fX1_countChalk_L2 (kx : Int32 → SBO → Option (SBO)) : Nat → Int32 → SBO → Option (SBO)
  | 0, _, _ => none
  | n + 1, v1_2, bo_2 => (if 7 ≤ v1_2 then kx v1_2 bo_2 else if v1_2 < 0 ∨ 7 ≤ v1_2.toNatClampNeg then none else fX1_countChalk_L2 kx n (v1_2 + 1) (bo_2.1, bo_2.2.1, bo_2.2.2.1, bo_2.2.2.2.1, (upd bo_2.2.2.2.2.1 v1_2.toNatClampNeg 0), bo_2.2.2.2.2.2.1, bo_2.2.2.2.2.2.2.1, bo_2.2.2.2.2.2.2.2.1, bo_2.2.2.2.2.2.2.2.2))
def fX1_countChalk_L23 (kx : Int32 → SBO → Option (SBO)) : Nat → Int32 → SBO → Option (SBO)
  | 0, _, _ => none
  | n + 1, v1_23, bo_23 => (if 8 ≤ v1_23 then kx v1_23 bo_23 else if v1_23 < 0 ∨ 8 ≤ v1_23.toNatClampNeg then none else (if (bo_23.1 v1_23.toNatClampNeg) < 0 then fX1_countChalk_L23 kx n (v1_23 + 1) bo_23 else (if 7 ≤ (bo_23.1 v1_23.toNatClampNeg) then fX1_countChalk_L23 kx n (v1_23 + 1) bo_23 else if (bo_23.1 v1_23.toNatClampNeg) < 0 ∨ 7 ≤ (bo_23.1 v1_23.toNatClampNeg).toNatClampNeg then none else if (bo_23.1 v1_23.toNatClampNeg) < 0 ∨ 7 ≤ (bo_23.1 v1_23.toNatClampNeg).toNatClampNeg then none else fX1_countChalk_L23 kx n (v1_23 + 1) (bo_23.1, bo_23.2.1, bo_23.2.2.1, bo_23.2.2.2.1, (upd bo_23.2.2.2.2.1 (bo_23.1 v1_23.toNatClampNeg).toNatClampNeg ((bo_23.2.2.2.2.1 (bo_23.1 v1_23.toNatClampNeg).toNatClampNeg) + 1)), bo_23.2.2.2.2.2.1, bo_23.2.2.2.2.2.2.1, bo_23.2.2.2.2.2.2.2.1, bo_23.2.2.2.2.2.2.2.2))))
def fX1_countChalk (bo : SBO) : Option (SBO) := fX1_countChalk_L2 (fun v1_2 bo_2 => fX1_countChalk_L23 (fun v1_23 bo_23 => some bo_23) 5000 0 bo_2) 5000 0 bo
def rmX1_countChalk : Room := { frames := 0, cells := 0, slots := 0, locals := 0 }
set_option maxRecDepth 100000 in
set_option maxHeartbeats 4000000 in
theorem c_X1_countChalk (l : Launch) (D : va_G) (cI cJ cZ : ClassId) (a a_thinks a_sure a_coin a_far a_chalk : Nat) (bo : SBO) (res : SBO) (hf : fX1_countChalk bo = some res) : Ct l yX1_countChalk (cm_ws yX1_countChalk cX1_countChalk 3 none) rmX1_countChalk D (cm_T cI cJ cZ) [.ref a] [(a, .inr (1, [.ref a_thinks, .ref a_sure, .ref a_coin, .ref a_far, .ref a_chalk, .int bo.2.2.2.2.2.1, .int bo.2.2.2.2.2.2.1, .int bo.2.2.2.2.2.2.2.1, .int bo.2.2.2.2.2.2.2.2])), cm_kI cI a_thinks 8 bo.1, cm_kI cI a_sure 8 bo.2.1, cm_kI cI a_coin 8 bo.2.2.1, cm_kI cI a_far 4 bo.2.2.2.1, cm_kI cI a_chalk 7 bo.2.2.2.2.1] none [(a, .inr (1, [.ref a_thinks, .ref a_sure, .ref a_coin, .ref a_far, .ref a_chalk, .int res.2.2.2.2.2.1, .int res.2.2.2.2.2.2.1, .int res.2.2.2.2.2.2.2.1, .int res.2.2.2.2.2.2.2.2])), cm_kI cI a_thinks 8 res.1, cm_kI cI a_sure 8 res.2.1, cm_kI cI a_coin 8 res.2.2.1, cm_kI cI a_far 4 res.2.2.2.1, cm_kI cI a_chalk 7 res.2.2.2.2.1] := by
  refine Ct.of (cc := cX1_countChalk) (maxL := 3) (ret := none) (by decide) (Nat.le_of_ble_eq_true rfl) ?_
  intro p e s m below meth c ls args A Q hav hAe hQ hx hb hr hml hown hlocks hts hK hP hD hA hS hl
  have hKa := hK.1
  have hl : lv_has ls 3 [(0, .ref a)] := hl
  unfold fX1_countChalk at hf
  refine lv_iconst (pc := 0) (v := 0) hx hb dX1_countChalk_0 (by decide) ?_
  refine lv_istore_n (pc := 1) (lv' := [(1, .int 0), (0, .ref a)]) hx hb dX1_countChalk_1 rfl hl (by decide) rfl (fun ls hl => ?_)
  have L2 : ∀ (kx : Int32 → SBO → Option (SBO)), (∀ (v1_2 : Int32) (bo_2 : SBO) (H : Heap) (locs : List Loc) (ls : Array Slot), va_P D vwCl [(a, .inr (1, [.ref a_thinks, .ref a_sure, .ref a_coin, .ref a_far, .ref a_chalk, .int bo_2.2.2.2.2.2.1, .int bo_2.2.2.2.2.2.2.1, .int bo_2.2.2.2.2.2.2.2.1, .int bo_2.2.2.2.2.2.2.2.2])), cm_kI cI a_thinks 8 bo_2.1, cm_kI cI a_sure 8 bo_2.2.1, cm_kI cI a_coin 8 bo_2.2.2.1, cm_kI cI a_far 4 bo_2.2.2.2.1, cm_kI cI a_chalk 7 bo_2.2.2.2.2.1] H → va_D A [(a, .inr (1, [.ref a_thinks, .ref a_sure, .ref a_coin, .ref a_far, .ref a_chalk, .int bo_2.2.2.2.2.2.1, .int bo_2.2.2.2.2.2.2.1, .int bo_2.2.2.2.2.2.2.2.1, .int bo_2.2.2.2.2.2.2.2.2])), cm_kI cI a_thinks 8 bo_2.1, cm_kI cI a_sure 8 bo_2.2.1, cm_kI cI a_coin 8 bo_2.2.2.1, cm_kI cI a_far 4 bo_2.2.2.2.1, cm_kI cI a_chalk 7 bo_2.2.2.2.2.1] → va_S A s.heap H locs → lv_has ls 3 [(0, .ref a)] → kx v1_2 bo_2 = some res → W p l e rmX1_countChalk s m args below meth c H locs 0 0 Q (F0 m 21 ls [])) → ∀ (n : Nat) (v1_2 : Int32) (bo_2 : SBO) (H : Heap) (locs : List Loc) (ls : Array Slot), va_P D vwCl [(a, .inr (1, [.ref a_thinks, .ref a_sure, .ref a_coin, .ref a_far, .ref a_chalk, .int bo_2.2.2.2.2.2.1, .int bo_2.2.2.2.2.2.2.1, .int bo_2.2.2.2.2.2.2.2.1, .int bo_2.2.2.2.2.2.2.2.2])), cm_kI cI a_thinks 8 bo_2.1, cm_kI cI a_sure 8 bo_2.2.1, cm_kI cI a_coin 8 bo_2.2.2.1, cm_kI cI a_far 4 bo_2.2.2.2.1, cm_kI cI a_chalk 7 bo_2.2.2.2.2.1] H → va_D A [(a, .inr (1, [.ref a_thinks, .ref a_sure, .ref a_coin, .ref a_far, .ref a_chalk, .int bo_2.2.2.2.2.2.1, .int bo_2.2.2.2.2.2.2.1, .int bo_2.2.2.2.2.2.2.2.1, .int bo_2.2.2.2.2.2.2.2.2])), cm_kI cI a_thinks 8 bo_2.1, cm_kI cI a_sure 8 bo_2.2.1, cm_kI cI a_coin 8 bo_2.2.2.1, cm_kI cI a_far 4 bo_2.2.2.2.1, cm_kI cI a_chalk 7 bo_2.2.2.2.2.1] → va_S A s.heap H locs → lv_has ls 3 [(1, .int v1_2), (0, .ref a)] → fX1_countChalk_L2 kx n v1_2 bo_2 = some res → W p l e rmX1_countChalk s m args below meth c H locs 0 0 Q (F0 m 2 ls []) := by
    intro kx hkx n
    induction n with
    | zero => intro v1_2 bo_2 H locs ls hP hD hS hl hf; cases hf
    | succ n ih =>
      intro v1_2 bo_2 H locs ls hP hD hS hl hf
      rw [fX1_countChalk_L2] at hf
      refine lv_iload_n (pc := 2) hx hb dX1_countChalk_2 rfl (lv_at hl 0 rfl) ?_
      refine lv_bipush (pc := 3) (v := 7) hx hb dX1_countChalk_3 (by decide) ?_
      refine lv_icmp_ge (pc := 5) (tgt := 21) hx hb dX1_countChalk_5 (by decide) (fun c_5 => ?_) (fun c_5 => ?_)
      · have hf := cm_ip c_5 hf
        exact hkx v1_2 bo_2 _ _ _ hP hD hS (lv_sub hl [1] rfl) hf
      · have hf := cm_in c_5 hf
        refine lv_aload_n (pc := 8) hx hb dX1_countChalk_8 rfl (lv_at hl 1 rfl) ?_
        refine va_get (pc := 9) (D := D) (ci := 1) (v := .ref a_chalk) (C := RX1) (T := TX1) (N := 9) hx hb hts in_X1 hown hKa hP 0 rfl rfl 4 (by decide) (hts _ tw_80) (fun _ h9 => h9) rfl dX1_countChalk_9 ?_
        refine lv_iload_n (pc := 12) hx hb dX1_countChalk_12 rfl (lv_at hl 0 rfl) ?_
        refine lv_iconst (pc := 13) (v := 0) hx hb dX1_countChalk_13 (by decide) ?_
        obtain ⟨b_14, hf⟩ := cm_ob hf
        refine va_iast (pc := 14) hx hb hKa hP hD hS 5 0 rfl rfl b_14 dX1_countChalk_14 (fun H locs hP hD hS => ?_)
        have hP : va_P D vwCl [(a, .inr (1, [.ref a_thinks, .ref a_sure, .ref a_coin, .ref a_far, .ref a_chalk, .int bo_2.2.2.2.2.2.1, .int bo_2.2.2.2.2.2.2.1, .int bo_2.2.2.2.2.2.2.2.1, .int bo_2.2.2.2.2.2.2.2.2])), cm_kI cI a_thinks 8 bo_2.1, cm_kI cI a_sure 8 bo_2.2.1, cm_kI cI a_coin 8 bo_2.2.2.1, cm_kI cI a_far 4 bo_2.2.2.2.1, cm_kI cI a_chalk 7 (upd bo_2.2.2.2.2.1 v1_2.toNatClampNeg 0)] H := hP
        have hD : va_D A [(a, .inr (1, [.ref a_thinks, .ref a_sure, .ref a_coin, .ref a_far, .ref a_chalk, .int bo_2.2.2.2.2.2.1, .int bo_2.2.2.2.2.2.2.1, .int bo_2.2.2.2.2.2.2.2.1, .int bo_2.2.2.2.2.2.2.2.2])), cm_kI cI a_thinks 8 bo_2.1, cm_kI cI a_sure 8 bo_2.2.1, cm_kI cI a_coin 8 bo_2.2.2.1, cm_kI cI a_far 4 bo_2.2.2.2.1, cm_kI cI a_chalk 7 (upd bo_2.2.2.2.2.1 v1_2.toNatClampNeg 0)] := hD
        refine lv_iinc (pc := 15) (v := (v1_2 + 1)) (lv' := [(1, .int (v1_2 + 1)), (0, .ref a)]) hx hb dX1_countChalk_15 hl (k := 0) rfl rfl (by decide) rfl (fun ls hl => ?_)
        refine lv_goto (pc := 18) (tgt := 2) hx hb dX1_countChalk_18 (by decide) ?_
        exact ih (v1_2 + 1) (bo_2.1, bo_2.2.1, bo_2.2.2.1, bo_2.2.2.2.1, (upd bo_2.2.2.2.2.1 v1_2.toNatClampNeg 0), bo_2.2.2.2.2.2.1, bo_2.2.2.2.2.2.2.1, bo_2.2.2.2.2.2.2.2.1, bo_2.2.2.2.2.2.2.2.2) _ _ _ hP hD hS (lv_sub hl [0, 1] rfl) hf
  refine L2 _ (fun v1_2 bo_2 H locs ls hP hD hS hl hf => ?_) 5000 0 bo _ _ _ hP hD hS (lv_sub hl [0, 1] rfl) hf
  refine lv_iconst (pc := 21) (v := 0) hx hb dX1_countChalk_21 (by decide) ?_
  refine lv_istore_n (pc := 22) (lv' := [(1, .int 0), (0, .ref a)]) hx hb dX1_countChalk_22 rfl hl (by decide) rfl (fun ls hl => ?_)
  have L23 : ∀ (kx : Int32 → SBO → Option (SBO)), (∀ (v1_23 : Int32) (bo_23 : SBO) (H : Heap) (locs : List Loc) (ls : Array Slot), va_P D vwCl [(a, .inr (1, [.ref a_thinks, .ref a_sure, .ref a_coin, .ref a_far, .ref a_chalk, .int bo_23.2.2.2.2.2.1, .int bo_23.2.2.2.2.2.2.1, .int bo_23.2.2.2.2.2.2.2.1, .int bo_23.2.2.2.2.2.2.2.2])), cm_kI cI a_thinks 8 bo_23.1, cm_kI cI a_sure 8 bo_23.2.1, cm_kI cI a_coin 8 bo_23.2.2.1, cm_kI cI a_far 4 bo_23.2.2.2.1, cm_kI cI a_chalk 7 bo_23.2.2.2.2.1] H → va_D A [(a, .inr (1, [.ref a_thinks, .ref a_sure, .ref a_coin, .ref a_far, .ref a_chalk, .int bo_23.2.2.2.2.2.1, .int bo_23.2.2.2.2.2.2.1, .int bo_23.2.2.2.2.2.2.2.1, .int bo_23.2.2.2.2.2.2.2.2])), cm_kI cI a_thinks 8 bo_23.1, cm_kI cI a_sure 8 bo_23.2.1, cm_kI cI a_coin 8 bo_23.2.2.1, cm_kI cI a_far 4 bo_23.2.2.2.1, cm_kI cI a_chalk 7 bo_23.2.2.2.2.1] → va_S A s.heap H locs → lv_has ls 3 [] → kx v1_23 bo_23 = some res → W p l e rmX1_countChalk s m args below meth c H locs 0 0 Q (F0 m 62 ls [])) → ∀ (n : Nat) (v1_23 : Int32) (bo_23 : SBO) (H : Heap) (locs : List Loc) (ls : Array Slot), va_P D vwCl [(a, .inr (1, [.ref a_thinks, .ref a_sure, .ref a_coin, .ref a_far, .ref a_chalk, .int bo_23.2.2.2.2.2.1, .int bo_23.2.2.2.2.2.2.1, .int bo_23.2.2.2.2.2.2.2.1, .int bo_23.2.2.2.2.2.2.2.2])), cm_kI cI a_thinks 8 bo_23.1, cm_kI cI a_sure 8 bo_23.2.1, cm_kI cI a_coin 8 bo_23.2.2.1, cm_kI cI a_far 4 bo_23.2.2.2.1, cm_kI cI a_chalk 7 bo_23.2.2.2.2.1] H → va_D A [(a, .inr (1, [.ref a_thinks, .ref a_sure, .ref a_coin, .ref a_far, .ref a_chalk, .int bo_23.2.2.2.2.2.1, .int bo_23.2.2.2.2.2.2.1, .int bo_23.2.2.2.2.2.2.2.1, .int bo_23.2.2.2.2.2.2.2.2])), cm_kI cI a_thinks 8 bo_23.1, cm_kI cI a_sure 8 bo_23.2.1, cm_kI cI a_coin 8 bo_23.2.2.1, cm_kI cI a_far 4 bo_23.2.2.2.1, cm_kI cI a_chalk 7 bo_23.2.2.2.2.1] → va_S A s.heap H locs → lv_has ls 3 [(1, .int v1_23), (0, .ref a)] → fX1_countChalk_L23 kx n v1_23 bo_23 = some res → W p l e rmX1_countChalk s m args below meth c H locs 0 0 Q (F0 m 23 ls []) := by
    intro kx hkx n
    induction n with
    | zero => intro v1_23 bo_23 H locs ls hP hD hS hl hf; cases hf
    | succ n ih =>
      intro v1_23 bo_23 H locs ls hP hD hS hl hf
      rw [fX1_countChalk_L23] at hf
      refine lv_iload_n (pc := 23) hx hb dX1_countChalk_23 rfl (lv_at hl 0 rfl) ?_
      refine lv_bipush (pc := 24) (v := 8) hx hb dX1_countChalk_24 (by decide) ?_
      refine lv_icmp_ge (pc := 26) (tgt := 62) hx hb dX1_countChalk_26 (by decide) (fun c_26 => ?_) (fun c_26 => ?_)
      · have hf := cm_ip c_26 hf
        exact hkx v1_23 bo_23 _ _ _ hP hD hS (lv_sub hl [] rfl) hf
      · have hf := cm_in c_26 hf
        refine lv_aload_n (pc := 29) hx hb dX1_countChalk_29 rfl (lv_at hl 1 rfl) ?_
        refine va_get (pc := 30) (D := D) (ci := 1) (v := .ref a_thinks) (C := RX1) (T := TX1) (N := 9) hx hb hts in_X1 hown hKa hP 0 rfl rfl 0 (by decide) (hts _ tw_72) (fun _ h9 => h9) rfl dX1_countChalk_30 ?_
        refine lv_iload_n (pc := 33) hx hb dX1_countChalk_33 rfl (lv_at hl 0 rfl) ?_
        obtain ⟨b_34, hf⟩ := cm_ob hf
        refine va_iald (pc := 34) hx hb hKa hP 1 0 rfl rfl b_34 dX1_countChalk_34 ?_
        refine lv_istore_n (pc := 35) (lv' := [(2, .int (bo_23.1 v1_23.toNatClampNeg)), (1, .int v1_23), (0, .ref a)]) hx hb dX1_countChalk_35 rfl hl (by decide) rfl (fun ls hl => ?_)
        refine lv_iload_n (pc := 36) hx hb dX1_countChalk_36 rfl (lv_at hl 0 rfl) ?_
        refine lv_if_lt (pc := 37) (tgt := 56) hx hb dX1_countChalk_37 (by decide) (fun c_37 => ?_) (fun c_37 => ?_)
        · have hf := cm_ip c_37 hf
          refine lv_iinc (pc := 56) (v := (v1_23 + 1)) (lv' := [(1, .int (v1_23 + 1)), (2, .int (bo_23.1 v1_23.toNatClampNeg)), (0, .ref a)]) hx hb dX1_countChalk_56 hl (k := 1) rfl rfl (by decide) rfl (fun ls hl => ?_)
          refine lv_goto (pc := 59) (tgt := 23) hx hb dX1_countChalk_59 (by decide) ?_
          exact ih (v1_23 + 1) bo_23 _ _ _ hP hD hS (lv_sub hl [0, 2] rfl) hf
        · have hf := cm_in c_37 hf
          refine lv_iload_n (pc := 40) hx hb dX1_countChalk_40 rfl (lv_at hl 0 rfl) ?_
          refine lv_bipush (pc := 41) (v := 7) hx hb dX1_countChalk_41 (by decide) ?_
          refine lv_icmp_ge (pc := 43) (tgt := 56) hx hb dX1_countChalk_43 (by decide) (fun c_43 => ?_) (fun c_43 => ?_)
          · have hf := cm_ip c_43 hf
            refine lv_iinc (pc := 56) (v := (v1_23 + 1)) (lv' := [(1, .int (v1_23 + 1)), (2, .int (bo_23.1 v1_23.toNatClampNeg)), (0, .ref a)]) hx hb dX1_countChalk_56 hl (k := 1) rfl rfl (by decide) rfl (fun ls hl => ?_)
            refine lv_goto (pc := 59) (tgt := 23) hx hb dX1_countChalk_59 (by decide) ?_
            exact ih (v1_23 + 1) bo_23 _ _ _ hP hD hS (lv_sub hl [0, 2] rfl) hf
          · have hf := cm_in c_43 hf
            refine lv_aload_n (pc := 46) hx hb dX1_countChalk_46 rfl (lv_at hl 2 rfl) ?_
            refine va_get (pc := 47) (D := D) (ci := 1) (v := .ref a_chalk) (C := RX1) (T := TX1) (N := 9) hx hb hts in_X1 hown hKa hP 0 rfl rfl 4 (by decide) (hts _ tw_80) (fun _ h9 => h9) rfl dX1_countChalk_47 ?_
            refine lv_iload_n (pc := 50) hx hb dX1_countChalk_50 rfl (lv_at hl 0 rfl) ?_
            refine lv_dup2_11 (pc := 51) hx hb dX1_countChalk_51 rfl rfl ?_
            obtain ⟨b_52, hf⟩ := cm_ob hf
            refine va_iald (pc := 52) hx hb hKa hP 5 0 rfl rfl b_52 dX1_countChalk_52 ?_
            refine lv_iconst (pc := 53) (v := 1) hx hb dX1_countChalk_53 (by decide) ?_
            refine lv_iadd (pc := 54) hx hb dX1_countChalk_54 ?_
            obtain ⟨b_55, hf⟩ := cm_ob hf
            refine va_iast (pc := 55) hx hb hKa hP hD hS 5 0 rfl rfl b_55 dX1_countChalk_55 (fun H locs hP hD hS => ?_)
            have hP : va_P D vwCl [(a, .inr (1, [.ref a_thinks, .ref a_sure, .ref a_coin, .ref a_far, .ref a_chalk, .int bo_23.2.2.2.2.2.1, .int bo_23.2.2.2.2.2.2.1, .int bo_23.2.2.2.2.2.2.2.1, .int bo_23.2.2.2.2.2.2.2.2])), cm_kI cI a_thinks 8 bo_23.1, cm_kI cI a_sure 8 bo_23.2.1, cm_kI cI a_coin 8 bo_23.2.2.1, cm_kI cI a_far 4 bo_23.2.2.2.1, cm_kI cI a_chalk 7 (upd bo_23.2.2.2.2.1 (bo_23.1 v1_23.toNatClampNeg).toNatClampNeg ((bo_23.2.2.2.2.1 (bo_23.1 v1_23.toNatClampNeg).toNatClampNeg) + 1))] H := hP
            have hD : va_D A [(a, .inr (1, [.ref a_thinks, .ref a_sure, .ref a_coin, .ref a_far, .ref a_chalk, .int bo_23.2.2.2.2.2.1, .int bo_23.2.2.2.2.2.2.1, .int bo_23.2.2.2.2.2.2.2.1, .int bo_23.2.2.2.2.2.2.2.2])), cm_kI cI a_thinks 8 bo_23.1, cm_kI cI a_sure 8 bo_23.2.1, cm_kI cI a_coin 8 bo_23.2.2.1, cm_kI cI a_far 4 bo_23.2.2.2.1, cm_kI cI a_chalk 7 (upd bo_23.2.2.2.2.1 (bo_23.1 v1_23.toNatClampNeg).toNatClampNeg ((bo_23.2.2.2.2.1 (bo_23.1 v1_23.toNatClampNeg).toNatClampNeg) + 1))] := hD
            refine lv_iinc (pc := 56) (v := (v1_23 + 1)) (lv' := [(1, .int (v1_23 + 1)), (2, .int (bo_23.1 v1_23.toNatClampNeg)), (0, .ref a)]) hx hb dX1_countChalk_56 hl (k := 1) rfl rfl (by decide) rfl (fun ls hl => ?_)
            refine lv_goto (pc := 59) (tgt := 23) hx hb dX1_countChalk_59 (by decide) ?_
            exact ih (v1_23 + 1) (bo_23.1, bo_23.2.1, bo_23.2.2.1, bo_23.2.2.2.1, (upd bo_23.2.2.2.2.1 (bo_23.1 v1_23.toNatClampNeg).toNatClampNeg ((bo_23.2.2.2.2.1 (bo_23.1 v1_23.toNatClampNeg).toNatClampNeg) + 1)), bo_23.2.2.2.2.2.1, bo_23.2.2.2.2.2.2.1, bo_23.2.2.2.2.2.2.2.1, bo_23.2.2.2.2.2.2.2.2) _ _ _ hP hD hS (lv_sub hl [0, 2] rfl) hf
  refine L23 _ (fun v1_23 bo_23 H locs ls hP hD hS hl hf => ?_) 5000 0 bo_2 _ _ _ hP hD hS (lv_sub hl [0, 1] rfl) hf
  obtain rfl := Option.some.inj hf
  exact cm_vret (pc := 62) hAe hQ hx hb hr hlocks hP hD hS [0, 1, 2, 3, 4, 5] (by decide) rfl dX1_countChalk_62
def fX1_leastDay_L8 (u1 : SBO) (kx : Int32 → Int32 → Option (Int32 × SBO)) : Nat → Int32 → Int32 → Option (Int32 × SBO)
  | 0, _, _ => none
  | n + 1, v1_8, v2_8 => (if 7 ≤ v2_8 then kx v1_8 v2_8 else if v2_8 < 0 ∨ 7 ≤ v2_8.toNatClampNeg then none else if v1_8 < 0 ∨ 7 ≤ v1_8.toNatClampNeg then none else (if (u1.2.2.2.2.1 v1_8.toNatClampNeg) ≤ (u1.2.2.2.2.1 v2_8.toNatClampNeg) then fX1_leastDay_L8 u1 kx n v1_8 (v2_8 + 1) else fX1_leastDay_L8 u1 kx n v2_8 (v2_8 + 1)))
def fX1_leastDay (bo : SBO) : Option (Int32 × SBO) := Option.bind (fX1_countChalk bo) (fun u1 => fX1_leastDay_L8 u1 (fun v1_8 v2_8 => some (v1_8, u1)) 5000 0 1)
def rmX1_leastDay : Room := { frames := 1, cells := 0, slots := 0, locals := 22 }
set_option maxRecDepth 100000 in
set_option maxHeartbeats 4000000 in
theorem c_X1_leastDay (l : Launch) (D : va_G) (cI cJ cZ : ClassId) (a a_thinks a_sure a_coin a_far a_chalk : Nat) (bo : SBO) (res : Int32 × SBO) (hf : fX1_leastDay bo = some res) : Ct l yX1_leastDay (cm_ws yX1_leastDay cX1_leastDay 3 (some .int)) rmX1_leastDay D (cm_T cI cJ cZ) [.ref a] [(a, .inr (1, [.ref a_thinks, .ref a_sure, .ref a_coin, .ref a_far, .ref a_chalk, .int bo.2.2.2.2.2.1, .int bo.2.2.2.2.2.2.1, .int bo.2.2.2.2.2.2.2.1, .int bo.2.2.2.2.2.2.2.2])), cm_kI cI a_thinks 8 bo.1, cm_kI cI a_sure 8 bo.2.1, cm_kI cI a_coin 8 bo.2.2.1, cm_kI cI a_far 4 bo.2.2.2.1, cm_kI cI a_chalk 7 bo.2.2.2.2.1] (some (.int res.1)) [(a, .inr (1, [.ref a_thinks, .ref a_sure, .ref a_coin, .ref a_far, .ref a_chalk, .int res.2.2.2.2.2.2.1, .int res.2.2.2.2.2.2.2.1, .int res.2.2.2.2.2.2.2.2.1, .int res.2.2.2.2.2.2.2.2.2])), cm_kI cI a_thinks 8 res.2.1, cm_kI cI a_sure 8 res.2.2.1, cm_kI cI a_coin 8 res.2.2.2.1, cm_kI cI a_far 4 res.2.2.2.2.1, cm_kI cI a_chalk 7 res.2.2.2.2.2.1] := by
  refine Ct.of (cc := cX1_leastDay) (maxL := 3) (ret := (some .int)) (by decide) (Nat.le_of_ble_eq_true rfl) ?_
  intro p e s m below meth c ls args A Q hav hAe hQ hx hb hr hml hown hlocks hts hK hP hD hA hS hl
  have hKa := hK.1
  have hl : lv_has ls 3 [(0, .ref a)] := hl
  unfold fX1_leastDay at hf
  refine lv_aload_n (pc := 0) hx hb dX1_leastDay_0 rfl (lv_at hl 0 rfl) ?_
  obtain ⟨u1, hu1, hf⟩ := cm_bd hf
  refine cm_callV (pc := 1) (As := []) (rest := []) (wr := []) (ci := 1) (q0 := 0) (n := 0) hx hb hml hown hts hK hP hD hS hA (c_X1_countChalk l D cI cJ cZ a a_thinks a_sure a_coin a_far a_chalk bo u1 hu1) tw_439 tw_436 tw_438 tw_10 tw_46 rfl rfl (by decide +kernel) rfl ⟨Nat.le_of_ble_eq_true rfl, Nat.le_of_ble_eq_true rfl⟩ [0, 1, 2, 3, 4, 5] [] rfl (by decide) rfl (by decide) (by decide) rfl rfl rfl hl.1 rfl (Nat.le_of_ble_eq_true rfl) dX1_leastDay_1 ⟨Nat.zero_le _, Nat.zero_le _⟩ (fun H locs hP hD hS => ?_)
  have hP : va_P D vwCl [(a, .inr (1, [.ref a_thinks, .ref a_sure, .ref a_coin, .ref a_far, .ref a_chalk, .int u1.2.2.2.2.2.1, .int u1.2.2.2.2.2.2.1, .int u1.2.2.2.2.2.2.2.1, .int u1.2.2.2.2.2.2.2.2])), cm_kI cI a_thinks 8 u1.1, cm_kI cI a_sure 8 u1.2.1, cm_kI cI a_coin 8 u1.2.2.1, cm_kI cI a_far 4 u1.2.2.2.1, cm_kI cI a_chalk 7 u1.2.2.2.2.1] H := hP
  have hD : va_D A [(a, .inr (1, [.ref a_thinks, .ref a_sure, .ref a_coin, .ref a_far, .ref a_chalk, .int u1.2.2.2.2.2.1, .int u1.2.2.2.2.2.2.1, .int u1.2.2.2.2.2.2.2.1, .int u1.2.2.2.2.2.2.2.2])), cm_kI cI a_thinks 8 u1.1, cm_kI cI a_sure 8 u1.2.1, cm_kI cI a_coin 8 u1.2.2.1, cm_kI cI a_far 4 u1.2.2.2.1, cm_kI cI a_chalk 7 u1.2.2.2.2.1] := hD
  refine W.eq (g2 := F0 m 4 ls []) rfl ?_
  refine lv_iconst (pc := 4) (v := 0) hx hb dX1_leastDay_4 (by decide) ?_
  refine lv_istore_n (pc := 5) (lv' := [(1, .int 0), (0, .ref a)]) hx hb dX1_leastDay_5 rfl hl (by decide) rfl (fun ls hl => ?_)
  refine lv_iconst (pc := 6) (v := 1) hx hb dX1_leastDay_6 (by decide) ?_
  refine lv_istore_n (pc := 7) (lv' := [(2, .int 1), (1, .int 0), (0, .ref a)]) hx hb dX1_leastDay_7 rfl hl (by decide) rfl (fun ls hl => ?_)
  have L8 : ∀ (kx : Int32 → Int32 → Option (Int32 × SBO)), (∀ (v1_8 : Int32) (v2_8 : Int32) (H : Heap) (locs : List Loc) (ls : Array Slot), va_P D vwCl [(a, .inr (1, [.ref a_thinks, .ref a_sure, .ref a_coin, .ref a_far, .ref a_chalk, .int u1.2.2.2.2.2.1, .int u1.2.2.2.2.2.2.1, .int u1.2.2.2.2.2.2.2.1, .int u1.2.2.2.2.2.2.2.2])), cm_kI cI a_thinks 8 u1.1, cm_kI cI a_sure 8 u1.2.1, cm_kI cI a_coin 8 u1.2.2.1, cm_kI cI a_far 4 u1.2.2.2.1, cm_kI cI a_chalk 7 u1.2.2.2.2.1] H → va_D A [(a, .inr (1, [.ref a_thinks, .ref a_sure, .ref a_coin, .ref a_far, .ref a_chalk, .int u1.2.2.2.2.2.1, .int u1.2.2.2.2.2.2.1, .int u1.2.2.2.2.2.2.2.1, .int u1.2.2.2.2.2.2.2.2])), cm_kI cI a_thinks 8 u1.1, cm_kI cI a_sure 8 u1.2.1, cm_kI cI a_coin 8 u1.2.2.1, cm_kI cI a_far 4 u1.2.2.2.1, cm_kI cI a_chalk 7 u1.2.2.2.2.1] → va_S A s.heap H locs → lv_has ls 3 [(1, .int v1_8)] → kx v1_8 v2_8 = some res → W p l e rmX1_leastDay s m args below meth c H locs 0 0 Q (F0 m 37 ls [])) → ∀ (n : Nat) (v1_8 : Int32) (v2_8 : Int32) (H : Heap) (locs : List Loc) (ls : Array Slot), va_P D vwCl [(a, .inr (1, [.ref a_thinks, .ref a_sure, .ref a_coin, .ref a_far, .ref a_chalk, .int u1.2.2.2.2.2.1, .int u1.2.2.2.2.2.2.1, .int u1.2.2.2.2.2.2.2.1, .int u1.2.2.2.2.2.2.2.2])), cm_kI cI a_thinks 8 u1.1, cm_kI cI a_sure 8 u1.2.1, cm_kI cI a_coin 8 u1.2.2.1, cm_kI cI a_far 4 u1.2.2.2.1, cm_kI cI a_chalk 7 u1.2.2.2.2.1] H → va_D A [(a, .inr (1, [.ref a_thinks, .ref a_sure, .ref a_coin, .ref a_far, .ref a_chalk, .int u1.2.2.2.2.2.1, .int u1.2.2.2.2.2.2.1, .int u1.2.2.2.2.2.2.2.1, .int u1.2.2.2.2.2.2.2.2])), cm_kI cI a_thinks 8 u1.1, cm_kI cI a_sure 8 u1.2.1, cm_kI cI a_coin 8 u1.2.2.1, cm_kI cI a_far 4 u1.2.2.2.1, cm_kI cI a_chalk 7 u1.2.2.2.2.1] → va_S A s.heap H locs → lv_has ls 3 [(2, .int v2_8), (1, .int v1_8), (0, .ref a)] → fX1_leastDay_L8 u1 kx n v1_8 v2_8 = some res → W p l e rmX1_leastDay s m args below meth c H locs 0 0 Q (F0 m 8 ls []) := by
    intro kx hkx n
    induction n with
    | zero => intro v1_8 v2_8 H locs ls hP hD hS hl hf; cases hf
    | succ n ih =>
      intro v1_8 v2_8 H locs ls hP hD hS hl hf
      rw [fX1_leastDay_L8] at hf
      refine lv_iload_n (pc := 8) hx hb dX1_leastDay_8 rfl (lv_at hl 0 rfl) ?_
      refine lv_bipush (pc := 9) (v := 7) hx hb dX1_leastDay_9 (by decide) ?_
      refine lv_icmp_ge (pc := 11) (tgt := 37) hx hb dX1_leastDay_11 (by decide) (fun c_11 => ?_) (fun c_11 => ?_)
      · have hf := cm_ip c_11 hf
        exact hkx v1_8 v2_8 _ _ _ hP hD hS (lv_sub hl [1] rfl) hf
      · have hf := cm_in c_11 hf
        refine lv_aload_n (pc := 14) hx hb dX1_leastDay_14 rfl (lv_at hl 2 rfl) ?_
        refine va_get (pc := 15) (D := D) (ci := 1) (v := .ref a_chalk) (C := RX1) (T := TX1) (N := 9) hx hb hts in_X1 hown hKa hP 0 rfl rfl 4 (by decide) (hts _ tw_80) (fun _ h9 => h9) rfl dX1_leastDay_15 ?_
        refine lv_iload_n (pc := 18) hx hb dX1_leastDay_18 rfl (lv_at hl 0 rfl) ?_
        obtain ⟨b_19, hf⟩ := cm_ob hf
        refine va_iald (pc := 19) hx hb hKa hP 5 0 rfl rfl b_19 dX1_leastDay_19 ?_
        refine lv_aload_n (pc := 20) hx hb dX1_leastDay_20 rfl (lv_at hl 2 rfl) ?_
        refine va_get (pc := 21) (D := D) (ci := 1) (v := .ref a_chalk) (C := RX1) (T := TX1) (N := 9) hx hb hts in_X1 hown hKa hP 0 rfl rfl 4 (by decide) (hts _ tw_80) (fun _ h9 => h9) rfl dX1_leastDay_21 ?_
        refine lv_iload_n (pc := 24) hx hb dX1_leastDay_24 rfl (lv_at hl 1 rfl) ?_
        obtain ⟨b_25, hf⟩ := cm_ob hf
        refine va_iald (pc := 25) hx hb hKa hP 5 0 rfl rfl b_25 dX1_leastDay_25 ?_
        refine lv_icmp_ge (pc := 26) (tgt := 31) hx hb dX1_leastDay_26 (by decide) (fun c_26 => ?_) (fun c_26 => ?_)
        · have hf := cm_ip c_26 hf
          refine lv_iinc (pc := 31) (v := (v2_8 + 1)) (lv' := [(2, .int (v2_8 + 1)), (1, .int v1_8), (0, .ref a)]) hx hb dX1_leastDay_31 hl (k := 0) rfl rfl (by decide) rfl (fun ls hl => ?_)
          refine lv_goto (pc := 34) (tgt := 8) hx hb dX1_leastDay_34 (by decide) ?_
          exact ih v1_8 (v2_8 + 1) _ _ _ hP hD hS (lv_sub hl [0, 1, 2] rfl) hf
        · have hf := cm_in c_26 hf
          refine lv_iload_n (pc := 29) hx hb dX1_leastDay_29 rfl (lv_at hl 0 rfl) ?_
          refine lv_istore_n (pc := 30) (lv' := [(1, .int v2_8), (2, .int v2_8), (0, .ref a)]) hx hb dX1_leastDay_30 rfl hl (by decide) rfl (fun ls hl => ?_)
          refine lv_iinc (pc := 31) (v := (v2_8 + 1)) (lv' := [(2, .int (v2_8 + 1)), (1, .int v2_8), (0, .ref a)]) hx hb dX1_leastDay_31 hl (k := 1) rfl rfl (by decide) rfl (fun ls hl => ?_)
          refine lv_goto (pc := 34) (tgt := 8) hx hb dX1_leastDay_34 (by decide) ?_
          exact ih v2_8 (v2_8 + 1) _ _ _ hP hD hS (lv_sub hl [0, 1, 2] rfl) hf
  refine L8 _ (fun v1_8 v2_8 H locs ls hP hD hS hl hf => ?_) 5000 0 1 _ _ _ hP hD hS (lv_sub hl [0, 1, 2] rfl) hf
  refine lv_iload_n (pc := 37) hx hb dX1_leastDay_37 rfl (lv_at hl 0 rfl) ?_
  obtain rfl := Option.some.inj hf
  exact cm_iret (pc := 38) hAe hQ hx hb hr hlocks hP hD hS [0, 1, 2, 3, 4, 5] (by decide) rfl dX1_leastDay_38
def fX1_holdMarket_L12 (kx : Int32 → SBO → Option (SBO)) : Nat → Int32 → SBO → Option (SBO)
  | 0, _, _ => none
  | n + 1, v1_12, bo_12 => (if 4 ≤ v1_12 then kx v1_12 bo_12 else if v1_12 < 0 ∨ 4 ≤ v1_12.toNatClampNeg then none else (if (bo_12.2.2.2.1 v1_12.toNatClampNeg) = 0 then if v1_12 < 0 ∨ 4 ≤ v1_12.toNatClampNeg then none else fX1_holdMarket_L12 kx n (v1_12 + 1) (bo_12.1, bo_12.2.1, bo_12.2.2.1, (upd bo_12.2.2.2.1 v1_12.toNatClampNeg 9), bo_12.2.2.2.2.1, bo_12.2.2.2.2.2.1, bo_12.2.2.2.2.2.2.1, (bo_12.2.2.2.2.2.2.2.1 + 1), bo_12.2.2.2.2.2.2.2.2) else fX1_holdMarket_L12 kx n (v1_12 + 1) bo_12))
def fX1_holdMarket_L52 (kx : Int32 → SBO → Option (SBO)) : Nat → Int32 → SBO → Option (SBO)
  | 0, _, _ => none
  | n + 1, v1_52, bo_52 => (if 8 ≤ v1_52 then kx v1_52 bo_52 else if v1_52 < 0 ∨ 8 ≤ v1_52.toNatClampNeg then none else (if (bo_52.1 v1_52.toNatClampNeg) = bo_52.2.2.2.2.2.1 then if v1_52 < 0 ∨ 8 ≤ v1_52.toNatClampNeg then none else fX1_holdMarket_L52 kx n (v1_52 + 1) (bo_52.1, (upd bo_52.2.1 v1_52.toNatClampNeg 0), bo_52.2.2.1, bo_52.2.2.2.1, bo_52.2.2.2.2.1, bo_52.2.2.2.2.2.1, bo_52.2.2.2.2.2.2.1, bo_52.2.2.2.2.2.2.2.1, bo_52.2.2.2.2.2.2.2.2) else if v1_52 < 0 ∨ 8 ≤ v1_52.toNatClampNeg then none else if v1_52 < 0 ∨ 8 ≤ v1_52.toNatClampNeg then none else fX1_holdMarket_L52 kx n (v1_52 + 1) (bo_52.1, (upd bo_52.2.1 v1_52.toNatClampNeg (if ((bo_52.2.1 v1_52.toNatClampNeg) + 1) < 9 then ((bo_52.2.1 v1_52.toNatClampNeg) + 1) else 9)), bo_52.2.2.1, bo_52.2.2.2.1, bo_52.2.2.2.2.1, bo_52.2.2.2.2.2.1, bo_52.2.2.2.2.2.2.1, bo_52.2.2.2.2.2.2.2.1, bo_52.2.2.2.2.2.2.2.2)))
def fX1_holdMarket (bo : SBO) : Option (SBO) := fX1_holdMarket_L12 (fun v1_12 bo_12 => fX1_holdMarket_L52 (fun v1_52 bo_52 => some bo_52) 5000 0 bo_12) 5000 0 (bo.1, bo.2.1, bo.2.2.1, bo.2.2.2.1, bo.2.2.2.2.1, bo.2.2.2.2.2.1, bo.2.2.2.2.2.2.1, bo.2.2.2.2.2.2.2.1, (bo.2.2.2.2.2.2.2.2 + 1))
def rmX1_holdMarket : Room := { frames := 1, cells := 0, slots := 0, locals := 21 }
set_option maxRecDepth 100000 in
set_option maxHeartbeats 4000000 in
theorem c_X1_holdMarket (l : Launch) (D : va_G) (cI cJ cZ : ClassId) (a a_thinks a_sure a_coin a_far a_chalk : Nat) (bo : SBO) (res : SBO) (hf : fX1_holdMarket bo = some res) : Ct l yX1_holdMarket (cm_ws yX1_holdMarket cX1_holdMarket 2 none) rmX1_holdMarket D (cm_T cI cJ cZ) [.ref a] [(a, .inr (1, [.ref a_thinks, .ref a_sure, .ref a_coin, .ref a_far, .ref a_chalk, .int bo.2.2.2.2.2.1, .int bo.2.2.2.2.2.2.1, .int bo.2.2.2.2.2.2.2.1, .int bo.2.2.2.2.2.2.2.2])), cm_kI cI a_thinks 8 bo.1, cm_kI cI a_sure 8 bo.2.1, cm_kI cI a_coin 8 bo.2.2.1, cm_kI cI a_far 4 bo.2.2.2.1, cm_kI cI a_chalk 7 bo.2.2.2.2.1] none [(a, .inr (1, [.ref a_thinks, .ref a_sure, .ref a_coin, .ref a_far, .ref a_chalk, .int res.2.2.2.2.2.1, .int res.2.2.2.2.2.2.1, .int res.2.2.2.2.2.2.2.1, .int res.2.2.2.2.2.2.2.2])), cm_kI cI a_thinks 8 res.1, cm_kI cI a_sure 8 res.2.1, cm_kI cI a_coin 8 res.2.2.1, cm_kI cI a_far 4 res.2.2.2.1, cm_kI cI a_chalk 7 res.2.2.2.2.1] := by
  refine Ct.of (cc := cX1_holdMarket) (maxL := 2) (ret := none) (by decide) (Nat.le_of_ble_eq_true rfl) ?_
  intro p e s m below meth c ls args A Q hav hAe hQ hx hb hr hml hown hlocks hts hK hP hD hA hS hl
  have hKa := hK.1
  have hl : lv_has ls 2 [(0, .ref a)] := hl
  unfold fX1_holdMarket at hf
  refine lv_aload_n (pc := 0) hx hb dX1_holdMarket_0 rfl (lv_at hl 0 rfl) ?_
  refine lv_dup (pc := 1) hx hb dX1_holdMarket_1 rfl ?_
  refine va_get (pc := 2) (D := D) (ci := 1) (v := .int bo.2.2.2.2.2.2.2.2) (C := RX1) (T := TX1) (N := 9) hx hb hts in_X1 hown hKa hP 0 rfl rfl 8 (by decide) (hts _ tw_87) (fun _ h9 => h9) rfl dX1_holdMarket_2 ?_
  refine lv_iconst (pc := 5) (v := 1) hx hb dX1_holdMarket_5 (by decide) ?_
  refine lv_iadd (pc := 6) hx hb dX1_holdMarket_6 ?_
  refine va_put (pc := 7) (D := D) (ci := 1) (v := .int (bo.2.2.2.2.2.2.2.2 + 1)) (ty := .int) (C := RX1) (T := TX1) (N := 9) hx hb hts in_X1 tyX1 tyX1_ok nmX1 hown hKa hP hD hS 0 rfl rfl 8 (by decide) (hts _ tw_87) (fun _ h9 => h9) rfl (by decide +kernel) rfl rfl (Nat.le_of_ble_eq_true rfl) dX1_holdMarket_7 (fun H locs hP hD hS => ?_)
  have hP : va_P D vwCl [(a, .inr (1, [.ref a_thinks, .ref a_sure, .ref a_coin, .ref a_far, .ref a_chalk, .int bo.2.2.2.2.2.1, .int bo.2.2.2.2.2.2.1, .int bo.2.2.2.2.2.2.2.1, .int (bo.2.2.2.2.2.2.2.2 + 1)])), cm_kI cI a_thinks 8 bo.1, cm_kI cI a_sure 8 bo.2.1, cm_kI cI a_coin 8 bo.2.2.1, cm_kI cI a_far 4 bo.2.2.2.1, cm_kI cI a_chalk 7 bo.2.2.2.2.1] H := hP
  have hD : va_D A [(a, .inr (1, [.ref a_thinks, .ref a_sure, .ref a_coin, .ref a_far, .ref a_chalk, .int bo.2.2.2.2.2.1, .int bo.2.2.2.2.2.2.1, .int bo.2.2.2.2.2.2.2.1, .int (bo.2.2.2.2.2.2.2.2 + 1)])), cm_kI cI a_thinks 8 bo.1, cm_kI cI a_sure 8 bo.2.1, cm_kI cI a_coin 8 bo.2.2.1, cm_kI cI a_far 4 bo.2.2.2.1, cm_kI cI a_chalk 7 bo.2.2.2.2.1] := hD
  refine lv_iconst (pc := 10) (v := 0) hx hb dX1_holdMarket_10 (by decide) ?_
  refine lv_istore_n (pc := 11) (lv' := [(1, .int 0), (0, .ref a)]) hx hb dX1_holdMarket_11 rfl hl (by decide) rfl (fun ls hl => ?_)
  have L12 : ∀ (kx : Int32 → SBO → Option (SBO)), (∀ (v1_12 : Int32) (bo_12 : SBO) (H : Heap) (locs : List Loc) (ls : Array Slot), va_P D vwCl [(a, .inr (1, [.ref a_thinks, .ref a_sure, .ref a_coin, .ref a_far, .ref a_chalk, .int bo_12.2.2.2.2.2.1, .int bo_12.2.2.2.2.2.2.1, .int bo_12.2.2.2.2.2.2.2.1, .int bo_12.2.2.2.2.2.2.2.2])), cm_kI cI a_thinks 8 bo_12.1, cm_kI cI a_sure 8 bo_12.2.1, cm_kI cI a_coin 8 bo_12.2.2.1, cm_kI cI a_far 4 bo_12.2.2.2.1, cm_kI cI a_chalk 7 bo_12.2.2.2.2.1] H → va_D A [(a, .inr (1, [.ref a_thinks, .ref a_sure, .ref a_coin, .ref a_far, .ref a_chalk, .int bo_12.2.2.2.2.2.1, .int bo_12.2.2.2.2.2.2.1, .int bo_12.2.2.2.2.2.2.2.1, .int bo_12.2.2.2.2.2.2.2.2])), cm_kI cI a_thinks 8 bo_12.1, cm_kI cI a_sure 8 bo_12.2.1, cm_kI cI a_coin 8 bo_12.2.2.1, cm_kI cI a_far 4 bo_12.2.2.2.1, cm_kI cI a_chalk 7 bo_12.2.2.2.2.1] → va_S A s.heap H locs → lv_has ls 2 [(0, .ref a)] → kx v1_12 bo_12 = some res → W p l e rmX1_holdMarket s m args below meth c H locs 0 0 Q (F0 m 50 ls [])) → ∀ (n : Nat) (v1_12 : Int32) (bo_12 : SBO) (H : Heap) (locs : List Loc) (ls : Array Slot), va_P D vwCl [(a, .inr (1, [.ref a_thinks, .ref a_sure, .ref a_coin, .ref a_far, .ref a_chalk, .int bo_12.2.2.2.2.2.1, .int bo_12.2.2.2.2.2.2.1, .int bo_12.2.2.2.2.2.2.2.1, .int bo_12.2.2.2.2.2.2.2.2])), cm_kI cI a_thinks 8 bo_12.1, cm_kI cI a_sure 8 bo_12.2.1, cm_kI cI a_coin 8 bo_12.2.2.1, cm_kI cI a_far 4 bo_12.2.2.2.1, cm_kI cI a_chalk 7 bo_12.2.2.2.2.1] H → va_D A [(a, .inr (1, [.ref a_thinks, .ref a_sure, .ref a_coin, .ref a_far, .ref a_chalk, .int bo_12.2.2.2.2.2.1, .int bo_12.2.2.2.2.2.2.1, .int bo_12.2.2.2.2.2.2.2.1, .int bo_12.2.2.2.2.2.2.2.2])), cm_kI cI a_thinks 8 bo_12.1, cm_kI cI a_sure 8 bo_12.2.1, cm_kI cI a_coin 8 bo_12.2.2.1, cm_kI cI a_far 4 bo_12.2.2.2.1, cm_kI cI a_chalk 7 bo_12.2.2.2.2.1] → va_S A s.heap H locs → lv_has ls 2 [(1, .int v1_12), (0, .ref a)] → fX1_holdMarket_L12 kx n v1_12 bo_12 = some res → W p l e rmX1_holdMarket s m args below meth c H locs 0 0 Q (F0 m 12 ls []) := by
    intro kx hkx n
    induction n with
    | zero => intro v1_12 bo_12 H locs ls hP hD hS hl hf; cases hf
    | succ n ih =>
      intro v1_12 bo_12 H locs ls hP hD hS hl hf
      rw [fX1_holdMarket_L12] at hf
      refine lv_iload_n (pc := 12) hx hb dX1_holdMarket_12 rfl (lv_at hl 0 rfl) ?_
      refine lv_iconst (pc := 13) (v := 4) hx hb dX1_holdMarket_13 (by decide) ?_
      refine lv_icmp_ge (pc := 14) (tgt := 50) hx hb dX1_holdMarket_14 (by decide) (fun c_14 => ?_) (fun c_14 => ?_)
      · have hf := cm_ip c_14 hf
        exact hkx v1_12 bo_12 _ _ _ hP hD hS (lv_sub hl [1] rfl) hf
      · have hf := cm_in c_14 hf
        refine lv_aload_n (pc := 17) hx hb dX1_holdMarket_17 rfl (lv_at hl 1 rfl) ?_
        refine va_get (pc := 18) (D := D) (ci := 1) (v := .ref a_far) (C := RX1) (T := TX1) (N := 9) hx hb hts in_X1 hown hKa hP 0 rfl rfl 3 (by decide) (hts _ tw_78) (fun _ h9 => h9) rfl dX1_holdMarket_18 ?_
        refine lv_iload_n (pc := 21) hx hb dX1_holdMarket_21 rfl (lv_at hl 0 rfl) ?_
        obtain ⟨b_22, hf⟩ := cm_ob hf
        refine va_iald (pc := 22) hx hb hKa hP 4 0 rfl rfl b_22 dX1_holdMarket_22 ?_
        refine lv_if_ne (pc := 23) (tgt := 44) hx hb dX1_holdMarket_23 (by decide) (fun c_23 => ?_) (fun c_23 => ?_)
        · have hf := cm_in c_23 hf
          refine lv_iinc (pc := 44) (v := (v1_12 + 1)) (lv' := [(1, .int (v1_12 + 1)), (0, .ref a)]) hx hb dX1_holdMarket_44 hl (k := 0) rfl rfl (by decide) rfl (fun ls hl => ?_)
          refine lv_goto (pc := 47) (tgt := 12) hx hb dX1_holdMarket_47 (by decide) ?_
          exact ih (v1_12 + 1) bo_12 _ _ _ hP hD hS (lv_sub hl [0, 1] rfl) hf
        · have hf := cm_ip c_23 hf
          refine lv_aload_n (pc := 26) hx hb dX1_holdMarket_26 rfl (lv_at hl 1 rfl) ?_
          refine lv_dup (pc := 27) hx hb dX1_holdMarket_27 rfl ?_
          refine va_get (pc := 28) (D := D) (ci := 1) (v := .int bo_12.2.2.2.2.2.2.2.1) (C := RX1) (T := TX1) (N := 9) hx hb hts in_X1 hown hKa hP 0 rfl rfl 7 (by decide) (hts _ tw_85) (fun _ h9 => h9) rfl dX1_holdMarket_28 ?_
          refine lv_iconst (pc := 31) (v := 1) hx hb dX1_holdMarket_31 (by decide) ?_
          refine lv_iadd (pc := 32) hx hb dX1_holdMarket_32 ?_
          refine va_put (pc := 33) (D := D) (ci := 1) (v := .int (bo_12.2.2.2.2.2.2.2.1 + 1)) (ty := .int) (C := RX1) (T := TX1) (N := 9) hx hb hts in_X1 tyX1 tyX1_ok nmX1 hown hKa hP hD hS 0 rfl rfl 7 (by decide) (hts _ tw_85) (fun _ h9 => h9) rfl (by decide +kernel) rfl rfl (Nat.le_of_ble_eq_true rfl) dX1_holdMarket_33 (fun H locs hP hD hS => ?_)
          have hP : va_P D vwCl [(a, .inr (1, [.ref a_thinks, .ref a_sure, .ref a_coin, .ref a_far, .ref a_chalk, .int bo_12.2.2.2.2.2.1, .int bo_12.2.2.2.2.2.2.1, .int (bo_12.2.2.2.2.2.2.2.1 + 1), .int bo_12.2.2.2.2.2.2.2.2])), cm_kI cI a_thinks 8 bo_12.1, cm_kI cI a_sure 8 bo_12.2.1, cm_kI cI a_coin 8 bo_12.2.2.1, cm_kI cI a_far 4 bo_12.2.2.2.1, cm_kI cI a_chalk 7 bo_12.2.2.2.2.1] H := hP
          have hD : va_D A [(a, .inr (1, [.ref a_thinks, .ref a_sure, .ref a_coin, .ref a_far, .ref a_chalk, .int bo_12.2.2.2.2.2.1, .int bo_12.2.2.2.2.2.2.1, .int (bo_12.2.2.2.2.2.2.2.1 + 1), .int bo_12.2.2.2.2.2.2.2.2])), cm_kI cI a_thinks 8 bo_12.1, cm_kI cI a_sure 8 bo_12.2.1, cm_kI cI a_coin 8 bo_12.2.2.1, cm_kI cI a_far 4 bo_12.2.2.2.1, cm_kI cI a_chalk 7 bo_12.2.2.2.2.1] := hD
          refine lv_aload_n (pc := 36) hx hb dX1_holdMarket_36 rfl (lv_at hl 1 rfl) ?_
          refine va_get (pc := 37) (D := D) (ci := 1) (v := .ref a_far) (C := RX1) (T := TX1) (N := 9) hx hb hts in_X1 hown hKa hP 0 rfl rfl 3 (by decide) (hts _ tw_78) (fun _ h9 => h9) rfl dX1_holdMarket_37 ?_
          refine lv_iload_n (pc := 40) hx hb dX1_holdMarket_40 rfl (lv_at hl 0 rfl) ?_
          refine lv_bipush (pc := 41) (v := 9) hx hb dX1_holdMarket_41 (by decide) ?_
          obtain ⟨b_43, hf⟩ := cm_ob hf
          refine va_iast (pc := 43) hx hb hKa hP hD hS 4 0 rfl rfl b_43 dX1_holdMarket_43 (fun H locs hP hD hS => ?_)
          have hP : va_P D vwCl [(a, .inr (1, [.ref a_thinks, .ref a_sure, .ref a_coin, .ref a_far, .ref a_chalk, .int bo_12.2.2.2.2.2.1, .int bo_12.2.2.2.2.2.2.1, .int (bo_12.2.2.2.2.2.2.2.1 + 1), .int bo_12.2.2.2.2.2.2.2.2])), cm_kI cI a_thinks 8 bo_12.1, cm_kI cI a_sure 8 bo_12.2.1, cm_kI cI a_coin 8 bo_12.2.2.1, cm_kI cI a_far 4 (upd bo_12.2.2.2.1 v1_12.toNatClampNeg 9), cm_kI cI a_chalk 7 bo_12.2.2.2.2.1] H := hP
          have hD : va_D A [(a, .inr (1, [.ref a_thinks, .ref a_sure, .ref a_coin, .ref a_far, .ref a_chalk, .int bo_12.2.2.2.2.2.1, .int bo_12.2.2.2.2.2.2.1, .int (bo_12.2.2.2.2.2.2.2.1 + 1), .int bo_12.2.2.2.2.2.2.2.2])), cm_kI cI a_thinks 8 bo_12.1, cm_kI cI a_sure 8 bo_12.2.1, cm_kI cI a_coin 8 bo_12.2.2.1, cm_kI cI a_far 4 (upd bo_12.2.2.2.1 v1_12.toNatClampNeg 9), cm_kI cI a_chalk 7 bo_12.2.2.2.2.1] := hD
          refine lv_iinc (pc := 44) (v := (v1_12 + 1)) (lv' := [(1, .int (v1_12 + 1)), (0, .ref a)]) hx hb dX1_holdMarket_44 hl (k := 0) rfl rfl (by decide) rfl (fun ls hl => ?_)
          refine lv_goto (pc := 47) (tgt := 12) hx hb dX1_holdMarket_47 (by decide) ?_
          exact ih (v1_12 + 1) (bo_12.1, bo_12.2.1, bo_12.2.2.1, (upd bo_12.2.2.2.1 v1_12.toNatClampNeg 9), bo_12.2.2.2.2.1, bo_12.2.2.2.2.2.1, bo_12.2.2.2.2.2.2.1, (bo_12.2.2.2.2.2.2.2.1 + 1), bo_12.2.2.2.2.2.2.2.2) _ _ _ hP hD hS (lv_sub hl [0, 1] rfl) hf
  refine L12 _ (fun v1_12 bo_12 H locs ls hP hD hS hl hf => ?_) 5000 0 (bo.1, bo.2.1, bo.2.2.1, bo.2.2.2.1, bo.2.2.2.2.1, bo.2.2.2.2.2.1, bo.2.2.2.2.2.2.1, bo.2.2.2.2.2.2.2.1, (bo.2.2.2.2.2.2.2.2 + 1)) _ _ _ hP hD hS (lv_sub hl [0, 1] rfl) hf
  refine lv_iconst (pc := 50) (v := 0) hx hb dX1_holdMarket_50 (by decide) ?_
  refine lv_istore_n (pc := 51) (lv' := [(1, .int 0), (0, .ref a)]) hx hb dX1_holdMarket_51 rfl hl (by decide) rfl (fun ls hl => ?_)
  have L52 : ∀ (kx : Int32 → SBO → Option (SBO)), (∀ (v1_52 : Int32) (bo_52 : SBO) (H : Heap) (locs : List Loc) (ls : Array Slot), va_P D vwCl [(a, .inr (1, [.ref a_thinks, .ref a_sure, .ref a_coin, .ref a_far, .ref a_chalk, .int bo_52.2.2.2.2.2.1, .int bo_52.2.2.2.2.2.2.1, .int bo_52.2.2.2.2.2.2.2.1, .int bo_52.2.2.2.2.2.2.2.2])), cm_kI cI a_thinks 8 bo_52.1, cm_kI cI a_sure 8 bo_52.2.1, cm_kI cI a_coin 8 bo_52.2.2.1, cm_kI cI a_far 4 bo_52.2.2.2.1, cm_kI cI a_chalk 7 bo_52.2.2.2.2.1] H → va_D A [(a, .inr (1, [.ref a_thinks, .ref a_sure, .ref a_coin, .ref a_far, .ref a_chalk, .int bo_52.2.2.2.2.2.1, .int bo_52.2.2.2.2.2.2.1, .int bo_52.2.2.2.2.2.2.2.1, .int bo_52.2.2.2.2.2.2.2.2])), cm_kI cI a_thinks 8 bo_52.1, cm_kI cI a_sure 8 bo_52.2.1, cm_kI cI a_coin 8 bo_52.2.2.1, cm_kI cI a_far 4 bo_52.2.2.2.1, cm_kI cI a_chalk 7 bo_52.2.2.2.2.1] → va_S A s.heap H locs → lv_has ls 2 [] → kx v1_52 bo_52 = some res → W p l e rmX1_holdMarket s m args below meth c H locs 0 0 Q (F0 m 100 ls [])) → ∀ (n : Nat) (v1_52 : Int32) (bo_52 : SBO) (H : Heap) (locs : List Loc) (ls : Array Slot), va_P D vwCl [(a, .inr (1, [.ref a_thinks, .ref a_sure, .ref a_coin, .ref a_far, .ref a_chalk, .int bo_52.2.2.2.2.2.1, .int bo_52.2.2.2.2.2.2.1, .int bo_52.2.2.2.2.2.2.2.1, .int bo_52.2.2.2.2.2.2.2.2])), cm_kI cI a_thinks 8 bo_52.1, cm_kI cI a_sure 8 bo_52.2.1, cm_kI cI a_coin 8 bo_52.2.2.1, cm_kI cI a_far 4 bo_52.2.2.2.1, cm_kI cI a_chalk 7 bo_52.2.2.2.2.1] H → va_D A [(a, .inr (1, [.ref a_thinks, .ref a_sure, .ref a_coin, .ref a_far, .ref a_chalk, .int bo_52.2.2.2.2.2.1, .int bo_52.2.2.2.2.2.2.1, .int bo_52.2.2.2.2.2.2.2.1, .int bo_52.2.2.2.2.2.2.2.2])), cm_kI cI a_thinks 8 bo_52.1, cm_kI cI a_sure 8 bo_52.2.1, cm_kI cI a_coin 8 bo_52.2.2.1, cm_kI cI a_far 4 bo_52.2.2.2.1, cm_kI cI a_chalk 7 bo_52.2.2.2.2.1] → va_S A s.heap H locs → lv_has ls 2 [(1, .int v1_52), (0, .ref a)] → fX1_holdMarket_L52 kx n v1_52 bo_52 = some res → W p l e rmX1_holdMarket s m args below meth c H locs 0 0 Q (F0 m 52 ls []) := by
    intro kx hkx n
    induction n with
    | zero => intro v1_52 bo_52 H locs ls hP hD hS hl hf; cases hf
    | succ n ih =>
      intro v1_52 bo_52 H locs ls hP hD hS hl hf
      rw [fX1_holdMarket_L52] at hf
      refine lv_iload_n (pc := 52) hx hb dX1_holdMarket_52 rfl (lv_at hl 0 rfl) ?_
      refine lv_bipush (pc := 53) (v := 8) hx hb dX1_holdMarket_53 (by decide) ?_
      refine lv_icmp_ge (pc := 55) (tgt := 100) hx hb dX1_holdMarket_55 (by decide) (fun c_55 => ?_) (fun c_55 => ?_)
      · have hf := cm_ip c_55 hf
        exact hkx v1_52 bo_52 _ _ _ hP hD hS (lv_sub hl [] rfl) hf
      · have hf := cm_in c_55 hf
        refine lv_aload_n (pc := 58) hx hb dX1_holdMarket_58 rfl (lv_at hl 1 rfl) ?_
        refine va_get (pc := 59) (D := D) (ci := 1) (v := .ref a_sure) (C := RX1) (T := TX1) (N := 9) hx hb hts in_X1 hown hKa hP 0 rfl rfl 1 (by decide) (hts _ tw_74) (fun _ h9 => h9) rfl dX1_holdMarket_59 ?_
        refine lv_iload_n (pc := 62) hx hb dX1_holdMarket_62 rfl (lv_at hl 0 rfl) ?_
        refine lv_aload_n (pc := 63) hx hb dX1_holdMarket_63 rfl (lv_at hl 1 rfl) ?_
        refine va_get (pc := 64) (D := D) (ci := 1) (v := .ref a_thinks) (C := RX1) (T := TX1) (N := 9) hx hb hts in_X1 hown hKa hP 0 rfl rfl 0 (by decide) (hts _ tw_72) (fun _ h9 => h9) rfl dX1_holdMarket_64 ?_
        refine lv_iload_n (pc := 67) hx hb dX1_holdMarket_67 rfl (lv_at hl 0 rfl) ?_
        obtain ⟨b_68, hf⟩ := cm_ob hf
        refine va_iald (pc := 68) hx hb hKa hP 1 0 rfl rfl b_68 dX1_holdMarket_68 ?_
        refine lv_aload_n (pc := 69) hx hb dX1_holdMarket_69 rfl (lv_at hl 1 rfl) ?_
        refine va_get (pc := 70) (D := D) (ci := 1) (v := .int bo_52.2.2.2.2.2.1) (C := RX1) (T := TX1) (N := 9) hx hb hts in_X1 hown hKa hP 0 rfl rfl 5 (by decide) (hts _ tw_81) (fun _ h9 => h9) rfl dX1_holdMarket_70 ?_
        refine lv_icmp_ne (pc := 73) (tgt := 80) hx hb dX1_holdMarket_73 (by decide) (fun c_73 => ?_) (fun c_73 => ?_)
        · have hf := cm_in c_73 hf
          refine lv_bipush (pc := 80) (v := 9) hx hb dX1_holdMarket_80 (by decide) ?_
          refine lv_aload_n (pc := 82) hx hb dX1_holdMarket_82 rfl (lv_at hl 1 rfl) ?_
          refine va_get (pc := 83) (D := D) (ci := 1) (v := .ref a_sure) (C := RX1) (T := TX1) (N := 9) hx hb hts in_X1 hown hKa hP 0 rfl rfl 1 (by decide) (hts _ tw_74) (fun _ h9 => h9) rfl dX1_holdMarket_83 ?_
          refine lv_iload_n (pc := 86) hx hb dX1_holdMarket_86 rfl (lv_at hl 0 rfl) ?_
          obtain ⟨b_87, hf⟩ := cm_ob hf
          refine va_iald (pc := 87) hx hb hKa hP 2 0 rfl rfl b_87 dX1_holdMarket_87 ?_
          refine lv_iconst (pc := 88) (v := 1) hx hb dX1_holdMarket_88 (by decide) ?_
          refine lv_iadd (pc := 89) hx hb dX1_holdMarket_89 ?_
          refine va_mmin (pc := 90) hx hb (hml.trans hl.1.symm) hown (hts _ tw_444) (hts _ tw_445) (hts _ tw_57) (hts _ tw_446) (Nat.le_of_ble_eq_true rfl) (Nat.le_of_ble_eq_true rfl) (Nat.zero_le _) (Nat.zero_le _) dX1_holdMarket_90 ?_
          obtain ⟨b_93, hf⟩ := cm_ob hf
          refine va_iast (pc := 93) hx hb hKa hP hD hS 2 0 rfl rfl b_93 dX1_holdMarket_93 (fun H locs hP hD hS => ?_)
          have hP : va_P D vwCl [(a, .inr (1, [.ref a_thinks, .ref a_sure, .ref a_coin, .ref a_far, .ref a_chalk, .int bo_52.2.2.2.2.2.1, .int bo_52.2.2.2.2.2.2.1, .int bo_52.2.2.2.2.2.2.2.1, .int bo_52.2.2.2.2.2.2.2.2])), cm_kI cI a_thinks 8 bo_52.1, cm_kI cI a_sure 8 (upd bo_52.2.1 v1_52.toNatClampNeg (if ((bo_52.2.1 v1_52.toNatClampNeg) + 1) < 9 then ((bo_52.2.1 v1_52.toNatClampNeg) + 1) else 9)), cm_kI cI a_coin 8 bo_52.2.2.1, cm_kI cI a_far 4 bo_52.2.2.2.1, cm_kI cI a_chalk 7 bo_52.2.2.2.2.1] H := hP
          have hD : va_D A [(a, .inr (1, [.ref a_thinks, .ref a_sure, .ref a_coin, .ref a_far, .ref a_chalk, .int bo_52.2.2.2.2.2.1, .int bo_52.2.2.2.2.2.2.1, .int bo_52.2.2.2.2.2.2.2.1, .int bo_52.2.2.2.2.2.2.2.2])), cm_kI cI a_thinks 8 bo_52.1, cm_kI cI a_sure 8 (upd bo_52.2.1 v1_52.toNatClampNeg (if ((bo_52.2.1 v1_52.toNatClampNeg) + 1) < 9 then ((bo_52.2.1 v1_52.toNatClampNeg) + 1) else 9)), cm_kI cI a_coin 8 bo_52.2.2.1, cm_kI cI a_far 4 bo_52.2.2.2.1, cm_kI cI a_chalk 7 bo_52.2.2.2.2.1] := hD
          refine lv_iinc (pc := 94) (v := (v1_52 + 1)) (lv' := [(1, .int (v1_52 + 1)), (0, .ref a)]) hx hb dX1_holdMarket_94 hl (k := 0) rfl rfl (by decide) rfl (fun ls hl => ?_)
          refine lv_goto (pc := 97) (tgt := 52) hx hb dX1_holdMarket_97 (by decide) ?_
          exact ih (v1_52 + 1) (bo_52.1, (upd bo_52.2.1 v1_52.toNatClampNeg (if ((bo_52.2.1 v1_52.toNatClampNeg) + 1) < 9 then ((bo_52.2.1 v1_52.toNatClampNeg) + 1) else 9)), bo_52.2.2.1, bo_52.2.2.2.1, bo_52.2.2.2.2.1, bo_52.2.2.2.2.2.1, bo_52.2.2.2.2.2.2.1, bo_52.2.2.2.2.2.2.2.1, bo_52.2.2.2.2.2.2.2.2) _ _ _ hP hD hS (lv_sub hl [0, 1] rfl) hf
        · have hf := cm_ip c_73 hf
          refine lv_iconst (pc := 76) (v := 0) hx hb dX1_holdMarket_76 (by decide) ?_
          refine lv_goto (pc := 77) (tgt := 93) hx hb dX1_holdMarket_77 (by decide) ?_
          obtain ⟨b_93, hf⟩ := cm_ob hf
          refine va_iast (pc := 93) hx hb hKa hP hD hS 2 0 rfl rfl b_93 dX1_holdMarket_93 (fun H locs hP hD hS => ?_)
          have hP : va_P D vwCl [(a, .inr (1, [.ref a_thinks, .ref a_sure, .ref a_coin, .ref a_far, .ref a_chalk, .int bo_52.2.2.2.2.2.1, .int bo_52.2.2.2.2.2.2.1, .int bo_52.2.2.2.2.2.2.2.1, .int bo_52.2.2.2.2.2.2.2.2])), cm_kI cI a_thinks 8 bo_52.1, cm_kI cI a_sure 8 (upd bo_52.2.1 v1_52.toNatClampNeg 0), cm_kI cI a_coin 8 bo_52.2.2.1, cm_kI cI a_far 4 bo_52.2.2.2.1, cm_kI cI a_chalk 7 bo_52.2.2.2.2.1] H := hP
          have hD : va_D A [(a, .inr (1, [.ref a_thinks, .ref a_sure, .ref a_coin, .ref a_far, .ref a_chalk, .int bo_52.2.2.2.2.2.1, .int bo_52.2.2.2.2.2.2.1, .int bo_52.2.2.2.2.2.2.2.1, .int bo_52.2.2.2.2.2.2.2.2])), cm_kI cI a_thinks 8 bo_52.1, cm_kI cI a_sure 8 (upd bo_52.2.1 v1_52.toNatClampNeg 0), cm_kI cI a_coin 8 bo_52.2.2.1, cm_kI cI a_far 4 bo_52.2.2.2.1, cm_kI cI a_chalk 7 bo_52.2.2.2.2.1] := hD
          refine lv_iinc (pc := 94) (v := (v1_52 + 1)) (lv' := [(1, .int (v1_52 + 1)), (0, .ref a)]) hx hb dX1_holdMarket_94 hl (k := 0) rfl rfl (by decide) rfl (fun ls hl => ?_)
          refine lv_goto (pc := 97) (tgt := 52) hx hb dX1_holdMarket_97 (by decide) ?_
          exact ih (v1_52 + 1) (bo_52.1, (upd bo_52.2.1 v1_52.toNatClampNeg 0), bo_52.2.2.1, bo_52.2.2.2.1, bo_52.2.2.2.2.1, bo_52.2.2.2.2.2.1, bo_52.2.2.2.2.2.2.1, bo_52.2.2.2.2.2.2.2.1, bo_52.2.2.2.2.2.2.2.2) _ _ _ hP hD hS (lv_sub hl [0, 1] rfl) hf
  refine L52 _ (fun v1_52 bo_52 H locs ls hP hD hS hl hf => ?_) 5000 0 bo_12 _ _ _ hP hD hS (lv_sub hl [0, 1] rfl) hf
  obtain rfl := Option.some.inj hf
  exact cm_vret (pc := 100) hAe hQ hx hb hr hlocks hP hD hS [0, 1, 2, 3, 4, 5] (by decide) rfl dX1_holdMarket_100
def fX1_bringCartsNearer_L2 (kx : Int32 → SBO → Option (SBO)) : Nat → Int32 → SBO → Option (SBO)
  | 0, _, _ => none
  | n + 1, v1_2, bo_2 => (if 4 ≤ v1_2 then kx v1_2 bo_2 else if v1_2 < 0 ∨ 4 ≤ v1_2.toNatClampNeg then none else (if (bo_2.2.2.2.1 v1_2.toNatClampNeg) ≤ 0 then fX1_bringCartsNearer_L2 kx n (v1_2 + 1) bo_2 else if v1_2 < 0 ∨ 4 ≤ v1_2.toNatClampNeg then none else if v1_2 < 0 ∨ 4 ≤ v1_2.toNatClampNeg then none else fX1_bringCartsNearer_L2 kx n (v1_2 + 1) (bo_2.1, bo_2.2.1, bo_2.2.2.1, (upd bo_2.2.2.2.1 v1_2.toNatClampNeg ((bo_2.2.2.2.1 v1_2.toNatClampNeg) - 1)), bo_2.2.2.2.2.1, bo_2.2.2.2.2.2.1, bo_2.2.2.2.2.2.2.1, bo_2.2.2.2.2.2.2.2.1, bo_2.2.2.2.2.2.2.2.2)))
def fX1_bringCartsNearer (bo : SBO) : Option (SBO) := fX1_bringCartsNearer_L2 (fun v1_2 bo_2 => some bo_2) 5000 0 bo
def rmX1_bringCartsNearer : Room := { frames := 0, cells := 0, slots := 0, locals := 0 }
set_option maxRecDepth 100000 in
set_option maxHeartbeats 4000000 in
theorem c_X1_bringCartsNearer (l : Launch) (D : va_G) (cI cJ cZ : ClassId) (a a_thinks a_sure a_coin a_far a_chalk : Nat) (bo : SBO) (res : SBO) (hf : fX1_bringCartsNearer bo = some res) : Ct l yX1_bringCartsNearer (cm_ws yX1_bringCartsNearer cX1_bringCartsNearer 2 none) rmX1_bringCartsNearer D (cm_T cI cJ cZ) [.ref a] [(a, .inr (1, [.ref a_thinks, .ref a_sure, .ref a_coin, .ref a_far, .ref a_chalk, .int bo.2.2.2.2.2.1, .int bo.2.2.2.2.2.2.1, .int bo.2.2.2.2.2.2.2.1, .int bo.2.2.2.2.2.2.2.2])), cm_kI cI a_thinks 8 bo.1, cm_kI cI a_sure 8 bo.2.1, cm_kI cI a_coin 8 bo.2.2.1, cm_kI cI a_far 4 bo.2.2.2.1, cm_kI cI a_chalk 7 bo.2.2.2.2.1] none [(a, .inr (1, [.ref a_thinks, .ref a_sure, .ref a_coin, .ref a_far, .ref a_chalk, .int res.2.2.2.2.2.1, .int res.2.2.2.2.2.2.1, .int res.2.2.2.2.2.2.2.1, .int res.2.2.2.2.2.2.2.2])), cm_kI cI a_thinks 8 res.1, cm_kI cI a_sure 8 res.2.1, cm_kI cI a_coin 8 res.2.2.1, cm_kI cI a_far 4 res.2.2.2.1, cm_kI cI a_chalk 7 res.2.2.2.2.1] := by
  refine Ct.of (cc := cX1_bringCartsNearer) (maxL := 2) (ret := none) (by decide) (Nat.le_of_ble_eq_true rfl) ?_
  intro p e s m below meth c ls args A Q hav hAe hQ hx hb hr hml hown hlocks hts hK hP hD hA hS hl
  have hKa := hK.1
  have hl : lv_has ls 2 [(0, .ref a)] := hl
  unfold fX1_bringCartsNearer at hf
  refine lv_iconst (pc := 0) (v := 0) hx hb dX1_bringCartsNearer_0 (by decide) ?_
  refine lv_istore_n (pc := 1) (lv' := [(1, .int 0), (0, .ref a)]) hx hb dX1_bringCartsNearer_1 rfl hl (by decide) rfl (fun ls hl => ?_)
  have L2 : ∀ (kx : Int32 → SBO → Option (SBO)), (∀ (v1_2 : Int32) (bo_2 : SBO) (H : Heap) (locs : List Loc) (ls : Array Slot), va_P D vwCl [(a, .inr (1, [.ref a_thinks, .ref a_sure, .ref a_coin, .ref a_far, .ref a_chalk, .int bo_2.2.2.2.2.2.1, .int bo_2.2.2.2.2.2.2.1, .int bo_2.2.2.2.2.2.2.2.1, .int bo_2.2.2.2.2.2.2.2.2])), cm_kI cI a_thinks 8 bo_2.1, cm_kI cI a_sure 8 bo_2.2.1, cm_kI cI a_coin 8 bo_2.2.2.1, cm_kI cI a_far 4 bo_2.2.2.2.1, cm_kI cI a_chalk 7 bo_2.2.2.2.2.1] H → va_D A [(a, .inr (1, [.ref a_thinks, .ref a_sure, .ref a_coin, .ref a_far, .ref a_chalk, .int bo_2.2.2.2.2.2.1, .int bo_2.2.2.2.2.2.2.1, .int bo_2.2.2.2.2.2.2.2.1, .int bo_2.2.2.2.2.2.2.2.2])), cm_kI cI a_thinks 8 bo_2.1, cm_kI cI a_sure 8 bo_2.2.1, cm_kI cI a_coin 8 bo_2.2.2.1, cm_kI cI a_far 4 bo_2.2.2.2.1, cm_kI cI a_chalk 7 bo_2.2.2.2.2.1] → va_S A s.heap H locs → lv_has ls 2 [] → kx v1_2 bo_2 = some res → W p l e rmX1_bringCartsNearer s m args below meth c H locs 0 0 Q (F0 m 32 ls [])) → ∀ (n : Nat) (v1_2 : Int32) (bo_2 : SBO) (H : Heap) (locs : List Loc) (ls : Array Slot), va_P D vwCl [(a, .inr (1, [.ref a_thinks, .ref a_sure, .ref a_coin, .ref a_far, .ref a_chalk, .int bo_2.2.2.2.2.2.1, .int bo_2.2.2.2.2.2.2.1, .int bo_2.2.2.2.2.2.2.2.1, .int bo_2.2.2.2.2.2.2.2.2])), cm_kI cI a_thinks 8 bo_2.1, cm_kI cI a_sure 8 bo_2.2.1, cm_kI cI a_coin 8 bo_2.2.2.1, cm_kI cI a_far 4 bo_2.2.2.2.1, cm_kI cI a_chalk 7 bo_2.2.2.2.2.1] H → va_D A [(a, .inr (1, [.ref a_thinks, .ref a_sure, .ref a_coin, .ref a_far, .ref a_chalk, .int bo_2.2.2.2.2.2.1, .int bo_2.2.2.2.2.2.2.1, .int bo_2.2.2.2.2.2.2.2.1, .int bo_2.2.2.2.2.2.2.2.2])), cm_kI cI a_thinks 8 bo_2.1, cm_kI cI a_sure 8 bo_2.2.1, cm_kI cI a_coin 8 bo_2.2.2.1, cm_kI cI a_far 4 bo_2.2.2.2.1, cm_kI cI a_chalk 7 bo_2.2.2.2.2.1] → va_S A s.heap H locs → lv_has ls 2 [(1, .int v1_2), (0, .ref a)] → fX1_bringCartsNearer_L2 kx n v1_2 bo_2 = some res → W p l e rmX1_bringCartsNearer s m args below meth c H locs 0 0 Q (F0 m 2 ls []) := by
    intro kx hkx n
    induction n with
    | zero => intro v1_2 bo_2 H locs ls hP hD hS hl hf; cases hf
    | succ n ih =>
      intro v1_2 bo_2 H locs ls hP hD hS hl hf
      rw [fX1_bringCartsNearer_L2] at hf
      refine lv_iload_n (pc := 2) hx hb dX1_bringCartsNearer_2 rfl (lv_at hl 0 rfl) ?_
      refine lv_iconst (pc := 3) (v := 4) hx hb dX1_bringCartsNearer_3 (by decide) ?_
      refine lv_icmp_ge (pc := 4) (tgt := 32) hx hb dX1_bringCartsNearer_4 (by decide) (fun c_4 => ?_) (fun c_4 => ?_)
      · have hf := cm_ip c_4 hf
        exact hkx v1_2 bo_2 _ _ _ hP hD hS (lv_sub hl [] rfl) hf
      · have hf := cm_in c_4 hf
        refine lv_aload_n (pc := 7) hx hb dX1_bringCartsNearer_7 rfl (lv_at hl 1 rfl) ?_
        refine va_get (pc := 8) (D := D) (ci := 1) (v := .ref a_far) (C := RX1) (T := TX1) (N := 9) hx hb hts in_X1 hown hKa hP 0 rfl rfl 3 (by decide) (hts _ tw_78) (fun _ h9 => h9) rfl dX1_bringCartsNearer_8 ?_
        refine lv_iload_n (pc := 11) hx hb dX1_bringCartsNearer_11 rfl (lv_at hl 0 rfl) ?_
        obtain ⟨b_12, hf⟩ := cm_ob hf
        refine va_iald (pc := 12) hx hb hKa hP 4 0 rfl rfl b_12 dX1_bringCartsNearer_12 ?_
        refine lv_if_le (pc := 13) (tgt := 26) hx hb dX1_bringCartsNearer_13 (by decide) (fun c_13 => ?_) (fun c_13 => ?_)
        · have hf := cm_ip c_13 hf
          refine lv_iinc (pc := 26) (v := (v1_2 + 1)) (lv' := [(1, .int (v1_2 + 1)), (0, .ref a)]) hx hb dX1_bringCartsNearer_26 hl (k := 0) rfl rfl (by decide) rfl (fun ls hl => ?_)
          refine lv_goto (pc := 29) (tgt := 2) hx hb dX1_bringCartsNearer_29 (by decide) ?_
          exact ih (v1_2 + 1) bo_2 _ _ _ hP hD hS (lv_sub hl [0, 1] rfl) hf
        · have hf := cm_in c_13 hf
          refine lv_aload_n (pc := 16) hx hb dX1_bringCartsNearer_16 rfl (lv_at hl 1 rfl) ?_
          refine va_get (pc := 17) (D := D) (ci := 1) (v := .ref a_far) (C := RX1) (T := TX1) (N := 9) hx hb hts in_X1 hown hKa hP 0 rfl rfl 3 (by decide) (hts _ tw_78) (fun _ h9 => h9) rfl dX1_bringCartsNearer_17 ?_
          refine lv_iload_n (pc := 20) hx hb dX1_bringCartsNearer_20 rfl (lv_at hl 0 rfl) ?_
          refine lv_dup2_11 (pc := 21) hx hb dX1_bringCartsNearer_21 rfl rfl ?_
          obtain ⟨b_22, hf⟩ := cm_ob hf
          refine va_iald (pc := 22) hx hb hKa hP 4 0 rfl rfl b_22 dX1_bringCartsNearer_22 ?_
          refine lv_iconst (pc := 23) (v := 1) hx hb dX1_bringCartsNearer_23 (by decide) ?_
          refine lv_isub (pc := 24) hx hb dX1_bringCartsNearer_24 ?_
          obtain ⟨b_25, hf⟩ := cm_ob hf
          refine va_iast (pc := 25) hx hb hKa hP hD hS 4 0 rfl rfl b_25 dX1_bringCartsNearer_25 (fun H locs hP hD hS => ?_)
          have hP : va_P D vwCl [(a, .inr (1, [.ref a_thinks, .ref a_sure, .ref a_coin, .ref a_far, .ref a_chalk, .int bo_2.2.2.2.2.2.1, .int bo_2.2.2.2.2.2.2.1, .int bo_2.2.2.2.2.2.2.2.1, .int bo_2.2.2.2.2.2.2.2.2])), cm_kI cI a_thinks 8 bo_2.1, cm_kI cI a_sure 8 bo_2.2.1, cm_kI cI a_coin 8 bo_2.2.2.1, cm_kI cI a_far 4 (upd bo_2.2.2.2.1 v1_2.toNatClampNeg ((bo_2.2.2.2.1 v1_2.toNatClampNeg) - 1)), cm_kI cI a_chalk 7 bo_2.2.2.2.2.1] H := hP
          have hD : va_D A [(a, .inr (1, [.ref a_thinks, .ref a_sure, .ref a_coin, .ref a_far, .ref a_chalk, .int bo_2.2.2.2.2.2.1, .int bo_2.2.2.2.2.2.2.1, .int bo_2.2.2.2.2.2.2.2.1, .int bo_2.2.2.2.2.2.2.2.2])), cm_kI cI a_thinks 8 bo_2.1, cm_kI cI a_sure 8 bo_2.2.1, cm_kI cI a_coin 8 bo_2.2.2.1, cm_kI cI a_far 4 (upd bo_2.2.2.2.1 v1_2.toNatClampNeg ((bo_2.2.2.2.1 v1_2.toNatClampNeg) - 1)), cm_kI cI a_chalk 7 bo_2.2.2.2.2.1] := hD
          refine lv_iinc (pc := 26) (v := (v1_2 + 1)) (lv' := [(1, .int (v1_2 + 1)), (0, .ref a)]) hx hb dX1_bringCartsNearer_26 hl (k := 0) rfl rfl (by decide) rfl (fun ls hl => ?_)
          refine lv_goto (pc := 29) (tgt := 2) hx hb dX1_bringCartsNearer_29 (by decide) ?_
          exact ih (v1_2 + 1) (bo_2.1, bo_2.2.1, bo_2.2.2.1, (upd bo_2.2.2.2.1 v1_2.toNatClampNeg ((bo_2.2.2.2.1 v1_2.toNatClampNeg) - 1)), bo_2.2.2.2.2.1, bo_2.2.2.2.2.2.1, bo_2.2.2.2.2.2.2.1, bo_2.2.2.2.2.2.2.2.1, bo_2.2.2.2.2.2.2.2.2) _ _ _ hP hD hS (lv_sub hl [0, 1] rfl) hf
  refine L2 _ (fun v1_2 bo_2 H locs ls hP hD hS hl hf => ?_) 5000 0 bo _ _ _ hP hD hS (lv_sub hl [0, 1] rfl) hf
  obtain rfl := Option.some.inj hf
  exact cm_vret (pc := 32) hAe hQ hx hb hr hlocks hP hD hS [0, 1, 2, 3, 4, 5] (by decide) rfl dX1_bringCartsNearer_32
def fX1_wake (bo : SBO) : Option (Int32 × SBO) := (if bo.2.2.2.2.2.2.1 < 99 then Option.bind (fX1_leastDay (bo.1, bo.2.1, bo.2.2.1, bo.2.2.2.1, bo.2.2.2.2.1, (irm (bo.2.2.2.2.2.1 + 1) 7), (bo.2.2.2.2.2.2.1 + 1), bo.2.2.2.2.2.2.2.1, bo.2.2.2.2.2.2.2.2)) (fun u40 => (if (irm (bo.2.2.2.2.2.1 + 1) 7) = u40.1 then Option.bind (fX1_holdMarket u40.2) (fun u47 => some (0, u47)) else Option.bind (fX1_bringCartsNearer u40.2) (fun u54 => some (0, u54)))) else some (8, bo))
def rmX1_wake : Room := { frames := 2, cells := 0, slots := 0, locals := 44 }
set_option maxRecDepth 100000 in
set_option maxHeartbeats 4000000 in
theorem c_X1_wake (l : Launch) (D : va_G) (cI cJ cZ : ClassId) (a a_thinks a_sure a_coin a_far a_chalk : Nat) (bo : SBO) (res : Int32 × SBO) (hf : fX1_wake bo = some res) : Ct l yX1_wake (cm_ws yX1_wake cX1_wake 1 (some .int)) rmX1_wake D (cm_T cI cJ cZ) [.ref a] [(a, .inr (1, [.ref a_thinks, .ref a_sure, .ref a_coin, .ref a_far, .ref a_chalk, .int bo.2.2.2.2.2.1, .int bo.2.2.2.2.2.2.1, .int bo.2.2.2.2.2.2.2.1, .int bo.2.2.2.2.2.2.2.2])), cm_kI cI a_thinks 8 bo.1, cm_kI cI a_sure 8 bo.2.1, cm_kI cI a_coin 8 bo.2.2.1, cm_kI cI a_far 4 bo.2.2.2.1, cm_kI cI a_chalk 7 bo.2.2.2.2.1] (some (.int res.1)) [(a, .inr (1, [.ref a_thinks, .ref a_sure, .ref a_coin, .ref a_far, .ref a_chalk, .int res.2.2.2.2.2.2.1, .int res.2.2.2.2.2.2.2.1, .int res.2.2.2.2.2.2.2.2.1, .int res.2.2.2.2.2.2.2.2.2])), cm_kI cI a_thinks 8 res.2.1, cm_kI cI a_sure 8 res.2.2.1, cm_kI cI a_coin 8 res.2.2.2.1, cm_kI cI a_far 4 res.2.2.2.2.1, cm_kI cI a_chalk 7 res.2.2.2.2.2.1] := by
  refine Ct.of (cc := cX1_wake) (maxL := 1) (ret := (some .int)) (by decide) (Nat.le_of_ble_eq_true rfl) ?_
  intro p e s m below meth c ls args A Q hav hAe hQ hx hb hr hml hown hlocks hts hK hP hD hA hS hl
  have hKa := hK.1
  have hl : lv_has ls 1 [(0, .ref a)] := hl
  unfold fX1_wake at hf
  refine lv_aload_n (pc := 0) hx hb dX1_wake_0 rfl (lv_at hl 0 rfl) ?_
  refine va_get (pc := 1) (D := D) (ci := 1) (v := .int bo.2.2.2.2.2.2.1) (C := RX1) (T := TX1) (N := 9) hx hb hts in_X1 hown hKa hP 0 rfl rfl 6 (by decide) (hts _ tw_83) (fun _ h9 => h9) rfl dX1_wake_1 ?_
  refine lv_bipush (pc := 4) (v := 99) hx hb dX1_wake_4 (by decide) ?_
  refine lv_icmp_lt (pc := 6) (tgt := 12) hx hb dX1_wake_6 (by decide) (fun c_6 => ?_) (fun c_6 => ?_)
  · have hf := cm_ip c_6 hf
    refine lv_aload_n (pc := 12) hx hb dX1_wake_12 rfl (lv_at hl 0 rfl) ?_
    refine lv_dup (pc := 13) hx hb dX1_wake_13 rfl ?_
    refine va_get (pc := 14) (D := D) (ci := 1) (v := .int bo.2.2.2.2.2.2.1) (C := RX1) (T := TX1) (N := 9) hx hb hts in_X1 hown hKa hP 0 rfl rfl 6 (by decide) (hts _ tw_83) (fun _ h9 => h9) rfl dX1_wake_14 ?_
    refine lv_iconst (pc := 17) (v := 1) hx hb dX1_wake_17 (by decide) ?_
    refine lv_iadd (pc := 18) hx hb dX1_wake_18 ?_
    refine va_put (pc := 19) (D := D) (ci := 1) (v := .int (bo.2.2.2.2.2.2.1 + 1)) (ty := .int) (C := RX1) (T := TX1) (N := 9) hx hb hts in_X1 tyX1 tyX1_ok nmX1 hown hKa hP hD hS 0 rfl rfl 6 (by decide) (hts _ tw_83) (fun _ h9 => h9) rfl (by decide +kernel) rfl rfl (Nat.le_of_ble_eq_true rfl) dX1_wake_19 (fun H locs hP hD hS => ?_)
    have hP : va_P D vwCl [(a, .inr (1, [.ref a_thinks, .ref a_sure, .ref a_coin, .ref a_far, .ref a_chalk, .int bo.2.2.2.2.2.1, .int (bo.2.2.2.2.2.2.1 + 1), .int bo.2.2.2.2.2.2.2.1, .int bo.2.2.2.2.2.2.2.2])), cm_kI cI a_thinks 8 bo.1, cm_kI cI a_sure 8 bo.2.1, cm_kI cI a_coin 8 bo.2.2.1, cm_kI cI a_far 4 bo.2.2.2.1, cm_kI cI a_chalk 7 bo.2.2.2.2.1] H := hP
    have hD : va_D A [(a, .inr (1, [.ref a_thinks, .ref a_sure, .ref a_coin, .ref a_far, .ref a_chalk, .int bo.2.2.2.2.2.1, .int (bo.2.2.2.2.2.2.1 + 1), .int bo.2.2.2.2.2.2.2.1, .int bo.2.2.2.2.2.2.2.2])), cm_kI cI a_thinks 8 bo.1, cm_kI cI a_sure 8 bo.2.1, cm_kI cI a_coin 8 bo.2.2.1, cm_kI cI a_far 4 bo.2.2.2.1, cm_kI cI a_chalk 7 bo.2.2.2.2.1] := hD
    refine lv_aload_n (pc := 22) hx hb dX1_wake_22 rfl (lv_at hl 0 rfl) ?_
    refine lv_aload_n (pc := 23) hx hb dX1_wake_23 rfl (lv_at hl 0 rfl) ?_
    refine va_get (pc := 24) (D := D) (ci := 1) (v := .int bo.2.2.2.2.2.1) (C := RX1) (T := TX1) (N := 9) hx hb hts in_X1 hown hKa hP 0 rfl rfl 5 (by decide) (hts _ tw_81) (fun _ h9 => h9) rfl dX1_wake_24 ?_
    refine lv_iconst (pc := 27) (v := 1) hx hb dX1_wake_27 (by decide) ?_
    refine lv_iadd (pc := 28) hx hb dX1_wake_28 ?_
    refine lv_bipush (pc := 29) (v := 7) hx hb dX1_wake_29 (by decide) ?_
    refine cm_irem (pc := 31) hx hb dX1_wake_31 (by decide) ?_
    refine va_put (pc := 32) (D := D) (ci := 1) (v := .int (irm (bo.2.2.2.2.2.1 + 1) 7)) (ty := .int) (C := RX1) (T := TX1) (N := 9) hx hb hts in_X1 tyX1 tyX1_ok nmX1 hown hKa hP hD hS 0 rfl rfl 5 (by decide) (hts _ tw_81) (fun _ h9 => h9) rfl (by decide +kernel) rfl rfl (Nat.le_of_ble_eq_true rfl) dX1_wake_32 (fun H locs hP hD hS => ?_)
    have hP : va_P D vwCl [(a, .inr (1, [.ref a_thinks, .ref a_sure, .ref a_coin, .ref a_far, .ref a_chalk, .int (irm (bo.2.2.2.2.2.1 + 1) 7), .int (bo.2.2.2.2.2.2.1 + 1), .int bo.2.2.2.2.2.2.2.1, .int bo.2.2.2.2.2.2.2.2])), cm_kI cI a_thinks 8 bo.1, cm_kI cI a_sure 8 bo.2.1, cm_kI cI a_coin 8 bo.2.2.1, cm_kI cI a_far 4 bo.2.2.2.1, cm_kI cI a_chalk 7 bo.2.2.2.2.1] H := hP
    have hD : va_D A [(a, .inr (1, [.ref a_thinks, .ref a_sure, .ref a_coin, .ref a_far, .ref a_chalk, .int (irm (bo.2.2.2.2.2.1 + 1) 7), .int (bo.2.2.2.2.2.2.1 + 1), .int bo.2.2.2.2.2.2.2.1, .int bo.2.2.2.2.2.2.2.2])), cm_kI cI a_thinks 8 bo.1, cm_kI cI a_sure 8 bo.2.1, cm_kI cI a_coin 8 bo.2.2.1, cm_kI cI a_far 4 bo.2.2.2.1, cm_kI cI a_chalk 7 bo.2.2.2.2.1] := hD
    refine lv_aload_n (pc := 35) hx hb dX1_wake_35 rfl (lv_at hl 0 rfl) ?_
    refine va_get (pc := 36) (D := D) (ci := 1) (v := .int (irm (bo.2.2.2.2.2.1 + 1) 7)) (C := RX1) (T := TX1) (N := 9) hx hb hts in_X1 hown hKa hP 0 rfl rfl 5 (by decide) (hts _ tw_81) (fun _ h9 => h9) rfl dX1_wake_36 ?_
    refine lv_aload_n (pc := 39) hx hb dX1_wake_39 rfl (lv_at hl 0 rfl) ?_
    obtain ⟨u40, hu40, hf⟩ := cm_bd hf
    refine cm_callV (pc := 40) (As := []) (rest := [.int (irm (bo.2.2.2.2.2.1 + 1) 7)]) (wr := []) (ci := 1) (q0 := 0) (n := 0) hx hb hml hown hts hK hP hD hS hA (c_X1_leastDay l D cI cJ cZ a a_thinks a_sure a_coin a_far a_chalk (bo.1, bo.2.1, bo.2.2.1, bo.2.2.2.1, bo.2.2.2.2.1, (irm (bo.2.2.2.2.2.1 + 1) 7), (bo.2.2.2.2.2.2.1 + 1), bo.2.2.2.2.2.2.2.1, bo.2.2.2.2.2.2.2.2) u40 hu40) tw_435 tw_432 tw_433 tw_434 tw_46 rfl rfl (by decide +kernel) rfl ⟨Nat.le_of_ble_eq_true rfl, Nat.le_of_ble_eq_true rfl⟩ [0, 1, 2, 3, 4, 5] [] rfl (by decide) rfl (by decide) (by decide) rfl rfl rfl hl.1 rfl (Nat.le_of_ble_eq_true rfl) dX1_wake_40 ⟨Nat.zero_le _, Nat.zero_le _⟩ (fun H locs hP hD hS => ?_)
    have hP : va_P D vwCl [(a, .inr (1, [.ref a_thinks, .ref a_sure, .ref a_coin, .ref a_far, .ref a_chalk, .int u40.2.2.2.2.2.2.1, .int u40.2.2.2.2.2.2.2.1, .int u40.2.2.2.2.2.2.2.2.1, .int u40.2.2.2.2.2.2.2.2.2])), cm_kI cI a_thinks 8 u40.2.1, cm_kI cI a_sure 8 u40.2.2.1, cm_kI cI a_coin 8 u40.2.2.2.1, cm_kI cI a_far 4 u40.2.2.2.2.1, cm_kI cI a_chalk 7 u40.2.2.2.2.2.1] H := hP
    have hD : va_D A [(a, .inr (1, [.ref a_thinks, .ref a_sure, .ref a_coin, .ref a_far, .ref a_chalk, .int u40.2.2.2.2.2.2.1, .int u40.2.2.2.2.2.2.2.1, .int u40.2.2.2.2.2.2.2.2.1, .int u40.2.2.2.2.2.2.2.2.2])), cm_kI cI a_thinks 8 u40.2.1, cm_kI cI a_sure 8 u40.2.2.1, cm_kI cI a_coin 8 u40.2.2.2.1, cm_kI cI a_far 4 u40.2.2.2.2.1, cm_kI cI a_chalk 7 u40.2.2.2.2.2.1] := hD
    refine W.eq (g2 := F0 m 43 ls [.int u40.1, .int (irm (bo.2.2.2.2.2.1 + 1) 7)]) rfl ?_
    refine lv_icmp_ne (pc := 43) (tgt := 53) hx hb dX1_wake_43 (by decide) (fun c_43 => ?_) (fun c_43 => ?_)
    · have hf := cm_in c_43 hf
      refine lv_aload_n (pc := 53) hx hb dX1_wake_53 rfl (lv_at hl 0 rfl) ?_
      obtain ⟨u54, hu54, hf⟩ := cm_bd hf
      refine cm_callV (pc := 54) (As := []) (rest := []) (wr := []) (ci := 1) (q0 := 0) (n := 0) hx hb hml hown hts hK hP hD hS hA (c_X1_bringCartsNearer l D cI cJ cZ a a_thinks a_sure a_coin a_far a_chalk u40.2 u54 hu54) tw_450 tw_447 tw_449 tw_12 tw_46 rfl rfl (by decide +kernel) rfl ⟨Nat.le_of_ble_eq_true rfl, Nat.le_of_ble_eq_true rfl⟩ [0, 1, 2, 3, 4, 5] [] rfl (by decide) rfl (by decide) (by decide) rfl rfl rfl hl.1 rfl (Nat.le_of_ble_eq_true rfl) dX1_wake_54 ⟨Nat.zero_le _, Nat.zero_le _⟩ (fun H locs hP hD hS => ?_)
      have hP : va_P D vwCl [(a, .inr (1, [.ref a_thinks, .ref a_sure, .ref a_coin, .ref a_far, .ref a_chalk, .int u54.2.2.2.2.2.1, .int u54.2.2.2.2.2.2.1, .int u54.2.2.2.2.2.2.2.1, .int u54.2.2.2.2.2.2.2.2])), cm_kI cI a_thinks 8 u54.1, cm_kI cI a_sure 8 u54.2.1, cm_kI cI a_coin 8 u54.2.2.1, cm_kI cI a_far 4 u54.2.2.2.1, cm_kI cI a_chalk 7 u54.2.2.2.2.1] H := hP
      have hD : va_D A [(a, .inr (1, [.ref a_thinks, .ref a_sure, .ref a_coin, .ref a_far, .ref a_chalk, .int u54.2.2.2.2.2.1, .int u54.2.2.2.2.2.2.1, .int u54.2.2.2.2.2.2.2.1, .int u54.2.2.2.2.2.2.2.2])), cm_kI cI a_thinks 8 u54.1, cm_kI cI a_sure 8 u54.2.1, cm_kI cI a_coin 8 u54.2.2.1, cm_kI cI a_far 4 u54.2.2.2.1, cm_kI cI a_chalk 7 u54.2.2.2.2.1] := hD
      refine W.eq (g2 := F0 m 57 ls []) rfl ?_
      refine lv_iconst (pc := 57) (v := 0) hx hb dX1_wake_57 (by decide) ?_
      obtain rfl := Option.some.inj hf
      exact cm_iret (pc := 58) hAe hQ hx hb hr hlocks hP hD hS [0, 1, 2, 3, 4, 5] (by decide) rfl dX1_wake_58
    · have hf := cm_ip c_43 hf
      refine lv_aload_n (pc := 46) hx hb dX1_wake_46 rfl (lv_at hl 0 rfl) ?_
      obtain ⟨u47, hu47, hf⟩ := cm_bd hf
      refine cm_callV (pc := 47) (As := []) (rest := []) (wr := []) (ci := 1) (q0 := 0) (n := 0) hx hb hml hown hts hK hP hD hS hA (c_X1_holdMarket l D cI cJ cZ a a_thinks a_sure a_coin a_far a_chalk u40.2 u47 hu47) tw_443 tw_440 tw_442 tw_11 tw_46 rfl rfl (by decide +kernel) rfl ⟨Nat.le_of_ble_eq_true rfl, Nat.le_of_ble_eq_true rfl⟩ [0, 1, 2, 3, 4, 5] [] rfl (by decide) rfl (by decide) (by decide) rfl rfl rfl hl.1 rfl (Nat.le_of_ble_eq_true rfl) dX1_wake_47 ⟨Nat.zero_le _, Nat.zero_le _⟩ (fun H locs hP hD hS => ?_)
      have hP : va_P D vwCl [(a, .inr (1, [.ref a_thinks, .ref a_sure, .ref a_coin, .ref a_far, .ref a_chalk, .int u47.2.2.2.2.2.1, .int u47.2.2.2.2.2.2.1, .int u47.2.2.2.2.2.2.2.1, .int u47.2.2.2.2.2.2.2.2])), cm_kI cI a_thinks 8 u47.1, cm_kI cI a_sure 8 u47.2.1, cm_kI cI a_coin 8 u47.2.2.1, cm_kI cI a_far 4 u47.2.2.2.1, cm_kI cI a_chalk 7 u47.2.2.2.2.1] H := hP
      have hD : va_D A [(a, .inr (1, [.ref a_thinks, .ref a_sure, .ref a_coin, .ref a_far, .ref a_chalk, .int u47.2.2.2.2.2.1, .int u47.2.2.2.2.2.2.1, .int u47.2.2.2.2.2.2.2.1, .int u47.2.2.2.2.2.2.2.2])), cm_kI cI a_thinks 8 u47.1, cm_kI cI a_sure 8 u47.2.1, cm_kI cI a_coin 8 u47.2.2.1, cm_kI cI a_far 4 u47.2.2.2.1, cm_kI cI a_chalk 7 u47.2.2.2.2.1] := hD
      refine W.eq (g2 := F0 m 50 ls []) rfl ?_
      refine lv_goto (pc := 50) (tgt := 57) hx hb dX1_wake_50 (by decide) ?_
      refine lv_iconst (pc := 57) (v := 0) hx hb dX1_wake_57 (by decide) ?_
      obtain rfl := Option.some.inj hf
      exact cm_iret (pc := 58) hAe hQ hx hb hr hlocks hP hD hS [0, 1, 2, 3, 4, 5] (by decide) rfl dX1_wake_58
  · have hf := cm_in c_6 hf
    refine lv_bipush (pc := 9) (v := 8) hx hb dX1_wake_9 (by decide) ?_
    obtain rfl := Option.some.inj hf
    exact cm_iret (pc := 11) hAe hQ hx hb hr hlocks hP hD hS [0, 1, 2, 3, 4, 5] (by decide) rfl dX1_wake_11
