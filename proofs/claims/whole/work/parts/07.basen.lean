/-! Constructors: a contract that makes cells; static arrays that nobody writes -/
def cm_PostN (D : va_G) (w : va_W) {S : Type} (wn : S → va_W) (sz : Nat) : Array Value → State → Outcome → State → Prop := fun _ st oc t => (∃ u : S, oc = .returned none ∧ va_P D vwCl (wn u) t.heap ∧ va_D (va_A w sz) (wn u)) ∧ va_F (va_A w sz) st t
/-- constructor y: with the cells w it makes cells, at addresses u; the cells are wn u then -/
def CtN (l : Launch) (y : MethodName) (ws : List Cond) (rm : Room) (D : va_G) (T : List (ClassId × FieldType)) (av : List Value) (w : va_W) (mc ms : Nat) {S : Type} (wn : S → va_W) : Prop := ∀ sz : Nat, Met l y ws rm (va_Pc av (cm_Pre D T w sz)) (cm_PostN D w wn sz) mc ms (va_A w sz)
theorem CtN.of {l : Launch} {y : MethodName} {rm : Room} {cc : ByteArray} {maxL mc ms : Nat} {ret : Option FieldType} {D : va_G} {T : List (ClassId × FieldType)} {av : List Value} {w : va_W} {S : Type} {wn : S → va_W} (hy : plainName y.cls = true) (hlen : (lg_sl av).length ≤ maxL)
    (body : ∀ (p : Program) (e : Env) (s : State) (m : MethodId) (below : List Frame) (meth : Method) (c : Code) (ls : Array Slot) (args : Array Value) (A : Nat → Prop) (Q : State → Prop), args = av.toArray → A = va_A w s.heap.size → Q = MQ below (cm_PostN D w wn s.heap.size) args s mc ms A → p.tables.exec = Jvm.exec → c.code = cc → meth.sig.returnType = ret → c.maxLocals = maxL → s.vm.findClass y.cls = some m.cls → meth.locks = false → meth.name = y.name → (∀ w ∈ cm_TB, w.before args s = true) → cm_K D T s → va_P D vwCl w s.heap → va_D A w → (∀ q, s.heap.size ≤ q → A q) → va_S A s.heap s.heap [] → lv_has ls maxL (lv_args 0 av) →
      W p l e rm s m args below meth c s.heap [] 0 0 Q (F0 m 0 ls [])) : CtN l y (cm_ws y cc maxL ret) rm D T av w mc ms wn := by
  intro sz
  refine Met.ofW (cc := cc) (maxL := maxL) (ret := ret) hy rfl ?_
  intro p e s m args below meth c s₁ B hml hv
  obtain ⟨rfl, rfl, hP, hK, hD0⟩ := hv
  have hD := hD0.self (sz := s.heap.size)
  have hl := lv_entry av (n := maxL) hlen
  rw [lg_entry_eq]
  exact body p e s m below meth c _ _ _ _ rfl rfl rfl B.exec B.bytes B.returns hml (findClass_of_methodNamed B.named) B.notSynchronized (name_of_methodNamed B.named B.method).1 (fun w hw => atoms_spec B.pre w (List.mem_cons_of_mem _ hw)) hK hP hD (fun q h => Or.inr h) va_S.rf hl
/-- static array FIBONACCI -/
def cm_fibN : Nat → Int32 := fun j => ([1, 2, 3, 5, 8, 13, 21, 34, 55, 89] : List Int32).getD j 0
def cm_F (fb : Nat) (U : State) : Prop := va_Z RX10 "FIBONACCI" "[I" (.ref fb) (fun q => U.heap.size ≤ q) U U.heap ∧ va_T .int fb 10 (fun j => .int (cm_fibN j)) (fun q => U.heap.size ≤ q) U U.heap
theorem cm_F.call {fb : Nat} {U : State} {g : JFrame} {mk : MethodId} {a : Array Value} (h : cm_F fb U) : cm_F fb (U.calling g mk a) := ⟨va_Z.moved (u := U) (U := U.calling g mk a) (Vm.Alike.refl U.vm) h.1, va_T.moved (u := U) (U := U.calling g mk a) (Vm.Alike.refl U.vm) h.2⟩
theorem cm_F.use {fb : Nat} {s U : State} {H : Heap} {locs : List Loc} {A : Nat → Prop} (h : cm_F fb s) (hS : va_S A s.heap H locs) (hA : ∀ q, A q → s.heap.size ≤ q) (hU : U.heap = H) (hW : s.WarmedH U.vm) : cm_F fb U := by
  have hk : ∀ a : Nat, a < s.heap.size → ¬ (fun q => s.heap.size ≤ q) a → U.heap[a]? = s.heap[a]? := fun a h1 h2 => by rw [hU]; exact hS.2.1 a h1 (fun q => h2 (hA a q))
  have hn : ∀ q, U.heap.size ≤ q → s.heap.size ≤ q := fun q hq => Nat.le_trans hS.1 (by rw [← hU]; exact hq)
  exact ⟨((h.1.kept hk).moved hW.alike).narrow hn, ((h.2.kept hk).moved hW.alike).narrow hn⟩
def CtF (l : Launch) (y : MethodName) (ws : List Cond) (rm : Room) (D : va_G) (T : List (ClassId × FieldType)) (fb : Nat) (av : List Value) (ov : Option Value) : Prop := ∀ sz : Nat, Met l y ws rm (va_Pc av (fun U => cm_Pre D T [] sz U ∧ cm_F fb U)) (cm_Post D [] [] sz ov) 0 0 (va_A [] sz)
theorem CtF.of {l : Launch} {y : MethodName} {rm : Room} {cc : ByteArray} {maxL : Nat} {ret : Option FieldType} {D : va_G} {T : List (ClassId × FieldType)} {fb : Nat} {av : List Value} {ov : Option Value} (hy : plainName y.cls = true) (hlen : (lg_sl av).length ≤ maxL)
    (body : ∀ (p : Program) (e : Env) (s : State) (m : MethodId) (below : List Frame) (meth : Method) (c : Code) (ls : Array Slot) (args : Array Value) (A : Nat → Prop) (Q : State → Prop), args = av.toArray → A = va_A [] s.heap.size → Q = MQ below (cm_Post D [] [] s.heap.size ov) args s 0 0 A → p.tables.exec = Jvm.exec → c.code = cc → meth.sig.returnType = ret → c.maxLocals = maxL → s.vm.findClass y.cls = some m.cls → meth.locks = false → (∀ w ∈ cm_TB, w.before args s = true) → cm_K D T s → va_P D vwCl [] s.heap → va_D A [] → (∀ q, s.heap.size ≤ q → A q) → va_S A s.heap s.heap [] → lv_has ls maxL (lv_args 0 av) → cm_F fb s → (∀ q, A q → s.heap.size ≤ q) →
      W p l e rm s m args below meth c s.heap [] 0 0 Q (F0 m 0 ls [])) : CtF l y (cm_ws y cc maxL ret) rm D T fb av ov := by
  intro sz
  refine Met.ofW (cc := cc) (maxL := maxL) (ret := ret) hy rfl ?_
  intro p e s m args below meth c s₁ B hml hv
  obtain ⟨rfl, ⟨rfl, hP, hK, hD0⟩, hF⟩ := hv
  have hD := hD0.self (sz := s.heap.size)
  have hl := lv_entry av (n := maxL) hlen
  rw [lg_entry_eq]
  exact body p e s m below meth c _ _ _ _ rfl rfl rfl B.exec B.bytes B.returns hml (findClass_of_methodNamed B.named) B.notSynchronized (fun w hw => atoms_spec B.pre w (List.mem_cons_of_mem _ hw)) hK hP hD (fun q h => Or.inr h) va_S.rf hl hF (fun q h => by
    rcases h with ⟨k, e, h⟩ | h
    · simp at h
    · exact h)
theorem cm_blindF {D : va_G} {T : List (ClassId × FieldType)} {av : List Value} {w : va_W} {sz fb : Nat} : FrameBlind (va_Pc av (fun U => cm_Pre D T w sz U ∧ cm_F fb U)) := fun _ _ _ _ h => by
  obtain ⟨q0, ⟨q1, q2, q3, q4⟩, q5⟩ := h
  exact ⟨q0, ⟨q1, q2, q3.call, q4⟩, q5.call⟩
theorem cm_cls {D : va_G} {T T' : List (ClassId × FieldType)} {s : State} {cA cB : ClassId} {ty : FieldType} (h : va_K D vwCl T s) (h' : va_K D vwCl T' s) (i j : Nat) (hi : T[i]? = some (cA, ty)) (hj : T'[j]? = some (cB, ty)) : cA = cB := by
  have h1 := (h.2 i _ hi).2
  have h2 := (h'.2 j _ hj).2
  unfold va_RA at h1 h2
  cases ty with
  | object C =>
    obtain ⟨_, _, _, _, _, h1⟩ := h1
    obtain ⟨_, _, _, _, _, h2⟩ := h2
    exact Option.some.inj (h1.symm.trans h2)
  | _ => exact Option.some.inj (h1.symm.trans h2)
section CN
variable {p : Program} {l : Launch} {e : Env} {R : Room} {s : State} {m : MethodId} {args : Array Value} {below : List Frame} {meth : Method} {c : Code} {H : Heap} {locs : List Loc} {cells slots : Nat} {Q : State → Prop} {pc : Nat} {ls : Array Slot} {rest st0 : List Value} {D : va_G} {T : List (ClassId × FieldType)} {A : Nat → Prop} {cc : ByteArray} {w w' wr ws : va_W} {ov : Option Value}
variable {own C : String} {index maxL nL n mc ms : Nat} {y : MethodName} {bytes : ByteArray} {ret : Option FieldType} {rm : Room} {b : Nat} {As : List Value} {S : Type} {wn : S → va_W}
theorem cm_goN {a : Array Value} (hr : va_Run p l e R s m args below meth c H locs cells slots mc ms (F0 m pc ls st0) rest (cm_PostN D w wn H.size a) (va_A w H.size)) (hP : va_P D vwCl ws H) (hD : va_D A ws) (hS : va_S A s.heap H locs) (hA : ∀ q, s.heap.size ≤ q → A q) (isC isR : List Nat) (hC : isC.map (fun i => ws[i]?) = w.map some) (hR : isR.map (fun i => ws[i]?) = wr.map some) (hn : va_nd isR = true) (hdis : ∀ i ∈ isR, i ∉ isC)
    (kk : ∀ (u : S) (H1 : Heap) (locs1 : List Loc), va_P D vwCl (wr ++ wn u) H1 → va_D A (wr ++ wn u) → va_S A s.heap H1 locs1 → W p l e R s m args below meth c H1 locs1 (cells + mc) (slots + ms) Q (F0 m (pc + 3) ls rest)) : W p l e R s m args below meth c H locs cells slots Q (F0 m pc ls st0) := by
  have hF := va_free (wc := w) hD hS hA isC hC
  intro T hT X
  obtain ⟨v, st₀, t, T', L, h0, X', hL, e1, e2, ⟨⟨u, hv, hp, hd⟩, hz, hk⟩, st⟩ := hr T hT X
  cases hv
  rw [h0] at hz hk
  have hk' : ∀ q : Nat, q < H.size → ¬ va_A w H.size q → T'.heap[q]? = H[q]? := fun q h1 h2 => by rw [e1]; exact hk q h1 h2
  obtain ⟨hP2, hD2⟩ := va_join (wr := wr) (w1 := wn u) hP hD isC isR hC hR hn hdis hk' hF (by rw [e1]; exact hp) hd
  obtain ⟨t2, a1, b1⟩ := kk u T'.heap (locs ++ L) hP2 hD2 ⟨Nat.le_trans hS.1 (by rw [e1]; exact hz), fun q h1 h2 => by rw [hk' q (Nat.lt_of_lt_of_le h1 hS.1) (fun z => h2 (hF q z))]; exact hS.2.1 q h1 h2, fun q hq => by
      rcases List.mem_append.mp hq with h | h
      · exact hS.2.2 q h
      · exact hF _ (hL q h)⟩ T' rfl X'
  exact ⟨t2, st t2 a1, b1⟩
theorem cm_callI (hx : p.tables.exec = Jvm.exec) (hb : c.code = cc) (hml : c.maxLocals = nL) (hown : s.vm.findClass own = some m.cls) (hts : ∀ w ∈ cm_TB, w.before args s = true) (hK : cm_K D T s) (hP : va_P D vwCl ws H) (hD : va_D A ws) (hS : va_S A s.heap H locs) (hA : ∀ q, s.heap.size ≤ q → A q)
    (hM : CtN l y (cm_ws y bytes maxL none) rm D T (.ref b :: As) w mc ms wn) (hwc : Cond.code y bytes maxL none ∈ cm_TB) (hwl : Cond.methodLink own index y ∈ cm_TB) (hwi : Cond.instanceMethod y ∈ cm_TB) (hwn : Cond.initialized y.cls ∈ cm_TB) (hy1 : y.name = "<init>") (hrc : rm.cells = mc) (hrs : rm.slots = ms) (hd : y.cls ≠ "java/lang/invoke/MethodHandle" ∧ y.cls ≠ "java/lang/invoke/VarHandle" ∧ (parseMethodDescriptor y.desc).map (fun d => d.parameters.length) = some n) (hln : As.length = n) (hRm : rm.frames + 1 ≤ R.frames ∧ 8 + (maxL + 11) + rm.locals ≤ R.locals)
    (isC isR : List Nat) (hC : isC.map (fun i => ws[i]?) = w.map some) (hnC : va_nd isC = true) (hR : isR.map (fun i => ws[i]?) = wr.map some) (hn : va_nd isR = true) (hdis : ∀ i ∈ isR, i ∉ isC)
    (hsz : ls.size = nL) (hst : st0 = As.reverse ++ .ref b :: rest) (hroom : (rest.map fun v => v.category).sum ≤ 8) (hdg : decode cc pc = .ok (.invokespecial index, 3)) (hcl : cells + mc ≤ R.cells ∧ slots + ms ≤ R.slots)
    (kk : ∀ (u : S) (H1 : Heap) (locs1 : List Loc), va_P D vwCl (wr ++ wn u) H1 → va_D A (wr ++ wn u) → va_S A s.heap H1 locs1 → W p l e R s m args below meth c H1 locs1 (cells + mc) (slots + ms) Q (F0 m (pc + 3) ls rest)) : W p l e R s m args below meth c H locs cells slots Q (F0 m pc ls st0) :=
  cm_goN (va_runI (As := As) (rest := rest) ⟨hx, hb, hml, hown, hts⟩ (hM H.size) (cwI n hts (cm_gw hwc) rfl hrc hrs (hts _ hwn) (hts _ hwl) (hts _ hwi) hy1 hd hRm) ⟨cm_blind, cm_pre hP hD hK hC hnC _⟩ rfl hln hsz hst (lv_room hroom) hdg hcl) hP hD hS hA isC isR hC hR hn hdis kk
theorem cm_callJ {host : String} (hx : p.tables.exec = Jvm.exec) (hb : c.code = cc) (hml : c.maxLocals = nL) (hown : s.vm.findClass own = some m.cls) (hts : ∀ w ∈ cm_TB, w.before args s = true) (hK : cm_K D T s) (hP : va_P D vwCl ws H) (hD : va_D A ws) (hS : va_S A s.heap H locs) (hA : ∀ q, s.heap.size ≤ q → A q)
    (hM : CtN l y (cm_ws y bytes maxL none) rm D T (.ref b :: As) w mc ms wn) (hwc : Cond.code y bytes maxL none ∈ cm_TB) (hl : va_Nw (.methodLinkNest own index y host) s) (hwi : Cond.instanceMethod y ∈ cm_TB) (hwn : Cond.initialized y.cls ∈ cm_TB) (hy1 : y.name = "<init>") (hrc : rm.cells = mc) (hrs : rm.slots = ms) (hd : y.cls ≠ "java/lang/invoke/MethodHandle" ∧ y.cls ≠ "java/lang/invoke/VarHandle" ∧ (parseMethodDescriptor y.desc).map (fun d => d.parameters.length) = some n) (hln : As.length = n) (hRm : rm.frames + 1 ≤ R.frames ∧ 8 + (maxL + 11) + rm.locals ≤ R.locals)
    (isC isR : List Nat) (hC : isC.map (fun i => ws[i]?) = w.map some) (hnC : va_nd isC = true) (hR : isR.map (fun i => ws[i]?) = wr.map some) (hn : va_nd isR = true) (hdis : ∀ i ∈ isR, i ∉ isC)
    (hsz : ls.size = nL) (hst : st0 = As.reverse ++ .ref b :: rest) (hroom : (rest.map fun v => v.category).sum ≤ 8) (hdg : decode cc pc = .ok (.invokespecial index, 3)) (hcl : cells + mc ≤ R.cells ∧ slots + ms ≤ R.slots)
    (kk : ∀ (u : S) (H1 : Heap) (locs1 : List Loc), va_P D vwCl (wr ++ wn u) H1 → va_D A (wr ++ wn u) → va_S A s.heap H1 locs1 → W p l e R s m args below meth c H1 locs1 (cells + mc) (slots + ms) Q (F0 m (pc + 3) ls rest)) : W p l e R s m args below meth c H locs cells slots Q (F0 m pc ls st0) :=
  cm_goN (va_runIN (As := As) (rest := rest) ⟨hx, hb, hml, hown, hts⟩ (hM H.size) ⟨va_cnB n hts (cm_gw hwc) rfl hrc hrs hl (hts _ hwn) hd hRm, hy1, hts _ hwi⟩ ⟨cm_blind, cm_pre hP hD hK hC hnC _⟩ rfl hln hsz hst (lv_room hroom) hdg hcl) hP hD hS hA isC isR hC hR hn hdis kk
theorem cm_nret (u : S) (hAe : A = va_A w s.heap.size) (hQ : Q = MQ below (cm_PostN D w wn s.heap.size) args s mc ms A) (hx : p.tables.exec = Jvm.exec) (hb : c.code = cc) (hr : meth.sig.returnType = none) (hlocks : meth.locks = false) (hP : va_P D vwCl ws H) (hD : va_D A ws) (hS : va_S A s.heap H locs) (is : List Nat) (hn : va_nd is = true) (hs : is.map (fun i => ws[i]?) = (wn u).map some) (hdg : decode cc pc = .ok (.return_, 1)) : W p l e R s m args below meth c H locs mc ms Q (F0 m pc ls []) := by
  subst hAe
  subst hQ
  exact W.vret hx hb hr (fun t ht hW => ⟨⟨u, rfl, by rw [ht]; exact hP.sub is (cm_fm _ _ _ hs), hD.sub is hn hs⟩, hS.F ht⟩) hS.2.2 hdg
/-- calls of methods that read the static array -/
theorem cm_callVF {ci q0 fb : Nat} {fs : List Value} {qc : vw_C} (hx : p.tables.exec = Jvm.exec) (hb : c.code = cc) (hml : c.maxLocals = nL) (hown : s.vm.findClass own = some m.cls) (hts : ∀ w ∈ cm_TB, w.before args s = true) (hK : cm_K D T s) (hP : va_P D vwCl ws H) (hD : va_D A ws) (hS : va_S A s.heap H locs) (hA : ∀ q, s.heap.size ≤ q → A q) (hF : cm_F fb s) (hAs : ∀ q, A q → s.heap.size ≤ q)
    (hM : CtF l y (cm_ws y bytes maxL ret) rm D T fb (.ref b :: As) ov) (hwc : Cond.code y bytes maxL ret ∈ cm_TB) (hwl : Cond.methodLink own index y ∈ cm_TB) (hwi : Cond.instanceMethod y ∈ cm_TB) (hws : Cond.selects C y y ∈ cm_TB) (hwn : Cond.initialized C ∈ cm_TB) (hrc : rm.cells = 0) (hrs : rm.slots = 0) (hd : y.cls = C ∧ y.cls ≠ "java/lang/invoke/MethodHandle" ∧ y.cls ≠ "java/lang/invoke/VarHandle" ∧ (parseMethodDescriptor y.desc).map (fun d => d.parameters.length) = some n) (hln : As.length = n) (hRm : rm.frames + 1 ≤ R.frames ∧ 8 + (maxL + 11) + rm.locals ≤ R.locals)
    (isR : List Nat) (hR : isR.map (fun i => ws[i]?) = wr.map some) (hn : va_nd isR = true)
    (hc : vwCl[ci]? = some qc) (hqc : qc.1 = C) (he : ws[q0]? = some (b, .inr (ci, fs))) (hsz : ls.size = nL) (hst : st0 = As.reverse ++ .ref b :: rest) (hroom : (rest.map fun v => v.category).sum ≤ 8) (hdg : decode cc pc = .ok (.invokevirtual index, 3)) (hcl : cells ≤ R.cells ∧ slots ≤ R.slots)
    (kk : ∀ (H1 : Heap) (locs1 : List Loc), va_P D vwCl (wr ++ []) H1 → va_D A (wr ++ []) → va_S A s.heap H1 locs1 → W p l e R s m args below meth c H1 locs1 cells slots Q (F0 m (pc + 3) ls (ov.toList ++ rest))) : W p l e R s m args below meth c H locs cells slots Q (F0 m pc ls st0) :=
  cm_go (va_runV (As := As) (rest := rest) ⟨hx, hb, hml, hown, hts⟩ (hM H.size) (cwV n hts (goodIn_app (cm_gl _ (List.forall_mem_cons.mpr ⟨hwl, List.forall_mem_cons.mpr ⟨hwi, List.forall_mem_cons.mpr ⟨hws, List.forall_mem_cons.mpr ⟨hwn, fun _ h => absurd h List.not_mem_nil⟩⟩⟩⟩)) (cm_gw hwc)) rfl hrc hrs hd hRm) ⟨cm_blindF, by rw [← hqc]; exact va_recv hK.1 hP hc he, fun U hU hW => by
    obtain ⟨h1, h2⟩ := cm_pre (w := []) (is := []) hP hD hK rfl rfl (.ref b :: As) U hU hW
    exact ⟨h1, h2, hF.use hS hAs hU hW⟩⟩ rfl hln hsz hst (lv_room hroom) hdg hcl) hP hD hS hA [] isR rfl hR hn (fun _ _ h => by cases h) kk
theorem cm_callSF {fb : Nat} (hx : p.tables.exec = Jvm.exec) (hb : c.code = cc) (hml : c.maxLocals = nL) (hown : s.vm.findClass own = some m.cls) (hts : ∀ w ∈ cm_TB, w.before args s = true) (hK : cm_K D T s) (hP : va_P D vwCl ws H) (hD : va_D A ws) (hS : va_S A s.heap H locs) (hA : ∀ q, s.heap.size ≤ q → A q) (hF : cm_F fb s) (hAs : ∀ q, A q → s.heap.size ≤ q)
    (hM : CtF l y (cm_ws y bytes maxL ret) rm D T fb As ov) (hwc : Cond.code y bytes maxL ret ∈ cm_TB) (hwl : Cond.methodLink own index y ∈ cm_TB) (hws : Cond.static y ∈ cm_TB) (hwn : Cond.initialized y.cls ∈ cm_TB) (hrc : rm.cells = 0) (hrs : rm.slots = 0) (hd : y.cls ≠ "java/lang/invoke/MethodHandle" ∧ y.cls ≠ "java/lang/invoke/VarHandle" ∧ (parseMethodDescriptor y.desc).map (fun d => d.parameters.length) = some n) (hln : As.length = n) (hRm : rm.frames + 1 ≤ R.frames ∧ 8 + (maxL + 11) + rm.locals ≤ R.locals)
    (isR : List Nat) (hR : isR.map (fun i => ws[i]?) = wr.map some) (hn : va_nd isR = true)
    (hsz : ls.size = nL) (hst : st0 = As.reverse ++ rest) (hroom : (rest.map fun v => v.category).sum ≤ 8) (hdg : decode cc pc = .ok (.invokestatic index, 3)) (hcl : cells ≤ R.cells ∧ slots ≤ R.slots)
    (kk : ∀ (H1 : Heap) (locs1 : List Loc), va_P D vwCl (wr ++ []) H1 → va_D A (wr ++ []) → va_S A s.heap H1 locs1 → W p l e R s m args below meth c H1 locs1 cells slots Q (F0 m (pc + 3) ls (ov.toList ++ rest))) : W p l e R s m args below meth c H locs cells slots Q (F0 m pc ls st0) :=
  cm_go (va_runS (As := As) (rest := rest) ⟨hx, hb, hml, hown, hts⟩ (hM H.size) (va_cwS n hts (goodIn_app (cm_gl _ (List.forall_mem_cons.mpr ⟨hwl, List.forall_mem_cons.mpr ⟨hws, List.forall_mem_cons.mpr ⟨hwn, fun _ h => absurd h List.not_mem_nil⟩⟩⟩)) (cm_gw hwc)) rfl hrc hrs hd hRm) ⟨cm_blindF, fun U hU hW => by
    obtain ⟨h1, h2⟩ := cm_pre (w := []) (is := []) hP hD hK rfl rfl As U hU hW
    exact ⟨h1, h2, hF.use hS hAs hU hW⟩⟩ rfl hln hsz hst (lv_room hroom) hdg hcl) hP hD hS hA [] isR rfl hR hn (fun _ _ h => by cases h) kk
/-- the array's cells -/
theorem cm_fald {fb : Nat} (hx : p.tables.exec = Jvm.exec) (hb : c.code = cc) (hF : cm_F fb s) (hAs : ∀ q, A q → s.heap.size ≤ q) (hS : va_S A s.heap H locs) {i : Int32} (hin : ¬ (i < 0 ∨ 10 ≤ i.toNatClampNeg)) (hdg : decode cc pc = .ok (.iaload, 1))
    (kk : W p l e R s m args below meth c H locs cells slots Q (F0 m (pc + 1) ls (.int (cm_fibN i.toNatClampNeg) :: rest))) : W p l e R s m args below meth c H locs cells slots Q (F0 m pc ls (.int i :: .ref fb :: rest)) := by
  obtain ⟨cell, h1, h2, h3, h4, h5, h6, h7⟩ := hF.2
  have hlt : i.toNatClampNeg < 10 := Nat.not_le.mp fun q => hin (Or.inr q)
  have hsz : cell.slots.size = cell.slots.size := rfl
  refine W.iald (v := .int (cm_fibN i.toNatClampNeg)) hx hb (by rw [hS.2.1 fb (Array.getElem?_eq_some_iff.mp h1).1 (fun q => h7 (hAs _ q))]; exact h1) h2 h3 (fun q => ?_) (h6 _ hlt) rfl rfl hdg kk
  rcases q with q | q
  · exact hin (Or.inl q)
  · exact absurd (Nat.lt_of_lt_of_le hlt h4) (Nat.not_lt.mpr q)
theorem cm_flen {fb : Nat} (hx : p.tables.exec = Jvm.exec) (hb : c.code = cc) (hF : cm_F fb s) (hAs : ∀ q, A q → s.heap.size ≤ q) (hS : va_S A s.heap H locs) (hdg : decode cc pc = .ok (.arraylength, 1))
    (kk : W p l e R s m args below meth c H locs cells slots Q (F0 m (pc + 1) ls (.int 10 :: rest))) : W p l e R s m args below meth c H locs cells slots Q (F0 m pc ls (.ref fb :: rest)) :=
  va_tlen hx hb (hF.2.narrow hAs) hS rfl hdg kk
theorem cm_fget {fb : Nat} (hx : p.tables.exec = Jvm.exec) (hb : c.code = cc) (hF : cm_F fb s) (hAs : ∀ q, A q → s.heap.size ≤ q) (hS : va_S A s.heap H locs) (hown : s.vm.findClass own = some m.cls) (hlink : (Cond.fieldLink own index RX10 "FIBONACCI" "[I").before args s = true) (hdg : decode cc pc = .ok (.getstatic index, 3))
    (kk : W p l e R s m args below meth c H locs cells slots Q (F0 m (pc + 3) ls (.ref fb :: rest))) : W p l e R s m args below meth c H locs cells slots Q (F0 m pc ls rest) :=
  va_gets hx hb (hF.1.narrow hAs) hS hown hlink (fun _ h => h) hdg kk
end CN
