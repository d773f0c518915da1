section RC
variable {X : CxT} {l : Launch} {w : WoT} {nL : Nat} {cc : ByteArray} {own : String} {Ts : List Cond} {ret : Option FieldType} {rm : Room} {Q : State → Prop} {pc q : Nat} {lv lv' : List (Nat × Value)} {st : List Value} {σ : St}
-- ends
def qI (X : CxT) (w : WoT) (o : Int × St) : State → Prop := MQ X.below (va_Qi (fun r (_ : Unit) => r = Int32.ofInt o.1) (fun _ t => va_P w.D w.cl (wd w o.2) t.heap) (xA w X.s.heap.size)) X.args X.s X.kc X.ks (xA w X.s.heap.size)
def qL (X : CxT) (w : WoT) (o : Int × St) : State → Prop := MQ X.below (va_Ql (fun r (_ : Unit) => r = Int64.ofInt o.1) (fun _ t => va_P w.D w.cl (wd w o.2) t.heap) (xA w X.s.heap.size)) X.args X.s X.kc X.ks (xA w X.s.heap.size)
def qV (X : CxT) (w : WoT) (o : Int × St) : State → Prop := MQ X.below (va_Qv (fun (_ : Unit) => True) (fun _ t => va_P w.D w.cl (wd w o.2) t.heap) (xA w X.s.heap.size)) X.args X.s X.kc X.ks (xA w X.s.heap.size)
theorem r_ireturn (C : Cx X l w nL cc own Ts (some .int) rm) {x : Int} {o : Int × St} (ho : some (x, σ) = some o) (hd : decode cc pc = .ok (.ireturn, 1)) : Rj X w nL (qI X w o) pc lv [vI x] σ := by
  cases ho
  exact fun H locs ls hP hS hl => W.iret (v := Int32.ofInt x) C.x C.b C.r (fun t ht hW => ⟨⟨_, (), rfl, rfl, by show va_P w.D w.cl (wd w σ) t.heap; rw [ht]; exact hP⟩, hS.F ht⟩) hS.2.2 hd C.lk
theorem r_zreturn (C : Cx X l w nL cc own Ts (some .boolean) rm) {x : Int} {o : Int × St} (hx : bit1 x) (ho : some (x, σ) = some o) (hd : decode cc pc = .ok (.ireturn, 1)) : Rj X w nL (qI X w o) pc lv [vI x] σ := by
  cases ho
  exact fun H locs ls hP hS hl => W.zret (v := Int32.ofInt x) C.x C.b C.r (nar_v hx) (fun t ht hW => ⟨⟨_, (), rfl, rfl, by show va_P w.D w.cl (wd w σ) t.heap; rw [ht]; exact hP⟩, hS.F ht⟩) hS.2.2 hd C.lk
theorem r_lreturn (C : Cx X l w nL cc own Ts (some .long) rm) {x : Int} {o : Int × St} (ho : some (x, σ) = some o) (hd : decode cc pc = .ok (.lreturn, 1)) : Rj X w nL (qL X w o) pc lv [vJ x] σ := by
  cases ho
  exact fun H locs ls hP hS hl => W.lret (v := Int64.ofInt x) C.x C.b C.r (fun t ht hW => ⟨⟨_, (), rfl, rfl, by show va_P w.D w.cl (wd w σ) t.heap; rw [ht]; exact hP⟩, hS.F ht⟩) hS.2.2 hd C.lk
theorem r_return (C : Cx X l w nL cc own Ts none rm) {o : Int × St} (ho : some (0, σ) = some o) (hd : decode cc pc = .ok (.return_, 1)) : Rj X w nL (qV X w o) pc lv [] σ := by
  cases ho
  exact fun H locs ls hP hS hl => W.vret C.x C.b C.r (fun t ht hW => ⟨⟨(), rfl, trivial, by show va_P w.D w.cl (wd w σ) t.heap; rw [ht]; exact hP⟩, hS.F ht⟩) hS.2.2 hd C.lk
-- contracts
def Pw (w : WoT) (sz : Nat) (σ : St) : State → Prop := fun U => U.heap.size = sz ∧ va_P w.D w.cl (wd w σ) U.heap ∧ va_K w.D w.cl w.tys U ∧ nw_ok U
def CtI (l : Launch) (w : WoT) (y : MethodName) (ws : List Cond) (rm : Room) (av : List Value) (σ : St) (o : Int × St) : Prop := ∀ sz : Nat, Met l y ws rm (va_Pc av (Pw w sz σ)) (va_Qi (fun r (_ : Unit) => r = Int32.ofInt o.1) (fun _ t => va_P w.D w.cl (wd w o.2) t.heap) (xA w sz)) 0 0 (xA w sz)
def CtL (l : Launch) (w : WoT) (y : MethodName) (ws : List Cond) (rm : Room) (av : List Value) (σ : St) (o : Int × St) : Prop := ∀ sz : Nat, Met l y ws rm (va_Pc av (Pw w sz σ)) (va_Ql (fun r (_ : Unit) => r = Int64.ofInt o.1) (fun _ t => va_P w.D w.cl (wd w o.2) t.heap) (xA w sz)) 0 0 (xA w sz)
def CtV (l : Launch) (w : WoT) (y : MethodName) (ws : List Cond) (rm : Room) (av : List Value) (σ : St) (o : Int × St) : Prop := ∀ sz : Nat, Met l y ws rm (va_Pc av (Pw w sz σ)) (va_Qv (fun (_ : Unit) => True) (fun _ t => va_P w.D w.cl (wd w o.2) t.heap) (xA w sz)) 0 0 (xA w sz)
/-- a method's own words: its code, then all that stay -/
abbrev wo (y : MethodName) (cc : ByteArray) (maxL : Nat) (ret : Option FieldType) : List Cond := Cond.code y cc maxL ret :: tb_g
theorem ct_start {y : MethodName} {maxL : Nat} {av : List Value} {sz : Nat} {Qc : Array Value → State → Outcome → State → Prop} (hy : plainName y.cls = true) (hi : wo_i w) (hn : (lg_sl av).length ≤ maxL)
    (body : ∀ X : CxT, X.s.heap.size = sz → X.kc = 0 → X.ks = 0 → X.args = av.toArray → Cx X l w maxL cc y.cls (wo y cc maxL ret) ret rm → Rj X w maxL (MQ X.below Qc X.args X.s 0 0 (xA w X.s.heap.size)) 0 (lv_args 0 av) [] σ) :
    Met l y (wo y cc maxL ret) rm (va_Pc av (Pw w sz σ)) Qc 0 0 (xA w sz) := by
  refine Met.ofW (cc := cc) (maxL := maxL) (ret := ret) hy rfl ?_
  intro p e s m args below meth c s₁ B hml hv
  obtain ⟨rfl, rfl, hP, hK, hN⟩ := hv
  have hl := lv_entry av hn
  rw [lg_entry_eq]
  exact body (p, l, e, rm, s, m, av.toArray, below, meth, c, 0, 0) rfl rfl rfl rfl ⟨B.exec, B.bytes, hml, findClass_of_methodNamed B.named, atoms_spec (ws := wo y cc maxL ret) B.pre, hK, hi, B.notSynchronized, B.returns, rfl, hN, rfl, fun w' h => List.mem_cons_of_mem _ h, Nat.zero_le _, Nat.zero_le _⟩ s.heap [] _ hP va_S.rf hl
theorem ct_I {y : MethodName} {maxL : Nat} {ty : FieldType} {av : List Value} {o : Int × St} (hy : plainName y.cls = true) (hi : wo_i w) (hn : (lg_sl av).length ≤ maxL)
    (body : ∀ X : CxT, Cx X l w maxL cc y.cls (wo y cc maxL (some ty)) (some ty) rm → Rj X w maxL (qI X w o) 0 (lv_args 0 av) [] σ) : CtI l w y (wo y cc maxL (some ty)) rm av σ o :=
  fun sz => ct_start hy hi hn fun X hs h0 h1 _ C => by
    have hb := body X C
    subst hs
    unfold qI at hb
    rw [h0, h1] at hb
    exact hb
theorem ct_L {y : MethodName} {maxL : Nat} {ty : FieldType} {av : List Value} {o : Int × St} (hy : plainName y.cls = true) (hi : wo_i w) (hn : (lg_sl av).length ≤ maxL)
    (body : ∀ X : CxT, Cx X l w maxL cc y.cls (wo y cc maxL (some ty)) (some ty) rm → Rj X w maxL (qL X w o) 0 (lv_args 0 av) [] σ) : CtL l w y (wo y cc maxL (some ty)) rm av σ o :=
  fun sz => ct_start hy hi hn fun X hs h0 h1 _ C => by
    have hb := body X C
    subst hs
    unfold qL at hb
    rw [h0, h1] at hb
    exact hb
theorem ct_V {y : MethodName} {maxL : Nat} {av : List Value} {o : Int × St} (hy : plainName y.cls = true) (hi : wo_i w) (hn : (lg_sl av).length ≤ maxL)
    (body : ∀ X : CxT, Cx X l w maxL cc y.cls (wo y cc maxL none) none rm → Rj X w maxL (qV X w o) 0 (lv_args 0 av) [] σ) : CtV l w y (wo y cc maxL none) rm av σ o :=
  fun sz => ct_start hy hi hn fun X hs h0 h1 _ C => by
    have hb := body X C
    subst hs
    unfold qV at hb
    rw [h0, h1] at hb
    exact hb
-- calls
/-- what the tables say of a method that is called on an object -/
def mtV (y : MethodName) (cc : ByteArray) (maxL : Nat) (ret : Option FieldType) (n : Nat) : Prop := Cond.code y cc maxL ret ∈ tb_g ∧ Cond.initialized y.cls ∈ tb_g ∧ Cond.instanceMethod y ∈ tb_g ∧ Cond.selects y.cls y y ∈ tb_g ∧ (y.cls ≠ "java/lang/invoke/MethodHandle" ∧ y.cls ≠ "java/lang/invoke/VarHandle" ∧ (parseMethodDescriptor y.desc).map (fun d => d.parameters.length) = some n)
def mtS (y : MethodName) (cc : ByteArray) (maxL : Nat) (ret : Option FieldType) (n : Nat) : Prop := Cond.code y cc maxL ret ∈ tb_g ∧ Cond.initialized y.cls ∈ tb_g ∧ Cond.static y ∈ tb_g ∧ (y.cls ≠ "java/lang/invoke/MethodHandle" ∧ y.cls ≠ "java/lang/invoke/VarHandle" ∧ (parseMethodDescriptor y.desc).map (fun d => d.parameters.length) = some n)
theorem cw_B {y : MethodName} {c0 : ByteArray} {maxL n ix : Nat} {re : Option FieldType} {rc : Room} (C : Cx X l w nL cc own Ts ret rm) (h1 : Cond.code y c0 maxL re ∈ tb_g) (h2 : Cond.initialized y.cls ∈ tb_g) (hd : y.cls ≠ "java/lang/invoke/MethodHandle" ∧ y.cls ≠ "java/lang/invoke/VarHandle" ∧ (parseMethodDescriptor y.desc).map (fun d => d.parameters.length) = some n)
    (hlk : Cond.methodLink own ix y ∈ tb_g) (hc : rc.cells = 0) (hs : rc.slots = 0) (hR : rc.frames + 1 ≤ rm.frames ∧ 8 + (maxL + 11) + rc.locals ≤ rm.locals) : CallB X.R X.s X.args own ix y c0 maxL re (wo y c0 maxL re) rc 0 0 n := by
  have hG : GoodIn Ts (wo y c0 maxL re) := tb_in C.tb (fun w' h => (List.mem_cons.mp h).elim (fun e => e ▸ h1) id)
  refine callB_of n C.ts hG rfl hc hs (C.t h2) (C.t hlk) hd ?_
  rw [C.R]; exact hR
theorem cw_N {y : MethodName} {c0 : ByteArray} {maxL n ix : Nat} {re : Option FieldType} {rc : Room} {host : String} (C : Cx X l w nL cc own Ts ret rm) (h1 : Cond.code y c0 maxL re ∈ tb_g) (h2 : Cond.initialized y.cls ∈ tb_g) (hd : y.cls ≠ "java/lang/invoke/MethodHandle" ∧ y.cls ≠ "java/lang/invoke/VarHandle" ∧ (parseMethodDescriptor y.desc).map (fun d => d.parameters.length) = some n)
    (hlk : (own, ix, y, host) ∈ nw_m) (hc : rc.cells = 0) (hs : rc.slots = 0) (hR : rc.frames + 1 ≤ rm.frames ∧ 8 + (maxL + 11) + rc.locals ≤ rm.locals) : va_CN X.R X.s X.args own ix y host c0 maxL re (wo y c0 maxL re) rc 0 0 n := by
  have hG : GoodIn Ts (wo y c0 maxL re) := tb_in C.tb (fun w' h => (List.mem_cons.mp h).elim (fun e => e ▸ h1) id)
  refine va_cnB n C.ts hG rfl hc hs (C.nw.2 _ hlk) (C.t h2) hd ?_
  rw [C.R]; exact hR
theorem pw_blind (av : List Value) (sz : Nat) : FrameBlind (va_Pc av (Pw w sz σ)) := fun a U g mk h => by
  obtain ⟨h0, h1, h2, h3, h4⟩ := h
  exact ⟨h0, h1, h2, va_K.moved (u := U) (U := U.calling g mk a) (Vm.Alike.refl U.vm) h3, nw_same rfl h4⟩
theorem pw_at (C : Cx X l w nL cc own Ts ret rm) {H : Heap} (hP : va_P w.D w.cl (wd w σ) H) (av : List Value) : ∀ U : State, U.heap = H → X.s.WarmedH U.vm → va_Pc av (Pw w H.size σ) av.toArray U := fun U hU hW => ⟨rfl, by rw [hU], by rw [hU]; exact hP, va_K.moved hW.alike C.K, nw_warm hW C.nw⟩
theorem xA_c {H0 H : Heap} (h : H0.size ≤ H.size) : ∀ q, xA w H.size q → xA w H0.size q := fun q hq => hq.elim (fun a => Or.inl a) (fun a => Or.inr (Nat.le_trans h a))
theorem cV_run {y : MethodName} {c0 : ByteArray} {maxL n ix : Nat} {re : Option FieldType} {rc : Room} {As rest : List Value} {k0 : Nat} {ci : Nat} {fs : List Value} {vc : vw_C} {Qc : Nat → Array Value → State → Outcome → State → Prop} {H : Heap} {locs : List Loc} {ls : Array Slot}
    (C : Cx X l w nL cc own Ts ret rm) (hM : ∀ sz : Nat, Met l y (wo y c0 maxL re) rc (va_Pc (.ref (w.h k0) :: As) (Pw w sz σ)) (Qc sz) 0 0 (xA w sz)) (mt : mtV y c0 maxL re n) (hlk : Cond.methodLink own ix y ∈ tb_g) (hk0 : k0 < w.n) (hc0 : w.c k0 (σ k0) = .inr (ci, fs)) (hcl : w.cl[ci]? = some vc) (hcn : vc.1 = y.cls)
    (hn : As.length = n) (hc : rc.cells = 0) (hs : rc.slots = 0) (hR : rc.frames + 1 ≤ rm.frames ∧ 8 + (maxL + 11) + rc.locals ≤ rm.locals) (hst : st = As.reverse ++ .ref (w.h k0) :: rest) (hW : (rest.map fun v => v.category).sum ≤ 8) (hd : decode cc pc = .ok (.invokevirtual ix, 3))
    (hP : va_P w.D w.cl (wd w σ) H) (hl : lv_has ls nL lv) : va_Run X.p X.l X.e X.R X.s X.m X.args X.below X.meth X.c H locs X.kc X.ks 0 0 (F0 X.m pc ls st) rest (Qc H.size (Value.ref (w.h k0) :: As).toArray) (xA w H.size) := by
  subst hst
  have hM := hM H.size
  rw [← C.la] at hM
  refine va_runV (As := As) (rest := rest) (own := own) (C := y.cls) ⟨C.x, C.b, C.ml, C.ow, C.ts⟩ hM ⟨cw_B C mt.1 mt.2.1 mt.2.2.2.2 hlk hc hs hR, C.t mt.2.2.1, C.t mt.2.2.2.1⟩ ⟨pw_blind _ _, ?_, pw_at C hP _⟩ rfl hn hl.1 rfl (lv_room hW) hd C.k
  have h := va_recv C.K hP hcl (wd_o σ hk0 hc0)
  rw [hcn] at h
  exact h
theorem cS_run {y : MethodName} {c0 : ByteArray} {maxL n ix : Nat} {re : Option FieldType} {rc : Room} {As rest : List Value} {Qc : Nat → Array Value → State → Outcome → State → Prop} {H : Heap} {locs : List Loc} {ls : Array Slot}
    (C : Cx X l w nL cc own Ts ret rm) (hM : ∀ sz : Nat, Met l y (wo y c0 maxL re) rc (va_Pc As (Pw w sz σ)) (Qc sz) 0 0 (xA w sz)) (mt : mtS y c0 maxL re n) (hlk : Cond.methodLink own ix y ∈ tb_g)
    (hn : As.length = n) (hc : rc.cells = 0) (hs : rc.slots = 0) (hR : rc.frames + 1 ≤ rm.frames ∧ 8 + (maxL + 11) + rc.locals ≤ rm.locals) (hst : st = As.reverse ++ rest) (hW : (rest.map fun v => v.category).sum ≤ 8) (hd : decode cc pc = .ok (.invokestatic ix, 3))
    (hP : va_P w.D w.cl (wd w σ) H) (hl : lv_has ls nL lv) : va_Run X.p X.l X.e X.R X.s X.m X.args X.below X.meth X.c H locs X.kc X.ks 0 0 (F0 X.m pc ls st) rest (Qc H.size As.toArray) (xA w H.size) := by
  subst hst
  have hM := hM H.size
  rw [← C.la] at hM
  exact va_runS (As := As) (rest := rest) (own := own) ⟨C.x, C.b, C.ml, C.ow, C.ts⟩ hM ⟨cw_B C mt.1 mt.2.1 mt.2.2.2 hlk hc hs hR, C.t mt.2.2.1⟩ ⟨pw_blind _ _, pw_at C hP _⟩ rfl hn hl.1 rfl (lv_room hW) hd C.k
theorem cT_run {y : MethodName} {c0 : ByteArray} {maxL n ix : Nat} {re : Option FieldType} {rc : Room} {As rest : List Value} {host : String} {Qc : Nat → Array Value → State → Outcome → State → Prop} {H : Heap} {locs : List Loc} {ls : Array Slot}
    (C : Cx X l w nL cc own Ts ret rm) (hM : ∀ sz : Nat, Met l y (wo y c0 maxL re) rc (va_Pc As (Pw w sz σ)) (Qc sz) 0 0 (xA w sz)) (mt : mtS y c0 maxL re n) (hlk : (own, ix, y, host) ∈ nw_m)
    (hn : As.length = n) (hc : rc.cells = 0) (hs : rc.slots = 0) (hR : rc.frames + 1 ≤ rm.frames ∧ 8 + (maxL + 11) + rc.locals ≤ rm.locals) (hst : st = As.reverse ++ rest) (hW : (rest.map fun v => v.category).sum ≤ 8) (hd : decode cc pc = .ok (.invokestatic ix, 3))
    (hP : va_P w.D w.cl (wd w σ) H) (hl : lv_has ls nL lv) : va_Run X.p X.l X.e X.R X.s X.m X.args X.below X.meth X.c H locs X.kc X.ks 0 0 (F0 X.m pc ls st) rest (Qc H.size As.toArray) (xA w H.size) := by
  subst hst
  have hM := hM H.size
  rw [← C.la] at hM
  exact va_runSN (As := As) (rest := rest) (own := own) ⟨C.x, C.b, C.ml, C.ow, C.ts⟩ hM ⟨cw_N C mt.1 mt.2.1 mt.2.2.2 hlk hc hs hR, C.t mt.2.2.1, trivial⟩ ⟨pw_blind _ _, pw_at C hP _⟩ rfl hn hl.1 rfl (lv_room hW) hd C.k
theorem r_cVI {y : MethodName} {c0 : ByteArray} {maxL n ix : Nat} {re : Option FieldType} {rc : Room} {As rest : List Value} {k0 : Nat} {ci : Nat} {fs : List Value} {vc : vw_C} {r1 : Int} {σ1 : St} (C : Cx X l w nL cc own Ts ret rm) (hM : CtI l w y (wo y c0 maxL re) rc (.ref (w.h k0) :: As) σ (r1, σ1)) (mt : mtV y c0 maxL re n) (hlk : Cond.methodLink own ix y ∈ tb_g) (hk0 : k0 < w.n) (hc0 : w.c k0 (σ k0) = .inr (ci, fs)) (hcl : w.cl[ci]? = some vc) (hcn : vc.1 = y.cls) (hn : As.length = n) (hc : rc.cells = 0) (hs : rc.slots = 0) (hR : rc.frames + 1 ≤ rm.frames ∧ 8 + (maxL + 11) + rc.locals ≤ rm.locals) (hst : st = As.reverse ++ .ref (w.h k0) :: rest) (hW : (rest.map fun v => v.category).sum ≤ 8) (hd : decode cc pc = .ok (.invokevirtual ix, 3)) (hq : pc + 3 = q) (kk : Rj X w nL Q q lv (vI r1 :: rest) σ1) : Rj X w nL Q pc lv st σ := by
  subst hq; intro H locs ls hP hS hl
  refine va_calli (cV_run C hM mt hlk hk0 hc0 hcl hcn hn hc hs hR hst hW hd hP hl) hS (fun q' _ h => xA_c hS.1 q' h) (xA_c hS.1) (fun r u t H1 locs1 _ _ hr hb _ _ hS1 => ?_)
  rename_i ht _ _ _
  subst hr
  rw [ht] at hb
  exact kk H1 locs1 ls hb hS1 hl
theorem r_cVL {y : MethodName} {c0 : ByteArray} {maxL n ix : Nat} {re : Option FieldType} {rc : Room} {As rest : List Value} {k0 : Nat} {ci : Nat} {fs : List Value} {vc : vw_C} {r1 : Int} {σ1 : St} (C : Cx X l w nL cc own Ts ret rm) (hM : CtL l w y (wo y c0 maxL re) rc (.ref (w.h k0) :: As) σ (r1, σ1)) (mt : mtV y c0 maxL re n) (hlk : Cond.methodLink own ix y ∈ tb_g) (hk0 : k0 < w.n) (hc0 : w.c k0 (σ k0) = .inr (ci, fs)) (hcl : w.cl[ci]? = some vc) (hcn : vc.1 = y.cls) (hn : As.length = n) (hc : rc.cells = 0) (hs : rc.slots = 0) (hR : rc.frames + 1 ≤ rm.frames ∧ 8 + (maxL + 11) + rc.locals ≤ rm.locals) (hst : st = As.reverse ++ .ref (w.h k0) :: rest) (hW : (rest.map fun v => v.category).sum ≤ 8) (hd : decode cc pc = .ok (.invokevirtual ix, 3)) (hq : pc + 3 = q) (kk : Rj X w nL Q q lv (vJ r1 :: rest) σ1) : Rj X w nL Q pc lv st σ := by
  subst hq; intro H locs ls hP hS hl
  refine va_calll (cV_run C hM mt hlk hk0 hc0 hcl hcn hn hc hs hR hst hW hd hP hl) hS (fun q' _ h => xA_c hS.1 q' h) (xA_c hS.1) (fun r u t H1 locs1 _ _ hr hb _ _ hS1 => ?_)
  rename_i ht _ _ _
  subst hr
  rw [ht] at hb
  exact kk H1 locs1 ls hb hS1 hl
theorem r_cVV {y : MethodName} {c0 : ByteArray} {maxL n ix : Nat} {re : Option FieldType} {rc : Room} {As rest : List Value} {k0 : Nat} {ci : Nat} {fs : List Value} {vc : vw_C} {r1 : Int} {σ1 : St} (C : Cx X l w nL cc own Ts ret rm) (hM : CtV l w y (wo y c0 maxL re) rc (.ref (w.h k0) :: As) σ (r1, σ1)) (mt : mtV y c0 maxL re n) (hlk : Cond.methodLink own ix y ∈ tb_g) (hk0 : k0 < w.n) (hc0 : w.c k0 (σ k0) = .inr (ci, fs)) (hcl : w.cl[ci]? = some vc) (hcn : vc.1 = y.cls) (hn : As.length = n) (hc : rc.cells = 0) (hs : rc.slots = 0) (hR : rc.frames + 1 ≤ rm.frames ∧ 8 + (maxL + 11) + rc.locals ≤ rm.locals) (hst : st = As.reverse ++ .ref (w.h k0) :: rest) (hW : (rest.map fun v => v.category).sum ≤ 8) (hd : decode cc pc = .ok (.invokevirtual ix, 3)) (hq : pc + 3 = q) (kk : Rj X w nL Q q lv (rest) σ1) : Rj X w nL Q pc lv st σ := by
  subst hq; intro H locs ls hP hS hl
  refine va_callv (cV_run C hM mt hlk hk0 hc0 hcl hcn hn hc hs hR hst hW hd hP hl) hS (fun q' _ h => xA_c hS.1 q' h) (xA_c hS.1) (fun u t H1 locs1 _ _ hr hb _ _ hS1 => ?_)
  rename_i ht _ _ _
  
  rw [ht] at hb
  exact kk H1 locs1 ls hb hS1 hl
theorem r_cSI {y : MethodName} {c0 : ByteArray} {maxL n ix : Nat} {re : Option FieldType} {rc : Room} {As rest : List Value} {r1 : Int} {σ1 : St} (C : Cx X l w nL cc own Ts ret rm) (hM : CtI l w y (wo y c0 maxL re) rc As σ (r1, σ1)) (mt : mtS y c0 maxL re n) (hlk : Cond.methodLink own ix y ∈ tb_g) (hn : As.length = n) (hc : rc.cells = 0) (hs : rc.slots = 0) (hR : rc.frames + 1 ≤ rm.frames ∧ 8 + (maxL + 11) + rc.locals ≤ rm.locals) (hst : st = As.reverse ++ rest) (hW : (rest.map fun v => v.category).sum ≤ 8) (hd : decode cc pc = .ok (.invokestatic ix, 3)) (hq : pc + 3 = q) (kk : Rj X w nL Q q lv (vI r1 :: rest) σ1) : Rj X w nL Q pc lv st σ := by
  subst hq; intro H locs ls hP hS hl
  refine va_calli (cS_run C hM mt hlk hn hc hs hR hst hW hd hP hl) hS (fun q' _ h => xA_c hS.1 q' h) (xA_c hS.1) (fun r u t H1 locs1 _ _ hr hb _ _ hS1 => ?_)
  rename_i ht _ _ _
  subst hr
  rw [ht] at hb
  exact kk H1 locs1 ls hb hS1 hl
theorem r_cSL {y : MethodName} {c0 : ByteArray} {maxL n ix : Nat} {re : Option FieldType} {rc : Room} {As rest : List Value} {r1 : Int} {σ1 : St} (C : Cx X l w nL cc own Ts ret rm) (hM : CtL l w y (wo y c0 maxL re) rc As σ (r1, σ1)) (mt : mtS y c0 maxL re n) (hlk : Cond.methodLink own ix y ∈ tb_g) (hn : As.length = n) (hc : rc.cells = 0) (hs : rc.slots = 0) (hR : rc.frames + 1 ≤ rm.frames ∧ 8 + (maxL + 11) + rc.locals ≤ rm.locals) (hst : st = As.reverse ++ rest) (hW : (rest.map fun v => v.category).sum ≤ 8) (hd : decode cc pc = .ok (.invokestatic ix, 3)) (hq : pc + 3 = q) (kk : Rj X w nL Q q lv (vJ r1 :: rest) σ1) : Rj X w nL Q pc lv st σ := by
  subst hq; intro H locs ls hP hS hl
  refine va_calll (cS_run C hM mt hlk hn hc hs hR hst hW hd hP hl) hS (fun q' _ h => xA_c hS.1 q' h) (xA_c hS.1) (fun r u t H1 locs1 _ _ hr hb _ _ hS1 => ?_)
  rename_i ht _ _ _
  subst hr
  rw [ht] at hb
  exact kk H1 locs1 ls hb hS1 hl
theorem r_cSV {y : MethodName} {c0 : ByteArray} {maxL n ix : Nat} {re : Option FieldType} {rc : Room} {As rest : List Value} {r1 : Int} {σ1 : St} (C : Cx X l w nL cc own Ts ret rm) (hM : CtV l w y (wo y c0 maxL re) rc As σ (r1, σ1)) (mt : mtS y c0 maxL re n) (hlk : Cond.methodLink own ix y ∈ tb_g) (hn : As.length = n) (hc : rc.cells = 0) (hs : rc.slots = 0) (hR : rc.frames + 1 ≤ rm.frames ∧ 8 + (maxL + 11) + rc.locals ≤ rm.locals) (hst : st = As.reverse ++ rest) (hW : (rest.map fun v => v.category).sum ≤ 8) (hd : decode cc pc = .ok (.invokestatic ix, 3)) (hq : pc + 3 = q) (kk : Rj X w nL Q q lv (rest) σ1) : Rj X w nL Q pc lv st σ := by
  subst hq; intro H locs ls hP hS hl
  refine va_callv (cS_run C hM mt hlk hn hc hs hR hst hW hd hP hl) hS (fun q' _ h => xA_c hS.1 q' h) (xA_c hS.1) (fun u t H1 locs1 _ _ hr hb _ _ hS1 => ?_)
  rename_i ht _ _ _
  
  rw [ht] at hb
  exact kk H1 locs1 ls hb hS1 hl
theorem r_cTI {y : MethodName} {c0 : ByteArray} {maxL n ix : Nat} {re : Option FieldType} {rc : Room} {As rest : List Value} {host : String} {r1 : Int} {σ1 : St} (C : Cx X l w nL cc own Ts ret rm) (hM : CtI l w y (wo y c0 maxL re) rc As σ (r1, σ1)) (mt : mtS y c0 maxL re n) (hlk : (own, ix, y, host) ∈ nw_m) (hn : As.length = n) (hc : rc.cells = 0) (hs : rc.slots = 0) (hR : rc.frames + 1 ≤ rm.frames ∧ 8 + (maxL + 11) + rc.locals ≤ rm.locals) (hst : st = As.reverse ++ rest) (hW : (rest.map fun v => v.category).sum ≤ 8) (hd : decode cc pc = .ok (.invokestatic ix, 3)) (hq : pc + 3 = q) (kk : Rj X w nL Q q lv (vI r1 :: rest) σ1) : Rj X w nL Q pc lv st σ := by
  subst hq; intro H locs ls hP hS hl
  refine va_calli (cT_run C hM mt hlk hn hc hs hR hst hW hd hP hl) hS (fun q' _ h => xA_c hS.1 q' h) (xA_c hS.1) (fun r u t H1 locs1 _ _ hr hb _ _ hS1 => ?_)
  rename_i ht _ _ _
  subst hr
  rw [ht] at hb
  exact kk H1 locs1 ls hb hS1 hl
theorem r_cTL {y : MethodName} {c0 : ByteArray} {maxL n ix : Nat} {re : Option FieldType} {rc : Room} {As rest : List Value} {host : String} {r1 : Int} {σ1 : St} (C : Cx X l w nL cc own Ts ret rm) (hM : CtL l w y (wo y c0 maxL re) rc As σ (r1, σ1)) (mt : mtS y c0 maxL re n) (hlk : (own, ix, y, host) ∈ nw_m) (hn : As.length = n) (hc : rc.cells = 0) (hs : rc.slots = 0) (hR : rc.frames + 1 ≤ rm.frames ∧ 8 + (maxL + 11) + rc.locals ≤ rm.locals) (hst : st = As.reverse ++ rest) (hW : (rest.map fun v => v.category).sum ≤ 8) (hd : decode cc pc = .ok (.invokestatic ix, 3)) (hq : pc + 3 = q) (kk : Rj X w nL Q q lv (vJ r1 :: rest) σ1) : Rj X w nL Q pc lv st σ := by
  subst hq; intro H locs ls hP hS hl
  refine va_calll (cT_run C hM mt hlk hn hc hs hR hst hW hd hP hl) hS (fun q' _ h => xA_c hS.1 q' h) (xA_c hS.1) (fun r u t H1 locs1 _ _ hr hb _ _ hS1 => ?_)
  rename_i ht _ _ _
  subst hr
  rw [ht] at hb
  exact kk H1 locs1 ls hb hS1 hl
theorem r_cTV {y : MethodName} {c0 : ByteArray} {maxL n ix : Nat} {re : Option FieldType} {rc : Room} {As rest : List Value} {host : String} {r1 : Int} {σ1 : St} (C : Cx X l w nL cc own Ts ret rm) (hM : CtV l w y (wo y c0 maxL re) rc As σ (r1, σ1)) (mt : mtS y c0 maxL re n) (hlk : (own, ix, y, host) ∈ nw_m) (hn : As.length = n) (hc : rc.cells = 0) (hs : rc.slots = 0) (hR : rc.frames + 1 ≤ rm.frames ∧ 8 + (maxL + 11) + rc.locals ≤ rm.locals) (hst : st = As.reverse ++ rest) (hW : (rest.map fun v => v.category).sum ≤ 8) (hd : decode cc pc = .ok (.invokestatic ix, 3)) (hq : pc + 3 = q) (kk : Rj X w nL Q q lv (rest) σ1) : Rj X w nL Q pc lv st σ := by
  subst hq; intro H locs ls hP hS hl
  refine va_callv (cT_run C hM mt hlk hn hc hs hR hst hW hd hP hl) hS (fun q' _ h => xA_c hS.1 q' h) (xA_c hS.1) (fun u t H1 locs1 _ _ hr hb _ _ hS1 => ?_)
  rename_i ht _ _ _
  
  rw [ht] at hb
  exact kk H1 locs1 ls hb hS1 hl
end RC
