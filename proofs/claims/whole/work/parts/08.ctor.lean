/-! a constructor's body: its world is listed cell by cell, and grows -/
def ty3 (cyI cyJ cyZ : ClassId) : List (ClassId × FieldType) := [(cyI, .int), (cyJ, .long), (cyZ, .boolean)]
abbrev w0 (D : va_G) (tys : List (ClassId × FieldType)) : WoT := (0, fun _ => 0, fun _ _ => .inr (0, []), D, cls_, tys)
def zf : Int → Int := fun _ => 0
/-- the class's static tables, that nobody writes -/
def fpt1 (i : Int) : Int := if i = 0 then 20 else if i = 1 then 10 else if i = 2 then 0 else -20
def fpt2 (i : Int) : Int := if i = 0 then 700 else if i = 1 then 200 else if i = 2 then 80 else 20
def fpt3 (i : Int) : Int := if i = 0 then 20 else if i = 1 then 80 else if i = 2 then 200 else 700
def fP (g : Int → Int) : Nat → Value := fun j => vI (g (j : Int))
def sTt (n : String) (f : Nat → Value) (A : Nat → Prop) (U : State) (H : Heap) : Prop := ∃ t : Nat, va_Z "OneSelf$Weights" n "[I" (.ref t) A U H ∧ va_T .int t 4 f A U H
def sT (A : Nat → Prop) (U : State) (H : Heap) : Prop := sTt "FIRST_POINTS" (fP fpt1) A U H ∧ sTt "FIRST_ONE" (fP fpt2) A U H ∧ sTt "FIRST_NOT_ONE" (fP fpt3) A U H
theorem sTt_c {n : String} {f : Nat → Value} {A B : Nat → Prop} {u U : State} {H H1 : Heap} (h : sTt n f A u H) (hvm : u.vm.Alike U.vm) (hq : ∀ a : Nat, a < H.size → ¬ A a → H1[a]? = H[a]?) (hAB : ∀ q, B q → A q) : sTt n f B U H1 := by
  obtain ⟨t, h1, h2⟩ := h
  exact ⟨t, ((h1.moved hvm).kept hq).narrow hAB, ((h2.moved hvm).kept hq).narrow hAB⟩
theorem sT_c {A B : Nat → Prop} {u U : State} {H H1 : Heap} (h : sT A u H) (hvm : u.vm.Alike U.vm) (hq : ∀ a : Nat, a < H.size → ¬ A a → H1[a]? = H[a]?) (hAB : ∀ q, B q → A q) : sT B U H1 := ⟨sTt_c h.1 hvm hq hAB, sTt_c h.2.1 hvm hq hAB, sTt_c h.2.2 hvm hq hAB⟩
def Lk (X : CxT) (D : va_G) (A : Nat → Prop) (nL : Nat) (Q : State → Prop) (kc ks pc : Nat) (lv : List (Nat × Value)) (st : List Value) (ws : va_W) : Prop :=
  ∀ (H : Heap) (locs : List Loc) (ls : Array Slot), va_P D cls_ ws H → va_D A ws → va_S A X.s.heap H locs → lv_has ls nL lv → W X.p X.l X.e X.R X.s X.m X.args X.below X.meth X.c H locs kc ks Q (F0 X.m pc ls st)
section LKS
variable {X : CxT} {l : Launch} {D : va_G} {cyI cyJ cyZ : ClassId} {A : Nat → Prop} {nL : Nat} {cc : ByteArray} {own : String} {Ts : List Cond} {ret : Option FieldType} {rm : Room} {Q : State → Prop} {kc ks pc q : Nat} {lv : List (Nat × Value)} {st : List Value} {ws ws' : va_W}
theorem k_aload_n (C : Cx X l (w0 D (ty3 cyI cyJ cyZ)) nL cc own Ts ret rm) {k' : Fin 4} {i x : Nat} (j : Nat) (hd : decode cc pc = .ok (.aload_n k', 1)) (hi : (k' : Nat) = i) (hj : lv[j]? = some (i, .ref x)) (hq : pc + 1 = q) (k : Lk X D A nL Q kc ks q lv (.ref x :: st) ws) : Lk X D A nL Q kc ks pc lv st ws := by
  subst hq; exact fun H locs ls hP hD hS hl => lv_aload_n C.x C.b hd hi (lv_at hl j hj) (k H locs ls hP hD hS hl)
theorem k_iconst (C : Cx X l (w0 D (ty3 cyI cyJ cyZ)) nL cc own Ts ret rm) {n : Int} (hd : decode cc pc = .ok (.iconst n, 1)) (hq : pc + 1 = q) (k : Lk X D A nL Q kc ks q lv (vI n :: st) ws) : Lk X D A nL Q kc ks pc lv st ws := by
  subst hq; exact fun H locs ls hP hD hS hl => lv_iconst C.x C.b hd rfl (k H locs ls hP hD hS hl)
theorem k_bipush (C : Cx X l (w0 D (ty3 cyI cyJ cyZ)) nL cc own Ts ret rm) {n x : Int} (hd : decode cc pc = .ok (.bipush n, 2)) (hx : (Int8.ofInt n).toInt32 = Int32.ofInt x) (hq : pc + 2 = q) (k : Lk X D A nL Q kc ks q lv (vI x :: st) ws) : Lk X D A nL Q kc ks pc lv st ws := by
  subst hq; exact fun H locs ls hP hD hS hl => lv_bipush C.x C.b hd hx (k H locs ls hP hD hS hl)
theorem k_sipush (C : Cx X l (w0 D (ty3 cyI cyJ cyZ)) nL cc own Ts ret rm) {n x : Int} (hd : decode cc pc = .ok (.sipush n, 3)) (hx : (Int16.ofInt n).toInt32 = Int32.ofInt x) (hq : pc + 3 = q) (k : Lk X D A nL Q kc ks q lv (vI x :: st) ws) : Lk X D A nL Q kc ks pc lv st ws := by
  subst hq; exact fun H locs ls hP hD hS hl => lv_sipush C.x C.b hd hx (k H locs ls hP hD hS hl)
theorem k_dup (C : Cx X l (w0 D (ty3 cyI cyJ cyZ)) nL cc own Ts ret rm) {v : Value} (hd : decode cc pc = .ok (.dup, 1)) (hv : v.category = 1) (hq : pc + 1 = q) (k : Lk X D A nL Q kc ks q lv (v :: v :: st) ws) : Lk X D A nL Q kc ks pc lv (v :: st) ws := by
  subst hq; exact fun H locs ls hP hD hS hl => lv_dup C.x C.b hd hv (k H locs ls hP hD hS hl)
theorem k_obj (C : Cx X l (w0 D (ty3 cyI cyJ cyZ)) nL cc own Ts ret rm) {a ix : Nat} (h1 : Cond.methodLink own ix Lib.objectInit ∈ tb_g) (h2 : Cond.instanceMethod Lib.objectInit ∈ tb_g ∧ Cond.code Lib.objectInit ⟨#[0xb1]⟩ 1 none ∈ tb_g) (hfr : 1 ≤ rm.frames) (hlo : 20 ≤ rm.locals) (hW : (st.map fun v => v.category).sum ≤ 8) (hd : decode cc pc = .ok (.invokespecial ix, 3)) (hq : pc + 3 = q) (k : Lk X D A nL Q kc ks q lv st ws) : Lk X D A nL Q kc ks pc lv (.ref a :: st) ws := by
  subst hq; intro H locs ls hP hD hS hl
  refine W.objInit C.x C.b C.ow (C.t h1) (C.t h2.1) (C.t h2.2) rfl (by rw [C.ml]; exact hl.1) rfl hd (by rw [C.R]; exact hfr) ?_ ?_
  · show 2 * 0 + _ + 12 ≤ _
    rw [C.R]; omega
  · exact k H locs ls hP hD hS hl
theorem k_put (C : Cx X l (w0 D (ty3 cyI cyJ cyZ)) nL cc own Ts ret rm) (q0 : Nat) {a ci : Nat} {fs : List Value} (he : ws[q0]? = some (a, .inr (ci, fs))) {CN : String} {T : u_T} {N : Nat} (hc : cls_[ci]? = some (CN, T, N)) (hin : ∀ w' ∈ u_ws CN T N, w' ∈ tb_g) (ty0 : Nat → FieldType) (hty : ∀ k, k < N → parseFieldDescriptor (T k).2.2.1 = some (ty0 k)) (hnm : ∀ a, a < N → ∀ b, b < N → a ≠ b → (T a).2.1 ≠ (T b).2.1) (k : Nat) (hk : k < N) {ix : Nat} (hlk : Cond.fieldLink own ix (T k).1 (T k).2.1 (T k).2.2.1 ∈ tb_g) (hfin : (T k).2.2.2 = false) {v : Value} (hn : narrow (ty0 k) v = v) (hfit : fits (ty0 k) v = true) (hl9 : k < fs.length) (hs : ws.set q0 (a, .inr (ci, fs.set k v)) = ws') (hd : decode cc pc = .ok (.putfield ix, 3)) (hq : pc + 3 = q) (kk : Lk X D A nL Q kc ks q lv st ws') : Lk X D A nL Q kc ks pc lv (v :: .ref a :: st) ws := by
  subst hq; subst hs; exact fun H locs ls hP hD hS hl => va_put C.x C.b C.ts (fun w' h => C.tb w' (hin w' h)) ty0 hty hnm C.ow C.K hP hD hS q0 he hc k hk (C.t hlk) (fun _ h9 => h9) hfin (hty k hk) hn hfit hl9 hd (fun H1 locs1 hP1 hD1 hS1 => kk H1 locs1 ls hP1 hD1 hS1 hl)
theorem k_putF (C : Cx X l (w0 D (ty3 cyI cyJ cyZ)) nL cc own Ts ret rm) (hin2 : X.meth.name = "<init>") (q0 : Nat) {a ci : Nat} {fs : List Value} (he : ws[q0]? = some (a, .inr (ci, fs))) {CN : String} {T : u_T} {N : Nat} (hc : cls_[ci]? = some (CN, T, N)) (hin : ∀ w' ∈ u_ws CN T N, w' ∈ tb_g) (ty0 : Nat → FieldType) (hty : ∀ k, k < N → parseFieldDescriptor (T k).2.2.1 = some (ty0 k)) (hnm : ∀ a, a < N → ∀ b, b < N → a ≠ b → (T a).2.1 ≠ (T b).2.1) (k : Nat) (hk : k < N) {ix : Nat} (hlk : Cond.fieldLink own ix (T k).1 (T k).2.1 (T k).2.2.1 ∈ tb_g) (hfin : (T k).2.2.2 = true) (hdecl : (T k).1 = own) {v : Value} (hn : narrow (ty0 k) v = v) (hfit : fits (ty0 k) v = true) (hl9 : k < fs.length) (hs : ws.set q0 (a, .inr (ci, fs.set k v)) = ws') (hd : decode cc pc = .ok (.putfield ix, 3)) (hq : pc + 3 = q) (kk : Lk X D A nL Q kc ks q lv st ws') : Lk X D A nL Q kc ks pc lv (v :: .ref a :: st) ws := by
  subst hq; subst hs; exact fun H locs ls hP hD hS hl => va_putF C.x C.b C.ts (fun w' h => C.tb w' (hin w' h)) ty0 hty hnm C.ow C.K hP hD hS q0 he hc k hk (C.t hlk) (fun _ h9 => h9) hfin hin2 hdecl (hty k hk) hn hfit hl9 hd (fun H1 locs1 hP1 hD1 hS1 => kk H1 locs1 ls hP1 hD1 hS1 hl)
theorem k_get (C : Cx X l (w0 D (ty3 cyI cyJ cyZ)) nL cc own Ts ret rm) (q0 : Nat) {a ci : Nat} {fs : List Value} (he : ws[q0]? = some (a, .inr (ci, fs))) {CN : String} {T : u_T} {N : Nat} (hc : cls_[ci]? = some (CN, T, N)) (hin : ∀ w' ∈ u_ws CN T N, w' ∈ tb_g) (k : Nat) (hk : k < N) {ix : Nat} (hlk : Cond.fieldLink own ix (T k).1 (T k).2.1 (T k).2.2.1 ∈ tb_g) {v : Value} (hv : fs[k]? = some v) (hd : decode cc pc = .ok (.getfield ix, 3)) (hq : pc + 3 = q) (kk : Lk X D A nL Q kc ks q lv (v :: st) ws) : Lk X D A nL Q kc ks pc lv (.ref a :: st) ws := by
  subst hq; exact fun H locs ls hP hD hS hl => va_get C.x C.b C.ts (fun w' h => C.tb w' (hin w' h)) C.ow C.K hP q0 he hc k hk (C.t hlk) (fun _ h9 => h9) hv hd (kk H locs ls hP hD hS hl)
theorem k_getN (C : Cx X l (w0 D (ty3 cyI cyJ cyZ)) nL cc own Ts ret rm) (q0 : Nat) {a ci : Nat} {fs : List Value} (he : ws[q0]? = some (a, .inr (ci, fs))) {CN : String} {T : u_T} {N : Nat} (hc : cls_[ci]? = some (CN, T, N)) (hin : ∀ w' ∈ u_ws CN T N, w' ∈ tb_g) (k : Nat) (hk : k < N) {ix : Nat} {host : String} (hlk : (own, ix, (T k).1, (T k).2.1, (T k).2.2.1, host) ∈ nw_f) {v : Value} (hv : fs[k]? = some v) (hd : decode cc pc = .ok (.getfield ix, 3)) (hq : pc + 3 = q) (kk : Lk X D A nL Q kc ks q lv (v :: st) ws) : Lk X D A nL Q kc ks pc lv (.ref a :: st) ws := by
  subst hq; exact fun H locs ls hP hD hS hl => va_getN C.x C.b C.ts (fun w' h => C.tb w' (hin w' h)) C.ow C.K hP q0 he hc k hk (va_Nw.use rfl (C.nw.1 _ hlk)) (fun _ h9 => h9) hv hd (kk H locs ls hP hD hS hl)
theorem k_new (C : Cx X l (w0 D (ty3 cyI cyJ cyZ)) nL cc own Ts ret rm) (hA : ∀ q, X.s.heap.size ≤ q → A q) {ws'' : Nat → va_W} {ci : Nat} {CN : String} {T : u_T} {N : Nat} (hc : cls_[ci]? = some (CN, T, N)) (hin : ∀ w' ∈ u_ws CN T N, w' ∈ tb_g) (ty0 : Nat → FieldType) (hty : ∀ k, k < N → parseFieldDescriptor (T k).2.2.1 = some (ty0 k)) {ix : Nat} (h1 : Cond.classLink own ix CN ∈ tb_g) (h2 : Cond.instantiable CN N ∈ tb_g) (h3 : Cond.initialized CN ∈ tb_g) {fs : List Value} (hfs : ∀ j, j < N → defaultValue (ty0 j) = vp_V fs j) (hk : kc + 1 ≤ rm.cells) (hs : ks + N ≤ rm.slots) {kc' ks' : Nat} (ek : kc + 1 = kc') (es : ks + N = ks') (hd : decode cc pc = .ok (.new ix, 3)) (hq : pc + 3 = q) (hw : ∀ q' : Nat, ws ++ [(q', .inr (ci, fs))] = ws'' q') (kk : ∀ q' : Nat, Lk X D A nL Q kc' ks' q lv (.ref q' :: st) (ws'' q')) : Lk X D A nL Q kc ks pc lv st ws := by
  subst hq; subst ek; subst es; exact fun H locs ls hP hD hS hl => va_new C.x C.b C.ts (fun w' h => C.tb w' (hin w' h)) ty0 hty C.ow (C.t h1) (C.t h2) (C.t h3) C.K hP hD hS hA hc hfs (by rw [C.R]; exact hk) (by rw [C.R]; exact hs) hd (fun q' H1 hP1 hD1 hS1 => kk q' H1 locs ls (hw q' ▸ hP1) (hw q' ▸ hD1) hS1 hl)
theorem k_newi (C : Cx X l (w0 D (ty3 cyI cyJ cyZ)) nL cc own Ts ret rm) (hA : ∀ q, X.s.heap.size ≤ q → A q) (harr : Cond.arrayClass .int ∈ tb_g) {ws'' : Nat → va_W} (n : Nat) (hn : n < 60000) {x : Int} (hx : (n : Int) = x) (hk : kc + 1 ≤ rm.cells) (hs : ks + n ≤ rm.slots) {kc' ks' : Nat} (ek : kc + 1 = kc') (es : ks + n = ks') (hd : decode cc pc = .ok (.newarray .int, 2)) (hq : pc + 2 = q) (hw : ∀ q' : Nat, ws ++ [(q', .inl (cyI, n, .inl (fun j : Nat => Int32.ofInt (zf j))))] = ws'' q') (kk : ∀ q' : Nat, Lk X D A nL Q kc' ks' q lv (.ref q' :: st) (ws'' q')) : Lk X D A nL Q kc ks pc lv (vI x :: st) ws := by
  subst hq; subst ek; subst es; subst hx
  intro H locs ls hP hD hS hl
  have e : Int32.ofInt (n : Int) = nI n := Int32.ofInt_eq_ofNat
  have hb : componentBytes .int = 4 := rfl
  rw [show vI (n : Int) = Value.int (nI n) from congrArg Value.int e]
  refine va_newa (atype := .int) (ty := .int) (a0 := (n, .inl (fun j : Nat => Int32.ofInt (zf j)))) (N' := n) C.x C.b (C.t harr) rfl C.K hP hD hS hA (fun cA => rfl) (nI_pos (by omega)) (nI_clamp (by omega)) (by rw [hb]; omega) (by rw [C.R]; exact hk) (by rw [C.R]; exact hs) hd (fun q' cA H1 hK1 hP1 hD1 hS1 => ?_)
  have h0 := (C.K.2 0 (cyI, .int) rfl).2
  have h1 := (hK1.2 3 (cA, .int) rfl).2
  have hc : cA = cyI := Option.some.inj (h1.symm.trans h0)
  subst hc
  exact kk q' H1 locs ls (hw q' ▸ hP1) (hw q' ▸ hD1) hS1 hl
theorem k_newj (C : Cx X l (w0 D (ty3 cyI cyJ cyZ)) nL cc own Ts ret rm) (hA : ∀ q, X.s.heap.size ≤ q → A q) (harr : Cond.arrayClass .long ∈ tb_g) {ws'' : Nat → va_W} (n : Nat) (hn : n < 60000) {x : Int} (hx : (n : Int) = x) (hk : kc + 1 ≤ rm.cells) (hs : ks + n ≤ rm.slots) {kc' ks' : Nat} (ek : kc + 1 = kc') (es : ks + n = ks') (hd : decode cc pc = .ok (.newarray .long, 2)) (hq : pc + 2 = q) (hw : ∀ q' : Nat, ws ++ [(q', .inl (cyJ, n, .inr (.inl (fun j : Nat => Int64.ofInt (zf j)))))] = ws'' q') (kk : ∀ q' : Nat, Lk X D A nL Q kc' ks' q lv (.ref q' :: st) (ws'' q')) : Lk X D A nL Q kc ks pc lv (vI x :: st) ws := by
  subst hq; subst ek; subst es; subst hx
  intro H locs ls hP hD hS hl
  have e : Int32.ofInt (n : Int) = nI n := Int32.ofInt_eq_ofNat
  have hb : componentBytes .long = 8 := rfl
  rw [show vI (n : Int) = Value.int (nI n) from congrArg Value.int e]
  refine va_newa (atype := .long) (ty := .long) (a0 := (n, .inr (.inl (fun j : Nat => Int64.ofInt (zf j))))) (N' := n) C.x C.b (C.t harr) rfl C.K hP hD hS hA (fun cA => rfl) (nI_pos (by omega)) (nI_clamp (by omega)) (by rw [hb]; omega) (by rw [C.R]; exact hk) (by rw [C.R]; exact hs) hd (fun q' cA H1 hK1 hP1 hD1 hS1 => ?_)
  have h0 := (C.K.2 1 (cyJ, .long) rfl).2
  have h1 := (hK1.2 3 (cA, .long) rfl).2
  have hc : cA = cyJ := Option.some.inj (h1.symm.trans h0)
  subst hc
  exact kk q' H1 locs ls (hw q' ▸ hP1) (hw q' ▸ hD1) hS1 hl
theorem k_newz (C : Cx X l (w0 D (ty3 cyI cyJ cyZ)) nL cc own Ts ret rm) (hA : ∀ q, X.s.heap.size ≤ q → A q) (harr : Cond.arrayClass .boolean ∈ tb_g) {ws'' : Nat → va_W} (n : Nat) (hn : n < 60000) {x : Int} (hx : (n : Int) = x) (hk : kc + 1 ≤ rm.cells) (hs : ks + n ≤ rm.slots) {kc' ks' : Nat} (ek : kc + 1 = kc') (es : ks + n = ks') (hd : decode cc pc = .ok (.newarray .boolean, 2)) (hq : pc + 2 = q) (hw : ∀ q' : Nat, ws ++ [(q', .inl (cyZ, n, .inl (fun j : Nat => Int32.ofInt (zf j))))] = ws'' q') (kk : ∀ q' : Nat, Lk X D A nL Q kc' ks' q lv (.ref q' :: st) (ws'' q')) : Lk X D A nL Q kc ks pc lv (vI x :: st) ws := by
  subst hq; subst ek; subst es; subst hx
  intro H locs ls hP hD hS hl
  have e : Int32.ofInt (n : Int) = nI n := Int32.ofInt_eq_ofNat
  have hb : componentBytes .boolean = 1 := rfl
  rw [show vI (n : Int) = Value.int (nI n) from congrArg Value.int e]
  refine va_newa (atype := .boolean) (ty := .boolean) (a0 := (n, .inl (fun j : Nat => Int32.ofInt (zf j)))) (N' := n) C.x C.b (C.t harr) rfl C.K hP hD hS hA (fun cA => rfl) (nI_pos (by omega)) (nI_clamp (by omega)) (by rw [hb]; omega) (by rw [C.R]; exact hk) (by rw [C.R]; exact hs) hd (fun q' cA H1 hK1 hP1 hD1 hS1 => ?_)
  have h0 := (C.K.2 2 (cyZ, .boolean) rfl).2
  have h1 := (hK1.2 3 (cA, .boolean) rfl).2
  have hc : cA = cyZ := Option.some.inj (h1.symm.trans h0)
  subst hc
  exact kk q' H1 locs ls (hw q' ▸ hP1) (hw q' ▸ hD1) hS1 hl
/-- a constructor's contract: of a new object's cell come the cells that it makes; u: their places -/
def Pn (D : va_G) (tys : List (ClassId × FieldType)) (sz : Nat) (ws : va_W) : State → Prop := fun U => U.heap.size = sz ∧ va_P D cls_ ws U.heap ∧ va_K D cls_ tys U ∧ va_D (fun _ => True) ws ∧ nw_ok U ∧ sT (va_A ws sz) U U.heap
abbrev qN (D : va_G) (h0 : Nat) (ws : va_W) (post : (Nat → Nat) → va_W) (sz : Nat) : Array Value → State → Outcome → State → Prop := va_Qv (fun (u : Nat → Nat) => u 0 = h0) (fun u t => va_P D cls_ (post u) t.heap ∧ va_D (va_A ws sz) (post u)) (va_A ws sz)
def CtN (l : Launch) (D : va_G) (tys : List (ClassId × FieldType)) (y : MethodName) (w1 : List Cond) (rm : Room) (h0 : Nat) (d0 : va_E) (mc ms : Nat) (post : (Nat → Nat) → va_W) : Prop := ∀ sz : Nat, Met l y w1 rm (va_Pc [.ref h0] (Pn D tys sz [(h0, d0)])) (qN D h0 [(h0, d0)] post sz) mc ms (va_A [(h0, d0)] sz)
theorem ct_N {y : MethodName} {maxL : Nat} {h0 mc ms : Nat} {d0 : va_E} {post : (Nat → Nat) → va_W} (hy : plainName y.cls = true) (hyn : y.name = "<init>") (hn : 1 ≤ maxL)
    (body : ∀ (X : CxT) (A : Nat → Prop), X.kc = 0 → X.ks = 0 → A = va_A [(h0, d0)] X.s.heap.size → (∀ q, X.s.heap.size ≤ q → A q) → sT A X.s X.s.heap → X.meth.name = "<init>" → Cx X l (w0 D (ty3 cyI cyJ cyZ)) maxL cc y.cls (wo y cc maxL none) none rm → Lk X D A maxL (MQ X.below (qN D h0 [(h0, d0)] post X.s.heap.size) X.args X.s mc ms A) 0 0 0 [(0, .ref h0)] [] [(h0, d0)]) :
    CtN l D (ty3 cyI cyJ cyZ) y (wo y cc maxL none) rm h0 d0 mc ms post := by
  intro sz
  refine Met.ofW (cc := cc) (maxL := maxL) (ret := none) hy rfl ?_
  intro p e s m args below meth c s₁ B hml hv
  obtain ⟨rfl, rfl, hP, hK, hD0, hN, hsT⟩ := hv
  have hl := lv_entry [.ref h0] (n := maxL) hn
  rw [lg_entry_eq]
  exact body (p, l, e, rm, s, m, [Value.ref h0].toArray, below, meth, c, 0, 0) _ rfl rfl rfl (fun q h => Or.inr h) hsT ((name_of_methodNamed B.named B.method).1.trans hyn) ⟨B.exec, B.bytes, hml, findClass_of_methodNamed B.named, atoms_spec (ws := wo y cc maxL none) B.pre, hK, (fun i j h => absurd h (Nat.not_lt_zero _)), B.notSynchronized, B.returns, rfl, hN, rfl, fun w' h => List.mem_cons_of_mem _ h, Nat.zero_le _, Nat.zero_le _⟩ s.heap [] _ hP hD0.self va_S.rf hl
theorem k_ret {h0 : Nat} {d0 : va_E} {post : (Nat → Nat) → va_W} (C : Cx X l (w0 D (ty3 cyI cyJ cyZ)) nL cc own Ts none rm) (hA : A = va_A [(h0, d0)] X.s.heap.size) (u : Nat → Nat) (hu0 : u 0 = h0) (hu : ws = post u) (hd : decode cc pc = .ok (.return_, 1)) : Lk X D A nL (MQ X.below (qN D h0 [(h0, d0)] post X.s.heap.size) X.args X.s kc ks A) kc ks pc lv [] ws := by
  subst hu
  intro H locs ls hP hD hS hl
  exact W.vret C.x C.b C.r (fun t ht hW => by subst hA; exact ⟨⟨u, rfl, hu0, by show va_P D cls_ (post u) t.heap; rw [ht]; exact hP, hD⟩, hS.F ht⟩) hS.2.2 hd C.lk
/-- from the list to a fixed world: what is left of the body makes no more cells -/
theorem k_tail {h0 : Nat} {d0 : va_E} {post : (Nat → Nat) → va_W} (C : Cx X l (w0 D (ty3 cyI cyJ cyZ)) nL cc own Ts none rm) (hA : A = va_A [(h0, d0)] X.s.heap.size) (w : WoT) (hw : w.D = D ∧ w.cl = cls_ ∧ w.tys = ty3 cyI cyJ cyZ) (σ : St) (o : Int × St) (hws : wd w σ = ws) (h00 : w.h 0 = h0) (hn0 : 0 < w.n) (hk : kc ≤ rm.cells ∧ ks ≤ rm.slots) (u : Nat → Nat) (hu0 : u 0 = h0) (hu : wd w o.2 = post u)
    (k : ∀ X' : CxT, X'.s = X.s → A = xA w X.s.heap.size → Cx X' l w nL cc own Ts none rm → Rj X' w nL (qV X' w o) pc lv st σ) : Lk X D A nL (MQ X.below (qN D h0 [(h0, d0)] post X.s.heap.size) X.args X.s kc ks A) kc ks pc lv st ws := by
  obtain ⟨e1, e2, e3⟩ := hw
  intro H locs ls hP hD hS hl
  subst hws
  have hi : wo_i w := by
    intro i j h1 h2 e
    exact hD.1 i j _ _ (wd_get w σ h1) (wd_get w σ h2) e
  have hAx : ∀ q, A q ↔ xA w X.s.heap.size q := by
    intro q
    subst hA
    constructor
    · rintro (⟨k, e, h⟩ | h)
      · have : k < 1 := (List.getElem?_eq_some_iff.mp h).1
        rw [show k = 0 by omega] at h
        cases h
        exact Or.inl ⟨0, hn0, h00⟩
      · exact Or.inr h
    · rintro (⟨k, h, e⟩ | h)
      · have := hD.2 k _ (wd_get w σ h)
        rw [← e]; exact this
      · exact Or.inr h
  have hAe : A = xA w X.s.heap.size := funext fun q => propext (hAx q)
  obtain ⟨p, l', e, R, s, m, args, below, meth, c, x1, x2⟩ := X
  have hb := k (p, l', e, R, s, m, args, below, meth, c, kc, ks) rfl hAe ⟨C.x, C.b, C.ml, C.ow, C.ts, by rw [e1, e2, e3]; exact C.K, hi, C.lk, C.r, C.R, C.nw, C.la, C.tb, by rw [← C.R] at hk; exact C.R ▸ hk.1, C.R ▸ (C.R ▸ hk.2)⟩ H locs ls (by rw [e1, e2]; exact hP) (by rw [← hAe]; exact hS) hl
  intro T hT Y
  obtain ⟨t, s1, oc, g1, g2, ⟨⟨u', g3, -, g4⟩, g5⟩, g6⟩ := hb T hT Y
  refine ⟨t, s1, oc, g1, g2, ⟨⟨u, g3, hu0, ?_, ?_⟩, ?_⟩, ?_⟩
  · rw [← hu, ← e1, ← e2]; exact g4
  · rw [← hu]
    have hh := wd_D hi s.heap.size o.2
    exact hA ▸ hAe ▸ hh
  · exact hA ▸ hAe ▸ g5
  · rw [hAe]; exact g6
/-- a call of a constructor over a new object at place p0 of the list -/
theorem k_pre {C0 : Cx X l (w0 D (ty3 cyI cyJ cyZ)) nL cc own Ts ret rm} {b : Nat} {d0 : va_E} {H : Heap} {locs : List Loc} (hsT : sT A X.s X.s.heap) (hAi : ∀ q, X.s.heap.size ≤ q → A q) (p0 : Nat) (hp0 : ws[p0]? = some (b, d0)) (hP : va_P D cls_ ws H) (hD : va_D A ws) (hS : va_S A X.s.heap H locs) : PreS X.s H (va_Pc [.ref b] (Pn D (ty3 cyI cyJ cyZ) H.size [(b, d0)])) [.ref b] := by
  have hF := va_free (wc := [(b, d0)]) hD hS hAi [p0] (by simp [hp0])
  refine ⟨fun a U g mk h => ?_, fun U hU hW => ⟨rfl, by rw [hU], ?_, va_K.moved hW.alike C0.K, ?_, nw_warm hW C0.nw, ?_⟩⟩
  · obtain ⟨h0, h1, h2, h3, h4, h5, h6⟩ := h
    exact ⟨h0, h1, h2, va_K.moved (u := U) (U := U.calling g mk a) (Vm.Alike.refl U.vm) h3, h4, nw_same rfl h5, sT_c (u := U) (U := U.calling g mk a) h6 (Vm.Alike.refl U.vm) (fun _ _ _ => rfl) (fun _ h => h)⟩
  · rw [hU]; exact hP.sub [p0] (by simp [hp0])
  · exact ⟨fun i j x y hi hj _ => by
      have a1 : i < 1 := (List.getElem?_eq_some_iff.mp hi).1
      have a2 : j < 1 := (List.getElem?_eq_some_iff.mp hj).1
      omega, fun _ _ _ => trivial⟩
  · rw [hU]
    exact sT_c hsT hW.alike hS.2.1 hF
theorem k_callI (C : Cx X l (w0 D (ty3 cyI cyJ cyZ)) nL cc own Ts ret rm) (hAi : ∀ q, X.s.heap.size ≤ q → A q) (hsT : sT A X.s X.s.heap) {y : MethodName} {c0 : ByteArray} {maxL ix : Nat} {rc : Room} {b mc ms : Nat} {d0 : va_E} {post : (Nat → Nat) → va_W} (hM : CtN l D (ty3 cyI cyJ cyZ) y (wo y c0 maxL none) rc b d0 mc ms post) (mt : Cond.code y c0 maxL none ∈ tb_g ∧ Cond.initialized y.cls ∈ tb_g ∧ Cond.instanceMethod y ∈ tb_g ∧ y.name = "<init>" ∧ (y.cls ≠ "java/lang/invoke/MethodHandle" ∧ y.cls ≠ "java/lang/invoke/VarHandle" ∧ (parseMethodDescriptor y.desc).map (fun d => d.parameters.length) = some 0)) (hlk : Cond.methodLink own ix y ∈ tb_g)
    (hc : rc.cells = mc) (hs : rc.slots = ms) (hR : rc.frames + 1 ≤ rm.frames ∧ 8 + (maxL + 11) + rc.locals ≤ rm.locals) (hk : kc + mc ≤ rm.cells ∧ ks + ms ≤ rm.slots) (hW : (st.map fun v => v.category).sum ≤ 8) (p0 : Nat) (hp0 : ws[p0]? = some (b, d0)) (isR : List Nat) (wr : va_W) (hwr : isR.map (fun i => ws[i]?) = wr.map some) (hnd : va_nd isR = true) (hdis : ∀ i ∈ isR, i ∉ [p0]) {kc' ks' : Nat} (ek : kc + mc = kc') (es : ks + ms = ks') (hd : decode cc pc = .ok (.invokespecial ix, 3)) (hq : pc + 3 = q) {ws'' : (Nat → Nat) → va_W} (hw : ∀ u, wr ++ post u = ws'' u) (kk : ∀ u : Nat → Nat, u 0 = b → Lk X D A nL Q kc' ks' q lv st (ws'' u)) : Lk X D A nL Q kc ks pc lv (.ref b :: st) ws := by
  subst hq; subst ek; subst es; intro H locs ls hP hD hS hl
  have hM := hM H.size
  rw [← C.la] at hM
  have hG : GoodIn Ts (wo y c0 maxL none) := tb_in C.tb (fun w' h => (List.mem_cons.mp h).elim (fun e => e ▸ mt.1) id)
  have hR0 : rc.frames + 1 ≤ X.R.frames ∧ 8 + (maxL + 11) + rc.locals ≤ X.R.locals := by rw [C.R]; exact hR
  have hk0 : kc + mc ≤ X.R.cells ∧ ks + ms ≤ X.R.slots := by rw [C.R]; exact hk
  have hF := va_free (wc := [(b, d0)]) hD hS hAi [p0] (by simp [hp0])
  refine va_callv (va_runI (As := []) (rest := st) (own := own) ⟨C.x, C.b, C.ml, C.ow, C.ts⟩ hM (cwI 0 C.ts hG rfl hc hs (C.t mt.2.1) (C.t hlk) (C.t mt.2.2.1) mt.2.2.2.1 mt.2.2.2.2 hR0) (k_pre (C0 := C) hsT hAi p0 hp0 hP hD hS) rfl rfl hl.1 rfl (lv_room hW) hd hk0) hS (fun q' _ h => hF q' h) hF (fun u t H1 locs1 ht _ hu0 hb _ hkp hS1 => ?_)
  obtain ⟨hP1, hD1⟩ := hb
  rw [ht] at hP1
  obtain ⟨hP2, hD2⟩ := va_join (wr := wr) hP hD [p0] isR (by simp [hp0]) hwr hnd hdis hkp hF hP1 hD1
  exact kk u hu0 H1 locs1 ls (hw u ▸ hP2) (hw u ▸ hD2) hS1 hl
theorem k_callN (C : Cx X l (w0 D (ty3 cyI cyJ cyZ)) nL cc own Ts ret rm) (hAi : ∀ q, X.s.heap.size ≤ q → A q) (hsT : sT A X.s X.s.heap) {y : MethodName} {c0 : ByteArray} {maxL ix : Nat} {rc : Room} {b mc ms : Nat} {d0 : va_E} {post : (Nat → Nat) → va_W} (hM : CtN l D (ty3 cyI cyJ cyZ) y (wo y c0 maxL none) rc b d0 mc ms post) (mt : Cond.code y c0 maxL none ∈ tb_g ∧ Cond.initialized y.cls ∈ tb_g ∧ Cond.instanceMethod y ∈ tb_g ∧ y.name = "<init>" ∧ (y.cls ≠ "java/lang/invoke/MethodHandle" ∧ y.cls ≠ "java/lang/invoke/VarHandle" ∧ (parseMethodDescriptor y.desc).map (fun d => d.parameters.length) = some 0)) {host : String} (hlk : (own, ix, y, host) ∈ nw_m)
    (hc : rc.cells = mc) (hs : rc.slots = ms) (hR : rc.frames + 1 ≤ rm.frames ∧ 8 + (maxL + 11) + rc.locals ≤ rm.locals) (hk : kc + mc ≤ rm.cells ∧ ks + ms ≤ rm.slots) (hW : (st.map fun v => v.category).sum ≤ 8) (p0 : Nat) (hp0 : ws[p0]? = some (b, d0)) (isR : List Nat) (wr : va_W) (hwr : isR.map (fun i => ws[i]?) = wr.map some) (hnd : va_nd isR = true) (hdis : ∀ i ∈ isR, i ∉ [p0]) {kc' ks' : Nat} (ek : kc + mc = kc') (es : ks + ms = ks') (hd : decode cc pc = .ok (.invokespecial ix, 3)) (hq : pc + 3 = q) {ws'' : (Nat → Nat) → va_W} (hw : ∀ u, wr ++ post u = ws'' u) (kk : ∀ u : Nat → Nat, u 0 = b → Lk X D A nL Q kc' ks' q lv st (ws'' u)) : Lk X D A nL Q kc ks pc lv (.ref b :: st) ws := by
  subst hq; subst ek; subst es; intro H locs ls hP hD hS hl
  have hM := hM H.size
  rw [← C.la] at hM
  have hG : GoodIn Ts (wo y c0 maxL none) := tb_in C.tb (fun w' h => (List.mem_cons.mp h).elim (fun e => e ▸ mt.1) id)
  have hR0 : rc.frames + 1 ≤ X.R.frames ∧ 8 + (maxL + 11) + rc.locals ≤ X.R.locals := by rw [C.R]; exact hR
  have hk0 : kc + mc ≤ X.R.cells ∧ ks + ms ≤ X.R.slots := by rw [C.R]; exact hk
  have hF := va_free (wc := [(b, d0)]) hD hS hAi [p0] (by simp [hp0])
  refine va_callv (va_runIN (As := []) (rest := st) (own := own) ⟨C.x, C.b, C.ml, C.ow, C.ts⟩ hM (⟨va_cnB 0 C.ts hG rfl hc hs (C.nw.2 _ hlk) (C.t mt.2.1) mt.2.2.2.2 hR0, mt.2.2.2.1, C.t mt.2.2.1⟩) (k_pre (C0 := C) hsT hAi p0 hp0 hP hD hS) rfl rfl hl.1 rfl (lv_room hW) hd hk0) hS (fun q' _ h => hF q' h) hF (fun u t H1 locs1 ht _ hu0 hb _ hkp hS1 => ?_)
  obtain ⟨hP1, hD1⟩ := hb
  rw [ht] at hP1
  obtain ⟨hP2, hD2⟩ := va_join (wr := wr) hP hD [p0] isR (by simp [hp0]) hwr hnd hdis hkp hF hP1 hD1
  exact kk u hu0 H1 locs1 ls (hw u ▸ hP2) (hw u ▸ hD2) hS1 hl
theorem k_perm (is : List Nat) (hs0 : is.filterMap (fun i => ws[i]?) = ws') (hs : is.map (fun i => ws[i]?) = ws'.map some) (hn : va_nd is = true) (k : Lk X D A nL Q kc ks pc lv st ws') : Lk X D A nL Q kc ks pc lv st ws :=
  fun H locs ls hP hD hS hl => k H locs ls (hP.sub is hs0) (hD.sub is hn hs) hS hl
end LKS
theorem r_gets {X : CxT} {l : Launch} {w : WoT} {nL : Nat} {cc : ByteArray} {own : String} {Ts : List Cond} {ret : Option FieldType} {rm : Room} {Q : State → Prop} {pc q : Nat} {lv : List (Nat × Value)} {st : List Value} {σ : St} (C : Cx X l w nL cc own Ts ret rm) {CN n d : String} {t ix : Nat} (hZ : va_Z CN n d (.ref t) (xA w X.s.heap.size) X.s X.s.heap) (hlk : Cond.fieldLink own ix CN n d ∈ tb_g) (hd : decode cc pc = .ok (.getstatic ix, 3)) (hq : pc + 3 = q) (kk : Rj X w nL Q q lv (.ref t :: st) σ) : Rj X w nL Q pc lv st σ := by
  subst hq; exact fun H locs ls hP hS hl => va_gets C.x C.b hZ hS C.ow (C.t hlk) (fun _ h => h) hd (kk H locs ls hP hS hl)
theorem r_tab {X : CxT} {l : Launch} {w : WoT} {nL : Nat} {cc : ByteArray} {own : String} {Ts : List Cond} {ret : Option FieldType} {rm : Room} {Q : State → Prop} {pc q : Nat} {lv : List (Nat × Value)} {st : List Value} {σ : St} (C : Cx X l w nL cc own Ts ret rm) {t : Nat} {g : Int → Int} (hT : va_T .int t 4 (fP g) (xA w X.s.heap.size) X.s X.s.heap) {i : Int} (hi : inb i 4) (hd : decode cc pc = .ok (.iaload, 1)) (hq : pc + 1 = q) (kk : Rj X w nL Q q lv (vI (g i) :: st) σ) : Rj X w nL Q pc lv (vI i :: .ref t :: st) σ := by
  subst hq; intro H locs ls hP hS hl
  obtain ⟨e1, e2⟩ := inb_cl (n := 4) hi (by omega)
  have e3 : ((i.toNat : Nat) : Int) = i := Int.toNat_of_nonneg hi.1
  exact va_ti C.x C.b hT hS e2 (v := vI (g i)) (by rw [e1]; show vI (g ((i.toNat : Nat) : Int)) = _; rw [e3]) hd (kk H locs ls hP hS hl)
