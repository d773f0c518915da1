/-! a world of cells that stay where they are, all numbers as integers; the judgement of a method's body over it -/
abbrev St : Type := Nat → Int → Int
abbrev MM : Type := Option (Int × St)
def su (σ : St) (k : Nat) (i v : Int) : St := fun k' => if k' = k then (fun j => if j = i then v else σ k j) else σ k'
abbrev vI (x : Int) : Value := Value.int (Int32.ofInt x)
abbrev vJ (x : Int) : Value := Value.long (Int64.ofInt x)
/-- how many cells, their places, what each holds, the classes -/
abbrev WoT : Type := Nat × (Nat → Nat) × (Nat → (Int → Int) → va_E) × va_G × List vw_C × List (ClassId × FieldType)
abbrev WoT.n (w : WoT) : Nat := w.1
abbrev WoT.h (w : WoT) : Nat → Nat := w.2.1
abbrev WoT.c (w : WoT) : Nat → (Int → Int) → va_E := w.2.2.1
abbrev WoT.D (w : WoT) : va_G := w.2.2.2.1
abbrev WoT.cl (w : WoT) : List vw_C := w.2.2.2.2.1
abbrev WoT.tys (w : WoT) : List (ClassId × FieldType) := w.2.2.2.2.2
def wd (w : WoT) (σ : St) : va_W := (List.range w.n).map fun k => (w.h k, w.c k (σ k))
theorem wd_get (w : WoT) (σ : St) {k : Nat} (hk : k < w.n) : (wd w σ)[k]? = some (w.h k, w.c k (σ k)) := by
  unfold wd
  rw [List.getElem?_map, List.getElem?_range hk]
  rfl
theorem wd_set (w : WoT) (σ σ' : St) (k : Nat) (e : va_E) (he : w.c k (σ' k) = e) (ho : ∀ j, j ≠ k → σ' j = σ j) : (wd w σ).set k (w.h k, e) = wd w σ' := by
  apply List.ext_getElem?
  intro i
  subst he
  by_cases hi : i < w.n
  · rw [wd_get w σ' hi]
    by_cases hik : i = k
    · subst hik
      rw [List.getElem?_set_self (by unfold wd; simpa using hi)]
    · rw [List.getElem?_set_ne (Ne.symm hik), wd_get w σ hi, ho i hik]
  · rw [List.getElem?_eq_none (by unfold wd; simpa using hi), List.getElem?_eq_none (by unfold wd; simpa using hi)]
theorem wd_mem {w : WoT} {σ : St} {k : Nat} {q : Nat × va_E} (h : (wd w σ)[k]? = some q) : k < w.n ∧ q.1 = w.h k := by
  have hk : k < w.n := by
    have := (List.getElem?_eq_some_iff.mp h).1
    unfold wd at this
    simpa using this
  rw [wd_get w σ hk] at h
  exact ⟨hk, by cases h; rfl⟩
def wo_i (w : WoT) : Prop := ∀ i j, i < w.n → j < w.n → w.h i = w.h j → i = j
def xA (w : WoT) (sz : Nat) : Nat → Prop := fun q => (∃ k, k < w.n ∧ w.h k = q) ∨ sz ≤ q
theorem wd_D {w : WoT} (hi : wo_i w) (sz : Nat) (σ : St) : va_D (xA w sz) (wd w σ) := by
  refine ⟨fun i j p q hp hq e => ?_, fun k q hq => ?_⟩
  · have a := wd_mem hp
    have b := wd_mem hq
    exact hi i j a.1 b.1 (a.2.symm.trans (e.trans b.2))
  · have a := wd_mem hq
    exact Or.inl ⟨k, a.1, a.2.symm⟩
abbrev CxT : Type := Program × Launch × Env × Room × State × MethodId × Array Value × List Frame × Method × Code × Nat × Nat
abbrev CxT.p (X : CxT) : Program := X.1
abbrev CxT.l (X : CxT) : Launch := X.2.1
abbrev CxT.e (X : CxT) : Env := X.2.2.1
abbrev CxT.R (X : CxT) : Room := X.2.2.2.1
abbrev CxT.s (X : CxT) : State := X.2.2.2.2.1
abbrev CxT.m (X : CxT) : MethodId := X.2.2.2.2.2.1
abbrev CxT.args (X : CxT) : Array Value := X.2.2.2.2.2.2.1
abbrev CxT.below (X : CxT) : List Frame := X.2.2.2.2.2.2.2.1
abbrev CxT.meth (X : CxT) : Method := X.2.2.2.2.2.2.2.2.1
abbrev CxT.c (X : CxT) : Code := X.2.2.2.2.2.2.2.2.2.1
/-- cells and slots that the method has made before this body begins -/
abbrev CxT.kc (X : CxT) : Nat := X.2.2.2.2.2.2.2.2.2.2.1
abbrev CxT.ks (X : CxT) : Nat := X.2.2.2.2.2.2.2.2.2.2.2
abbrev Wk (X : CxT) (H : Heap) (locs : List Loc) (Q : State → Prop) (g : JFrame) : Prop := W X.p X.l X.e X.R X.s X.m X.args X.below X.meth X.c H locs X.kc X.ks Q g
def Rj (X : CxT) (w : WoT) (nL : Nat) (Q : State → Prop) (pc : Nat) (lv : List (Nat × Value)) (st : List Value) (σ : St) : Prop :=
  ∀ (H : Heap) (locs : List Loc) (ls : Array Slot), va_P w.D w.cl (wd w σ) H → va_S (xA w X.s.heap.size) X.s.heap H locs → lv_has ls nL lv → Wk X H locs Q (F0 X.m pc ls st)
/-- what stands fixed in a method's body: own class, words, room -/
def Cx (X : CxT) (l : Launch) (w : WoT) (nL : Nat) (cc : ByteArray) (own : String) (Ts : List Cond) (ret : Option FieldType) (rm : Room) : Prop :=
  X.p.tables.exec = Jvm.exec ∧ X.c.code = cc ∧ X.c.maxLocals = nL ∧ X.s.vm.findClass own = some X.m.cls ∧ (∀ w' ∈ Ts, w'.before X.args X.s = true) ∧ va_K w.D w.cl w.tys X.s ∧ wo_i w ∧ X.meth.locks = false ∧ X.meth.sig.returnType = ret ∧ X.R = rm ∧ nw_ok X.s ∧ X.l = l ∧ (∀ w' ∈ tb_g, w' ∈ Ts) ∧ X.kc ≤ rm.cells ∧ X.ks ≤ rm.slots
section RJ
variable {X : CxT} {l : Launch} {w : WoT} {nL : Nat} {cc : ByteArray} {own : String} {Ts : List Cond} {ret : Option FieldType} {rm : Room} {Q : State → Prop} {pc q : Nat} {lv lv' : List (Nat × Value)} {st : List Value} {σ : St}
theorem Cx.x (C : Cx X l w nL cc own Ts ret rm) : X.p.tables.exec = Jvm.exec := C.1
theorem Cx.b (C : Cx X l w nL cc own Ts ret rm) : X.c.code = cc := C.2.1
theorem Cx.ml (C : Cx X l w nL cc own Ts ret rm) : X.c.maxLocals = nL := C.2.2.1
theorem Cx.ow (C : Cx X l w nL cc own Ts ret rm) : X.s.vm.findClass own = some X.m.cls := C.2.2.2.1
theorem Cx.ts (C : Cx X l w nL cc own Ts ret rm) : ∀ w' ∈ Ts, w'.before X.args X.s = true := C.2.2.2.2.1
theorem Cx.K (C : Cx X l w nL cc own Ts ret rm) : va_K w.D w.cl w.tys X.s := C.2.2.2.2.2.1
theorem Cx.i (C : Cx X l w nL cc own Ts ret rm) : wo_i w := C.2.2.2.2.2.2.1
theorem Cx.lk (C : Cx X l w nL cc own Ts ret rm) : X.meth.locks = false := C.2.2.2.2.2.2.2.1
theorem Cx.r (C : Cx X l w nL cc own Ts ret rm) : X.meth.sig.returnType = ret := C.2.2.2.2.2.2.2.2.1
theorem Cx.R (C : Cx X l w nL cc own Ts ret rm) : X.R = rm := C.2.2.2.2.2.2.2.2.2.1
theorem Cx.nw (C : Cx X l w nL cc own Ts ret rm) : nw_ok X.s := C.2.2.2.2.2.2.2.2.2.2.1
theorem Cx.la (C : Cx X l w nL cc own Ts ret rm) : X.l = l := C.2.2.2.2.2.2.2.2.2.2.2.1
theorem Cx.tb (C : Cx X l w nL cc own Ts ret rm) : ∀ w' ∈ tb_g, w' ∈ Ts := C.2.2.2.2.2.2.2.2.2.2.2.2.1
theorem Cx.k (C : Cx X l w nL cc own Ts ret rm) : X.kc ≤ X.R.cells ∧ X.ks ≤ X.R.slots := by rw [C.R]; exact C.2.2.2.2.2.2.2.2.2.2.2.2.2
theorem Cx.t (C : Cx X l w nL cc own Ts ret rm) {w' : Cond} (h : w' ∈ tb_g) : w'.before X.args X.s = true := C.ts w' (C.tb w' h)
theorem Cx.D (C : Cx X l w nL cc own Ts ret rm) (σ : St) : va_D (xA w X.s.heap.size) (wd w σ) := wd_D C.i _ σ
-- numbers
abbrev lt32 (x y : Int) : Prop := Int32.ofInt x < Int32.ofInt y
abbrev le32 (x y : Int) : Prop := Int32.ofInt x ≤ Int32.ofInt y
abbrev eq32 (x y : Int) : Prop := Int32.ofInt x = Int32.ofInt y
abbrev lt64 (x y : Int) : Prop := Int64.ofInt x < Int64.ofInt y
abbrev le64 (x y : Int) : Prop := Int64.ofInt x ≤ Int64.ofInt y
abbrev eq64 (x y : Int) : Prop := Int64.ofInt x = Int64.ofInt y
def s32 (x : Int) : Int := (Int32.ofInt x).toInt
def dv32 (x y : Int) : Int := (Int32.ofInt x / Int32.ofInt y).toInt
def dv64 (x y : Int) : Int := (Int64.ofInt x / Int64.ofInt y).toInt
def an32 (x y : Int) : Int := (Int32.ofInt x &&& Int32.ofInt y).toInt
def or32 (x y : Int) : Int := (Int32.ofInt x ||| Int32.ofInt y).toInt
def xo32 (x y : Int) : Int := (Int32.ofInt x ^^^ Int32.ofInt y).toInt
def sl32 (x y : Int) : Int := (Int32.ofInt x <<< (Int32.ofInt y &&& 31)).toInt
def sr32 (x y : Int) : Int := (Int32.ofInt x >>> (Int32.ofInt y &&& 31)).toInt
def us32 (x y : Int) : Int := (((Int32.ofInt x).toUInt32 >>> ((Int32.ofInt y).toUInt32 &&& Int32.toUInt32 31)).toInt32).toInt
def i8 (x : Int) : Int := ((Int32.ofInt x).toInt8.toInt32).toInt
def i16 (x : Int) : Int := ((Int32.ofInt x).toInt16.toInt32).toInt
-- stepping
theorem r_goto (C : Cx X l w nL cc own Ts ret rm) {off : Int} (hd : decode cc pc = .ok (.goto off, 3)) (hq : (pc : Int) + off = (q : Int)) (k : Rj X w nL Q q lv st σ) : Rj X w nL Q pc lv st σ :=
  fun H locs ls hP hS hl => lv_goto C.x C.b hd hq (k H locs ls hP hS hl)
theorem r_sub (ks : List Nat) (h : lv_pick lv ks = lv') (k : Rj X w nL Q pc lv' st σ) : Rj X w nL Q pc lv st σ :=
  fun H locs ls hP hS hl => k H locs ls hP hS (lv_sub hl ks h)
theorem r_iconst (C : Cx X l w nL cc own Ts ret rm) {n : Int} (hd : decode cc pc = .ok (.iconst n, 1)) (hq : pc + 1 = q) (k : Rj X w nL Q q lv (vI n :: st) σ) : Rj X w nL Q pc lv st σ := by
  subst hq; exact fun H locs ls hP hS hl => lv_iconst C.x C.b hd rfl (k H locs ls hP hS hl)
theorem r_bipush (C : Cx X l w nL cc own Ts ret rm) {n x : Int} (hd : decode cc pc = .ok (.bipush n, 2)) (hx : (Int8.ofInt n).toInt32 = Int32.ofInt x) (hq : pc + 2 = q) (k : Rj X w nL Q q lv (vI x :: st) σ) : Rj X w nL Q pc lv st σ := by
  subst hq; exact fun H locs ls hP hS hl => lv_bipush C.x C.b hd hx (k H locs ls hP hS hl)
theorem r_sipush (C : Cx X l w nL cc own Ts ret rm) {n x : Int} (hd : decode cc pc = .ok (.sipush n, 3)) (hx : (Int16.ofInt n).toInt32 = Int32.ofInt x) (hq : pc + 3 = q) (k : Rj X w nL Q q lv (vI x :: st) σ) : Rj X w nL Q pc lv st σ := by
  subst hq; exact fun H locs ls hP hS hl => lv_sipush C.x C.b hd hx (k H locs ls hP hS hl)
theorem r_lconst (C : Cx X l w nL cc own Ts ret rm) {n : Fin 2} {x : Int} (hd : decode cc pc = .ok (.lconst n, 1)) (hx : Int64.ofNat (n : Nat) = Int64.ofInt x) (hq : pc + 1 = q) (k : Rj X w nL Q q lv (vJ x :: st) σ) : Rj X w nL Q pc lv st σ := by
  subst hq; exact fun H locs ls hP hS hl => lv_lconst C.x C.b hd hx (k H locs ls hP hS hl)
theorem r_ldc (C : Cx X l w nL cc own Ts ret rm) {ix : Nat} {v : Int32} {x : Int} (hc : Cond.constant own ix v ∈ tb_g) (hx : v = Int32.ofInt x) (hd : decode cc pc = .ok (.ldc ix, 2)) (hq : pc + 2 = q) (k : Rj X w nL Q q lv (vI x :: st) σ) : Rj X w nL Q pc lv st σ := by
  subst hq; subst hx; exact fun H locs ls hP hS hl => lv_ldc C.x C.b C.ow (C.t hc) hd (k H locs ls hP hS hl)
theorem r_ldcw (C : Cx X l w nL cc own Ts ret rm) {ix : Nat} {v : Int32} {x : Int} (hc : Cond.constant own ix v ∈ tb_g) (hx : v = Int32.ofInt x) (hd : decode cc pc = .ok (.ldc_w ix, 3)) (hq : pc + 3 = q) (k : Rj X w nL Q q lv (vI x :: st) σ) : Rj X w nL Q pc lv st σ := by
  subst hq; subst hx; exact fun H locs ls hP hS hl => lv_ldcw C.x C.b C.ow (C.t hc) hd (k H locs ls hP hS hl)
theorem r_ldc2 (C : Cx X l w nL cc own Ts ret rm) {ix : Nat} {v : Int64} {x : Int} (hc : Cond.constantLong own ix v ∈ tb_g) (hx : v = Int64.ofInt x) (hd : decode cc pc = .ok (.ldc2_w ix, 3)) (hq : pc + 3 = q) (k : Rj X w nL Q q lv (vJ x :: st) σ) : Rj X w nL Q pc lv st σ := by
  subst hq; subst hx; exact fun H locs ls hP hS hl => lv_ldc2 C.x C.b C.ow (C.t hc) hd (k H locs ls hP hS hl)
theorem r_iload_n (C : Cx X l w nL cc own Ts ret rm) {k' : Fin 4} {i : Nat} {x : Int} (j : Nat) (hd : decode cc pc = .ok (.iload_n k', 1)) (hi : (k' : Nat) = i) (hj : lv[j]? = some (i, vI x)) (hq : pc + 1 = q) (k : Rj X w nL Q q lv (vI x :: st) σ) : Rj X w nL Q pc lv st σ := by
  subst hq; exact fun H locs ls hP hS hl => lv_iload_n C.x C.b hd hi (lv_at hl j hj) (k H locs ls hP hS hl)
theorem r_iload (C : Cx X l w nL cc own Ts ret rm) {i : Nat} {x : Int} (j : Nat) (hd : decode cc pc = .ok (.iload i, 2)) (hj : lv[j]? = some (i, vI x)) (hq : pc + 2 = q) (k : Rj X w nL Q q lv (vI x :: st) σ) : Rj X w nL Q pc lv st σ := by
  subst hq; exact fun H locs ls hP hS hl => lv_iload C.x C.b hd (lv_at hl j hj) (k H locs ls hP hS hl)
theorem r_lload_n (C : Cx X l w nL cc own Ts ret rm) {k' : Fin 4} {i : Nat} {x : Int} (j : Nat) (hd : decode cc pc = .ok (.lload_n k', 1)) (hi : (k' : Nat) = i) (hj : lv[j]? = some (i, vJ x)) (hq : pc + 1 = q) (k : Rj X w nL Q q lv (vJ x :: st) σ) : Rj X w nL Q pc lv st σ := by
  subst hq; exact fun H locs ls hP hS hl => lv_lload_n C.x C.b hd hi (lv_at hl j hj) (k H locs ls hP hS hl)
theorem r_lload (C : Cx X l w nL cc own Ts ret rm) {i : Nat} {x : Int} (j : Nat) (hd : decode cc pc = .ok (.lload i, 2)) (hj : lv[j]? = some (i, vJ x)) (hq : pc + 2 = q) (k : Rj X w nL Q q lv (vJ x :: st) σ) : Rj X w nL Q pc lv st σ := by
  subst hq; exact fun H locs ls hP hS hl => lv_lload C.x C.b hd (lv_at hl j hj) (k H locs ls hP hS hl)
theorem r_aload_n (C : Cx X l w nL cc own Ts ret rm) {k' : Fin 4} {i : Nat} {x : Nat} (j : Nat) (hd : decode cc pc = .ok (.aload_n k', 1)) (hi : (k' : Nat) = i) (hj : lv[j]? = some (i, .ref x)) (hq : pc + 1 = q) (k : Rj X w nL Q q lv (.ref x :: st) σ) : Rj X w nL Q pc lv st σ := by
  subst hq; exact fun H locs ls hP hS hl => lv_aload_n C.x C.b hd hi (lv_at hl j hj) (k H locs ls hP hS hl)
theorem r_aload (C : Cx X l w nL cc own Ts ret rm) {i : Nat} {x : Nat} (j : Nat) (hd : decode cc pc = .ok (.aload i, 2)) (hj : lv[j]? = some (i, .ref x)) (hq : pc + 2 = q) (k : Rj X w nL Q q lv (.ref x :: st) σ) : Rj X w nL Q pc lv st σ := by
  subst hq; exact fun H locs ls hP hS hl => lv_aload C.x C.b hd (lv_at hl j hj) (k H locs ls hP hS hl)
theorem r_istore_n (C : Cx X l w nL cc own Ts ret rm) {k' : Fin 4} {i : Nat} {x : Int} (hd : decode cc pc = .ok (.istore_n k', 1)) (hi : (k' : Nat) = i) (hn : i < nL) (hl' : (i, vI x) :: lv.filter (fun q => !(q.1 == i) && !(q.1 + 1 == i && q.2.category == 2)) = lv') (hq : pc + 1 = q) (k : Rj X w nL Q q lv' st σ) : Rj X w nL Q pc lv (vI x :: st) σ := by
  subst hq; exact fun H locs ls hP hS hl => lv_istore_n C.x C.b hd hi hl hn hl' fun ls' h => k H locs ls' hP hS h
theorem r_istore (C : Cx X l w nL cc own Ts ret rm) {i : Nat} {x : Int} (hd : decode cc pc = .ok (.istore i, 2)) (hn : i < nL) (hl' : (i, vI x) :: lv.filter (fun q => !(q.1 == i) && !(q.1 + 1 == i && q.2.category == 2)) = lv') (hq : pc + 2 = q) (k : Rj X w nL Q q lv' st σ) : Rj X w nL Q pc lv (vI x :: st) σ := by
  subst hq; exact fun H locs ls hP hS hl => lv_istore C.x C.b hd hl hn hl' fun ls' h => k H locs ls' hP hS h
theorem r_lstore_n (C : Cx X l w nL cc own Ts ret rm) {k' : Fin 4} {i : Nat} {x : Int} (hd : decode cc pc = .ok (.lstore_n k', 1)) (hi : (k' : Nat) = i) (hn : i + 1 < nL) (hl' : (i, vJ x) :: lv.filter (fun q => !(q.1 == i) && (!(q.1 == i + 1) && !(q.1 + 1 == i && q.2.category == 2))) = lv') (hq : pc + 1 = q) (k : Rj X w nL Q q lv' st σ) : Rj X w nL Q pc lv (vJ x :: st) σ := by
  subst hq; exact fun H locs ls hP hS hl => lv_lstore_n C.x C.b hd hi hl hn hl' fun ls' h => k H locs ls' hP hS h
theorem r_lstore (C : Cx X l w nL cc own Ts ret rm) {i : Nat} {x : Int} (hd : decode cc pc = .ok (.lstore i, 2)) (hn : i + 1 < nL) (hl' : (i, vJ x) :: lv.filter (fun q => !(q.1 == i) && (!(q.1 == i + 1) && !(q.1 + 1 == i && q.2.category == 2))) = lv') (hq : pc + 2 = q) (k : Rj X w nL Q q lv' st σ) : Rj X w nL Q pc lv (vJ x :: st) σ := by
  subst hq; exact fun H locs ls hP hS hl => lv_lstore C.x C.b hd hl hn hl' fun ls' h => k H locs ls' hP hS h
theorem r_astore_n (C : Cx X l w nL cc own Ts ret rm) {k' : Fin 4} {i : Nat} {x : Nat} (hd : decode cc pc = .ok (.astore_n k', 1)) (hi : (k' : Nat) = i) (hn : i < nL) (hl' : (i, Value.ref x) :: lv.filter (fun q => !(q.1 == i) && !(q.1 + 1 == i && q.2.category == 2)) = lv') (hq : pc + 1 = q) (k : Rj X w nL Q q lv' st σ) : Rj X w nL Q pc lv (.ref x :: st) σ := by
  subst hq; exact fun H locs ls hP hS hl => lv_astore_n C.x C.b hd hi hl hn hl' fun ls' h => k H locs ls' hP hS h
theorem r_iinc (C : Cx X l w nL cc own Ts ret rm) {i : Nat} {n x : Int} (j : Nat) (hd : decode cc pc = .ok (.iinc i n, 3)) (hj : lv[j]? = some (i, vI x)) (hn : i < nL) (hl' : (i, vI (x + n)) :: lv.filter (fun q => !(q.1 == i) && !(q.1 + 1 == i && q.2.category == 2)) = lv') (hq : pc + 3 = q) (k : Rj X w nL Q q lv' st σ) : Rj X w nL Q pc lv st σ := by
  subst hq; exact fun H locs ls hP hS hl => lv_iinc C.x C.b hd hl hj (Int32.ofInt_add x n).symm hn hl' fun ls' h => k H locs ls' hP hS h
theorem r_iadd (C : Cx X l w nL cc own Ts ret rm) {x y : Int} (hd : decode cc pc = .ok (.iadd, 1)) (hq : pc + 1 = q) (k : Rj X w nL Q q lv (vI (x + y) :: st) σ) : Rj X w nL Q pc lv (vI y :: vI x :: st) σ := by
  subst hq; exact fun H locs ls hP hS hl => lv_iadd C.x C.b hd (Int32.ofInt_add x y ▸ k H locs ls hP hS hl)
theorem r_isub (C : Cx X l w nL cc own Ts ret rm) {x y : Int} (hd : decode cc pc = .ok (.isub, 1)) (hq : pc + 1 = q) (k : Rj X w nL Q q lv (vI (x - y) :: st) σ) : Rj X w nL Q pc lv (vI y :: vI x :: st) σ := by
  subst hq; exact fun H locs ls hP hS hl => lv_isub C.x C.b hd (Int32.ofInt_sub x y ▸ k H locs ls hP hS hl)
theorem r_imul (C : Cx X l w nL cc own Ts ret rm) {x y : Int} (hd : decode cc pc = .ok (.imul, 1)) (hq : pc + 1 = q) (k : Rj X w nL Q q lv (vI (x * y) :: st) σ) : Rj X w nL Q pc lv (vI y :: vI x :: st) σ := by
  subst hq; exact fun H locs ls hP hS hl => lv_imul C.x C.b hd (Int32.ofInt_mul x y ▸ k H locs ls hP hS hl)
theorem r_ineg (C : Cx X l w nL cc own Ts ret rm) {x : Int} (hd : decode cc pc = .ok (.ineg, 1)) (hq : pc + 1 = q) (k : Rj X w nL Q q lv (vI (-x) :: st) σ) : Rj X w nL Q pc lv (vI x :: st) σ := by
  subst hq; exact fun H locs ls hP hS hl => lv_ineg C.x C.b hd (Int32.ofInt_neg x ▸ k H locs ls hP hS hl)
theorem r_idiv (C : Cx X l w nL cc own Ts ret rm) {x y : Int} (h0 : ¬ eq32 y 0) (hd : decode cc pc = .ok (.idiv, 1)) (hq : pc + 1 = q) (k : Rj X w nL Q q lv (vI (dv32 x y) :: st) σ) : Rj X w nL Q pc lv (vI y :: vI x :: st) σ := by
  subst hq; exact fun H locs ls hP hS hl => lv_idiv C.x C.b hd h0 (Int32.ofInt_toInt (Int32.ofInt x / Int32.ofInt y) ▸ k H locs ls hP hS hl)
theorem r_irem (C : Cx X l w nL cc own Ts ret rm) {x y : Int} (h0 : ¬ eq32 y 0) (hd : decode cc pc = .ok (.irem, 1)) (hq : pc + 1 = q) (k : Rj X w nL Q q lv (vI (x - dv32 x y * y) :: st) σ) : Rj X w nL Q pc lv (vI y :: vI x :: st) σ := by
  subst hq; intro H locs ls hP hS hl
  refine lv_irem C.x C.b hd h0 ?_
  have e : Int32.ofInt (x - dv32 x y * y) = Int32.ofInt x - Int32.ofInt x / Int32.ofInt y * Int32.ofInt y := by rw [Int32.ofInt_sub, Int32.ofInt_mul, dv32, Int32.ofInt_toInt]
  exact e ▸ k H locs ls hP hS hl
theorem r_iand (C : Cx X l w nL cc own Ts ret rm) {x y : Int} (hd : decode cc pc = .ok (.iand, 1)) (hq : pc + 1 = q) (k : Rj X w nL Q q lv (vI (an32 x y) :: st) σ) : Rj X w nL Q pc lv (vI y :: vI x :: st) σ := by
  subst hq; exact fun H locs ls hP hS hl => lv_iand C.x C.b hd (Int32.ofInt_toInt (Int32.ofInt x &&& Int32.ofInt y) ▸ k H locs ls hP hS hl)
theorem r_ior (C : Cx X l w nL cc own Ts ret rm) {x y : Int} (hd : decode cc pc = .ok (.ior, 1)) (hq : pc + 1 = q) (k : Rj X w nL Q q lv (vI (or32 x y) :: st) σ) : Rj X w nL Q pc lv (vI y :: vI x :: st) σ := by
  subst hq; exact fun H locs ls hP hS hl => lv_ior C.x C.b hd (Int32.ofInt_toInt (Int32.ofInt x ||| Int32.ofInt y) ▸ k H locs ls hP hS hl)
theorem r_ixor (C : Cx X l w nL cc own Ts ret rm) {x y : Int} (hd : decode cc pc = .ok (.ixor, 1)) (hq : pc + 1 = q) (k : Rj X w nL Q q lv (vI (xo32 x y) :: st) σ) : Rj X w nL Q pc lv (vI y :: vI x :: st) σ := by
  subst hq; exact fun H locs ls hP hS hl => lv_ixor C.x C.b hd (Int32.ofInt_toInt (Int32.ofInt x ^^^ Int32.ofInt y) ▸ k H locs ls hP hS hl)
theorem r_ishl (C : Cx X l w nL cc own Ts ret rm) {x y : Int} (hd : decode cc pc = .ok (.ishl, 1)) (hq : pc + 1 = q) (k : Rj X w nL Q q lv (vI (sl32 x y) :: st) σ) : Rj X w nL Q pc lv (vI y :: vI x :: st) σ := by
  subst hq; exact fun H locs ls hP hS hl => lv_ishl C.x C.b hd (Int32.ofInt_toInt (Int32.ofInt x <<< (Int32.ofInt y &&& 31)) ▸ k H locs ls hP hS hl)
theorem r_ishr (C : Cx X l w nL cc own Ts ret rm) {x y : Int} (hd : decode cc pc = .ok (.ishr, 1)) (hq : pc + 1 = q) (k : Rj X w nL Q q lv (vI (sr32 x y) :: st) σ) : Rj X w nL Q pc lv (vI y :: vI x :: st) σ := by
  subst hq; exact fun H locs ls hP hS hl => lv_ishr C.x C.b hd (Int32.ofInt_toInt (Int32.ofInt x >>> (Int32.ofInt y &&& 31)) ▸ k H locs ls hP hS hl)
theorem r_iushr (C : Cx X l w nL cc own Ts ret rm) {x y : Int} (hd : decode cc pc = .ok (.iushr, 1)) (hq : pc + 1 = q) (k : Rj X w nL Q q lv (vI (us32 x y) :: st) σ) : Rj X w nL Q pc lv (vI y :: vI x :: st) σ := by
  subst hq; exact fun H locs ls hP hS hl => lv_iushr C.x C.b hd (Int32.ofInt_toInt _).symm (k H locs ls hP hS hl)
theorem r_i2b (C : Cx X l w nL cc own Ts ret rm) {x : Int} (hd : decode cc pc = .ok (.i2b, 1)) (hq : pc + 1 = q) (k : Rj X w nL Q q lv (vI (i8 x) :: st) σ) : Rj X w nL Q pc lv (vI x :: st) σ := by
  subst hq; exact fun H locs ls hP hS hl => lv_i2b C.x C.b hd (Int32.ofInt_toInt _).symm (k H locs ls hP hS hl)
theorem r_i2s (C : Cx X l w nL cc own Ts ret rm) {x : Int} (hd : decode cc pc = .ok (.i2s, 1)) (hq : pc + 1 = q) (k : Rj X w nL Q q lv (vI (i16 x) :: st) σ) : Rj X w nL Q pc lv (vI x :: st) σ := by
  subst hq; exact fun H locs ls hP hS hl => lv_i2s C.x C.b hd (Int32.ofInt_toInt _).symm (k H locs ls hP hS hl)
theorem r_i2l (C : Cx X l w nL cc own Ts ret rm) {x : Int} (hd : decode cc pc = .ok (.i2l, 1)) (hq : pc + 1 = q) (k : Rj X w nL Q q lv (vJ (s32 x) :: st) σ) : Rj X w nL Q pc lv (vI x :: st) σ := by
  subst hq; exact fun H locs ls hP hS hl => lv_i2l C.x C.b hd (Int64.ofInt_int32ToInt _).symm (k H locs ls hP hS hl)
theorem r_l2i (C : Cx X l w nL cc own Ts ret rm) {x : Int} (hd : decode cc pc = .ok (.l2i, 1)) (hq : pc + 1 = q) (k : Rj X w nL Q q lv (vI x :: st) σ) : Rj X w nL Q pc lv (vJ x :: st) σ := by
  subst hq; exact fun H locs ls hP hS hl => lv_l2i C.x C.b hd Int64.toInt32_ofInt (k H locs ls hP hS hl)
theorem r_ladd (C : Cx X l w nL cc own Ts ret rm) {x y : Int} (hd : decode cc pc = .ok (.ladd, 1)) (hq : pc + 1 = q) (k : Rj X w nL Q q lv (vJ (x + y) :: st) σ) : Rj X w nL Q pc lv (vJ y :: vJ x :: st) σ := by
  subst hq; exact fun H locs ls hP hS hl => lv_ladd C.x C.b hd (Int64.ofInt_add x y ▸ k H locs ls hP hS hl)
theorem r_lmul (C : Cx X l w nL cc own Ts ret rm) {x y : Int} (hd : decode cc pc = .ok (.lmul, 1)) (hq : pc + 1 = q) (k : Rj X w nL Q q lv (vJ (x * y) :: st) σ) : Rj X w nL Q pc lv (vJ y :: vJ x :: st) σ := by
  subst hq; exact fun H locs ls hP hS hl => lv_lmul C.x C.b hd (Int64.ofInt_mul x y ▸ k H locs ls hP hS hl)
theorem r_ldiv (C : Cx X l w nL cc own Ts ret rm) {x y : Int} (h0 : ¬ eq64 y 0) (hd : decode cc pc = .ok (.ldiv, 1)) (hq : pc + 1 = q) (k : Rj X w nL Q q lv (vJ (dv64 x y) :: st) σ) : Rj X w nL Q pc lv (vJ y :: vJ x :: st) σ := by
  subst hq; exact fun H locs ls hP hS hl => lv_ldiv C.x C.b hd h0 (Int64.ofInt_toInt (Int64.ofInt x / Int64.ofInt y) ▸ k H locs ls hP hS hl)
theorem r_lrem (C : Cx X l w nL cc own Ts ret rm) {x y : Int} (h0 : ¬ eq64 y 0) (hd : decode cc pc = .ok (.lrem, 1)) (hq : pc + 1 = q) (k : Rj X w nL Q q lv (vJ (x - dv64 x y * y) :: st) σ) : Rj X w nL Q pc lv (vJ y :: vJ x :: st) σ := by
  subst hq; intro H locs ls hP hS hl
  refine lv_lrem C.x C.b hd h0 ?_
  have e : Int64.ofInt (x - dv64 x y * y) = Int64.ofInt x - Int64.ofInt x / Int64.ofInt y * Int64.ofInt y := by rw [Int64.ofInt_sub, Int64.ofInt_mul, dv64, Int64.ofInt_toInt]
  exact e ▸ k H locs ls hP hS hl
theorem r_dup (C : Cx X l w nL cc own Ts ret rm) {v : Value} (hd : decode cc pc = .ok (.dup, 1)) (hv : v.category = 1) (hq : pc + 1 = q) (k : Rj X w nL Q q lv (v :: v :: st) σ) : Rj X w nL Q pc lv (v :: st) σ := by
  subst hq; exact fun H locs ls hP hS hl => lv_dup C.x C.b hd hv (k H locs ls hP hS hl)
theorem r_dup2 (C : Cx X l w nL cc own Ts ret rm) {v u : Value} (hd : decode cc pc = .ok (.dup2, 1)) (hv : v.category = 1) (hu : u.category = 1) (hq : pc + 1 = q) (k : Rj X w nL Q q lv (v :: u :: v :: u :: st) σ) : Rj X w nL Q pc lv (v :: u :: st) σ := by
  subst hq; exact fun H locs ls hP hS hl => lv_dup2_11 C.x C.b hd hv hu (k H locs ls hP hS hl)
theorem r_pop (C : Cx X l w nL cc own Ts ret rm) {v : Value} (hd : decode cc pc = .ok (.pop, 1)) (hv : v.category = 1) (hq : pc + 1 = q) (k : Rj X w nL Q q lv st σ) : Rj X w nL Q pc lv (v :: st) σ := by
  subst hq; exact fun H locs ls hP hS hl => lv_pop C.x C.b hd hv (k H locs ls hP hS hl)
end RJ
