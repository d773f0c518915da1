section MA
variable {X : CxT} {l : Launch} {w : WoT} {nL : Nat} {cc : ByteArray} {own : String} {Ts : List Cond} {ret : Option FieldType} {rm : Room} {Q : State → Prop} {pc q : Nat} {lv : List (Nat × Value)} {st : List Value} {σ : St}
def mn32 (x y : Int) : Int := if lt32 y x then y else x
def mx32 (x y : Int) : Int := if lt32 x y then y else x
def ab32 (x : Int) : Int := if le32 0 x then x else 0 - x
def mx64 (x y : Int) : Int := if lt64 y x then x else y
theorem r_mmin (C : Cx X l w nL cc own Ts ret rm) {ix : Nat} {x y : Int} (hlk : Cond.methodLink own ix Lib.Math.min.name ∈ tb_g) (hm : Cond.static Lib.Math.min.name ∈ tb_g ∧ Cond.initialized "java/lang/Math" ∈ tb_g ∧ Cond.code Lib.Math.min.name Lib.Math.min.code 2 (some .int) ∈ tb_g) (hfr : 1 ≤ rm.frames) (hlo : 23 ≤ rm.locals) (hW : (st.map fun v => v.category).sum ≤ 8) (hd : decode cc pc = .ok (.invokestatic ix, 3)) (hq : pc + 3 = q) (k : Rj X w nL Q q lv (vI (mn32 x y) :: st) σ) : Rj X w nL Q pc lv (vI y :: vI x :: st) σ := by
  subst hq; intro H locs ls hP hS hl
  refine va_mmin C.x C.b (C.ml.trans hl.1.symm) C.ow (C.t hlk) (C.t hm.1) (C.t hm.2.1) (C.t hm.2.2) (by rw [C.R]; exact hfr) (by rw [C.R]; omega) C.k.1 C.k.2 hd ?_
  have h := k H locs ls hP hS hl
  unfold mn32 at h
  by_cases c : lt32 y x
  · rw [if_pos c] at h ⊢; exact h
  · rw [if_neg c] at h ⊢; exact h
theorem r_mmax (C : Cx X l w nL cc own Ts ret rm) {ix : Nat} {x y : Int} (hlk : Cond.methodLink own ix Lib.Math.max.name ∈ tb_g) (hm : Cond.static Lib.Math.max.name ∈ tb_g ∧ Cond.initialized "java/lang/Math" ∈ tb_g ∧ Cond.code Lib.Math.max.name Lib.Math.max.code 2 (some .int) ∈ tb_g) (hfr : 1 ≤ rm.frames) (hlo : 23 ≤ rm.locals) (hW : (st.map fun v => v.category).sum ≤ 8) (hd : decode cc pc = .ok (.invokestatic ix, 3)) (hq : pc + 3 = q) (k : Rj X w nL Q q lv (vI (mx32 x y) :: st) σ) : Rj X w nL Q pc lv (vI y :: vI x :: st) σ := by
  subst hq; intro H locs ls hP hS hl
  refine va_mmax C.x C.b (C.ml.trans hl.1.symm) C.ow (C.t hlk) (C.t hm.1) (C.t hm.2.1) (C.t hm.2.2) (by rw [C.R]; exact hfr) (by rw [C.R]; omega) C.k.1 C.k.2 hd ?_
  have h := k H locs ls hP hS hl
  unfold mx32 at h
  by_cases c : lt32 x y
  · rw [if_pos c] at h ⊢; exact h
  · rw [if_neg c] at h ⊢; exact h
theorem r_mabs (C : Cx X l w nL cc own Ts ret rm) {ix : Nat} {x : Int} (hlk : Cond.methodLink own ix Lib.Math.abs.name ∈ tb_g) (hm : Cond.static Lib.Math.abs.name ∈ tb_g ∧ Cond.initialized "java/lang/Math" ∈ tb_g ∧ Cond.code Lib.Math.abs.name Lib.Math.abs.code 1 (some .int) ∈ tb_g) (hfr : 1 ≤ rm.frames) (hlo : 23 ≤ rm.locals) (hW : (st.map fun v => v.category).sum ≤ 8) (hd : decode cc pc = .ok (.invokestatic ix, 3)) (hq : pc + 3 = q) (k : Rj X w nL Q q lv (vI (ab32 x) :: st) σ) : Rj X w nL Q pc lv (vI x :: st) σ := by
  subst hq; intro H locs ls hP hS hl
  refine va_mabs C.x C.b (C.ml.trans hl.1.symm) C.ow (C.t hlk) (C.t hm.1) (C.t hm.2.1) (C.t hm.2.2) (by rw [C.R]; exact hfr) (by rw [C.R]; omega) C.k.1 C.k.2 hd ?_
  have h := k H locs ls hP hS hl
  unfold ab32 at h
  have e0 : (0 : Int32) = Int32.ofInt 0 := rfl
  by_cases c : le32 0 x
  · rw [if_pos c] at h; rw [if_pos (show (0 : Int32) ≤ Int32.ofInt x from c)]; exact h
  · rw [if_neg c] at h; rw [if_neg (show ¬ (0 : Int32) ≤ Int32.ofInt x from c)]; have e : Int32.ofInt (0 - x) = Int32.ofInt 0 - Int32.ofInt x := Int32.ofInt_sub 0 x; exact e ▸ h
theorem r_mmax_long (C : Cx X l w nL cc own Ts ret rm) {ix : Nat} {x y : Int} (hlk : Cond.methodLink own ix Lib.MathLoose.max_long.x ∈ tb_g) (hm : Cond.static Lib.MathLoose.max_long.x ∈ tb_g ∧ Cond.initialized "java/lang/Math" ∈ tb_g ∧ Cond.code Lib.MathLoose.max_long.x Lib.MathLoose.max_long.code 4 (some .long) ∈ tb_g) (hfr : 1 ≤ rm.frames) (hlo : 23 ≤ rm.locals) (hW : (st.map fun v => v.category).sum ≤ 8) (hd : decode cc pc = .ok (.invokestatic ix, 3)) (hq : pc + 3 = q) (k : Rj X w nL Q q lv (vJ (mx64 x y) :: st) σ) : Rj X w nL Q pc lv (vJ y :: vJ x :: st) σ := by
  subst hq; intro H locs ls hP hS hl
  refine va_mmax_long C.x C.b (C.ml.trans hl.1.symm) C.ow (C.t hlk) (C.t hm.1) (C.t hm.2.1) (C.t hm.2.2) (by rw [C.R]; exact hfr) (by rw [C.R]; omega) C.k.1 C.k.2 hd ?_
  have h := k H locs ls hP hS hl
  unfold mx64 at h
  by_cases c : lt64 y x
  · rw [if_pos c] at h ⊢; exact h
  · rw [if_neg c] at h ⊢; exact h
end MA
