-- ===== end of PART A; then your names; then what follows =====
/-! THE CLAIM OUT OF ONE WALK OF THE LAW'S BODY. Your part is whole_start (and what it stands on); all else here is the same for every law, but numbers. -/
def R_law : String := "OneSelfLaw"
def lw_P (b : Addr) (xs : List Int32) (args : Array Value) (s : State) : Prop := args = #[.ref b] ∧ s.IntsAt b xs ∧ xs.length ≤ 4096 ∧ (Jvm.Cond.and given_1 narrow_1).before args s = true
def lw_Q (_ : Array Value) (s : State) (o : Outcome) (t : State) : Prop := o = .returned (some (.int 1)) ∧ Framed s o t [] 79 18795
def lw_Z (below : List Frame) (a : Array Value) (s : State) : State → Prop := fun t => ∃ o, t.status = .running ∧ Ended t below o ∧ lw_Q a s o t
/-- the law's own end, with 1 on the stack, nothing written that was there before, its room as the claim has it -/
theorem lw_ret {p : Program} {l : Launch} {e : Env} {s : State} {m : MethodId} {below : List Frame} {meth : Method} {c : Code} {b : Nat} (hx : p.tables.exec = Jvm.exec) (hb : c.code = code) (hr : meth.sig.returnType = ret) (hlocks : meth.locks = false) {pc : Nat} {H : Heap} {ls : Array Slot} (hdg : decode code pc = .ok (.ireturn, 1)) : W p l e room_1 s m #[Value.ref b] below meth c H [] 79 18795 (lw_Z below #[Value.ref b] s) (F0 m pc ls [.int 1]) := by
  intro T hT X
  obtain ⟨fs, hret, hrun, hended, hW, hframe⟩ := X.leave (v := some (.int 1)) (hlocks := hlocks) (fun h => by rw [hr] at h; cases h)
  have hmeth' : T.vm.method? m = some meth := X.method'
  refine ⟨T.setFrames fs, ?_, .returned (some (.int 1)), hrun, hended, rfl, ⟨_, rfl⟩, hW, hframe⟩
  jvm_step X.here [X.here.top, hx, hb, hdg, hmeth', hr, ret, narrow_b1]
  (try refine ⟨rfl, ?_⟩); (try refine ⟨rfl, ?_⟩)
  first | (intro acts; rw [hret _ acts rfl rfl rfl]) | rw [hret _ _ rfl rfl rfl]
  exact Steps.refl _
/-- what holds at the law's entry: the machine, the code, the tables' words (any of lw_tbl by 'hts w (by decide +kernel)'), the script of L ints xs at the cell b, what the Statement gives of the start (any of its parts by flat_of_before) -/
def lw_At (p : Program) (s : State) (m : MethodId) (meth : Method) (c : Code) (b L : Nat) (xs : Nat → Int32) : Prop :=
  p.tables.exec = Jvm.exec ∧ c.code = code ∧ meth.sig.returnType = ret ∧ c.maxLocals = 4 ∧ s.vm.findClass R_law = some m.cls ∧ (∀ w ∈ lw_tbl, w.before #[Value.ref b] s = true) ∧ va_X b L xs s s.heap ∧ b < s.heap.size ∧ meth.locks = false ∧ (Jvm.Cond.and given_1 narrow_1).before #[Value.ref b] s = true
def emb (w1 w : WoT) (off : Nat) : Prop := (∀ k, k < w1.n → k + off < w.n ∧ w.h (k + off) = w1.h k ∧ ∀ f, w.c (k + off) f = w1.c k f) ∧ w1.D = w.D ∧ w1.cl = w.cl ∧ w1.tys = w.tys
/-- two states side by side -/
def cm (σ1 σ2 : St) : St := fun k => if k < 41 then σ1 k else σ2 (k - 41)
def lW (h1 h2 : Nat → Nat) (g : va_G × ClassId × ClassId × ClassId) : WoT := (79, (fun k => if k < 41 then h1 k else h2 (k - 41)), (fun k f => if k < 41 then xC (h1, g) k f else mC (h2, g) (k - 41) f), g.1, cls_, [(g.2.1, .int), (g.2.2.1, .long), (g.2.2.2, .boolean)])
theorem emb_x (h1 h2 : Nat → Nat) (g : va_G × ClassId × ClassId × ClassId) : emb (xW (h1, g)) (lW h1 h2 g) 0 := by
  refine ⟨fun k hk => ?_, rfl, rfl, rfl⟩
  have hk : k < 41 := hk
  refine ⟨show k + 0 < 79 by omega, ?_, fun f => ?_⟩
  · show (if k + 0 < 41 then h1 (k + 0) else h2 (k + 0 - 41)) = h1 k
    rw [if_pos (by omega)]; rfl
  · show (if k + 0 < 41 then xC (h1, g) (k + 0) f else mC (h2, g) (k + 0 - 41) f) = xC (h1, g) k f
    rw [if_pos (by omega)]; rfl
theorem emb_m (h1 h2 : Nat → Nat) (g : va_G × ClassId × ClassId × ClassId) : emb (mW (h2, g)) (lW h1 h2 g) 41 := by
  refine ⟨fun k hk => ?_, rfl, rfl, rfl⟩
  have hk : k < 38 := hk
  have e : k + 41 - 41 = k := by omega
  refine ⟨show k + 41 < 79 by omega, ?_, fun f => ?_⟩
  · show (if k + 41 < 41 then h1 (k + 41) else h2 (k + 41 - 41)) = h2 k
    rw [if_neg (by omega), e]
  · show (if k + 41 < 41 then xC (h1, g) (k + 41) f else mC (h2, g) (k + 41 - 41) f) = mC (h2, g) k f
    rw [if_neg (by omega), e]
theorem emb_i {w1 w : WoT} {off : Nat} (E : emb w1 w off) (h : wo_i w) : wo_i w1 := by
  intro i j hi hj e
  obtain ⟨a1, a2, -⟩ := E.1 i hi
  obtain ⟨b1, b2, -⟩ := E.1 j hj
  have := h (i + off) (j + off) a1 b1 (by rw [a2, b2]; exact e)
  omega
theorem emb_P {w1 w : WoT} {off : Nat} {σ σ1 : St} {H : Heap} (E : emb w1 w off) (hσ : ∀ k, k < w1.n → σ (k + off) = σ1 k) (h : va_P w.D w.cl (wd w σ) H) : va_P w1.D w1.cl (wd w1 σ1) H := by
  intro k q hq
  have hk := (wd_mem hq).1
  rw [wd_get w1 σ1 hk] at hq
  obtain ⟨a1, a2, a3⟩ := E.1 k hk
  have := h (k + off) _ (wd_get w σ a1)
  rw [a2, a3, hσ k hk] at this
  cases hq
  rw [E.2.1, E.2.2.1]
  exact this
section LR
variable {X : CxT} {l : Launch} {w w1 : WoT} {nL : Nat} {cc : ByteArray} {own : String} {Ts : List Cond} {ret : Option FieldType} {rm : Room} {Q : State → Prop} {pc q off : Nat} {lv : List (Nat × Value)} {st : List Value} {σ σ' σ1 σ2 : St}
theorem emb_run {y : MethodName} {c0 : ByteArray} {maxL n ix : Nat} {re : Option FieldType} {rc : Room} {As rest : List Value} {k0 ci : Nat} {fs : List Value} {vc : vw_C} {Qc : Nat → Array Value → State → Outcome → State → Prop} {H : Heap} {locs : List Loc} {ls : Array Slot} (E : emb w1 w off)
    (C : Cx X l w nL cc own Ts ret rm) (hM : ∀ sz : Nat, Met l y (wo y c0 maxL re) rc (va_Pc (.ref (w1.h k0) :: As) (Pw w1 sz σ1)) (Qc sz) 0 0 (xA w1 sz)) (hσ : ∀ k, k < w1.n → σ (k + off) = σ1 k) (mt : mtV y c0 maxL re n) (hlk : Cond.methodLink own ix y ∈ tb_g) (hk0 : k0 < w1.n) (hc0 : w1.c k0 (σ1 k0) = .inr (ci, fs)) (hcl : w1.cl[ci]? = some vc) (hcn : vc.1 = y.cls)
    (hn : As.length = n) (hc : rc.cells = 0) (hs : rc.slots = 0) (hR : rc.frames + 1 ≤ rm.frames ∧ 8 + (maxL + 11) + rc.locals ≤ rm.locals) (hst : st = As.reverse ++ .ref (w1.h k0) :: rest) (hW : (rest.map fun v => v.category).sum ≤ 8) (hd : decode cc pc = .ok (.invokevirtual ix, 3))
    (hP : va_P w.D w.cl (wd w σ) H) (hl : lv_has ls nL lv) : va_Run X.p X.l X.e X.R X.s X.m X.args X.below X.meth X.c H locs X.kc X.ks 0 0 (F0 X.m pc ls st) rest (Qc H.size (Value.ref (w1.h k0) :: As).toArray) (xA w1 H.size) := by
  subst hst
  have hP1 := emb_P E hσ hP
  have hK1 : va_K w1.D w1.cl w1.tys X.s := by rw [E.2.1, E.2.2.1, E.2.2.2]; exact C.K
  have hM := hM H.size
  rw [← C.la] at hM
  refine va_runV (As := As) (rest := rest) (own := own) (C := y.cls) ⟨C.x, C.b, C.ml, C.ow, C.ts⟩ hM ⟨cw_B C mt.1 mt.2.1 mt.2.2.2.2 hlk hc hs hR, C.t mt.2.2.1, C.t mt.2.2.2.1⟩ ⟨pw_blind _ _, ?_, fun U hU hW => ⟨rfl, by rw [hU], by rw [hU]; exact hP1, va_K.moved hW.alike hK1, nw_warm hW C.nw⟩⟩ rfl hn hl.1 rfl (lv_room hW) hd C.k
  have h := va_recv hK1 hP1 hcl (wd_o σ1 hk0 hc0)
  rw [hcn] at h
  exact h
theorem emb_A (E : emb w1 w off) {H0 H : Heap} (h : H0.size ≤ H.size) : ∀ q, xA w1 H.size q → xA w H0.size q := by
  rintro q (⟨k, hk, e⟩ | hq)
  · obtain ⟨a1, a2, -⟩ := E.1 k hk
    exact Or.inl ⟨k + off, a1, a2.trans e⟩
  · exact Or.inr (Nat.le_trans h hq)
theorem emb_back (E : emb w1 w off) (hi : wo_i w) {H H1 : Heap} (hP : va_P w.D w.cl (wd w σ) H) (hb : va_P w1.D w1.cl (wd w1 σ2) H1) (hσ' : ∀ k, k < w1.n → σ' (k + off) = σ2 k) (ho : ∀ j, (∀ k, k < w1.n → j ≠ k + off) → σ' j = σ j) (hk : ∀ q : Nat, q < H.size → ¬ xA w1 H.size q → H1[q]? = H[q]?) : va_P w.D w.cl (wd w σ') H1 := by
  intro j q hq
  have hj := (wd_mem hq).1
  rw [wd_get w σ' hj] at hq
  by_cases hx : ∃ k, k < w1.n ∧ j = k + off
  · obtain ⟨k, hk1, rfl⟩ := hx
    obtain ⟨a1, a2, a3⟩ := E.1 k hk1
    have := hb k _ (wd_get w1 σ2 hk1)
    rw [E.2.1, E.2.2.1] at this
    cases hq
    rw [a2, a3, hσ' k hk1]
    exact this
  · have e : σ' j = σ j := ho j (fun k hk1 e => hx ⟨k, hk1, e⟩)
    rw [e] at hq
    have h0 := hP j _ (wd_get w σ hj)
    cases hq
    refine h0.kept (hk _ h0.lt ?_)
    rintro (⟨k, hk1, e2⟩ | h)
    · obtain ⟨a1, a2, -⟩ := E.1 k hk1
      exact hx ⟨k, hk1, (hi _ _ a1 hj (a2.trans e2)).symm⟩
    · exact absurd h0.lt (Nat.not_lt.mpr h)
theorem r_eI {y : MethodName} {c0 : ByteArray} {maxL n ix : Nat} {re : Option FieldType} {rc : Room} {As rest : List Value} {k0 ci : Nat} {fs : List Value} {vc : vw_C} {r1 : Int} (E : emb w1 w off) (C : Cx X l w nL cc own Ts ret rm) (hM : CtI l w1 y (wo y c0 maxL re) rc (.ref (w1.h k0) :: As) σ1 (r1, σ2)) (hσ : ∀ k, k < w1.n → σ (k + off) = σ1 k) (hσ' : ∀ k, k < w1.n → σ' (k + off) = σ2 k) (ho : ∀ j, (∀ k, k < w1.n → j ≠ k + off) → σ' j = σ j) (mt : mtV y c0 maxL re n) (hlk : Cond.methodLink own ix y ∈ tb_g) (hk0 : k0 < w1.n) (hc0 : w1.c k0 (σ1 k0) = .inr (ci, fs)) (hcl : w1.cl[ci]? = some vc) (hcn : vc.1 = y.cls)
    (hn : As.length = n) (hc : rc.cells = 0) (hs : rc.slots = 0) (hR : rc.frames + 1 ≤ rm.frames ∧ 8 + (maxL + 11) + rc.locals ≤ rm.locals) (hst : st = As.reverse ++ .ref (w1.h k0) :: rest) (hW : (rest.map fun v => v.category).sum ≤ 8) (hd : decode cc pc = .ok (.invokevirtual ix, 3)) (hq : pc + 3 = q) (kk : Rj X w nL Q q lv (vI r1 :: rest) σ') : Rj X w nL Q pc lv st σ := by
  subst hq; intro H locs ls hP hS hl
  refine va_calli (emb_run E C hM hσ mt hlk hk0 hc0 hcl hcn hn hc hs hR hst hW hd hP hl) hS (fun q' _ h => emb_A E hS.1 q' h) (emb_A E hS.1) (fun r u t H1 locs1 ht _ hr hb _ hkp hS1 => ?_)
  subst hr
  rw [ht] at hb
  exact kk H1 locs1 ls (emb_back E C.i hP hb hσ' ho hkp) hS1 hl
theorem r_eL {y : MethodName} {c0 : ByteArray} {maxL n ix : Nat} {re : Option FieldType} {rc : Room} {As rest : List Value} {k0 ci : Nat} {fs : List Value} {vc : vw_C} {r1 : Int} (E : emb w1 w off) (C : Cx X l w nL cc own Ts ret rm) (hM : CtL l w1 y (wo y c0 maxL re) rc (.ref (w1.h k0) :: As) σ1 (r1, σ2)) (hσ : ∀ k, k < w1.n → σ (k + off) = σ1 k) (hσ' : ∀ k, k < w1.n → σ' (k + off) = σ2 k) (ho : ∀ j, (∀ k, k < w1.n → j ≠ k + off) → σ' j = σ j) (mt : mtV y c0 maxL re n) (hlk : Cond.methodLink own ix y ∈ tb_g) (hk0 : k0 < w1.n) (hc0 : w1.c k0 (σ1 k0) = .inr (ci, fs)) (hcl : w1.cl[ci]? = some vc) (hcn : vc.1 = y.cls)
    (hn : As.length = n) (hc : rc.cells = 0) (hs : rc.slots = 0) (hR : rc.frames + 1 ≤ rm.frames ∧ 8 + (maxL + 11) + rc.locals ≤ rm.locals) (hst : st = As.reverse ++ .ref (w1.h k0) :: rest) (hW : (rest.map fun v => v.category).sum ≤ 8) (hd : decode cc pc = .ok (.invokevirtual ix, 3)) (hq : pc + 3 = q) (kk : Rj X w nL Q q lv (vJ r1 :: rest) σ') : Rj X w nL Q pc lv st σ := by
  subst hq; intro H locs ls hP hS hl
  refine va_calll (emb_run E C hM hσ mt hlk hk0 hc0 hcl hcn hn hc hs hR hst hW hd hP hl) hS (fun q' _ h => emb_A E hS.1 q' h) (emb_A E hS.1) (fun r u t H1 locs1 ht _ hr hb _ hkp hS1 => ?_)
  subst hr
  rw [ht] at hb
  exact kk H1 locs1 ls (emb_back E C.i hP hb hσ' ho hkp) hS1 hl
theorem r_sld (C : Cx X l w nL cc own Ts ret rm) {b L : Nat} {xs : Nat → Int32} (hX : va_X b L xs X.s X.s.heap) (hbl : b < X.s.heap.size) (hbA : ¬ xA w X.s.heap.size b) (hL : L < 2147483648) {i : Int} (hi : inb i L) (hd : decode cc pc = .ok (.iaload, 1)) (hq : pc + 1 = q) (kk : Rj X w nL Q q lv (vI (xs i.toNat).toInt :: st) σ) : Rj X w nL Q pc lv (vI i :: .ref b :: st) σ := by
  subst hq; intro H locs ls hP hS hl
  obtain ⟨e1, e2⟩ := inb_cl hi hL
  refine va_sld C.x C.b hX hbl hbA hS e2 hd ?_
  have h := kk H locs ls hP hS hl
  rw [e1]
  exact Int32.ofInt_toInt (xs i.toNat) ▸ h
theorem r_slen (C : Cx X l w nL cc own Ts ret rm) {b L : Nat} {xs : Nat → Int32} (hX : va_X b L xs X.s X.s.heap) (hbl : b < X.s.heap.size) (hbA : ¬ xA w X.s.heap.size b) (hd : decode cc pc = .ok (.arraylength, 1)) (hq : pc + 1 = q) (kk : Rj X w nL Q q lv (vI L :: st) σ) : Rj X w nL Q pc lv (.ref b :: st) σ := by
  subst hq; intro H locs ls hP hS hl
  refine va_slen C.x C.b hX hbl hbA hS hd ?_
  have e : Int32.ofInt (L : Int) = Int32.ofNat L := Int32.ofInt_eq_ofNat
  exact e ▸ kk H locs ls hP hS hl
end LR
theorem cm_x (σ1 σ2 : St) : ∀ k, k < 41 → cm σ1 σ2 (k + 0) = σ1 k := fun k h => by unfold cm; rw [if_pos (by omega)]; rfl
theorem cm_m (σ1 σ2 : St) : ∀ k, k < 38 → cm σ1 σ2 (k + 41) = σ2 k := fun k h => by unfold cm; rw [if_neg (by omega), Nat.add_sub_cancel]
/-- the second world's numbers beyond its cells are nobody's: they stay -/
def cl38 (σ σ' : St) : St := fun k => if k < 38 then σ' k else σ k
theorem cm_xo (σ1 σ1' σ2 : St) : ∀ j, (∀ k, k < 41 → j ≠ k + 0) → cm σ1' σ2 j = cm σ1 σ2 j := fun j h => by
  unfold cm
  have : ¬ j < 41 := fun hj => h j hj rfl
  rw [if_neg this, if_neg this]
theorem cm_mo (σ1 σ2 σ2' : St) : ∀ j, (∀ k, k < 38 → j ≠ k + 41) → cm σ1 (cl38 σ2 σ2') j = cm σ1 σ2 j := fun j h => by
  unfold cm cl38
  by_cases hj : j < 41
  · rw [if_pos hj, if_pos hj]
  · rw [if_neg hj, if_neg hj, if_neg (fun h2 => h (j - 41) h2 (by omega))]
theorem cm_ml (σ1 σ2 σ2' : St) : ∀ k, k < 38 → cm σ1 (cl38 σ2 σ2') (k + 41) = σ2' k := fun k h => by
  rw [cm_m σ1 _ k h]; unfold cl38; rw [if_pos h]
theorem r_st {X : CxT} {w : WoT} {nL : Nat} {Q : State → Prop} {pc : Nat} {lv : List (Nat × Value)} {st : List Value} {σ σ' : St} (h : ∀ k, k < w.n → σ k = σ' k) (k : Rj X w nL Q pc lv st σ') : Rj X w nL Q pc lv st σ := by
  have e : wd w σ = wd w σ' := by
    unfold wd
    exact List.map_congr_left fun j hj => by rw [h j (List.mem_range.mp hj)]
  intro H locs ls hP hS hl
  rw [e] at hP
  exact k H locs ls hP hS hl
theorem cm_cl (σ1 σ2 σ2' : St) : ∀ k, k < 79 → cm σ1 (cl38 σ2 σ2') k = cm σ1 σ2' k := fun k h => by
  unfold cm cl38
  by_cases hk : k < 41
  · rw [if_pos hk, if_pos hk]
  · rw [if_neg hk, if_neg hk, if_pos (by omega)]
/-- both answer alike, and stay related -/
def OKp (RR : St → St → Prop) (fx fm : MM) : Prop := ∃ r σx σm, fx = some (r, σx) ∧ fm = some (r, σm) ∧ RR σx σm
abbrev i32 (x : Int) : Prop := -2147483648 ≤ x ∧ x < 2147483648
def Sim (N : Nat) (RR : St → St → Prop) : Prop := ∀ σx σm, RR σx σm →
  (∀ a0 : Int, i32 a0 → OKp RR (x_pass N a0 σx) (m_pass N a0 σm)) ∧
  (∀ a0 : Int, i32 a0 → ∀ a1 : Int, i32 a1 → ∀ a2 : Int, i32 a2 → ∀ a3 : Int, i32 a3 → ∀ a4 : Int, i32 a4 → ∀ a5 : Int, i32 a5 → ∀ a6 : Int, i32 a6 → OKp RR (x_row N a0 a1 a2 a3 a4 a5 a6 σx) (m_row N a0 a1 a2 a3 a4 a5 a6 σm)) ∧
  (∀ a0 : Int, i32 a0 → OKp RR (x_takeBack N a0 σx) (m_takeBack N a0 σm)) ∧
  (∀ a0 : Int, i32 a0 → ∀ a1 : Int, i32 a1 → OKp RR (x_about N a0 a1 σx) (m_about N a0 a1 σm)) ∧
  (∀ a0 : Int, i32 a0 → ∀ a1 : Int, i32 a1 → OKp RR (x_letter N a0 a1 σx) (m_letter N a0 a1 σm)) ∧
  (∀ a0 : Int, i32 a0 → OKp RR (x_asOf N a0 σx) (m_asOf N a0 σm)) ∧
  (∀ a0 : Int, i32 a0 → ∀ a1 : Int, i32 a1 → ∀ a2 : Int, i32 a2 → OKp RR (x_way N a0 a1 a2 σx) (m_way N a0 a1 a2 σm)) ∧
  (∀ a0 : Int, i32 a0 → OKp RR (x_type N a0 σx) (m_type N a0 σm)) ∧
  (OKp RR (x_wipe N σx) (m_wipe N σm)) ∧
  (OKp RR (x_fault N σx) (m_fault N σm)) ∧
  (∀ a0 : Int, i32 a0 → ∀ a1 : Int, i32 a1 → OKp RR (x_sound N a0 a1 σx) (m_sound N a0 a1 σm)) ∧
  (∀ a0 : Int, i32 a0 → ∀ a1 : Int, i32 a1 → OKp RR (x_slips N a0 a1 σx) (m_slips N a0 a1 σm)) ∧
  (∀ a0 : Int, i32 a0 → ∀ a1 : Int, i32 a1 → ∀ a2 : Int, i32 a2 → OKp RR (x_level N a0 a1 a2 σx) (m_level N a0 a1 a2 σm)) ∧
  (∀ a0 : Int, i32 a0 → ∀ a1 : Int, i32 a1 → ∀ a2 : Int, i32 a2 → OKp RR (x_points N a0 a1 a2 σx) (m_points N a0 a1 a2 σm)) ∧
  (∀ a0 : Int, i32 a0 → ∀ a1 : Int, i32 a1 → OKp RR (x_score N a0 a1 σx) (m_score N a0 a1 σm)) ∧
  (∀ a0 : Int, bit1 a0 → ∀ a1 : Int, i32 a1 → ∀ a2 : Int, i32 a2 → ∀ a3 : Int, i32 a3 → OKp RR (x_chance N a0 a1 a2 a3 σx) (m_chance N a0 a1 a2 a3 σm)) ∧
  (∀ a0 : Int, i32 a0 → ∀ a1 : Int, i32 a1 → ∀ a2 : Int, i32 a2 → OKp RR (x_odds N a0 a1 a2 σx) (m_odds N a0 a1 a2 σm)) ∧
  (∀ a0 : Int, i32 a0 → ∀ a1 : Int, i32 a1 → ∀ a2 : Int, i32 a2 → ∀ a3 : Int, i32 a3 → OKp RR (x_belief N a0 a1 a2 a3 σx) (m_belief N a0 a1 a2 a3 σm)) ∧
  (∀ a0 : Int, i32 a0 → OKp RR (x_line N a0 σx) (m_line N a0 σm)) ∧
  (OKp RR (x_links N σx) (m_links N σm)) ∧
  (∀ a0 : Int, i32 a0 → ∀ a1 : Int, i32 a1 → ∀ a2 : Int, i32 a2 → OKp RR (x_laid N a0 a1 a2 σx) (m_laid N a0 a1 a2 σm)) ∧
  (∀ a0 : Int, i32 a0 → ∀ a1 : Int, i32 a1 → OKp RR (x_mate N a0 a1 σx) (m_mate N a0 a1 σm)) ∧
  (∀ a0 : Int, i32 a0 → OKp RR (x_bundle N a0 σx) (m_bundle N a0 σm)) ∧
  (∀ a0 : Int, i32 a0 → OKp RR (x_bundles N a0 σx) (m_bundles N a0 σm)) ∧
  (∀ a0 : Int, i32 a0 → OKp RR (x_torn N a0 σx) (m_torn N a0 σm)) ∧
  (∀ a0 : Int, i32 a0 → ∀ a1 : Int, i32 a1 → OKp RR (x_cut N a0 a1 σx) (m_cut N a0 a1 σm)) ∧
  (∀ a0 : Int, i32 a0 → ∀ a1 : Int, i32 a1 → ∀ a2 : Int, bit1 a2 → OKp RR (x_check N a0 a1 a2 σx) (m_check N a0 a1 a2 σm)) ∧
  (∀ a0 : Int, i32 a0 → OKp RR (x_checked N a0 σx) (m_checked N a0 σm)) ∧
  (∀ a0 : Int, i32 a0 → OKp RR (x_bound N a0 σx) (m_bound N a0 σm)) ∧
  (∀ a0 : Int, bit1 a0 → ∀ a1 : Int, i32 a1 → ∀ a2 : Int, i32 a2 → OKp RR (x_learnt N a0 a1 a2 σx) (m_learnt N a0 a1 a2 σm)) ∧
  (∀ a0 : Int, i32 a0 → ∀ a1 : Int, i32 a1 → ∀ a2 : Int, i32 a2 → OKp RR (x_meet N a0 a1 a2 σx) (m_meet N a0 a1 a2 σm)) ∧
  (∀ a0 : Int, i32 a0 → OKp RR (x_pairs N a0 σx) (m_pairs N a0 σm)) ∧
  (OKp RR (x_keys N σx) (m_keys N σm)) ∧
  (∀ a0 : Int, i32 a0 → ∀ a1 : Int, i32 a1 → ∀ a2 : Int, i32 a2 → OKp RR (x_sheet N a0 a1 a2 σx) (m_sheet N a0 a1 a2 σm)) ∧
  (∀ a0 : Int, i32 a0 → OKp RR (x_lose N a0 σx) (m_lose N a0 σm)) ∧
  (∀ a0 : Int, i32 a0 → ∀ a1 : Int, i32 a1 → ∀ a2 : Int, i32 a2 → ∀ a3 : Int, i32 a3 → OKp RR (x_put N a0 a1 a2 a3 σx) (m_put N a0 a1 a2 a3 σm)) ∧
  (∀ a0 : Int, i32 a0 → ∀ a1 : Int, i32 a1 → ∀ a2 : Int, i32 a2 → OKp RR (x_get N a0 a1 a2 σx) (m_get N a0 a1 a2 σm)) ∧
  (∀ a0 : Int, i32 a0 → ∀ a1 : Int, i32 a1 → ∀ a2 : Int, i32 a2 → ∀ a3 : Int, i32 a3 → ∀ a4 : Int, i32 a4 → OKp RR (x_copy N a0 a1 a2 a3 a4 σx) (m_copy N a0 a1 a2 a3 a4 σm)) ∧
  (∀ a0 : Int, i32 a0 → ∀ a1 : Int, i32 a1 → OKp RR (x_write N a0 a1 σx) (m_write N a0 a1 σm)) ∧
  (∀ a0 : Int, i32 a0 → OKp RR (x_count N a0 σx) (m_count N a0 σm)) ∧
  (OKp RR (x_digest N σx) (m_digest N σm))
theorem sc_r (x : Int32) : i32 x.toInt := ⟨by have := x.le_toInt; omega, by have := x.toInt_lt; omega⟩
