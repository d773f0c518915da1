section RB
variable {X : CxT} {l : Launch} {w : WoT} {nL : Nat} {cc : ByteArray} {own : String} {Ts : List Cond} {ret : Option FieldType} {rm : Room} {Q : State → Prop} {pc q : Nat} {lv lv' : List (Nat × Value)} {st : List Value} {σ : St}
theorem z32 : (0 : Int32) = Int32.ofInt 0 := rfl
theorem r_if_eq (C : Cx X l w nL cc own Ts ret rm) {x off : Int} {t : Nat} (hd : decode cc pc = .ok (.ifCond .eq off, 3)) (ht : (pc : Int) + off = (t : Int)) (hq : pc + 3 = q) (kt : eq32 x 0 → Rj X w nL Q t lv st σ) (kf : ¬ eq32 x 0 → Rj X w nL Q q lv st σ) : Rj X w nL Q pc lv (vI x :: st) σ := by
  subst hq; exact fun H locs ls hP hS hl => lv_if_eq C.x C.b hd ht (fun c => kt c H locs ls hP hS hl) (fun c => kf c H locs ls hP hS hl)
theorem r_if_lt (C : Cx X l w nL cc own Ts ret rm) {x off : Int} {t : Nat} (hd : decode cc pc = .ok (.ifCond .lt off, 3)) (ht : (pc : Int) + off = (t : Int)) (hq : pc + 3 = q) (kt : lt32 x 0 → Rj X w nL Q t lv st σ) (kf : ¬ lt32 x 0 → Rj X w nL Q q lv st σ) : Rj X w nL Q pc lv (vI x :: st) σ := by
  subst hq; exact fun H locs ls hP hS hl => lv_if_lt C.x C.b hd ht (fun c => kt c H locs ls hP hS hl) (fun c => kf c H locs ls hP hS hl)
theorem r_if_ge (C : Cx X l w nL cc own Ts ret rm) {x off : Int} {t : Nat} (hd : decode cc pc = .ok (.ifCond .ge off, 3)) (ht : (pc : Int) + off = (t : Int)) (hq : pc + 3 = q) (kt : le32 0 x → Rj X w nL Q t lv st σ) (kf : ¬ le32 0 x → Rj X w nL Q q lv st σ) : Rj X w nL Q pc lv (vI x :: st) σ := by
  subst hq; exact fun H locs ls hP hS hl => lv_if_ge C.x C.b hd ht (fun c => kt c H locs ls hP hS hl) (fun c => kf c H locs ls hP hS hl)
theorem r_if_gt (C : Cx X l w nL cc own Ts ret rm) {x off : Int} {t : Nat} (hd : decode cc pc = .ok (.ifCond .gt off, 3)) (ht : (pc : Int) + off = (t : Int)) (hq : pc + 3 = q) (kt : lt32 0 x → Rj X w nL Q t lv st σ) (kf : ¬ lt32 0 x → Rj X w nL Q q lv st σ) : Rj X w nL Q pc lv (vI x :: st) σ := by
  subst hq; exact fun H locs ls hP hS hl => lv_if_gt C.x C.b hd ht (fun c => kt c H locs ls hP hS hl) (fun c => kf c H locs ls hP hS hl)
theorem r_if_le (C : Cx X l w nL cc own Ts ret rm) {x off : Int} {t : Nat} (hd : decode cc pc = .ok (.ifCond .le off, 3)) (ht : (pc : Int) + off = (t : Int)) (hq : pc + 3 = q) (kt : le32 x 0 → Rj X w nL Q t lv st σ) (kf : ¬ le32 x 0 → Rj X w nL Q q lv st σ) : Rj X w nL Q pc lv (vI x :: st) σ := by
  subst hq; exact fun H locs ls hP hS hl => lv_if_le C.x C.b hd ht (fun c => kt c H locs ls hP hS hl) (fun c => kf c H locs ls hP hS hl)
theorem r_if_ne (C : Cx X l w nL cc own Ts ret rm) {x off : Int} {t : Nat} (hd : decode cc pc = .ok (.ifCond .ne off, 3)) (ht : (pc : Int) + off = (t : Int)) (hq : pc + 3 = q) (kf : eq32 x 0 → Rj X w nL Q q lv st σ) (kt : ¬ eq32 x 0 → Rj X w nL Q t lv st σ) : Rj X w nL Q pc lv (vI x :: st) σ := by
  subst hq; exact fun H locs ls hP hS hl => lv_if_ne C.x C.b hd ht (fun c => kt c H locs ls hP hS hl) (fun c => kf c H locs ls hP hS hl)
theorem r_ic_eq (C : Cx X l w nL cc own Ts ret rm) {x y off : Int} {t : Nat} (hd : decode cc pc = .ok (.if_icmp .eq off, 3)) (ht : (pc : Int) + off = (t : Int)) (hq : pc + 3 = q) (kt : eq32 x y → Rj X w nL Q t lv st σ) (kf : ¬ eq32 x y → Rj X w nL Q q lv st σ) : Rj X w nL Q pc lv (vI y :: vI x :: st) σ := by
  subst hq; exact fun H locs ls hP hS hl => lv_icmp_eq C.x C.b hd ht (fun c => kt c H locs ls hP hS hl) (fun c => kf c H locs ls hP hS hl)
theorem r_ic_lt (C : Cx X l w nL cc own Ts ret rm) {x y off : Int} {t : Nat} (hd : decode cc pc = .ok (.if_icmp .lt off, 3)) (ht : (pc : Int) + off = (t : Int)) (hq : pc + 3 = q) (kt : lt32 x y → Rj X w nL Q t lv st σ) (kf : ¬ lt32 x y → Rj X w nL Q q lv st σ) : Rj X w nL Q pc lv (vI y :: vI x :: st) σ := by
  subst hq; exact fun H locs ls hP hS hl => lv_icmp_lt C.x C.b hd ht (fun c => kt c H locs ls hP hS hl) (fun c => kf c H locs ls hP hS hl)
theorem r_ic_ge (C : Cx X l w nL cc own Ts ret rm) {x y off : Int} {t : Nat} (hd : decode cc pc = .ok (.if_icmp .ge off, 3)) (ht : (pc : Int) + off = (t : Int)) (hq : pc + 3 = q) (kt : le32 y x → Rj X w nL Q t lv st σ) (kf : ¬ le32 y x → Rj X w nL Q q lv st σ) : Rj X w nL Q pc lv (vI y :: vI x :: st) σ := by
  subst hq; exact fun H locs ls hP hS hl => lv_icmp_ge C.x C.b hd ht (fun c => kt c H locs ls hP hS hl) (fun c => kf c H locs ls hP hS hl)
theorem r_ic_gt (C : Cx X l w nL cc own Ts ret rm) {x y off : Int} {t : Nat} (hd : decode cc pc = .ok (.if_icmp .gt off, 3)) (ht : (pc : Int) + off = (t : Int)) (hq : pc + 3 = q) (kt : lt32 y x → Rj X w nL Q t lv st σ) (kf : ¬ lt32 y x → Rj X w nL Q q lv st σ) : Rj X w nL Q pc lv (vI y :: vI x :: st) σ := by
  subst hq; exact fun H locs ls hP hS hl => lv_icmp_gt C.x C.b hd ht (fun c => kt c H locs ls hP hS hl) (fun c => kf c H locs ls hP hS hl)
theorem r_ic_le (C : Cx X l w nL cc own Ts ret rm) {x y off : Int} {t : Nat} (hd : decode cc pc = .ok (.if_icmp .le off, 3)) (ht : (pc : Int) + off = (t : Int)) (hq : pc + 3 = q) (kt : le32 x y → Rj X w nL Q t lv st σ) (kf : ¬ le32 x y → Rj X w nL Q q lv st σ) : Rj X w nL Q pc lv (vI y :: vI x :: st) σ := by
  subst hq; exact fun H locs ls hP hS hl => lv_icmp_le C.x C.b hd ht (fun c => kt c H locs ls hP hS hl) (fun c => kf c H locs ls hP hS hl)
theorem r_ic_ne (C : Cx X l w nL cc own Ts ret rm) {x y off : Int} {t : Nat} (hd : decode cc pc = .ok (.if_icmp .ne off, 3)) (ht : (pc : Int) + off = (t : Int)) (hq : pc + 3 = q) (kf : eq32 x y → Rj X w nL Q q lv st σ) (kt : ¬ eq32 x y → Rj X w nL Q t lv st σ) : Rj X w nL Q pc lv (vI y :: vI x :: st) σ := by
  subst hq; exact fun H locs ls hP hS hl => lv_icmp_ne C.x C.b hd ht (fun c => kt c H locs ls hP hS hl) (fun c => kf c H locs ls hP hS hl)
theorem r_lc_eq (C : Cx X l w nL cc own Ts ret rm) {x y off : Int} {t q2 : Nat} (hd : decode cc pc = .ok (.lcmp, 1)) (hq : pc + 1 = q) (hd2 : decode cc q = .ok (.ifCond .eq off, 3)) (ht : (q : Int) + off = (t : Int)) (hq2 : q + 3 = q2) (kt : eq64 x y → Rj X w nL Q t lv st σ) (kf : ¬ eq64 x y → Rj X w nL Q q2 lv st σ) : Rj X w nL Q pc lv (vJ y :: vJ x :: st) σ := by
  subst hq; subst hq2; exact fun H locs ls hP hS hl => W.lcmp C.x C.b hd (lv_if_eq C.x C.b hd2 ht (fun c => kt ((lg_cmp_eq _ _).mp c) H locs ls hP hS hl) (fun c => kf (fun h => c ((lg_cmp_eq _ _).mpr h)) H locs ls hP hS hl))
theorem r_lc_lt (C : Cx X l w nL cc own Ts ret rm) {x y off : Int} {t q2 : Nat} (hd : decode cc pc = .ok (.lcmp, 1)) (hq : pc + 1 = q) (hd2 : decode cc q = .ok (.ifCond .lt off, 3)) (ht : (q : Int) + off = (t : Int)) (hq2 : q + 3 = q2) (kt : lt64 x y → Rj X w nL Q t lv st σ) (kf : ¬ lt64 x y → Rj X w nL Q q2 lv st σ) : Rj X w nL Q pc lv (vJ y :: vJ x :: st) σ := by
  subst hq; subst hq2; exact fun H locs ls hP hS hl => W.lcmp C.x C.b hd (lv_if_lt C.x C.b hd2 ht (fun c => kt ((lg_cmp_lt _ _).mp c) H locs ls hP hS hl) (fun c => kf (fun h => c ((lg_cmp_lt _ _).mpr h)) H locs ls hP hS hl))
theorem r_lc_ge (C : Cx X l w nL cc own Ts ret rm) {x y off : Int} {t q2 : Nat} (hd : decode cc pc = .ok (.lcmp, 1)) (hq : pc + 1 = q) (hd2 : decode cc q = .ok (.ifCond .ge off, 3)) (ht : (q : Int) + off = (t : Int)) (hq2 : q + 3 = q2) (kt : le64 y x → Rj X w nL Q t lv st σ) (kf : ¬ le64 y x → Rj X w nL Q q2 lv st σ) : Rj X w nL Q pc lv (vJ y :: vJ x :: st) σ := by
  subst hq; subst hq2; exact fun H locs ls hP hS hl => W.lcmp C.x C.b hd (lv_if_ge C.x C.b hd2 ht (fun c => kt ((lg_cmp_ge _ _).mp c) H locs ls hP hS hl) (fun c => kf (fun h => c ((lg_cmp_ge _ _).mpr h)) H locs ls hP hS hl))
theorem r_lc_gt (C : Cx X l w nL cc own Ts ret rm) {x y off : Int} {t q2 : Nat} (hd : decode cc pc = .ok (.lcmp, 1)) (hq : pc + 1 = q) (hd2 : decode cc q = .ok (.ifCond .gt off, 3)) (ht : (q : Int) + off = (t : Int)) (hq2 : q + 3 = q2) (kt : lt64 y x → Rj X w nL Q t lv st σ) (kf : ¬ lt64 y x → Rj X w nL Q q2 lv st σ) : Rj X w nL Q pc lv (vJ y :: vJ x :: st) σ := by
  subst hq; subst hq2; exact fun H locs ls hP hS hl => W.lcmp C.x C.b hd (lv_if_gt C.x C.b hd2 ht (fun c => kt ((lg_cmp_gt _ _).mp c) H locs ls hP hS hl) (fun c => kf (fun h => c ((lg_cmp_gt _ _).mpr h)) H locs ls hP hS hl))
theorem r_lc_le (C : Cx X l w nL cc own Ts ret rm) {x y off : Int} {t q2 : Nat} (hd : decode cc pc = .ok (.lcmp, 1)) (hq : pc + 1 = q) (hd2 : decode cc q = .ok (.ifCond .le off, 3)) (ht : (q : Int) + off = (t : Int)) (hq2 : q + 3 = q2) (kt : le64 x y → Rj X w nL Q t lv st σ) (kf : ¬ le64 x y → Rj X w nL Q q2 lv st σ) : Rj X w nL Q pc lv (vJ y :: vJ x :: st) σ := by
  subst hq; subst hq2; exact fun H locs ls hP hS hl => W.lcmp C.x C.b hd (lv_if_le C.x C.b hd2 ht (fun c => kt ((lg_cmp_le _ _).mp c) H locs ls hP hS hl) (fun c => kf (fun h => c ((lg_cmp_le _ _).mpr h)) H locs ls hP hS hl))
theorem r_lc_ne (C : Cx X l w nL cc own Ts ret rm) {x y off : Int} {t q2 : Nat} (hd : decode cc pc = .ok (.lcmp, 1)) (hq : pc + 1 = q) (hd2 : decode cc q = .ok (.ifCond .ne off, 3)) (ht : (q : Int) + off = (t : Int)) (hq2 : q + 3 = q2) (kf : eq64 x y → Rj X w nL Q q2 lv st σ) (kt : ¬ eq64 x y → Rj X w nL Q t lv st σ) : Rj X w nL Q pc lv (vJ y :: vJ x :: st) σ := by
  subst hq; subst hq2; exact fun H locs ls hP hS hl => W.lcmp C.x C.b hd (lv_if_ne C.x C.b hd2 ht (fun c => kt (fun h => c ((lg_cmp_eq _ _).mpr h)) H locs ls hP hS hl) (fun c => kf ((lg_cmp_eq _ _).mp c) H locs ls hP hS hl))
theorem r_tabOut (C : Cx X l w nL cc own Ts ret rm) {dflt lo hi x : Int} {offs : Array Int} {len t : Nat} (hd : decode cc pc = .ok (.tableswitch dflt lo hi offs, len)) (h : s32 x < lo ∨ hi < s32 x) (ht : (pc : Int) + dflt = (t : Int)) (k : Rj X w nL Q t lv st σ) : Rj X w nL Q pc lv (vI x :: st) σ := fun H locs ls hP hS hl => lv_tableOut C.x C.b hd h ht (k H locs ls hP hS hl)
theorem r_tabIn (C : Cx X l w nL cc own Ts ret rm) {dflt lo hi x y off : Int} {offs : Array Int} {len t : Nat} (hd : decode cc pc = .ok (.tableswitch dflt lo hi offs, len)) (hx : s32 x = y) (h1 : ¬ y < lo) (h2 : ¬ hi < y) (ho : offs[(y - lo).toNat]? = some off) (ht : (pc : Int) + off = (t : Int)) (k : Rj X w nL Q t lv st σ) : Rj X w nL Q pc lv (vI x :: st) σ := by
  subst hx; exact fun H locs ls hP hS hl => lv_tableIn C.x C.b hd h1 h2 ho ht (k H locs ls hP hS hl)
theorem wd_o {w : WoT} (σ : St) {k : Nat} (hk : k < w.n) {e : va_E} (hc : w.c k (σ k) = e) : (wd w σ)[k]? = some (w.h k, e) := by rw [← hc]; exact wd_get w σ hk
theorem r_get (C : Cx X l w nL cc own Ts ret rm) (k0 : Nat) (hk0 : k0 < w.n) {ci : Nat} {fs : List Value} (hc : w.c k0 (σ k0) = .inr (ci, fs)) {CN : String} {T : u_T} {N : Nat} (hcl : w.cl[ci]? = some (CN, T, N)) (hin : ∀ w' ∈ u_ws CN T N, w' ∈ tb_g) (k : Nat) (hk : k < N) {ix : Nat} (hlk : Cond.fieldLink own ix (T k).1 (T k).2.1 (T k).2.2.1 ∈ tb_g) {v : Value} (hv : fs[k]? = some v) (hd : decode cc pc = .ok (.getfield ix, 3)) (hq : pc + 3 = q) (kk : Rj X w nL Q q lv (v :: st) σ) : Rj X w nL Q pc lv (.ref (w.h k0) :: st) σ := by
  subst hq; exact fun H locs ls hP hS hl => va_get C.x C.b C.ts (fun w' h => C.tb w' (hin w' h)) C.ow C.K hP k0 (wd_o σ hk0 hc) hcl k hk (C.t hlk) (fun _ h9 => h9) hv hd (kk H locs ls hP hS hl)
theorem r_getN (C : Cx X l w nL cc own Ts ret rm) (k0 : Nat) (hk0 : k0 < w.n) {ci : Nat} {fs : List Value} (hc : w.c k0 (σ k0) = .inr (ci, fs)) {CN : String} {T : u_T} {N : Nat} (hcl : w.cl[ci]? = some (CN, T, N)) (hin : ∀ w' ∈ u_ws CN T N, w' ∈ tb_g) (k : Nat) (hk : k < N) {ix : Nat} {host : String} (hlk : (own, ix, (T k).1, (T k).2.1, (T k).2.2.1, host) ∈ nw_f) {v : Value} (hv : fs[k]? = some v) (hd : decode cc pc = .ok (.getfield ix, 3)) (hq : pc + 3 = q) (kk : Rj X w nL Q q lv (v :: st) σ) : Rj X w nL Q pc lv (.ref (w.h k0) :: st) σ := by
  subst hq; exact fun H locs ls hP hS hl => va_getN C.x C.b C.ts (fun w' h => C.tb w' (hin w' h)) C.ow C.K hP k0 (wd_o σ hk0 hc) hcl k hk (va_Nw.use rfl (C.nw.1 _ hlk)) (fun _ h9 => h9) hv hd (kk H locs ls hP hS hl)
theorem r_put (C : Cx X l w nL cc own Ts ret rm) (σ' : St) (k0 : Nat) (hk0 : k0 < w.n) {ci : Nat} {fs : List Value} (hc : w.c k0 (σ k0) = .inr (ci, fs)) {CN : String} {T : u_T} {N : Nat} (hcl : w.cl[ci]? = some (CN, T, N)) (hin : ∀ w' ∈ u_ws CN T N, w' ∈ tb_g) (ty0 : Nat → FieldType) (hty : ∀ k, k < N → parseFieldDescriptor (T k).2.2.1 = some (ty0 k)) (hnm : ∀ a, a < N → ∀ b, b < N → a ≠ b → (T a).2.1 ≠ (T b).2.1) (k : Nat) (hk : k < N) {ix : Nat} (hlk : Cond.fieldLink own ix (T k).1 (T k).2.1 (T k).2.2.1 ∈ tb_g) (hfin : (T k).2.2.2 = false) {v : Value} (hn : narrow (ty0 k) v = v) (hfit : fits (ty0 k) v = true) (hl9 : k < fs.length) (hs : w.c k0 (σ' k0) = .inr (ci, fs.set k v)) (ho : ∀ j, j ≠ k0 → σ' j = σ j) (hd : decode cc pc = .ok (.putfield ix, 3)) (hq : pc + 3 = q) (kk : Rj X w nL Q q lv st σ') : Rj X w nL Q pc lv (v :: .ref (w.h k0) :: st) σ := by
  subst hq; exact fun H locs ls hP hS hl => va_put C.x C.b C.ts (fun w' h => C.tb w' (hin w' h)) ty0 hty hnm C.ow C.K hP (C.D σ) hS k0 (wd_o σ hk0 hc) hcl k hk (C.t hlk) (fun _ h9 => h9) hfin (hty k hk) hn hfit hl9 hd (fun H1 locs1 hP1 _ hS1 => kk H1 locs1 ls (by rw [wd_set w σ σ' k0 _ hs ho] at hP1; exact hP1) hS1 hl)
theorem r_putN (C : Cx X l w nL cc own Ts ret rm) (σ' : St) (k0 : Nat) (hk0 : k0 < w.n) {ci : Nat} {fs : List Value} (hc : w.c k0 (σ k0) = .inr (ci, fs)) {CN : String} {T : u_T} {N : Nat} (hcl : w.cl[ci]? = some (CN, T, N)) (hin : ∀ w' ∈ u_ws CN T N, w' ∈ tb_g) (ty0 : Nat → FieldType) (hty : ∀ k, k < N → parseFieldDescriptor (T k).2.2.1 = some (ty0 k)) (hnm : ∀ a, a < N → ∀ b, b < N → a ≠ b → (T a).2.1 ≠ (T b).2.1) (k : Nat) (hk : k < N) {ix : Nat} {host : String} (hlk : (own, ix, (T k).1, (T k).2.1, (T k).2.2.1, host) ∈ nw_f) (hfin : (T k).2.2.2 = false) {v : Value} (hn : narrow (ty0 k) v = v) (hfit : fits (ty0 k) v = true) (hl9 : k < fs.length) (hs : w.c k0 (σ' k0) = .inr (ci, fs.set k v)) (ho : ∀ j, j ≠ k0 → σ' j = σ j) (hd : decode cc pc = .ok (.putfield ix, 3)) (hq : pc + 3 = q) (kk : Rj X w nL Q q lv st σ') : Rj X w nL Q pc lv (v :: .ref (w.h k0) :: st) σ := by
  subst hq; exact fun H locs ls hP hS hl => va_putN C.x C.b C.ts (fun w' h => C.tb w' (hin w' h)) ty0 hty hnm C.ow C.K hP (C.D σ) hS k0 (wd_o σ hk0 hc) hcl k hk (va_Nw.use rfl (C.nw.1 _ hlk)) (fun _ h9 => h9) hfin (hty k hk) hn hfit hl9 hd (fun H1 locs1 hP1 _ hS1 => kk H1 locs1 ls (by rw [wd_set w σ σ' k0 _ hs ho] at hP1; exact hP1) hS1 hl)
abbrev inb (i n : Int) : Prop := 0 ≤ i ∧ i < n
theorem inb_cl {i : Int} {n : Nat} (h : inb i n) (hn : n < 2147483648) : (Int32.ofInt i).toNatClampNeg = i.toNat ∧ vp_in (Int32.ofInt i) n := by
  obtain ⟨h0, h1⟩ := h
  obtain ⟨j, rfl⟩ := Int.eq_ofNat_of_zero_le h0
  have hj : j < n := by omega
  have e : Int32.ofInt (j : Int) = nI j := Int32.ofInt_eq_ofNat
  rw [e]
  exact ⟨by rw [nI_clamp (by omega)]; simp, vp_in_nI hj (by omega)⟩
theorem su_o (σ : St) (k : Nat) (i v : Int) : ∀ j, j ≠ k → su σ k i v j = σ j := fun j h => by unfold su; rw [if_neg h]
theorem su_s (σ : St) (k : Nat) (i v : Int) : su σ k i v k = fun j => if j = i then v else σ k j := by unfold su; rw [if_pos rfl]
theorem su_I (σ : St) (k : Nat) (i v : Int) (h : 0 ≤ i) : (fun j : Nat => Int32.ofInt (su σ k i v k j)) = upd (fun j : Nat => Int32.ofInt (σ k j)) i.toNat (Int32.ofInt v) := by
  funext j
  rw [su_s]
  unfold upd
  show Int32.ofInt (if ((j : Nat) : Int) = i then v else σ k j) = if j = i.toNat then Int32.ofInt v else Int32.ofInt (σ k j)
  by_cases e : j = i.toNat
  · rw [if_pos e, if_pos (by omega)]
  · rw [if_neg e, if_neg (by omega)]
theorem su_J (σ : St) (k : Nat) (i v : Int) (h : 0 ≤ i) : (fun j : Nat => Int64.ofInt (su σ k i v k j)) = vp_updL (fun j : Nat => Int64.ofInt (σ k j)) i.toNat (Int64.ofInt v) := by
  funext j
  rw [su_s]
  unfold vp_updL
  show Int64.ofInt (if ((j : Nat) : Int) = i then v else σ k j) = if j = i.toNat then Int64.ofInt v else Int64.ofInt (σ k j)
  by_cases e : j = i.toNat
  · rw [if_pos e, if_pos (by omega)]
  · rw [if_neg e, if_neg (by omega)]

theorem r_iald (C : Cx X l w nL cc own Ts ret rm) (k0 : Nat) (hk0 : k0 < w.n) {cA : ClassId} {n : Nat} (hc : ∀ f, w.c k0 f = .inl (cA, n, .inl (fun j : Nat => Int32.ofInt (f j)))) (t0 : Nat) (ht : w.tys[t0]? = some (cA, .int)) {i : Int} (hi : inb i n) (hn : n < 2147483648) (hd : decode cc pc = .ok (.iaload, 1)) (hq : pc + 1 = q) (kk : Rj X w nL Q q lv (vI (σ k0 i) :: st) σ) : Rj X w nL Q pc lv (vI i :: .ref (w.h k0) :: st) σ := by
  subst hq; intro H locs ls hP hS hl
  obtain ⟨e1, e2⟩ := inb_cl hi hn
  refine va_iald C.x C.b C.K hP k0 t0 (wd_o σ hk0 (hc _)) ht e2 hd ?_
  have e3 : ((i.toNat : Nat) : Int) = i := Int.toNat_of_nonneg hi.1
  rw [e1, e3]
  exact kk H locs ls hP hS hl
theorem r_zald (C : Cx X l w nL cc own Ts ret rm) (k0 : Nat) (hk0 : k0 < w.n) {cA : ClassId} {n : Nat} (hc : ∀ f, w.c k0 f = .inl (cA, n, .inl (fun j : Nat => Int32.ofInt (f j)))) (t0 : Nat) (ht : w.tys[t0]? = some (cA, .boolean)) {i : Int} (hi : inb i n) (hn : n < 2147483648) (hd : decode cc pc = .ok (.baload, 1)) (hq : pc + 1 = q) (kk : Rj X w nL Q q lv (vI (σ k0 i) :: st) σ) : Rj X w nL Q pc lv (vI i :: .ref (w.h k0) :: st) σ := by
  subst hq; intro H locs ls hP hS hl
  obtain ⟨e1, e2⟩ := inb_cl hi hn
  refine va_zald C.x C.b C.K hP k0 t0 (wd_o σ hk0 (hc _)) ht e2 hd ?_
  have e3 : ((i.toNat : Nat) : Int) = i := Int.toNat_of_nonneg hi.1
  rw [e1, e3]
  exact kk H locs ls hP hS hl
theorem r_lald (C : Cx X l w nL cc own Ts ret rm) (k0 : Nat) (hk0 : k0 < w.n) {cA : ClassId} {n : Nat} (hc : ∀ f, w.c k0 f = .inl (cA, n, .inr (.inl (fun j : Nat => Int64.ofInt (f j))))) (t0 : Nat) (ht : w.tys[t0]? = some (cA, .long)) {i : Int} (hi : inb i n) (hn : n < 2147483648) (hd : decode cc pc = .ok (.laload, 1)) (hq : pc + 1 = q) (kk : Rj X w nL Q q lv (vJ (σ k0 i) :: st) σ) : Rj X w nL Q pc lv (vI i :: .ref (w.h k0) :: st) σ := by
  subst hq; intro H locs ls hP hS hl
  obtain ⟨e1, e2⟩ := inb_cl hi hn
  refine va_lald C.x C.b C.K hP k0 t0 (wd_o σ hk0 (hc _)) ht e2 hd ?_
  have e3 : ((i.toNat : Nat) : Int) = i := Int.toNat_of_nonneg hi.1
  rw [e1, e3]
  exact kk H locs ls hP hS hl
theorem r_iast (C : Cx X l w nL cc own Ts ret rm) (k0 : Nat) (hk0 : k0 < w.n) {cA : ClassId} {n : Nat} (hc : ∀ f, w.c k0 f = .inl (cA, n, .inl (fun j : Nat => Int32.ofInt (f j)))) (t0 : Nat) (ht : w.tys[t0]? = some (cA, .int)) {i x : Int} (hi : inb i n) (hn : n < 2147483648) (hd : decode cc pc = .ok (.iastore, 1)) (hq : pc + 1 = q) (kk : Rj X w nL Q q lv st (su σ k0 i x)) : Rj X w nL Q pc lv (vI x :: vI i :: .ref (w.h k0) :: st) σ := by
  subst hq; intro H locs ls hP hS hl
  obtain ⟨e1, e2⟩ := inb_cl hi hn
  refine va_iast C.x C.b C.K hP (C.D σ) hS k0 t0 (wd_o σ hk0 (hc _)) ht e2 hd (fun H1 locs1 hP1 _ hS1 => ?_)
  rw [e1, wd_set w σ (su σ k0 i x) k0 _ (by rw [hc, su_I σ k0 i x hi.1]) (su_o σ k0 i x)] at hP1
  exact kk H1 locs1 ls hP1 hS1 hl
theorem r_last (C : Cx X l w nL cc own Ts ret rm) (k0 : Nat) (hk0 : k0 < w.n) {cA : ClassId} {n : Nat} (hc : ∀ f, w.c k0 f = .inl (cA, n, .inr (.inl (fun j : Nat => Int64.ofInt (f j))))) (t0 : Nat) (ht : w.tys[t0]? = some (cA, .long)) {i x : Int} (hi : inb i n) (hn : n < 2147483648) (hd : decode cc pc = .ok (.lastore, 1)) (hq : pc + 1 = q) (kk : Rj X w nL Q q lv st (su σ k0 i x)) : Rj X w nL Q pc lv (vJ x :: vI i :: .ref (w.h k0) :: st) σ := by
  subst hq; intro H locs ls hP hS hl
  obtain ⟨e1, e2⟩ := inb_cl hi hn
  refine va_last C.x C.b C.K hP (C.D σ) hS k0 t0 (wd_o σ hk0 (hc _)) ht e2 hd (fun H1 locs1 hP1 _ hS1 => ?_)
  rw [e1, wd_set w σ (su σ k0 i x) k0 _ (by rw [hc, su_J σ k0 i x hi.1]) (su_o σ k0 i x)] at hP1
  exact kk H1 locs1 ls hP1 hS1 hl
abbrev bit1 (x : Int) : Prop := x = 0 ∨ x = 1
theorem nar_b {x : Int} (h : bit1 x) : vp_nar .boolean (Int32.ofInt x) = Int32.ofInt x := by rcases h with rfl | rfl <;> rfl
theorem nar_v {x : Int} (h : bit1 x) : narrow .boolean (vI x) = vI x := by rcases h with rfl | rfl <;> rfl
theorem fit_v {x : Int} (h : bit1 x) : fits .boolean (vI x) = true := by rcases h with rfl | rfl <;> rfl
theorem r_zast (C : Cx X l w nL cc own Ts ret rm) (k0 : Nat) (hk0 : k0 < w.n) {cA : ClassId} {n : Nat} (hc : ∀ f, w.c k0 f = .inl (cA, n, .inl (fun j : Nat => Int32.ofInt (f j)))) (t0 : Nat) (ht : w.tys[t0]? = some (cA, .boolean)) {i x : Int} (hi : inb i n) (hx : bit1 x) (hn : n < 2147483648) (hd : decode cc pc = .ok (.bastore, 1)) (hq : pc + 1 = q) (kk : Rj X w nL Q q lv st (su σ k0 i x)) : Rj X w nL Q pc lv (vI x :: vI i :: .ref (w.h k0) :: st) σ := by
  subst hq; intro H locs ls hP hS hl
  obtain ⟨e1, e2⟩ := inb_cl hi hn
  refine va_zast C.x C.b C.K hP (C.D σ) hS k0 t0 (wd_o σ hk0 (hc _)) ht e2 hd (fun H1 locs1 hP1 _ hS1 => ?_)
  rw [e1, nar_b hx, wd_set w σ (su σ k0 i x) k0 _ (by rw [hc, su_I σ k0 i x hi.1]) (su_o σ k0 i x)] at hP1
  exact kk H1 locs1 ls hP1 hS1 hl
theorem r_alen (C : Cx X l w nL cc own Ts ret rm) (k0 : Nat) (hk0 : k0 < w.n) {cA : ClassId} {a : vp_A} (hc : w.c k0 (σ k0) = .inl (cA, a)) {ty : FieldType} (t0 : Nat) (ht : w.tys[t0]? = some (cA, ty)) {x : Int} (hx : (a.1 : Int) = x) (hd : decode cc pc = .ok (.arraylength, 1)) (hq : pc + 1 = q) (kk : Rj X w nL Q q lv (vI x :: st) σ) : Rj X w nL Q pc lv (.ref (w.h k0) :: st) σ := by
  subst hq; subst hx; exact fun H locs ls hP hS hl => va_alen C.x C.b C.K hP k0 t0 (wd_o σ hk0 hc) ht Int32.ofInt_eq_ofNat.symm hd (kk H locs ls hP hS hl)
end RB
