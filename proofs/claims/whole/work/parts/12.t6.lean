/-! LAID: the class -/
theorem x_improve_e (N : Nat) (hN : 4999 < N) {d σ : St} {a b : Int} {i : Nat} (hx : LX d a b σ) (hd : DI d) (hi : i < 10) (hq : sz (kr d) b (d 0 1) ≤ 10) {w : Nat → Nat → Int} (hw : ∀ i j, 0 ≤ w i j ∧ w i j ≤ 801)
    (hG : ∀ j : Nat, (j : Int) < sz (kr d) b (d 0 1) → σ 29 j = if 0 < w i j then tt (sz (kr d) b (d 0 1)).toNat w i j else 0) (hF : ∀ S : Nat, S < 2 ^ (sz (kr d) b (d 0 1)).toNat → 0 ≤ σ 30 S ∧ σ 30 S ≤ 300000000000000) :
    ∃ σ', x_Laying_improve N σ = some (0, σ') ∧ LX d a b σ' ∧ (∀ k, k ≠ 30 → σ' k = σ k) ∧ ∀ S : Nat, S < 2 ^ (sz (kr d) b (d 0 1)).toNat → σ' 30 S = nf (sz (kr d) b (d 0 1)).toNat w i (σ 30) S := by
  have hR := hd.rows
  have hz := sz_r (kr d) b hR.1
  have hp : 2 ^ (sz (kr d) b (d 0 1)).toNat ≤ 1024 := Nat.le_trans (Nat.pow_le_pow_right (by omega) (show (sz (kr d) b (d 0 1)).toNat ≤ 10 by omega)) (by decide)
  have hp0 := Nat.two_pow_pos (sz (kr d) b (d 0 1)).toNat
  have esl : sl32 1 (sz (kr d) b (d 0 1)) = ((2 ^ (sz (kr d) b (d 0 1)).toNat : Nat) : Int) := by
    have := bi_sl (sz (kr d) b (d 0 1)).toNat (by omega)
    rw [show (((sz (kr d) b (d 0 1)).toNat : Nat) : Int) = sz (kr d) b (d 0 1) by omega] at this
    exact this
  unfold x_Laying_improve
  rw [hx.2.2.1, esl]
  refine lq1 (Out := fun z => ∃ σ', z = some (0, σ') ∧ LX d a b σ' ∧ (∀ k, k ≠ 30 → σ' k = σ k) ∧ ∀ S : Nat, S < 2 ^ (sz (kr d) b (d 0 1)).toNat → σ' 30 S = nf (sz (kr d) b (d 0 1)).toNat w i (σ 30) S) (Inv := fun v s => LX d a b s ∧ (∀ k, k ≠ 30 → s k = σ k) ∧ ∃ V : Nat, v = V ∧ V < 2 ^ (sz (kr d) b (d 0 1)).toNat ∧ ∀ S : Nat, S < 2 ^ (sz (kr d) b (d 0 1)).toNat → s 30 S = if V < S then nf (sz (kr d) b (d 0 1)).toNat w i (σ 30) S else σ 30 S) (fun v _ => v) ?_ ?_ N _ σ ⟨hx, fun _ _ => rfl, 2 ^ (sz (kr d) b (d 0 1)).toNat - 1, by omega, by omega, fun S hS => by rw [if_neg (by omega)]⟩ (by omega)
  · rintro k v s ⟨h1, h2, V, rfl, hV, h3⟩
    unfold x_Laying_improve_9
    by_cases c : V = 0
    · left
      rw [if_pos ((le32_i (by omega) (by omega) (by omega) (by omega)).mpr (by omega))]
      refine ⟨s, rfl, h1, h2, fun S hS => ?_⟩
      rw [h3 S hS]
      by_cases z : V < S
      · rw [if_pos z]
      · rw [if_neg z, show S = 0 by omega]
        unfold nf
        rw [mxv_f (fun j _ => by show (Nat.testBit 0 j && decide (0 < w i j)) = false; rw [Nat.zero_testBit]; rfl)]
    · right
      rw [if_neg (fun z => by rw [le32_i (by omega) (by omega) (by omega) (by omega)] at z; omega)]
      have key : ∃ s', itr (x_Laying_improve_15 N k (V : Int)) (fun _ _ => none) N 0 s = k ((V : Int) + (-1)) s' ∧ LX d a b s' ∧ (∀ k, k ≠ 30 → s' k = σ k) ∧ (∀ S : Nat, S ≠ V → s' 30 S = s 30 S) ∧ s' 30 V = nf (sz (kr d) b (d 0 1)).toNat w i (σ 30) V := by
        refine lq1 (Out := fun z => ∃ s', z = k ((V : Int) + (-1)) s' ∧ LX d a b s' ∧ (∀ k, k ≠ 30 → s' k = σ k) ∧ (∀ S : Nat, S ≠ V → s' 30 S = s 30 S) ∧ s' 30 V = nf (sz (kr d) b (d 0 1)).toNat w i (σ 30) V) (Inv := fun x s' => LX d a b s' ∧ (∀ k, k ≠ 30 → s' k = σ k) ∧ (∀ S : Nat, S ≠ V → s' 30 S = s 30 S) ∧ ∃ j : Nat, x = j ∧ j ≤ (sz (kr d) b (d 0 1)).toNat ∧ s' 30 V = mxv (fun j => σ 30 ((V ^^^ 2 ^ j : Nat) : Int) + tt (sz (kr d) b (d 0 1)).toNat w i j) (fun j => V.testBit j && decide (0 < w i j)) (σ 30 (V : Int)) j ∧ s' 30 V ≤ 400000000000000 ∧ 0 ≤ s' 30 V) (fun x _ => sz (kr d) b (d 0 1) - x) ?_ ?_ N 0 s ⟨h1, h2, fun _ _ => rfl, 0, rfl, by omega, by rw [h3 V hV, if_neg (by omega)]; rfl, by have := hF V hV; rw [h3 V hV, if_neg (by omega)]; omega, by have := hF V hV; rw [h3 V hV, if_neg (by omega)]; omega⟩ (by omega)
        · rintro k2 x s' ⟨g1, g2, g3, j, rfl, hj, g4, g5, g6⟩
          unfold x_Laying_improve_15 x_Laying_improve_74
          rw [g1.2.2.1]
          by_cases c2 : j = (sz (kr d) b (d 0 1)).toNat
          · left
            rw [if_pos ((le32_i (by omega) (by omega) (by omega) (by omega)).mpr (by omega))]
            exact ⟨s', rfl, g1, g2, g3, by rw [g4, c2]; rfl⟩
          · right
            have hjz : (j : Int) < sz (kr d) b (d 0 1) := by omega
            have ht := bi_tst (a := V) (n := j) (by omega) (by omega)
            have htr := bi_tstr (a := V) (n := j) (by omega) (by omega)
            rw [if_neg (fun z => by rw [le32_i (by omega) (by omega) (by omega) (by omega)] at z; omega)]
            have stay : (V.testBit j && decide (0 < w i j)) = false → ∃ a' σ', k2 ((j : Int) + 1) s' = k2 a' σ' ∧ (LX d a b σ' ∧ (∀ k, k ≠ 30 → σ' k = σ k) ∧ (∀ S : Nat, S ≠ V → σ' 30 S = s 30 S) ∧ ∃ j' : Nat, a' = j' ∧ j' ≤ (sz (kr d) b (d 0 1)).toNat ∧ σ' 30 V = mxv (fun j => σ 30 ((V ^^^ 2 ^ j : Nat) : Int) + tt (sz (kr d) b (d 0 1)).toNat w i j) (fun j => V.testBit j && decide (0 < w i j)) (σ 30 (V : Int)) j' ∧ σ' 30 V ≤ 400000000000000 ∧ 0 ≤ σ' 30 V) ∧ sz (kr d) b (d 0 1) - a' < sz (kr d) b (d 0 1) - (j : Int) := fun hc => ⟨(j : Int) + 1, s', rfl, ⟨g1, g2, g3, j + 1, by omega, by omega, by rw [mxv, hc, if_neg (by decide)]; exact g4, g5, g6⟩, by omega⟩
            by_cases c3 : V.testBit j = true
            · have hne : ¬ an32 (V : Int) (sl32 1 (j : Int)) = 0 := fun z => by rw [ht.mp z] at c3; exact Bool.noConfusion c3
              have hlt := xr_lt c3
              have hR2 := hF (V ^^^ 2 ^ j) (by omega)
              have exo : xo32 (V : Int) (sl32 1 (j : Int)) = ((V ^^^ 2 ^ j : Nat) : Int) := by
                rw [bi_sl j (by omega), bi_xor (by omega) (Nat.pow_lt_pow_right (by omega) (by omega))]
              have hGj := hG j hjz
              have e29 : s' 29 = σ 29 := g2 29 (by decide)
              rw [if_neg (fun z => hne ((eq32_i (by omega) (by omega) (by omega) (by omega)).mp z)), gd_k (by omega), exo, e29, hGj]
              by_cases c4 : 0 < w i j
              · have htt := tt_r (q := (sz (kr d) b (d 0 1)).toNat) (j := j) hw hi (by omega) (by omega)
                have es : s' 30 ((V ^^^ 2 ^ j : Nat) : Int) = σ 30 ((V ^^^ 2 ^ j : Nat) : Int) := by
                  rw [g3 _ (by omega), h3 _ (by omega), if_neg (by omega)]
                rw [if_pos c4, if_neg (ne64_i (by omega) (by omega) (by omega)), gd_k (by omega), gd_k (by omega), gd_k (by omega), gd_k (by omega), es, mx64_i (by omega) (by omega) (by omega) (by omega)]
                refine ⟨(j : Int) + 1, _, rfl, ⟨LX_k rfl (by decide) (by decide) (by decide) g1, fun k hk => by rw [su_k _ _ _ hk]; exact g2 k hk, fun S hS => by rw [su_n _ _ _ _ _ (by omega)]; exact g3 S hS, j + 1, by omega, by omega, ?_, by rw [su_e]; omega, by rw [su_e]; omega⟩, by omega⟩
                rw [su_e, mxv, if_pos (by rw [c3, decide_eq_true c4]; rfl), ← g4]
              · rw [if_neg c4, if_pos (show eq64 0 0 from rfl)]
                exact stay (by rw [decide_eq_false c4, Bool.and_false])
            · have hb := Bool.eq_false_iff.mpr c3
              rw [if_pos ((eq32_i (by omega) (by omega) (by omega) (by omega)).mpr (ht.mpr hb))]
              exact stay (by rw [hb, Bool.false_and])
        · rintro x s' ⟨-, -, -, j, rfl, hj, -⟩; omega
      obtain ⟨s', q1, q2, q3, q4, q5⟩ := key
      refine ⟨(V : Int) + (-1), s', q1, ⟨q2, q3, V - 1, by omega, by omega, fun S hS => ?_⟩, by omega⟩
      by_cases e : S = V
      · rw [e, if_pos (by omega)]; exact q5
      · rw [q4 S e, h3 S hS]
        by_cases z : V < S
        · rw [if_pos z, if_pos (by omega)]
        · rw [if_neg z, if_neg (by omega)]
  · rintro v s ⟨-, -, V, rfl, -⟩; omega
theorem fillJ_e (N : Nat) (k0 n0 : Nat) (v : Int) (s : St) (hN : n0 < N) (hn : n0 < 2147483648) : j_Arrays_fill_JJV N k0 n0 v s = some (0, zg s k0 0 n0 (fun _ => v)) := by
  unfold j_Arrays_fill_JJV
  refine lq1 (Out := fun x => x = some (0, zg s k0 0 n0 (fun _ => v))) (Inv := fun i s' => 0 ≤ i ∧ i ≤ n0 ∧ zg s' k0 i n0 (fun _ => v) = zg s k0 0 n0 (fun _ => v)) (fun i _ => n0 - i) ?_ ?_ N 0 s ⟨by omega, by omega, rfl⟩ (by omega)
  · rintro k i s' ⟨h0, h1, h2⟩
    unfold j_Arrays_fill_JJV_6
    simp (disch := omega) only [le32_i]
    by_cases c : (n0 : Int) ≤ i
    · left; rw [if_pos c, ← h2, zg_e _ _ _ _ _ c]
    · right
      exact ⟨i + 1, su s' k0 i v, by rw [if_neg c, gd_k (by omega)], ⟨by omega, by omega, by rw [zg_s s' k0 i n0 v (fun _ => v) (by omega) rfl, h2]⟩, by omega⟩
  · rintro i s' ⟨h0, h1, -⟩; omega
theorem LX_s {d : St} {a b : Int} {σ σ' : St} (e : ∀ k, xk k = true → σ' k = σ k) (h7 : σ' 7 = σ 7) (h27 : σ' 27 = σ 27) (h28 : σ' 28 = σ 28) (h : LX d a b σ) : LX d a b σ' :=
  ⟨RX_s e h.1, by rw [h7]; exact h.2.1, by rw [h7]; exact h.2.2.1, by rw [h27]; exact h.2.2.2.1, by rw [h28]; exact h.2.2.2.2⟩
theorem EE_b {p q : Nat} {w : Nat → Nat → Int} (hw : ∀ i j, 0 ≤ w i j ∧ w i j ≤ 801) (hp : p ≤ 10) (hq : q ≤ 10) {k S : Nat} (hk : k ≤ p) : 0 ≤ EE p q w k S ∧ EE p q w k S ≤ 299999999999999 := by
  have a := EB (w := w) hp hq k S hk
  have b := BB_r (p := p) (q := q) hw k S
  have l := Lb_r (i := p - k) (by omega)
  omega
/-- what lay() leaves -/
def LD (d : St) (a b : Int) (σ : St) : Prop := LX d a b σ ∧ σ 7 6 = EE (sz (kr d) a (d 0 1)).toNat (sz (kr d) b (d 0 1)).toNat (wf d (σ 27) (σ 28)) (sz (kr d) a (d 0 1)).toNat 0
theorem x_lay_e (N : Nat) (hN : 4999 < N) {d σ : St} {a b : Int} (hx : RX d σ) (hd : DI d) (ha : 0 ≤ a ∧ a < 3) (hb : 0 ≤ b ∧ b < 3) (hab : a ≠ b) :
    ∃ t σ', x_Laying_lay N a b σ = some (t, σ') ∧ RX d σ' ∧ ((t = 0 ∧ (10 < sz (kr d) a (d 0 1) ∨ 10 < sz (kr d) b (d 0 1))) ∨ (t = 1 ∧ sz (kr d) a (d 0 1) ≤ 10 ∧ sz (kr d) b (d 0 1) ≤ 10 ∧ LD d a b σ')) := by
  have hR := hd.rows
  have hza := sz_r (kr d) a hR.1
  have hzb := sz_r (kr d) b hR.1
  obtain ⟨s1, e1, e2, e3, e4⟩ := x_list27_e N (by omega) hx hd ha
  obtain ⟨s2, f1, f2, f3, f4⟩ := x_list28_e N (by omega) (RX_k (k := 7) (i := 4) (v := sz (kr d) a (d 0 1)) rfl e2) hd hb
  have q74 : (su s2 7 5 (sz (kr d) b (d 0 1))) 7 4 = sz (kr d) a (d 0 1) := by
    rw [su_n _ _ _ _ _ (by decide), f3 7 (by decide), su_e]
  have q75 : (su s2 7 5 (sz (kr d) b (d 0 1))) 7 5 = sz (kr d) b (d 0 1) := su_e _ _ _ _
  have q27 : (su s2 7 5 (sz (kr d) b (d 0 1))) 27 = s1 27 := by rw [su_k _ _ _ (by decide), f3 27 (by decide), su_k _ _ _ (by decide)]
  have q28 : (su s2 7 5 (sz (kr d) b (d 0 1))) 28 = s2 28 := by rw [su_k _ _ _ (by decide)]
  unfold x_Laying_lay
  rw [e1, bd_k, f1, bd_k, q74, q75]
  by_cases c1 : 10 < sz (kr d) a (d 0 1)
  · rw [if_pos ((lt32_i (by omega) (by omega) (by omega) (by omega)).mpr c1)]
    exact ⟨0, _, rfl, RX_k rfl f2, Or.inl ⟨rfl, Or.inl c1⟩⟩
  rw [if_neg (fun z => c1 ((lt32_i (by omega) (by omega) (by omega) (by omega)).mp z))]
  by_cases c2' : 10 < sz (kr d) b (d 0 1)
  · rw [if_neg (fun z => by rw [le32_i (by omega) (by omega) (by omega) (by omega)] at z; omega)]
    exact ⟨0, _, rfl, RX_k rfl f2, Or.inl ⟨rfl, Or.inr c2'⟩⟩
  have c2 : sz (kr d) b (d 0 1) ≤ 10 := by omega
  rw [if_pos ((le32_i (by omega) (by omega) (by omega) (by omega)).mpr c2), fillJ_e N 30 1024 0 _ (by omega) (by omega), bd_k]
  have hLX : LX d a b (zg (su s2 7 5 (sz (kr d) b (d 0 1))) 30 0 (1024 : Nat) (fun _ => 0)) := by
    refine LX_s (σ := su s2 7 5 (sz (kr d) b (d 0 1))) (fun k hk => zg_k _ _ _ _ (fun e => by rw [e] at hk; cases hk)) (zg_k _ _ _ _ (by decide)) (zg_k _ _ _ _ (by decide)) (zg_k _ _ _ _ (by decide)) ⟨RX_k rfl f2, q74, q75, ?_, ?_⟩
    · rw [q27]
      exact fun r r0 r1 hr => e4 r r0 r1 hr (by have := sz_lt (f := kr d) (b := a) r0 r1 hr; omega)
    · rw [q28]
      exact fun r r0 r1 hr => f4 r r0 r1 hr (by have := sz_lt (f := kr d) (b := b) r0 r1 hr; omega)
  have hwr : ∀ (f g : Int → Int) (i j : Nat), 0 ≤ wf d f g i j ∧ wf d f g i j ≤ 801 := fun f g i j => gn_r d _ _
  have hp : 2 ^ (sz (kr d) b (d 0 1)).toNat ≤ 1024 := Nat.le_trans (Nat.pow_le_pow_right (by omega) (show (sz (kr d) b (d 0 1)).toNat ≤ 10 by omega)) (by decide)
  have hp0 := Nat.two_pow_pos (sz (kr d) b (d 0 1)).toNat
  have esl : sl32 1 (sz (kr d) b (d 0 1)) = ((2 ^ (sz (kr d) b (d 0 1)).toNat : Nat) : Int) := by
    have := bi_sl (sz (kr d) b (d 0 1)).toNat (by omega)
    rw [show (((sz (kr d) b (d 0 1)).toNat : Nat) : Int) = sz (kr d) b (d 0 1) by omega] at this
    exact this
  refine lq2 (Out := fun z => ∃ t σ', z = some (t, σ') ∧ RX d σ' ∧ ((t = 0 ∧ (10 < sz (kr d) a (d 0 1) ∨ 10 < sz (kr d) b (d 0 1))) ∨ (t = 1 ∧ sz (kr d) a (d 0 1) ≤ 10 ∧ sz (kr d) b (d 0 1) ≤ 10 ∧ LD d a b σ'))) (Inv := fun v x s => LX d a b s ∧ ∃ i : Nat, x = i ∧ i ≤ (sz (kr d) a (d 0 1)).toNat ∧ (i < (sz (kr d) a (d 0 1)).toNat → v = Lb (i + 1)) ∧ IS (sz (kr d) a (d 0 1)).toNat (sz (kr d) b (d 0 1)).toNat (wf d (s 27) (s 28)) (s 30) ((sz (kr d) a (d 0 1)).toNat - i)) (fun _ x _ => sz (kr d) a (d 0 1) - x) ?_ ?_ N 2357947691 0 _ ⟨hLX, 0, rfl, by omega, fun _ => rfl, ?_⟩ (by omega)
  · rintro k v x s ⟨h1, i, rfl, hi, hv, hI⟩
    unfold x_Laying_lay_68
    rw [h1.2.1, h1.2.2.1, esl]
    by_cases c : i = (sz (kr d) a (d 0 1)).toNat
    · left
      rw [if_pos ((le32_i (by omega) (by omega) (by omega) (by omega)).mpr (by omega)), gd_k (by omega)]
      have hI : IS (sz (kr d) a (d 0 1)).toNat (sz (kr d) b (d 0 1)).toNat (wf d (s 27) (s 28)) (s 30) 0 := by rw [show (sz (kr d) a (d 0 1)).toNat - i = 0 by omega] at hI; exact hI
      refine ⟨1, _, rfl, RX_k rfl h1.1, Or.inr ⟨rfl, by omega, c2, ⟨RX_k rfl h1.1, by rw [su_n _ _ _ _ _ (by decide)]; exact h1.2.1, by rw [su_n _ _ _ _ _ (by decide)]; exact h1.2.2.1, by rw [su_k _ _ _ (by decide)]; exact h1.2.2.2.1, by rw [su_k _ _ _ (by decide)]; exact h1.2.2.2.2⟩, ?_⟩⟩
      rw [su_e, su_k _ _ _ (by decide), su_k _ _ _ (by decide)]
      have := IS_e hI
      rw [show ((2 ^ (sz (kr d) b (d 0 1)).toNat - 1 : Nat) : Int) = ((2 ^ (sz (kr d) b (d 0 1)).toNat : Nat) : Int) - 1 by omega] at this
      exact this
    · right
      have hv := hv (by omega)
      obtain ⟨t, s', g1, g2, g3, g4, g5, g6⟩ := x_weigh_e N (by omega) h1 hd ha hb hab (by omega) c2 (i := i) (by omega)
      rw [if_neg (fun z => by rw [le32_i (by omega) (by omega) (by omega) (by omega)] at z; omega), gd_k (by omega), hv, g1, bd_k]
      have e30 : s' 30 = s 30 := g3 30 (by decide)
      have e27 : s' 27 = s 27 := g3 27 (by decide)
      have e28 : s' 28 = s 28 := g3 28 (by decide)
      have el : dv64 (Lb (i + 1)) 11 = if i + 1 < 10 then Lb (i + 1 + 1) else 0 := by
        have l1 := Lb_r (i := i + 1) (by omega)
        rw [dv64_i (by omega) (by omega) (by omega) (by omega)]
        by_cases z : i + 1 < 10
        · rw [if_pos z, Lb_s z, Int.mul_ediv_cancel_left _ (by decide)]
        · rw [if_neg z, show i = 9 by omega]; decide
      have fin : ∀ s3 : St, LX d a b s3 → s3 27 = s 27 → s3 28 = s 28 → IS (sz (kr d) a (d 0 1)).toNat (sz (kr d) b (d 0 1)).toNat (wf d (s 27) (s 28)) (s3 30) ((sz (kr d) a (d 0 1)).toNat - (i + 1)) → ∃ a' b' σ', x_Laying_lay_98 N k (Lb (i + 1)) i s3 = k a' b' σ' ∧ (LX d a b σ' ∧ ∃ i : Nat, b' = i ∧ i ≤ (sz (kr d) a (d 0 1)).toNat ∧ (i < (sz (kr d) a (d 0 1)).toNat → a' = Lb (i + 1)) ∧ IS (sz (kr d) a (d 0 1)).toNat (sz (kr d) b (d 0 1)).toNat (wf d (σ' 27) (σ' 28)) (σ' 30) ((sz (kr d) a (d 0 1)).toNat - i)) ∧ sz (kr d) a (d 0 1) - b' < sz (kr d) a (d 0 1) - (i : Int) := by
        intro s3 t1 t2 t3 t4
        refine ⟨_, _, s3, rfl, ⟨t1, i + 1, by omega, by omega, fun z => ?_, by rw [t2, t3]; exact t4⟩, by omega⟩
        rw [el, if_pos (by omega)]
      have ek : (sz (kr d) a (d 0 1)).toNat - i = ((sz (kr d) a (d 0 1)).toNat - (i + 1)) + 1 := by omega
      have ei : (sz (kr d) a (d 0 1)).toNat - ((sz (kr d) a (d 0 1)).toNat - (i + 1) + 1) = i := by omega
      rw [ek] at hI
      by_cases c3 : t = 0
      · rw [if_pos ((eq32_i (by omega) (by omega) (by omega) (by omega)).mpr c3)]
        refine fin s' g2 e27 e28 (IS_s (hwr _ _) (by omega) (by omega) (by omega) hI (fun S hS => ?_))
        rw [ei, e30]
        unfold nf
        rw [mxv_f (fun j hj => by
          show (S.testBit j && decide (0 < wf d (s 27) (s 28) i j)) = false
          rw [decide_eq_false (g5 c3 j (by omega)), Bool.and_false])]
      · have hF : ∀ S : Nat, S < 2 ^ (sz (kr d) b (d 0 1)).toNat → 0 ≤ s' 30 S ∧ s' 30 S ≤ 300000000000000 := fun S hS => by
          have u := hI.1 S hS
          have v1 := EE_b (p := (sz (kr d) a (d 0 1)).toNat) (q := (sz (kr d) b (d 0 1)).toNat) (hwr (s 27) (s 28)) (by omega) (by omega) (k := (sz (kr d) a (d 0 1)).toNat) (S := 0) (Nat.le_refl _)
          have v2 := EE_b (p := (sz (kr d) a (d 0 1)).toNat) (q := (sz (kr d) b (d 0 1)).toNat) (hwr (s 27) (s 28)) (by omega) (by omega) (k := (sz (kr d) a (d 0 1)).toNat - (i + 1) + 1) (S := S) (by omega)
          rw [e30]; omega
        obtain ⟨s3, r1, r2, r3, r4⟩ := x_improve_e N hN g2 hd (i := i) (by omega) c2 (hwr (s 27) (s 28)) g6 hF
        rw [if_neg (fun z => c3 ((eq32_i (by omega) (by omega) (by omega) (by omega)).mp z)), r1, bd_k]
        refine fin s3 r2 ((r3 27 (by decide)).trans e27) ((r3 28 (by decide)).trans e28) (IS_s (hwr _ _) (by omega) (by omega) (by omega) hI (fun S hS => ?_))
        rw [ei, r4 S hS, e30]
  · rintro v x s ⟨-, i, rfl, hi, -⟩; omega
  · rw [Nat.sub_zero]
    exact IS_0 (fun S hS => by rw [zg_r, if_pos (by omega)])
