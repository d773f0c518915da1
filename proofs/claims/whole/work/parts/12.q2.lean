theorem nx_l {q b : Int} (h : q = 0 ∨ q = 1) (hb : 97 ≤ b ∧ b ≤ 122) : nx q b = 1 := by unfold nx; rw [if_pos ⟨h, hb.1, hb.2⟩]
theorem nx_0 {b : Int} (hb : ¬ (97 ≤ b ∧ b ≤ 122)) : nx 0 b = -1 := by
  unfold nx
  rw [if_neg (fun z => hb ⟨z.2.1, z.2.2⟩), if_neg (by omega), if_neg (by omega), if_neg (by omega)]
theorem nx_1 {b : Int} (hb : ¬ (97 ≤ b ∧ b ≤ 122)) (h61 : b ≠ 61) : nx 1 b = -1 := by
  unfold nx
  rw [if_neg (fun z => hb ⟨z.2.1, z.2.2⟩), if_neg (by omega), if_neg (by omega), if_neg (by omega)]
theorem nx_61 : nx 1 61 = 2 := by decide
theorem nx_2 {b : Int} (hb : ¬ (48 ≤ b ∧ b ≤ 57)) : nx 2 b = -1 := by
  unfold nx
  rw [if_neg (by omega), if_neg (by omega), if_neg (fun z => hb ⟨z.2.1, z.2.2⟩), if_neg (by omega)]
theorem nx_2d {b : Int} (hb : 48 ≤ b ∧ b ≤ 57) : nx 2 b = 3 := by
  unfold nx
  rw [if_neg (by omega), if_neg (by omega), if_pos ⟨rfl, hb.1, hb.2⟩]
theorem nx_3 {b : Int} (hb : b ≠ 59) : nx 3 b = -1 := by
  unfold nx
  rw [if_neg (by omega), if_neg (by omega), if_neg (by omega), if_neg (by omega)]
theorem nx_59 : nx 3 59 = 0 := by decide
theorem du_go {t : Int → Int} {n : Nat} (h : du t n ≠ -1) (h1 : nx (du t n) (t n) ≠ -1) (h2 : ¬ (97 ≤ t n ∧ t n ≤ 122 ∧ sn t (t n) n = true)) : du t (n + 1) = nx (du t n) (t n) := by
  rw [du, if_neg h, if_neg (fun z => z.elim h1 h2)]
theorem du_no {t : Int → Int} {n : Nat} (h1 : nx (du t n) (t n) = -1 ∨ (97 ≤ t n ∧ t n ≤ 122 ∧ sn t (t n) n = true)) : du t (n + 1) = -1 := by
  rw [du]
  by_cases h : du t n = -1
  · rw [if_pos h]
  · rw [if_neg h, if_pos h1]
def RG (d : St) (p : Nat) (X : MM) : Prop := (∃ r σ', X = some (r, σ') ∧ PM d σ' ∧ σ' 0 16 = ft d ∧ 0 ≤ ft d) ∨ (∃ (q : Nat) (σ' : St), X = some ((q : Int), σ') ∧ (q : Int) ≤ d 0 12 ∧ p < q ∧ PM d σ' ∧ σ' 0 16 = -1 ∧ du (d 10) q = 3 ∧ AM d σ' q)
theorem m_group_in (N : Nat) (hN : 100 < N) {d : St} (hd : DI d) {p : Nat} (hp : ∀ c, 0 ≤ c → c < 26 → sn (d 10) (c + 97) p = true → 48 ≤ gF (d 10) c 0 (d 0 12).toNat ∧ gF (d 10) c 0 (d 0 12).toNat ≤ 57) : ∀ (m v : Nat) (σ : St), p ≤ v → (v : Int) ≤ d 0 12 → d 0 12 - v < m → PM d σ → σ 0 16 = -1 → du (d 10) v = (if v = p then 0 else 1) → (∀ k : Nat, p ≤ k → k < v → (97 ≤ d 10 k ∧ d 10 k ≤ 122) ∧ sn (d 10) (d 10 k) p = false) → (∀ c, 0 ≤ c → c < 26 → σ 11 c = if sn (d 10) (c + 97) p = true then gF (d 10) c 0 (d 0 12).toNat else if sn (d 10) (c + 97) v = true then 1 else 0) →
    RG d p (itr (m_group_2 N p) (fun _ _ => none) m v σ) := by
  have ht := hd.typed
  intro m
  induction m with
  | zero => intro v σ h1 h2 h3; omega
  | succ m ih =>
    intro v σ h1 h2 h3 hP h16 hdu hl hf
    have hb := fun (k : Nat) (h : (k : Int) < d 0 12) => hd.txt k (by omega) h
    have hne : du (d 10) v ≠ -1 := by rw [hdu]; split <;> omega
    rw [itr_k, m_group_2, m_byteAt_e N hd hP (by omega), bd_k]
    by_cases cT : (v : Int) < d 0 12
    · have hbv := hb v cT
      rw [if_pos cT, m_in_e N σ (by omega) (by omega) (by omega) (by omega) (by omega) (by omega), bd_k]
      simp only [b01_0, itn]
      by_cases cl : 97 ≤ d 10 v ∧ d 10 v ≤ 122
      · rw [if_pos cl, m_byteAt_e N hd hP (by omega), bd_k, if_pos cT, gd_k (by omega)]
        have e97 : d 10 v - 97 + 97 = d 10 v := by omega
        have f0 := hf (d 10 v - 97) (by omega) (by omega)
        rw [e97] at f0
        by_cases cs : sn (d 10) (d 10 v) v = true
        · have hz : σ 11 (d 10 v - 97) ≠ 0 ∧ 0 ≤ σ 11 (d 10 v - 97) ∧ σ 11 (d 10 v - 97) ≤ 57 := by
            rw [f0, cs]
            by_cases cp : sn (d 10) (d 10 v) p = true
            · rw [if_pos cp]
              have := hp (d 10 v - 97) (by omega) (by omega) (by rw [e97]; exact cp)
              omega
            · rw [if_neg cp, if_pos rfl]; omega
          rw [if_neg (fun z => hz.1 ((eq32_i (by omega) (by omega) (by omega) (by omega)).mp z))]
          have hft : ft d = v := ft_mid cT hne (du_no (Or.inr ⟨cl.1, cl.2, cs⟩))
          exact Or.inl ⟨_, _, rfl, PM_16 hP, by rw [su_e, hft], by omega⟩
        · have csf : sn (d 10) (d 10 v) v = false := by cases z : sn (d 10) (d 10 v) v with
            | true => exact absurd z cs
            | false => rfl
          have cpf : sn (d 10) (d 10 v) p = false := by cases z : sn (d 10) (d 10 v) p with
            | true => rw [sn_mono z h1] at csf; cases csf
            | false => rfl
          rw [cpf, csf, if_neg (by decide), if_neg (by decide)] at f0
          rw [if_pos (by rw [f0]), m_byteAt_e N hd hP (by omega), bd_k, if_pos cT, gd_k (by omega)]
          have e1 : du (d 10) (v + 1) = 1 := by
            rw [du_go hne (by rw [hdu, nx_l (by split <;> omega) cl]; decide) (fun z => cs z.2.2), hdu, nx_l (by split <;> omega) cl]
          have r := ih (v + 1) (su σ 11 (d 10 v - 97) 1) (by omega) (by omega) (by omega) (PM_11 hP) (by rw [su_k _ _ _ (by decide)]; exact h16) (by rw [e1, if_neg (by omega)])
            (fun k a b => by
              by_cases e : k = v
              · rw [e]; exact ⟨cl, cpf⟩
              · exact hl k a (by omega))
            (fun c hc1 hc2 => by
              rw [su_r]
              by_cases e : c = d 10 v - 97
              · have e3 : c + 97 = d 10 v := by omega
                have e4 : sn (d 10) (d 10 v) (v + 1) = true := by rw [sn_s, decide_eq_true rfl, Bool.or_true]
                rw [if_pos e, e3, cpf, e4, if_neg (by decide), if_pos rfl]
              · have e4 : sn (d 10) (c + 97) (v + 1) = sn (d 10) (c + 97) v := by rw [sn_s, decide_eq_false (by omega), Bool.or_false]
                rw [if_neg e, e4]; exact hf c hc1 hc2)
          exact r
      · rw [if_neg cl]
        by_cases cvp : v = p
        · rw [if_pos (by rw [cvp])]
          rw [if_pos cvp] at hdu
          have hft : ft d = v := ft_mid cT hne (du_no (Or.inl (by rw [hdu]; exact nx_0 cl)))
          exact Or.inl ⟨_, _, rfl, PM_16 hP, by rw [su_e, hft], by omega⟩
        · rw [if_neg (fun z => by rw [eq32_i (by omega) (by omega) (by omega) (by omega)] at z; omega), m_byteAt_e N hd hP (by omega), bd_k, if_pos cT]
          rw [if_neg cvp] at hdu
          by_cases c61 : d 10 v = 61
          · have hdu2 : du (d 10) (v + 1) = 2 := by rw [du_go hne (by rw [hdu, c61, nx_61]; decide) (by omega), hdu, c61, nx_61]
            have ev : (v : Int) + 1 = ((v + 1 : Nat) : Int) := by omega
            rw [if_pos (by rw [c61]), ev, m_byteAt_e N hd hP (by omega), bd_k]
            by_cases cT2 : ((v + 1 : Nat) : Int) < d 0 12
            · have hb1 := hb (v + 1) cT2
              rw [if_pos cT2, m_in_e N σ (by omega) (by omega) (by omega) (by omega) (by omega) (by omega), bd_k]
              simp only [b01_0, itn]
              by_cases cd : 48 ≤ d 10 ((v + 1 : Nat) : Int) ∧ d 10 ((v + 1 : Nat) : Int) ≤ 57
              · rw [if_pos cd]
                have hdu3 : du (d 10) (v + 2) = 3 := by
                  show du (d 10) (v + 1 + 1) = 3
                  rw [du_go (by rw [hdu2]; decide) (by rw [hdu2, nx_2d cd]; decide) (by omega), hdu2, nx_2d cd]
                obtain ⟨σ', e1, e2, e3, e4⟩ := m_g113 N hd (f := d 10 ((v + 1 : Nat) : Int)) cT (fun k a b => (hl k a b).1) N p σ (Nat.le_refl p) h1 (by omega) hP
                refine Or.inr ⟨v + 2, σ', by rw [e1]; rfl, by omega, by omega, e2, by rw [e3]; exact h16, hdu3, ?_⟩
                intro c hc1 hc2
                have s1 : sn (d 10) (c + 97) (v + 2) = sn (d 10) (c + 97) v := by
                  show sn (d 10) (c + 97) (v + 1 + 1) = _
                  rw [sn_s, sn_s, decide_eq_false (by omega), decide_eq_false (by omega), Bool.or_false, Bool.or_false]
                obtain ⟨f1, f2⟩ := e4 c hc1 hc2
                rw [s1]
                by_cases cq : ∃ q : Nat, p ≤ q ∧ q < v ∧ d 10 q = c + 97
                · obtain ⟨q, a, b, e⟩ := cq
                  have hq := hl q a b
                  rw [e] at hq
                  have sv : sn (d 10) (c + 97) v = true := sn_mono (n := q + 1) (by rw [sn_s, e, decide_eq_true rfl, Bool.or_true]) (by omega)
                  obtain ⟨k, k1, k2, k3⟩ := sn_at sv
                  have hkp : p ≤ k := by
                    rcases Nat.lt_or_ge k p with z | z
                    · exfalso
                      exact sn_no hq.2 k z k2
                    · exact z
                  have g1 : gF (d 10) c 0 (d 0 12).toNat = d 10 ((v + 1 : Nat) : Int) := by
                    have a1 := gF_at (t := d 10) (c := c) k 0 (d 0 12).toNat (fun x _ hx => sn_no k3 x (by omega)) (by rw [Nat.zero_add]; exact k2) (by omega)
                    have a2 := fd_at (t := d 10) (v + 1 - (k + 1)) (k + 1) ((d 0 12).toNat - k - 1) (fun x hx1 hx2 => by
                      by_cases ex : x = v
                      · rw [ex]; omega
                      · have := (hl x (by omega) (by omega)).1
                        omega) (by rw [show k + 1 + (v + 1 - (k + 1)) = v + 1 by omega]; exact cd) (by omega)
                    have a3 : ((0 : Nat) : Int) = (0 : Int) := rfl
                    rw [a3, Nat.zero_add] at a1
                    rw [a1, a2, show k + 1 + (v + 1 - (k + 1)) = v + 1 by omega]
                  rw [f1 ⟨q, a, b, e⟩, sv, if_pos rfl, g1]
                  exact ⟨rfl, fun _ => cd⟩
                · rw [f2 cq, hf c hc1 hc2]
                  by_cases cp : sn (d 10) (c + 97) p = true
                  · rw [if_pos cp, if_pos (sn_mono cp h1)]
                    exact ⟨rfl, fun _ => hp c hc1 hc2 cp⟩
                  · have sv : sn (d 10) (c + 97) v = false := by
                      cases z : sn (d 10) (c + 97) v with
                      | false => rfl
                      | true =>
                        exfalso
                        obtain ⟨k, k1, k2, k3⟩ := sn_at z
                        rcases Nat.lt_or_ge k p with y | y
                        · exact cp (sn_mono (n := k + 1) (by rw [sn_s, k2, decide_eq_true rfl, Bool.or_true]) (by omega))
                        · exact cq ⟨k, y, k1, k2⟩
                    rw [if_neg cp, sv, if_neg (by decide), if_neg (by decide)]
                    exact ⟨rfl, fun z => by cases z⟩
              · rw [if_neg cd]
                have hft : ft d = ((v + 1 : Nat) : Int) := ft_mid cT2 (by rw [hdu2]; decide) (du_no (Or.inl (by rw [hdu2]; exact nx_2 cd)))
                exact Or.inl ⟨_, _, rfl, PM_16 hP, by rw [su_e, hft], by omega⟩
            · rw [if_neg cT2, m_in_e N σ (by omega) (by omega) (by omega) (by omega) (by omega) (by omega), bd_k]
              simp only [b01_0, itn]
              rw [if_neg (by omega)]
              have hft : ft d = ((v + 1 : Nat) : Int) := ft_end (by omega) (by rw [hdu2]; decide) (by rw [hdu2]; decide)
              exact Or.inl ⟨_, _, rfl, PM_16 hP, by rw [su_e, hft], by omega⟩
          · rw [if_neg (fun z => c61 ((eq32_i (by omega) (by omega) (by omega) (by omega)).mp z))]
            have hft : ft d = v := ft_mid cT hne (du_no (Or.inl (by rw [hdu]; exact nx_1 cl c61)))
            exact Or.inl ⟨_, _, rfl, PM_16 hP, by rw [su_e, hft], by omega⟩
    · rw [if_neg cT, m_in_e N σ (by omega) (by omega) (by omega) (by omega) (by omega) (by omega), bd_k]
      simp only [b01_0, itn]
      rw [if_neg (by omega)]
      have hft : ft d = v := ft_end (by omega) hne (by rw [hdu]; split <;> omega)
      by_cases cvp : v = p
      · rw [if_pos (by rw [cvp])]
        exact Or.inl ⟨_, _, rfl, PM_16 hP, by rw [su_e, hft], by omega⟩
      · rw [if_neg (fun z => by rw [eq32_i (by omega) (by omega) (by omega) (by omega)] at z; omega), m_byteAt_e N hd hP (by omega), bd_k, if_neg cT, if_neg (fun z => by rw [eq32_i (by omega) (by omega) (by omega) (by omega)] at z; omega)]
        exact Or.inl ⟨_, _, rfl, PM_16 hP, by rw [su_e, hft], by omega⟩
