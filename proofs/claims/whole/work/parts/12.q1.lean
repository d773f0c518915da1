/-- while the reference reads: its lasting cells, and that it has marked the text as read -/
def PM (d σ : St) : Prop := (∀ k, pk k = true → σ k = d k) ∧ (∀ j, pj j = true → σ 0 j = d 0 j) ∧ σ 0 15 = 1
theorem PM_11 {d σ : St} {i v : Int} (h : PM d σ) : PM d (su σ 11 i v) := ⟨fun k hk => by rw [su_k σ i v (fun e => by rw [e] at hk; cases hk)]; exact h.1 k hk, fun j hj => by rw [su_k σ i v (by decide)]; exact h.2.1 j hj, by rw [su_k σ i v (by decide)]; exact h.2.2⟩
theorem PM_16 {d σ : St} {v : Int} (h : PM d σ) : PM d (su σ 0 16 v) := ⟨fun k hk => by rw [su_k σ 16 v (fun e => by rw [e] at hk; cases hk)]; exact h.1 k hk, fun j hj => by rw [su_n σ 0 16 v j (fun e => by rw [e] at hj; cases hj)]; exact h.2.1 j hj, by rw [su_n σ 0 16 v 15 (by decide)]; exact h.2.2⟩
/-- at p bytes all is well: the figures of the groups that are read -/
def AM (d σ : St) (p : Nat) : Prop := ∀ c, 0 ≤ c → c < 26 → σ 11 c = (if sn (d 10) (c + 97) p = true then gF (d 10) c 0 (d 0 12).toNat else 0) ∧ (sn (d 10) (c + 97) p = true → 48 ≤ gF (d 10) c 0 (d 0 12).toNat ∧ gF (d 10) c 0 (d 0 12).toNat ≤ 57)
theorem m_byteAt_e (N : Nat) {d σ : St} (hd : DI d) (h : PM d σ) {v : Nat} (hv : (v : Int) ≤ d 0 12 + 1) : m_byteAt N v σ = some (if (v : Int) < d 0 12 then d 10 v else -1, σ) := by
  have := hd.typed
  unfold m_byteAt
  rw [h.2.1 12 rfl, h.1 10 rfl]
  by_cases c : (v : Int) < d 0 12
  · rw [if_neg (fun z => by rw [le32_i (by omega) (by omega) (by omega) (by omega)] at z; omega), gd_k (by omega), if_pos c]
  · rw [if_pos ((le32_i (by omega) (by omega) (by omega) (by omega)).mpr (by omega)), if_neg c]
theorem m_g113 (N : Nat) {d : St} (hd : DI d) {p v : Nat} {f : Int} (hv : (v : Int) < d 0 12) (hl : ∀ k : Nat, p ≤ k → k < v → 97 ≤ d 10 k ∧ d 10 k ≤ 122) : ∀ (m k : Nat) (σ : St), p ≤ k → k ≤ v → v - k < m → PM d σ →
    ∃ σ', itr (m_group_113 N v f) (fun _ _ => none) m k σ = some ((v : Int) + 2, σ') ∧ PM d σ' ∧ σ' 0 16 = σ 0 16 ∧ ∀ c, 0 ≤ c → c < 26 → ((∃ q : Nat, k ≤ q ∧ q < v ∧ d 10 q = c + 97) → σ' 11 c = f) ∧ ((¬ ∃ q : Nat, k ≤ q ∧ q < v ∧ d 10 q = c + 97) → σ' 11 c = σ 11 c) := by
  have ht := hd.typed
  intro m
  induction m with
  | zero => intro k σ h1 h2 h3; omega
  | succ m ih =>
    intro k σ h1 h2 h3 hP
    rw [itr_k, m_group_113]
    by_cases c : v ≤ k
    · rw [if_pos ((le32_i (by omega) (by omega) (by omega) (by omega)).mpr (by omega))]
      exact ⟨σ, rfl, hP, rfl, fun x _ _ => ⟨fun z => by obtain ⟨q, a, b, _⟩ := z; omega, fun _ => rfl⟩⟩
    · have hk := hl k h1 (by omega)
      rw [if_neg (fun z => by rw [le32_i (by omega) (by omega) (by omega) (by omega)] at z; omega), gd_k (by omega), hP.1 10 rfl, gd_k (by omega)]
      obtain ⟨σ', e1, e2, e3, e4⟩ := ih (k + 1) (su σ 11 (d 10 k - 97) f) (by omega) (by omega) (by omega) (PM_11 hP)
      refine ⟨σ', e1, e2, by rw [e3, su_k _ _ _ (by decide)], fun x hx1 hx2 => ?_⟩
      obtain ⟨f1, f2⟩ := e4 x hx1 hx2
      rw [su_r] at f2
      by_cases c1 : ∃ q : Nat, k + 1 ≤ q ∧ q < v ∧ d 10 q = x + 97
      · obtain ⟨q, a, b, e⟩ := c1
        exact ⟨fun _ => f1 ⟨q, a, b, e⟩, fun z => absurd ⟨q, by omega, b, e⟩ z⟩
      · have f3 := f2 c1
        by_cases c2 : x = d 10 k - 97
        · rw [if_pos c2] at f3
          exact ⟨fun _ => f3, fun z => absurd ⟨k, by omega, by omega, by omega⟩ z⟩
        · rw [if_neg c2] at f3
          refine ⟨fun z => ?_, fun _ => f3⟩
          obtain ⟨q, a, b, e⟩ := z
          by_cases e5 : q = k
          · rw [e5] at e; omega
          · exact absurd ⟨q, by omega, b, e⟩ c1
