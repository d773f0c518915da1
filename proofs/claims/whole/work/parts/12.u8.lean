/-! the first states; all sims -/
theorem i_Weights_e (N : Nat) (hN : 100 < N) : ∃ s', i_Weights N z0_Weights = some (0, s') ∧ s' 0 = z0_Weights 0 ∧ (∀ i, 0 ≤ i → i < 64 → s' 1 i = 50) ∧ ∀ r k, 0 ≤ r → r < 4 → 0 ≤ k → k < 4 → s' 2 (r * 4 + k) = fpt1 k ∧ s' 3 (r * 4 + k) = fpt2 k ∧ s' 4 (r * 4 + k) = fpt3 k := by
  unfold i_Weights
  rw [fill_e N 1 64 50 _ (by omega) (by omega), bd_k]
  refine lq1 (Out := fun z => ∃ s', z = some (0, s') ∧ s' 0 = z0_Weights 0 ∧ (∀ i, 0 ≤ i → i < 64 → s' 1 i = 50) ∧ ∀ r k, 0 ≤ r → r < 4 → 0 ≤ k → k < 4 → s' 2 (r * 4 + k) = fpt1 k ∧ s' 3 (r * 4 + k) = fpt2 k ∧ s' 4 (r * 4 + k) = fpt3 k) (Inv := fun x s => s 0 = z0_Weights 0 ∧ (∀ i, 0 ≤ i → i < 64 → s 1 i = 50) ∧ 0 ≤ x ∧ x ≤ 4 ∧ ∀ r k, 0 ≤ r → r < x → 0 ≤ k → k < 4 → s 2 (r * 4 + k) = fpt1 k ∧ s 3 (r * 4 + k) = fpt2 k ∧ s 4 (r * 4 + k) = fpt3 k) (fun x _ => 4 - x) ?_ ?_ N 0 _ ⟨zg_k _ _ _ _ (by decide), fun i i0 i1 => by rw [zg_r, if_pos (by omega)], by omega, by omega, fun r k _ _ => by omega⟩ (by omega)
  · rintro k x s ⟨g0, g1, x0, x1, g2⟩
    unfold i_Weights_53
    by_cases c : 4 ≤ x
    · left
      rw [if_pos ((le32_i (by omega) (by omega) (by omega) (by omega)).mpr c)]
      exact ⟨s, rfl, g0, g1, fun r k r0 r1 => g2 r k r0 (by omega)⟩
    · right
      rw [if_neg (fun z => c ((le32_i (by omega) (by omega) (by omega) (by omega)).mp z))]
      refine lq1 (Out := fun z => ∃ a' s', z = k a' s' ∧ (s' 0 = z0_Weights 0 ∧ (∀ i, 0 ≤ i → i < 64 → s' 1 i = 50) ∧ 0 ≤ a' ∧ a' ≤ 4 ∧ ∀ r k, 0 ≤ r → r < a' → 0 ≤ k → k < 4 → s' 2 (r * 4 + k) = fpt1 k ∧ s' 3 (r * 4 + k) = fpt2 k ∧ s' 4 (r * 4 + k) = fpt3 k) ∧ 4 - a' < 4 - x) (Inv := fun y s => s 0 = z0_Weights 0 ∧ (∀ i, 0 ≤ i → i < 64 → s 1 i = 50) ∧ 0 ≤ y ∧ y ≤ 4 ∧ ∀ r k, 0 ≤ r → 0 ≤ k → k < 4 → (r < x ∨ (r = x ∧ k < y)) → s 2 (r * 4 + k) = fpt1 k ∧ s 3 (r * 4 + k) = fpt2 k ∧ s 4 (r * 4 + k) = fpt3 k) (fun y _ => 4 - y) ?_ ?_ N 0 s ⟨g0, g1, by omega, by omega, fun r k r0 k0 k1 h => g2 r k r0 (by omega) k0 k1⟩ (by omega)
      · rintro kk y s ⟨g0, g1, y0, y1, g2⟩
        unfold i_Weights_60
        by_cases c2 : 4 ≤ y
        · left
          rw [if_pos ((le32_i (by omega) (by omega) (by omega) (by omega)).mpr c2)]
          exact ⟨_, s, rfl, ⟨g0, g1, by omega, by omega, fun r k r0 r1 k0 k1 => g2 r k r0 k0 k1 (by omega)⟩, by omega⟩
        · right
          rw [if_neg (fun z => c2 ((le32_i (by omega) (by omega) (by omega) (by omega)).mp z)), gd_k (by omega), gd_k (by omega), gd_k (by omega), gd_k (by omega), gd_k (by omega), gd_k (by omega)]
          refine ⟨_, _, rfl, ⟨by rw [su_k _ _ _ (by decide), su_k _ _ _ (by decide), su_k _ _ _ (by decide)]; exact g0, by rw [su_k _ _ _ (by decide), su_k _ _ _ (by decide), su_k _ _ _ (by decide)]; exact g1, by omega, by omega, fun r k r0 k0 k1 h => ?_⟩, by omega⟩
          simp (disch := decide) only [su_k, su_r]
          by_cases e : r = x ∧ k = y
          · rw [if_pos (by omega), if_pos (by omega), if_pos (by omega), e.2]; exact ⟨rfl, rfl, rfl⟩
          · rw [if_neg (by omega), if_neg (by omega), if_neg (by omega)]; exact g2 r k r0 k0 k1 (by omega)
      · rintro y s ⟨-, -, y0, y1, -⟩; omega
  · rintro x s ⟨-, -, x0, x1, -⟩; omega
theorem i_M_320_e (N : Nat) (k313 : Int → St → MM) (v1 : Int) (k : Int → St → MM) (v2 : Int) (s : St) (h1 : 0 ≤ v1 ∧ v1 < 4) (h2 : 0 ≤ v2 ∧ v2 < 4) : i_M_320 N k313 v1 k v2 s = k (v2 + 1) (su (su (su s 15 (4 * v1 + v2) (fpt1 v2)) 16 (4 * v1 + v2) (fpt3 v2)) 16 (16 + 4 * v1 + v2) (fpt2 v2)) := by
  have h : v2 = 0 ∨ v2 = 1 ∨ v2 = 2 ∨ v2 = 3 := by omega
  unfold i_M_320
  rcases h with rfl | rfl | rfl | rfl
  · rw [if_neg (show ¬ le32 4 0 by decide), if_neg (show ¬ eq32 0 3 by decide), i_M_351, gd_k (by omega), if_pos (show eq32 0 0 by decide), i_M_394, gd_k (by omega), if_pos (show eq32 0 0 by decide), i_M_440, gd_k (by omega)]
    rfl
  · rw [if_neg (show ¬ le32 4 1 by decide), if_neg (show ¬ eq32 1 3 by decide), i_M_351, gd_k (by omega), if_neg (show ¬ eq32 1 0 by decide), if_pos (show eq32 1 1 by decide), i_M_394, gd_k (by omega), if_neg (show ¬ eq32 1 0 by decide), if_pos (show eq32 1 1 by decide), i_M_440, gd_k (by omega)]
    rfl
  · rw [if_neg (show ¬ le32 4 2 by decide), if_neg (show ¬ eq32 2 3 by decide), i_M_351, gd_k (by omega), if_neg (show ¬ eq32 2 0 by decide), if_neg (show ¬ eq32 2 1 by decide), if_pos (show eq32 2 2 by decide), i_M_394, gd_k (by omega), if_neg (show ¬ eq32 2 0 by decide), if_neg (show ¬ eq32 2 1 by decide), if_pos (show eq32 2 2 by decide), i_M_440, gd_k (by omega)]
    rfl
  · rw [if_neg (show ¬ le32 4 3 by decide), if_pos (show eq32 3 3 by decide), i_M_351, gd_k (by omega), if_neg (show ¬ eq32 3 0 by decide), if_neg (show ¬ eq32 3 1 by decide), if_neg (show ¬ eq32 3 2 by decide), i_M_394, gd_k (by omega), if_neg (show ¬ eq32 3 0 by decide), if_neg (show ¬ eq32 3 1 by decide), if_neg (show ¬ eq32 3 2 by decide), i_M_440, gd_k (by omega)]
    rfl
/-- the points and chances of the reference's first state, rows below r, and of r those below k -/
def fp (s : St) (r k : Int) : Prop := ∀ a b, 0 ≤ a → a < 4 → 0 ≤ b → b < 4 → (a < r ∨ (a = r ∧ b < k)) → s 15 (4 * a + b) = fpt1 b ∧ s 16 (4 * a + b) = fpt3 b ∧ s 16 (16 + 4 * a + b) = fpt2 b
theorem i_M_e (N : Nat) (hN : 100 < N) : ∃ s', i_M N z0_M = some (0, s') ∧ (∀ k, k ≠ 9 → k ≠ 15 → k ≠ 16 → s' k = z0_M k) ∧ fp s' 4 0 ∧ ∀ i, 0 ≤ i → i < 64 → s' 9 i = if i / 8 = i % 8 then 0 else 50 := by
  unfold i_M
  refine lq1 (Out := fun z => ∃ s', z = some (0, s') ∧ (∀ k, k ≠ 9 → k ≠ 15 → k ≠ 16 → s' k = z0_M k) ∧ fp s' 4 0 ∧ ∀ i, 0 ≤ i → i < 64 → s' 9 i = if i / 8 = i % 8 then 0 else 50) (Inv := fun x s => (∀ k, k ≠ 9 → k ≠ 15 → k ≠ 16 → s k = z0_M k) ∧ 0 ≤ x ∧ x ≤ 4 ∧ fp s x 0) (fun x _ => 4 - x) ?_ ?_ N 0 _ ⟨fun _ _ _ _ => rfl, by omega, by omega, fun a b _ _ _ _ h => by omega⟩ (by omega)
  · rintro k x s ⟨g0, x0, x1, g2⟩
    unfold i_M_313
    by_cases c : 4 ≤ x
    · left
      have ex : x = 4 := by omega
      subst ex
      rw [if_pos ((le32_i (by omega) (by omega) (by omega) (by omega)).mpr c)]
      refine lq1 (Out := fun z => ∃ s', z = some (0, s') ∧ (∀ k, k ≠ 9 → k ≠ 15 → k ≠ 16 → s' k = z0_M k) ∧ fp s' 4 0 ∧ ∀ i, 0 ≤ i → i < 64 → s' 9 i = if i / 8 = i % 8 then 0 else 50) (Inv := fun x s => (∀ k, k ≠ 9 → k ≠ 15 → k ≠ 16 → s k = z0_M k) ∧ 0 ≤ x ∧ x ≤ 64 ∧ fp s 4 0 ∧ ∀ i, 0 ≤ i → i < x → s 9 i = if i / 8 = i % 8 then 0 else 50) (fun x _ => 64 - x) ?_ ?_ N 0 s ⟨g0, by omega, by omega, g2, fun i _ _ => by omega⟩ (by omega)
      · rintro k x s ⟨g0, x0, x1, g2, g3⟩
        unfold i_M_455
        by_cases c : 64 ≤ x
        · left
          rw [if_pos ((le32_i (by omega) (by omega) (by omega) (by omega)).mpr c)]
          exact ⟨s, rfl, g0, g2, fun i i0 i1 => g3 i i0 (by omega)⟩
        · right
          rw [if_neg (fun z => c ((le32_i (by omega) (by omega) (by omega) (by omega)).mp z)), dv32_i (by omega) (by omega) (by omega) (by omega)]
          have key : ∀ v : Int, v = (if x / 8 = x % 8 then 0 else 50) → ∃ a' s', i_M_483 N k x v x s = k a' s' ∧ ((∀ k, k ≠ 9 → k ≠ 15 → k ≠ 16 → s' k = z0_M k) ∧ 0 ≤ a' ∧ a' ≤ 64 ∧ fp s' 4 0 ∧ ∀ i, 0 ≤ i → i < a' → s' 9 i = if i / 8 = i % 8 then 0 else 50) ∧ 64 - a' < 64 - x := by
            intro v hv
            unfold i_M_483
            rw [gd_k (by omega)]
            refine ⟨_, _, rfl, ⟨fun k h9 h15 h16 => by rw [su_k _ _ _ h9]; exact g0 k h9 h15 h16, by omega, by omega, fun a b a0 a1 b0 b1 h => by rw [su_k _ _ _ (by decide), su_k _ _ _ (by decide)]; exact g2 a b a0 a1 b0 b1 h, fun i i0 i1 => ?_⟩, by omega⟩
            rw [su_r]
            by_cases e : i = x
            · rw [if_pos e, e]; exact hv
            · rw [if_neg e]; exact g3 i i0 (by omega)
          by_cases e : x / 8 = x % 8
          · rw [if_pos ((eq32_i (by omega) (by omega) (by omega) (by omega)).mpr (by omega))]; exact key 0 (by rw [if_pos e])
          · rw [if_neg (fun z => by rw [eq32_i (by omega) (by omega) (by omega) (by omega)] at z; omega)]; exact key 50 (by rw [if_neg e])
      · rintro x s ⟨-, x0, x1, -⟩; omega
    · right
      rw [if_neg (fun z => c ((le32_i (by omega) (by omega) (by omega) (by omega)).mp z))]
      refine lq1 (Out := fun z => ∃ a' s', z = k a' s' ∧ ((∀ k, k ≠ 9 → k ≠ 15 → k ≠ 16 → s' k = z0_M k) ∧ 0 ≤ a' ∧ a' ≤ 4 ∧ fp s' a' 0) ∧ 4 - a' < 4 - x) (Inv := fun y s => (∀ k, k ≠ 9 → k ≠ 15 → k ≠ 16 → s k = z0_M k) ∧ 0 ≤ y ∧ y ≤ 4 ∧ fp s x y) (fun y _ => 4 - y) ?_ ?_ N 0 s ⟨g0, by omega, by omega, g2⟩ (by omega)
      · rintro kk y s ⟨g0, y0, y1, g2⟩
        by_cases c2 : 4 ≤ y
        · left
          unfold i_M_320
          rw [if_pos ((le32_i (by omega) (by omega) (by omega) (by omega)).mpr c2)]
          exact ⟨_, s, rfl, ⟨g0, by omega, by omega, fun a b a0 a1 b0 b1 h => g2 a b a0 a1 b0 b1 (by omega)⟩, by omega⟩
        · right
          rw [i_M_320_e N k x kk y s (by omega) (by omega)]
          refine ⟨_, _, rfl, ⟨fun k h9 h15 h16 => by rw [su_k _ _ _ h16, su_k _ _ _ h16, su_k _ _ _ h15]; exact g0 k h9 h15 h16, by omega, by omega, fun a b a0 a1 b0 b1 h => ?_⟩, by omega⟩
          by_cases e : a = x ∧ b = y
          · obtain ⟨rfl, rfl⟩ := e
            rw [su_k _ _ _ (by decide), su_k _ _ _ (by decide), su_e, su_n _ _ _ _ _ (by omega), su_e, su_e]
            exact ⟨rfl, rfl, rfl⟩
          · rw [su_k _ _ _ (by decide), su_k _ _ _ (by decide), su_n _ _ _ _ _ (by omega), su_n _ _ _ _ _ (by omega), su_n _ _ _ _ _ (by omega), su_n _ _ _ _ _ (by omega), su_n _ _ _ _ _ (by omega), su_k _ _ _ (by decide)]
            exact g2 a b a0 a1 b0 b1 (by omega)
      · rintro y s ⟨-, y0, y1, -⟩; omega
  · rintro x s ⟨-, x0, x1, -⟩; omega
theorem fpt_r (k : Int) : (-100 ≤ fpt1 k ∧ fpt1 k ≤ 100) ∧ (1 ≤ fpt2 k ∧ fpt2 k ≤ 1000) ∧ (1 ≤ fpt3 k ∧ fpt3 k ≤ 1000) := by
  unfold fpt1 fpt2 fpt3
  refine ⟨?_, ?_, ?_⟩ <;> (repeat' split) <;> omega
theorem z0M_k {k : Nat} (h : k ≠ 0) : z0_M k = zf := by
  unfold z0_M
  split <;> first | rfl | (exfalso; omega)
theorem first_RR {oSheets oSounds oWeights : Int × St} {s : St} (h1 : oSheets = (0, zg z0_Sheets 1 0 (4 : Nat) (fun _ => -1))) (h2 : oSounds = (0, zg z0_Sounds 2 0 (26 : Nat) (fun _ => -1))) (h3 : oWeights.2 0 = z0_Weights 0) (h4 : ∀ i, 0 ≤ i → i < 64 → oWeights.2 1 i = 50) (h5 : ∀ r k, 0 ≤ r → r < 4 → 0 ≤ k → k < 4 → oWeights.2 2 (r * 4 + k) = fpt1 k ∧ oWeights.2 3 (r * 4 + k) = fpt2 k ∧ oWeights.2 4 (r * 4 + k) = fpt3 k) (m1 : ∀ k, k ≠ 9 → k ≠ 15 → k ≠ 16 → s k = z0_M k) (m2 : fp s 4 0) (m3 : ∀ i, 0 ≤ i → i < 64 → s 9 i = if i / 8 = i % 8 then 0 else 50) : RR (z_O oSheets oSounds oWeights) s := by
  subst h1 h2
  have d0 : s 0 = z0_M 0 := m1 0 (by decide) (by decide) (by decide)
  have a0 : s 0 0 = 0 := by rw [d0]; rfl
  have a1 : s 0 1 = 0 := by rw [d0]; rfl
  have a10 : s 0 10 = -1 := by rw [d0]; rfl
  have a12 : s 0 12 = 0 := by rw [d0]; rfl
  have a15 : s 0 15 = 0 := by rw [d0]; rfl
  have a24 : s 0 24 = 30 := by rw [d0]; rfl
  have a37 : s 0 37 = 0 := by rw [d0]; rfl
  have a51 : s 0 51 = 0 := by rw [d0]; rfl
  have zk : ∀ k, k ≠ 0 → k ≠ 9 → k ≠ 15 → k ≠ 16 → ∀ j, s k j = 0 := fun k h0 h9 h15 h16 j => by rw [m1 k h9 h15 h16, z0M_k h0]; rfl
  have hft : ft s = 0 := by unfold ft; rw [a12]; rfl
  have hfg : ∀ c, fg s c = 0 := fun c => by unfold fg; rw [hft]; rfl
  have ix : ∀ i : Int, 0 ≤ i → i < 16 → 4 * (i / 4) + i % 4 = i := fun i _ _ => by omega
  have p15 : ∀ i, 0 ≤ i → i < 16 → s 15 i = fpt1 (i % 4) ∧ s 16 i = fpt3 (i % 4) ∧ s 16 (16 + i) = fpt2 (i % 4) := fun i i0 i1 => by
    have := m2 (i / 4) (i % 4) (by omega) (by omega) (by omega) (by omega) (by omega)
    rw [ix i i0 i1, show 16 + 4 * (i / 4) + i % 4 = 16 + i by omega] at this
    exact this
  refine ⟨s, ?_, ⟨fun _ _ => rfl, fun _ _ => rfl, Or.inl a15⟩, ?_⟩
  · unfold RX
    rw [a0, a1, a10, a12, a24, a37, a51, hft]
    refine ⟨⟨rfl, rfl, rfl, rfl, rfl, ?_, rfl, rfl⟩, fun r r0 r1 => by omega, fun r k r0 r1 => by omega, fun k k0 k1 => by omega, fun c c0 c1 => ?_, fun r r0 r1 => by omega, fun a b a0 a1 => by omega, fun a _ _ => rfl, fun a b a0 a1 b0 b1 hab => ?_, fun i i0 i1 => ?_, fun k k0 k1 => by omega, fun i i0 i1 => ?_, fun i k i0 i1 k0 k1 => ?_⟩
    · show oWeights.2 0 4 = 30
      rw [h3]; rfl
    · rw [hfg, if_pos rfl]
      show zg z0_Sounds 2 0 (26 : Nat) (fun _ => -1) 2 c = -1
      rw [zg_r, if_pos (by omega)]
    · show oWeights.2 1 (a * 8 + b) = _
      rw [h4 _ (by omega) (by omega), m3 _ (by omega) (by omega), if_neg (by omega)]
    · have := p15 i i0 i1
      have g := h5 (i / 4) (i % 4) (by omega) (by omega) (by omega) (by omega)
      rw [show i / 4 * 4 + i % 4 = i by omega] at g
      rw [this.1, this.2.1, this.2.2]
      exact g
    · rw [zk 33 (by decide) (by decide) (by decide) (by decide), zk 35 (by decide) (by decide) (by decide) (by decide), if_neg (by decide)]
      refine ⟨?_, ?_⟩
      · show zg z0_Sheets 1 0 (4 : Nat) (fun _ => -1) 1 i = -1
        rw [zg_r, if_pos (by omega)]
      · show zg z0_Sheets 1 0 (4 : Nat) (fun _ => -1) 2 i = 0
        rw [zg_k _ _ _ _ (by decide)]; rfl
    · rw [zk 35 (by decide) (by decide) (by decide) (by decide)] at k1; omega
  · unfold DI
    rw [a0, a1, a10, a12, a24, a37]
    refine ⟨by omega, by omega, by omega, by omega, by omega, by omega, fun r r0 r1 => by omega, fun r k r0 r1 => by omega, fun i i0 i1 => ?_, fun a b a0 a1 b0 b1 => ?_, fun k k0 k1 => by omega, fun i i0 i1 => ?_, fun i i0 i1 => ?_, fun k k0 k1 => by omega, fun i i0 i1 => ?_, fun i i0 i1 => ?_⟩
    · rw [m3 i i0 i1]; split <;> omega
    · rw [m3 _ (by omega) (by omega), m3 _ (by omega) (by omega)]
      by_cases e : a = b
      · rw [if_pos (by omega), if_pos (by omega)]
      · rw [if_neg (by omega), if_neg (by omega)]
    · rw [(p15 i i0 i1).1]; exact (fpt_r _).1
    · by_cases c : i < 16
      · rw [(p15 i i0 c).2.1]; exact (fpt_r _).2.2
      · have := (p15 (i - 16) (by omega) (by omega)).2.2
        rw [show 16 + (i - 16) = i by omega] at this
        rw [this]; exact (fpt_r _).2.1
    · rw [zk 33 (by decide) (by decide) (by decide) (by decide), zk 34 (by decide) (by decide) (by decide) (by decide), zk 35 (by decide) (by decide) (by decide) (by decide)]
      exact ⟨Or.inl rfl, by omega, by omega⟩
    · rw [zk 36 (by decide) (by decide) (by decide) (by decide)]; omega
theorem sim_all : Sim 5000 RR := by
  intro σx σm h
  have h1 : 100 < 5000 := by decide
  have h2 : 4999 < 5000 := by decide
  have h3 : 20 < 5000 := by decide
  exact ⟨sim_pass h, sim_row h1 h, sim_takeBack h, sim_about h, sim_letter h, sim_asOf h, sim_way h, sim_type h1 h, sim_wipe h1 h, sim_fault h1 h, sim_sound h1 h, sim_slips h3 h, sim_level h1 h, sim_points h, sim_score h1 h, sim_chance h, sim_odds h1 h, sim_belief h1 h, sim_line h, sim_links h1 h, sim_laid h2 h, sim_mate h2 h, sim_bundle h2 h, sim_bundles h2 h, sim_torn h2 h, sim_cut h2 h, sim_check h1 h, sim_checked h1 h, sim_bound h1 h, sim_learnt h1 h, sim_meet h1 h, sim_pairs h1 h, sim_keys h1 h, sim_sheet h1 h, sim_lose h, sim_put h, sim_get h, sim_copy h1 h, sim_write h1 h, sim_count h1 h, sim_digest h2 h⟩
theorem whole_walk {p : Program} {e : Env} {s : State} {m : MethodId} {below : List Frame} {meth : Method} {c : Code} (l : Launch) {b L : Nat} {xs : Nat → Int32} (hL : L ≤ 4096) (C0 : lw_At p s m meth c b L xs) : W p l e room_1 s m #[Value.ref b] below meth c s.heap [] 0 0 (lw_Z below #[Value.ref b] s) (entryFrame m ([Value.ref b] : List Value).toArray 4) := by
  obtain ⟨sw, w1, w2, w3, w4⟩ := i_Weights_e 5000 (by decide)
  obtain ⟨sm, q1, q2, q3, q4⟩ := i_M_e 5000 (by decide)
  have e1 : i_Sheets 5000 z0_Sheets = some (0, zg z0_Sheets 1 0 (4 : Nat) (fun _ => -1)) := by
    unfold i_Sheets
    rw [fill_e 5000 1 4 (-1) _ (by decide) (by decide), bd_k]
  have e2 : i_Sounds 5000 z0_Sounds = some (0, zg z0_Sounds 2 0 (26 : Nat) (fun _ => -1)) := by
    unfold i_Sounds
    rw [fill_e 5000 2 26 (-1) _ (by decide) (by decide), bd_k]
  exact law_start l hL C0 e1 e2 w1 q1 sim_all (first_RR rfl rfl w2 w3 w4 q2 q3 q4)
