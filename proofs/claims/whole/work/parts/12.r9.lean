/-! pairs, keys -/
/-- how many pairs MEET by a set of KEYS -/
def pb (d : St) (q : Int) : Int := S (fun s => if an32 s q = 0 then 0 else tl d s) 64
theorem pb_in {d : St} (hd : DI d) (q : Int) {n : Int} (h : 0 ≤ n) : 0 ≤ S (fun s => if an32 s q = 0 then 0 else tl d s) n ∧ S (fun s => if an32 s q = 0 then 0 else tl d s) n ≤ 1296 * n := by
  constructor
  · have := S_ge (f := fun s => if an32 s q = 0 then 0 else tl d s) (n := n) (lo := 0) (fun i _ _ => by have := tl_r hd i; show 0 ≤ (if an32 i q = 0 then 0 else tl d i); split <;> omega) h
    omega
  · exact S_le (f := fun s => if an32 s q = 0 then 0 else tl d s) (n := n) (hi := 1296) (fun i _ _ => by have := tl_r hd i; show (if an32 i q = 0 then 0 else tl d i) ≤ 1296; split <;> omega) h
theorem pb_r {d : St} (hd : DI d) (q : Int) : 0 ≤ pb d q ∧ pb d q ≤ 82944 := by
  have := pb_in hd q (n := 64) (by omega)
  unfold pb; omega
theorem x_pairsBy_e (N : Nat) (hN : 100 < N) {d σ : St} (hd : DI d) (h39 : ∀ t, 0 ≤ t → t < 64 → σ 39 t = tl d t) {q : Int} (hq : 0 ≤ q ∧ q < 64) : x_Keys_pairsBy N q σ = some (pb d q, σ) := by
  unfold x_Keys_pairsBy
  refine lq2 (Out := fun x => x = some (pb d q, σ)) (Inv := fun v i s => s = σ ∧ 0 ≤ i ∧ i ≤ 64 ∧ v = S (fun s => if an32 s q = 0 then 0 else tl d s) i) (fun _ i _ => 64 - i) ?_ ?_ N 0 0 σ ⟨rfl, by omega, by omega, rfl⟩ (by omega)
  · rintro k v i s ⟨rfl, h0, h1, rfl⟩
    unfold x_Keys_pairsBy_4 x_Keys_pairsBy_25
    by_cases c : 63 < i
    · left; rw [if_pos ((lt32_i (by omega) (by omega) (by omega) (by omega)).mpr c), show i = 64 by omega]; rfl
    · right
      have ha := an_r h0 (by omega) hq.1 hq.2
      refine ⟨_, i + 1, s, ?_, ⟨rfl, by omega, by omega, rfl⟩, by omega⟩
      rw [if_neg (fun z => c ((lt32_i (by omega) (by omega) (by omega) (by omega)).mp z)), gd_k (by omega), S_s _ h0]
      by_cases c2 : an32 i q = 0
      · rw [if_pos ((eq32_i (by omega) (by omega) (by omega) (by omega)).mpr c2), if_pos c2, Int.add_zero]
      · rw [if_neg (fun z => c2 ((eq32_i (by omega) (by omega) (by omega) (by omega)).mp z)), if_neg c2, h39 i h0 (by omega)]
  · rintro v i s ⟨-, h0, h1, -⟩; omega
theorem m_pairsOf_e (N : Nat) (hN : 100 < N) {d σ : St} (hd : DI d) (h31 : ∀ t, 0 ≤ t → t < 64 → σ 31 t = tl d t) {q : Int} (hq : 0 ≤ q ∧ q < 64) : m_pairsOf N q σ = some (pb d q, σ) := by
  unfold m_pairsOf
  refine lq2 (Out := fun x => x = some (pb d q, σ)) (Inv := fun v i s => s = σ ∧ 0 ≤ i ∧ i ≤ 64 ∧ v = S (fun s => if an32 s q = 0 then 0 else tl d s) i) (fun _ i _ => 64 - i) ?_ ?_ N 0 0 σ ⟨rfl, by omega, by omega, rfl⟩ (by omega)
  · rintro k v i s ⟨rfl, h0, h1, rfl⟩
    unfold m_pairsOf_4 m_pairsOf_27
    by_cases c : 64 ≤ i
    · left; rw [if_pos ((le32_i (by omega) (by omega) (by omega) (by omega)).mpr c), show i = 64 by omega]; rfl
    · right
      have ha := an_r h0 (by omega) hq.1 hq.2
      refine ⟨_, i + 1, s, ?_, ⟨rfl, by omega, by omega, rfl⟩, by omega⟩
      rw [if_neg (fun z => c ((le32_i (by omega) (by omega) (by omega) (by omega)).mp z)), gd_k (by omega), S_s _ h0]
      by_cases c2 : an32 i q = 0
      · rw [if_pos ((eq32_i (by omega) (by omega) (by omega) (by omega)).mpr c2), if_pos c2]
      · rw [if_neg (fun z => c2 ((eq32_i (by omega) (by omega) (by omega) (by omega)).mp z)), if_neg c2, h31 i h0 (by omega)]
  · rintro v i s ⟨-, h0, h1, -⟩; omega
theorem x_pairs_e (N : Nat) (hN : 100 < N) {d σ : St} (hx : RX d σ) (hd : DI d) {q : Int} (hq : i32 q) : ∃ σ', x_pairs N q σ = some (if 0 ≤ q ∧ q ≤ 63 then pb d q else -2, σ') ∧ RX d σ' := by
  unfold x_pairs
  rw [x_isWithin_e N σ hq.1 hq.2 (by omega) (by omega) (by omega) (by omega), bd_k]
  simp only [b01_0, itn]
  by_cases c : 0 ≤ q ∧ q ≤ 63
  · obtain ⟨σ', e1, e2, e3⟩ := x_tally_e N hN hx hd
    rw [if_pos c, if_pos c, e1, bd_k, x_pairsBy_e N hN hd e3 ⟨c.1, by omega⟩, bd_k]
    exact ⟨σ', rfl, e2⟩
  · rw [if_neg c, if_neg c]; exact ⟨σ, rfl, hx⟩
theorem sim_pairs {N : Nat} (hN : 100 < N) {σx σm : St} (h : RR σx σm) : ∀ a : Int, i32 a → OKp RR (x_pairs N a σx) (m_pairs N a σm) := by
  obtain ⟨d, hx, hm, hd⟩ := h
  intro a ha
  obtain ⟨σ', e1, e2⟩ := x_pairs_e N hN hx hd ha
  unfold m_pairs
  rw [e1, m_in_e N σm ha.1 ha.2 (by omega) (by omega) (by omega) (by omega), bd_k]
  simp only [b01_0, itn]
  by_cases c : 0 ≤ a ∧ a ≤ 63
  · obtain ⟨σ2, g1, g2, g3⟩ := m_counts_e N hN hm hd
    rw [if_pos c, if_pos c, g1, bd_k, m_pairsOf_e N hN hd g3.1 ⟨c.1, by omega⟩, bd_k]
    exact ⟨_, _, _, rfl, rfl, d, e2, g2, hd⟩
  · rw [if_neg c, if_neg c]
    exact ⟨_, _, _, rfl, rfl, d, e2, hm, hd⟩
/-- sets that must be met and are not by q, among the n first -/
def mf (d : St) (q s : Int) : Int := if dm d s (d 0 37) ≠ 0 ∧ an32 s q = 0 then 1 else 0
theorem mf_r (d : St) (q s : Int) : 0 ≤ mf d q s ∧ mf d q s ≤ 1 := by unfold mf; split <;> omega
abbrev ms (d : St) (q : Int) : Prop := S (mf d q) 64 = 0
theorem x_missNone_e (N : Nat) (hN : 100 < N) {d σ : St} (hd : DI d) (h40 : ∀ t, 0 ≤ t → t < 64 → σ 40 t = dm d t (d 0 37)) {q : Int} (hq : 0 ≤ q ∧ q < 64) : x_Keys_missNone N q σ = some (b01 (ms d q), σ) := by
  have hC := hd.chk
  unfold x_Keys_missNone
  refine lq1 (Out := fun x => x = some (b01 (ms d q), σ)) (Inv := fun i s => s = σ ∧ 0 ≤ i ∧ i ≤ 64 ∧ S (mf d q) i = 0) (fun i _ => 64 - i) ?_ ?_ N 0 σ ⟨rfl, by omega, by omega, rfl⟩ (by omega)
  · rintro k i s ⟨rfl, h0, h1, h2⟩
    unfold x_Keys_missNone_2 x_Keys_missNone_25
    by_cases c : 63 < i
    · left; rw [if_pos ((lt32_i (by omega) (by omega) (by omega) (by omega)).mpr c), b01_t (show ms d q by rw [show i = 64 by omega] at h2; exact h2)]
    · have ha := an_r h0 (by omega) hq.1 hq.2
      have hdm := dm_r d i hC.1
      have step : ¬ (dm d i (d 0 37) ≠ 0 ∧ an32 i q = 0) → ∃ a' σ', k (i + 1) s = k a' σ' ∧ (σ' = s ∧ 0 ≤ a' ∧ a' ≤ 64 ∧ S (mf d q) a' = 0) ∧ 64 - a' < 64 - i := fun hn => ⟨i + 1, s, rfl, ⟨rfl, by omega, by omega, by rw [S_s _ h0, h2, show mf d q i = 0 from if_neg hn]; rfl⟩, by omega⟩
      rw [if_neg (fun z => c ((lt32_i (by omega) (by omega) (by omega) (by omega)).mp z)), gd_k (by omega), h40 i h0 (by omega)]
      by_cases c1 : dm d i (d 0 37) = 0
      · right; rw [if_pos ((eq32_i (by omega) (by omega) (by omega) (by omega)).mpr c1)]; exact step (fun z => z.1 c1)
      rw [if_neg (fun z => c1 ((eq32_i (by omega) (by omega) (by omega) (by omega)).mp z))]
      by_cases c2 : an32 i q = 0
      · left
        rw [if_pos ((eq32_i (by omega) (by omega) (by omega) (by omega)).mpr c2)]
        have := S_pos (f := mf d q) (n := 64) (j := i) (fun j _ _ => (mf_r d q j).1) h0 (by omega)
        rw [show mf d q i = 1 from if_pos ⟨c1, c2⟩] at this
        rw [b01_f (fun z : ms d q => by have z : S (mf d q) 64 = 0 := z; omega)]
      · right; rw [if_neg (fun z => c2 ((eq32_i (by omega) (by omega) (by omega) (by omega)).mp z))]; exact step (fun z => c2 z.2)
  · rintro i s ⟨-, h0, h1, -⟩; omega
theorem m_missesNone_e (N : Nat) (hN : 100 < N) {d σ : St} (hd : DI d) (h40 : ∀ t, 0 ≤ t → t < 64 → σ 32 t = dm d t (d 0 37)) {q : Int} (hq : 0 ≤ q ∧ q < 64) : m_missesNone N q σ = some (b01 (ms d q), σ) := by
  have hC := hd.chk
  unfold m_missesNone
  refine lq1 (Out := fun x => x = some (b01 (ms d q), σ)) (Inv := fun i s => s = σ ∧ 0 ≤ i ∧ i ≤ 64 ∧ S (mf d q) i = 0) (fun i _ => 64 - i) ?_ ?_ N 0 σ ⟨rfl, by omega, by omega, rfl⟩ (by omega)
  · rintro k i s ⟨rfl, h0, h1, h2⟩
    unfold m_missesNone_2 m_missesNone_25
    by_cases c : 64 ≤ i
    · left; rw [if_pos ((le32_i (by omega) (by omega) (by omega) (by omega)).mpr c), b01_t (show ms d q by rw [show i = 64 by omega] at h2; exact h2)]
    · have ha := an_r h0 (by omega) hq.1 hq.2
      have hdm := dm_r d i hC.1
      have step : ¬ (dm d i (d 0 37) ≠ 0 ∧ an32 i q = 0) → ∃ a' σ', k (i + 1) s = k a' σ' ∧ (σ' = s ∧ 0 ≤ a' ∧ a' ≤ 64 ∧ S (mf d q) a' = 0) ∧ 64 - a' < 64 - i := fun hn => ⟨i + 1, s, rfl, ⟨rfl, by omega, by omega, by rw [S_s _ h0, h2, show mf d q i = 0 from if_neg hn]; rfl⟩, by omega⟩
      rw [if_neg (fun z => c ((le32_i (by omega) (by omega) (by omega) (by omega)).mp z)), gd_k (by omega), h40 i h0 (by omega)]
      by_cases c1 : dm d i (d 0 37) = 0
      · right; rw [if_pos ((eq32_i (by omega) (by omega) (by omega) (by omega)).mpr c1)]; exact step (fun z => z.1 c1)
      rw [if_neg (fun z => c1 ((eq32_i (by omega) (by omega) (by omega) (by omega)).mp z))]
      by_cases c2 : an32 i q = 0
      · left
        rw [if_pos ((eq32_i (by omega) (by omega) (by omega) (by omega)).mpr c2)]
        have := S_pos (f := mf d q) (n := 64) (j := i) (fun j _ _ => (mf_r d q j).1) h0 (by omega)
        rw [show mf d q i = 1 from if_pos ⟨c1, c2⟩] at this
        rw [b01_f (fun z : ms d q => by have z : S (mf d q) 64 = 0 := z; omega)]
      · right; rw [if_neg (fun z => c2 ((eq32_i (by omega) (by omega) (by omega) (by omega)).mp z))]; exact step (fun z => c2 z.2)
  · rintro i s ⟨-, h0, h1, -⟩; omega
/-- bits of a set -/
def pc (v : Int) : Int := S (fun k => an32 (sr32 v k) 1) 6
theorem pc_f : ∀ n : Fin 64, (j_Integer_bitCount 0 (n.val : Int) (fun _ _ => 0)).map Prod.fst = some (pc n.val) ∧ 0 ≤ pc n.val ∧ pc n.val ≤ 6 := by decide +kernel
theorem pc_r {v : Int} (h : 0 ≤ v ∧ v < 64) : 0 ≤ pc v ∧ pc v ≤ 6 := by
  obtain ⟨n, rfl⟩ := Int.eq_ofNat_of_zero_le h.1
  exact (pc_f ⟨n, by omega⟩).2
theorem bitCount_e (N : Nat) {v : Int} (s : St) (h : 0 ≤ v ∧ v < 64) : j_Integer_bitCount N v s = some (pc v, s) := by
  obtain ⟨n, rfl⟩ := Int.eq_ofNat_of_zero_le h.1
  have e := (pc_f ⟨n, by omega⟩).1
  unfold j_Integer_bitCount at e ⊢
  injection e with e
  rw [← e]
theorem m_ones_e (N : Nat) (hN : 100 < N) {v : Int} (s : St) : m_ones N v s = some (pc v, s) := by
  unfold m_ones
  refine lq2 (Out := fun x => x = some (pc v, s)) (Inv := fun u i s' => s' = s ∧ 0 ≤ i ∧ i ≤ 6 ∧ u = S (fun k => an32 (sr32 v k) 1) i) (fun _ i _ => 6 - i) ?_ ?_ N 0 0 s ⟨rfl, by omega, by omega, rfl⟩ (by omega)
  · rintro k u i s' ⟨rfl, h0, h1, rfl⟩
    unfold m_ones_4
    by_cases c : 6 ≤ i
    · left; rw [if_pos ((le32_i (by omega) (by omega) (by omega) (by omega)).mpr c), show i = 6 by omega]; rfl
    · right
      exact ⟨_, i + 1, s', by rw [if_neg (fun z => c ((le32_i (by omega) (by omega) (by omega) (by omega)).mp z))], ⟨rfl, by omega, by omega, by rw [S_s _ h0]⟩, by omega⟩
  · rintro u i s' ⟨-, h0, h1, -⟩; omega
/-- is k better than b -/
abbrev bt (d : St) (k b : Int) : Prop := 0 < pb d b - pb d k ∨ (pb d b - pb d k = 0 ∧ pc k < pc b)
/-- the best of the n first sets of KEYS -/
def bs (d : St) : Nat → Int
  | 0 => -1
  | n + 1 => if ms d n ∧ (bs d n = -1 ∨ bt d n (bs d n)) then n else bs d n
theorem bs_r (d : St) (n : Nat) : -1 ≤ bs d n ∧ bs d n < n := by
  induction n with
  | zero => show -1 ≤ (-1 : Int) ∧ (-1 : Int) < ((0 : Nat) : Int); omega
  | succ n ih => rw [bs]; split <;> omega
theorem x_isBetter_e (N : Nat) (hN : 100 < N) {d σ : St} (hd : DI d) (hk : KX d σ) {q b : Int} (hq : 0 ≤ q ∧ q < 64) (hb : 0 ≤ b ∧ b < 64) : x_Keys_isBetter N q b σ = some (b01 (bt d q b), σ) := by
  have p1 := pb_r hd q
  have p2 := pb_r hd b
  have c1 := pc_r hq
  have c2 := pc_r hb
  unfold x_Keys_isBetter
  rw [x_pairsBy_e N hN hd hk.1 hb, bd_k, x_pairsBy_e N hN hd hk.1 hq, bd_k, bitCount_e N σ hq, bd_k, bitCount_e N σ hb, bd_k]
  simp (disch := omega) only [eq32_i, le32_i]
  by_cases e : pb d b - pb d q = 0
  · rw [if_pos e]
    by_cases e2 : pc b ≤ pc q
    · rw [if_pos e2, b01_f (by omega)]
    · rw [if_neg e2, b01_t (by omega)]
  · rw [if_neg e]
    by_cases e2 : pb d b - pb d q ≤ 0
    · rw [if_pos e2, b01_f (by omega)]
    · rw [if_neg e2, b01_t (by omega)]
theorem x_best_e (N : Nat) (hN : 100 < N) {d σ : St} (hd : DI d) (hk : KX d σ) : x_Keys_best N σ = some (bs d 64, σ) := by
  unfold x_Keys_best
  refine lq2 (Out := fun x => x = some (bs d 64, σ)) (Inv := fun u i s' => s' = σ ∧ ∃ n : Nat, i = n ∧ n ≤ 64 ∧ u = bs d n) (fun _ i _ => 64 - i) ?_ ?_ N (-1) 0 σ ⟨rfl, 0, rfl, by omega, rfl⟩ (by omega)
  · rintro k u i s ⟨rfl, n, rfl, hn, rfl⟩
    have hr := bs_r d n
    unfold x_Keys_best_4 x_Keys_best_32 x_Keys_best_34
    by_cases c : n = 64
    · left; rw [if_pos ((lt32_i (by omega) (by omega) (by omega) (by omega)).mpr (by omega)), c]
    · right
      have en : (n : Int) + 1 = ((n + 1 : Nat) : Int) := by omega
      refine ⟨bs d (n + 1), (n : Int) + 1, s, ?_, ⟨rfl, n + 1, en, by omega, rfl⟩, by omega⟩
      rw [if_neg (fun z => by rw [lt32_i (by omega) (by omega) (by omega) (by omega)] at z; omega), x_missNone_e N hN hd hk.2 (by omega), bd_k, bs]
      simp only [b01_0, itn]
      by_cases c1 : ms d n
      · rw [if_pos c1]
        by_cases c2 : bs d n = -1
        · rw [if_pos ((eq32_i (by omega) (by omega) (by omega) (by omega)).mpr c2), if_pos ⟨c1, Or.inl c2⟩]
        · rw [if_neg (fun z => c2 ((eq32_i (by omega) (by omega) (by omega) (by omega)).mp z)), x_isBetter_e N hN hd hk (by omega) (by omega), bd_k]
          simp only [b01_0, itn]
          by_cases c3 : bt d n (bs d n)
          · rw [if_pos c3, if_pos ⟨c1, Or.inr c3⟩]
          · rw [if_neg c3, if_neg (fun z => z.2.elim c2 c3)]
      · rw [if_neg c1, if_neg (fun z => c1 z.1)]
  · rintro u i s' ⟨-, n, rfl, hn, -⟩; omega
theorem m_best_e (N : Nat) (hN : 100 < N) {d σ : St} (hd : DI d) (hk : KM d σ) : itr (m_keys_8 N) (fun _ _ _ => none) N (-1) 0 σ = some (bs d 64, σ) := by
  refine lq2 (Out := fun x => x = some (bs d 64, σ)) (Inv := fun u i s' => s' = σ ∧ ∃ n : Nat, i = n ∧ n ≤ 64 ∧ u = bs d n) (fun _ i _ => 64 - i) ?_ ?_ N (-1) 0 σ ⟨rfl, 0, rfl, by omega, rfl⟩ (by omega)
  · rintro k u i s ⟨rfl, n, rfl, hn, rfl⟩
    have hr := bs_r d n
    unfold m_keys_8
    by_cases c : n = 64
    · left; rw [if_pos ((le32_i (by omega) (by omega) (by omega) (by omega)).mpr (by omega)), c]
    · right
      have en : (n : Int) + 1 = ((n + 1 : Nat) : Int) := by omega
      refine ⟨bs d (n + 1), (n : Int) + 1, s, ?_, ⟨rfl, n + 1, en, by omega, rfl⟩, by omega⟩
      rw [if_neg (fun z => by rw [le32_i (by omega) (by omega) (by omega) (by omega)] at z; omega), m_missesNone_e N hN hd hk.2 (by omega), bd_k, bs]
      simp only [b01_0, itn]
      have e60 : ∀ t, -100000 ≤ t → t < 100000 → m_keys_60 N k (bs d n) n t s = k (if 0 < t then (n : Int) else bs d n) (n + 1) s := by
        intro t t0 t1
        unfold m_keys_60 m_keys_70 m_keys_71
        by_cases c4 : t ≤ 0
        · rw [if_pos ((le32_i (by omega) (by omega) (by omega) (by omega)).mpr c4), if_neg (by omega)]
        · rw [if_neg (fun z => c4 ((le32_i (by omega) (by omega) (by omega) (by omega)).mp z)), if_pos (by omega)]
      by_cases c1 : ms d n
      · rw [if_pos c1]
        unfold m_keys_42
        by_cases c2 : bs d n = -1
        · rw [if_pos ((eq32_i (by omega) (by omega) (by omega) (by omega)).mpr c2), if_neg (show ¬ eq32 1 0 by decide), e60 1 (by omega) (by omega), if_pos (show (0 : Int) < 1 by omega), if_pos (show ms d n ∧ (bs d n = -1 ∨ bt d n (bs d n)) from ⟨c1, Or.inl c2⟩)]
        · have p1 := pb_r hd n
          have p2 := pb_r hd (bs d n)
          have q1 := pc_r (v := n) (by omega)
          have q2 := pc_r (v := bs d n) (by omega)
          rw [if_neg (fun z => c2 ((eq32_i (by omega) (by omega) (by omega) (by omega)).mp z)), m_pairsOf_e N hN hd hk.1 (by omega), bd_k, m_pairsOf_e N hN hd hk.1 (by omega), bd_k, m_ones_e N hN, bd_k, m_ones_e N hN, bd_k, e60 _ (by omega) (by omega), e60 _ (by omega) (by omega)]
          by_cases c3 : pb d (bs d n) - pb d n = 0
          · rw [if_pos ((eq32_i (by omega) (by omega) (by omega) (by omega)).mpr c3)]
            by_cases c4 : 0 < pc (bs d n) - pc n
            · rw [if_pos c4, if_pos ⟨c1, Or.inr (Or.inr ⟨c3, by omega⟩)⟩]
            · rw [if_neg c4, if_neg (fun z => by rcases z.2 with z | z | z <;> omega)]
          · rw [if_neg (fun z => c3 ((eq32_i (by omega) (by omega) (by omega) (by omega)).mp z))]
            by_cases c4 : 0 < pb d (bs d n) - pb d n
            · rw [if_pos c4, if_pos ⟨c1, Or.inr (Or.inl c4)⟩]
            · rw [if_neg c4, if_neg (fun z => by rcases z.2 with z | z | z <;> omega)]
      · unfold m_keys_71
        rw [if_neg c1, if_neg (fun z => c1 z.1)]
  · rintro u i s' ⟨-, n, rfl, hn, -⟩; omega
theorem sim_keys {N : Nat} (hN : 100 < N) {σx σm : St} (h : RR σx σm) : OKp RR (x_keys N σx) (m_keys N σm) := by
  obtain ⟨d, hx, hm, hd⟩ := h
  obtain ⟨s1, e1, e2, e3⟩ := x_tally_e N hN hx hd
  obtain ⟨s2, f1, f2, f3⟩ := x_demand_e N hN e2 hd e3
  obtain ⟨s3, g1, g2, g3⟩ := m_counts_e N hN hm hd
  unfold x_keys m_keys
  rw [e1, bd_k, f1, bd_k, x_best_e N hN hd f3, bd_k, g1, bd_k, m_best_e N hN hd g3]
  exact ⟨_, _, _, rfl, rfl, d, f2, g2, hd⟩
