/-! row -/
theorem row_QX {d σ τ : St} {n v1 v5 v6 v7 : Int} {g : Int → Int} (hx : RX d σ) (hd : DI d) (hR : d 0 1 < 36) (hn : 1 ≤ n ∧ n ≤ 10) (hk : ∀ k, k ≠ 15 → k ≠ 16 → τ k = xa σ (d 0 1) v1 v5 v6 v7 (d 0 0) k) (h15 : ∀ x, τ 15 x = if x = d 0 1 * 7 + 4 then n else xa σ (d 0 1) v1 v5 v6 v7 (d 0 0) 15 x) (h16 : ∀ x, τ 16 x = if d 0 1 * 10 ≤ x ∧ x < d 0 1 * 10 + n then g (10 * d 0 1 + (x - d 0 1 * 10)) else σ 16 x) : QX (nr d (d 0 1) n v1 v5 v6 v7 (d 0 0) g) τ := by
  have hr := hd.rows
  have hrow := hd.row
  obtain ⟨⟨a1, a2, a3, a4, a5, a6, a7, a8⟩, b1, b2, b3, b4, b5, b6, b7, b8, b9, c1, c2, c3⟩ := hx
  have k0 : ∀ j : Int, j ≠ 1 → nr d (d 0 1) n v1 v5 v6 v7 (d 0 0) g 0 j = d 0 j := fun j hj => by rw [nr_0, if_neg hj]
  have k1 : nr d (d 0 1) n v1 v5 v6 v7 (d 0 0) g 0 1 = d 0 1 + 1 := by rw [nr_0, if_pos rfl]
  have kk : ∀ k : Nat, 9 ≤ k → nr d (d 0 1) n v1 v5 v6 v7 (d 0 0) g k = d k := fun k hk => nr_k _ _ _ _ _ _ _ _ _ hk
  have t3 : ∀ j, τ 3 j = if j = 2 then d 0 1 + 1 else σ 3 j := fun j => by rw [hk 3 (by decide) (by decide), xa_3]
  have tk : ∀ k, k ≠ 3 → k ≠ 15 → k ≠ 16 → τ k = σ k := fun k h3 h15 h16 => by rw [hk k h15 h16, xa_k _ _ _ _ _ _ _ h3 h15]
  unfold QX
  rw [k0 0 (by decide), k0 10 (by decide), k0 12 (by decide), k0 24 (by decide), k0 37 (by decide), k0 51 (by decide), k1, kk 9 (by decide), kk 10 (by decide), kk 15 (by decide), kk 16 (by decide), kk 25 (by decide), kk 26 (by decide), kk 27 (by decide), kk 33 (by decide), kk 34 (by decide), kk 35 (by decide), kk 36 (by decide), nr_ft]
  rw [t3, t3, t3, tk 5 (by decide) (by decide) (by decide), tk 6 (by decide) (by decide) (by decide), tk 10 (by decide) (by decide) (by decide), tk 1 (by decide) (by decide) (by decide), tk 19 (by decide) (by decide) (by decide), tk 20 (by decide) (by decide) (by decide), tk 23 (by decide) (by decide) (by decide), tk 24 (by decide) (by decide) (by decide), tk 25 (by decide) (by decide) (by decide), tk 26 (by decide) (by decide) (by decide), tk 36 (by decide) (by decide) (by decide), tk 37 (by decide) (by decide) (by decide), tk 38 (by decide) (by decide) (by decide), tk 12 (by decide) (by decide) (by decide), tk 13 (by decide) (by decide) (by decide), tk 14 (by decide) (by decide) (by decide)]
  refine ⟨⟨if_pos rfl, a2, a3, a4, a5, a6, a7, a8⟩, fun r r0 r1 => ?_, fun r k r0 r1 k0' k1' => ?_, b3, fun c c0 c1' => by rw [nr_fg]; exact b4 c c0 c1', b8, b9, c1, c2, c3⟩
  · rw [nr_1, nr_3, nr_4, nr_5, nr_6, nr_7, nr_8]
    by_cases e : r = d 0 1
    · simp only [if_pos e]
      rw [e, h15, h15, h15, h15, h15, h15, h15, if_neg (by omega), if_neg (by omega), if_neg (by omega), if_neg (by omega), if_pos rfl, if_neg (by omega), if_neg (by omega)]
      have := xa_r σ (d 0 1) v1 v5 v6 v7 (d 0 0)
      exact ⟨this.1, this.2.1, this.2.2.1, this.2.2.2.1, rfl, this.2.2.2.2.2.1, this.2.2.2.2.2.2⟩
    · simp only [if_neg e]
      rw [h15, h15, h15, h15, h15, h15, h15, if_neg (by omega), if_neg (by omega), if_neg (by omega), if_neg (by omega), if_neg (by omega), if_neg (by omega), if_neg (by omega), xa_n _ _ _ _ _ _ _ (by omega) (by decide), xa_n _ _ _ _ _ _ _ (by omega) (by decide), xa_n _ _ _ _ _ _ _ (by omega) (by decide), xa_n _ _ _ _ _ _ _ (by omega) (by decide), xa_n _ _ _ _ _ _ _ (by omega) (by decide), xa_n _ _ _ _ _ _ _ (by omega) (by decide), xa_n _ _ _ _ _ _ _ (by omega) (by decide)]
      exact b1 r r0 (by omega)
  · rw [nr_3] at k1'
    rw [nr_2, h16]
    by_cases e : r = d 0 1
    · subst e
      rw [if_pos rfl] at k1'
      rw [if_pos (by omega), if_pos (by omega), show 10 * d 0 1 + (d 0 1 * 10 + k - d 0 1 * 10) = 10 * d 0 1 + k by omega]
    · have hl := (hrow r r0 (by omega)).2.1
      rw [if_neg e] at k1'
      rw [if_neg (by omega), if_neg (by omega)]
      exact b2 r k r0 (by omega) k0' k1'
theorem row_go {N : Nat} (hN : 100 < N) {d σx σm : St} {v1 s i n v5 v6 v7 : Int} (hx : RX d σx) (hm : RM d σm) (hd : DI d) (h1 : 0 ≤ v1 ∧ v1 ≤ 2) (h : 0 ≤ s ∧ s < 4) (hi : 0 ≤ i) (hn : 1 ≤ n ∧ n ≤ 10) (hz : i + n ≤ d 35 s) (h5 : v5 = -1 ∨ (1500 ≤ v5 ∧ v5 ≤ 1999)) (h6 : -1 ≤ v6 ∧ v6 ≤ 7) (h7 : -1 ≤ v7 ∧ v7 ≤ 1) (hL : isl d s i n) (hR : d 0 1 < 36) : OKp RR (bd (x_Rows_add N v1 v5 v6 v7 σx) (fun _ t => itr (x_row_146 N s i n (d 0 1)) (fun _ _ => none) N 0 t)) (itr (m_row_167 N v1 s i n v5 v6 v7) (fun _ _ => none) N 0 σm) := by
  have hr := hd.rows
  have e10 : ∀ x : Int, 10 * d 0 1 + x - 10 * d 0 1 = x := fun x => by omega
  rw [x_add_e N v1 v5 v6 v7 hx.rows hx.day ⟨hr.1, hR⟩, bd_k, m_row_167_e N hN h hi hn hz hR hm hd]
  obtain ⟨τ, e1, e2, e3, e4⟩ := x_spell_e N hN v1 v5 v6 v7 h hi hn hz ⟨hr.1, hR⟩ hx hd (xa_k σx (d 0 1) v1 v5 v6 v7 (d 0 0) (k := 14) (by decide) (by decide)) (xa_r σx (d 0 1) v1 v5 v6 v7 (d 0 0)).2.2.2.2.1
  have hd' := nr_DI (v1 := v1) (n := n) (v5 := v5) (v6 := v6) (v7 := v7) (g := fun x => d 36 (40 * s + i + (x - 10 * d 0 1))) hd hR h1 hn h5 h6 h7 (fun k k0 k1 => by show 97 ≤ d 36 (40 * s + i + (10 * d 0 1 + k - 10 * d 0 1)) ∧ d 36 (40 * s + i + (10 * d 0 1 + k - 10 * d 0 1)) ≤ 122; rw [e10]; exact hL k k0 k1)
  have hq' : QX (nr d (d 0 1) n v1 v5 v6 v7 (d 0 0) (fun x => d 36 (40 * s + i + (x - 10 * d 0 1)))) τ := row_QX hx hd hR hn e2 e3 (fun x => by rw [e4, xa_k _ _ _ _ _ _ _ (by decide) (by decide)]; show _ = if d 0 1 * 10 ≤ x ∧ x < d 0 1 * 10 + n then d 36 (40 * s + i + (10 * d 0 1 + (x - d 0 1 * 10) - 10 * d 0 1)) else σx 16 x; rw [e10])
  have n1 : nr d (d 0 1) n v1 v5 v6 v7 (d 0 0) (fun x => d 36 (40 * s + i + (x - 10 * d 0 1))) 0 1 = d 0 1 + 1 := by rw [nr_0, if_pos rfl]
  obtain ⟨s1, q1, q2, q3, q4⟩ := x_learn_e N hN hq' hd' (r := d 0 1) ⟨hr.1, by rw [n1]; omega⟩
  have hq1 := QX_s (fun k hk => q2 k (fun e => by rw [e] at hk; cases hk) (fun e => by rw [e] at hk; cases hk)) hq'
  obtain ⟨s2, p1, p2, p3, p4, p5, p6⟩ := x_hear_e N hN hq1 hd' (r := d 0 1) hr.1 (by rw [n1]; omega)
  have hq2 := QX_s (fun k hk => p2 k (fun e => by rw [e] at hk; cases hk) (fun e => by rw [e] at hk; cases hk)) hq1
  have t17 : τ 17 = σx 17 := by rw [e2 17 (by decide) (by decide), xa_k _ _ _ _ _ _ _ (by decide) (by decide)]
  have t21 : s1 21 = σx 21 := by rw [q2 21 (by decide) (by decide), e2 21 (by decide) (by decide), xa_k _ _ _ _ _ _ _ (by decide) (by decide)]
  have t22 : s1 22 = σx 22 := by rw [q2 22 (by decide) (by decide), e2 22 (by decide) (by decide), xa_k _ _ _ _ _ _ _ (by decide) (by decide)]
  rw [e1, q1, bd_k, p1, bd_k]
  refine ⟨_, _, _, rfl, rfl, _, RX_of hq2 ?_ ?_, RM_nr hm, hd'⟩
  · intro r r0 r1
    rw [n1] at r1
    by_cases e : r = d 0 1
    · rw [e]; exact ⟨p3, p4⟩
    · have hs := sm_r hd r0 (show r < d 0 1 by omega)
      have hxs := hx.snd r r0 (show r < d 0 1 by omega)
      have ns := nr_sm (n := n) (v1 := v1) (v5 := v5) (v6 := v6) (v7 := v7) (dy := d 0 0) (g := fun x => d 36 (40 * s + i + (x - 10 * d 0 1))) hd r0 (show r < d 0 1 by omega)
      rw [p5 r e, ns.1, ns.2, t22]
      refine ⟨hxs.1, fun i i0 i1 => ?_⟩
      rw [p6 _ (by omega), t21]; exact hxs.2 i i0 i1
  · rw [show SL (nr d (d 0 1) n v1 v5 v6 v7 (d 0 0) (fun x => d 36 (40 * s + i + (x - 10 * d 0 1)))) s2 = SL (nr d (d 0 1) n v1 v5 v6 v7 (d 0 0) (fun x => d 36 (40 * s + i + (x - 10 * d 0 1)))) s2 from rfl]
    unfold SL
    rw [n1, p2 17 (by decide) (by decide)]
    refine ⟨fun a b a0 a1 b0 b1 hab => ?_, fun a a0 a1 => ?_⟩
    · by_cases ea : a = d 0 1
      · rw [ea]; exact (q3 b b0 (by omega)).2
      · by_cases eb : b = d 0 1
        · rw [eb]; exact (q3 a a0 (by omega)).1
        · rw [q4 a b a0 (by omega) b0 (by omega) (Or.inl ea) (Or.inl eb), t17, nr_sl hd ⟨a0, by omega⟩ ⟨b0, by omega⟩]
          exact hx.slp a b a0 (by omega) b0 (by omega) hab
    · rw [q4 a a a0 a1 a0 a1 (by omega) (by omega), t17]
      exact hx.slp0 a a0 a1
theorem sim_row {N : Nat} (hN : 100 < N) {σx σm : St} (hh : RR σx σm) : ∀ v1 : Int, i32 v1 → ∀ s : Int, i32 s → ∀ i : Int, i32 i → ∀ n : Int, i32 n → ∀ v5 : Int, i32 v5 → ∀ v6 : Int, i32 v6 → ∀ v7 : Int, i32 v7 → OKp RR (x_row N v1 s i n v5 v6 v7 σx) (m_row N v1 s i n v5 v6 v7 σm) := by
  obtain ⟨d, hx, hm, hd⟩ := hh
  intro v1 h1 s hs i hi n hn v5 h5 v6 h6 v7 h7
  have hr := hd.rows
  have same : ∀ r : Int, OKp RR (some (r, σx)) (some (r, σm)) := fun r => ⟨r, σx, σm, rfl, rfl, d, hx, hm, hd⟩
  unfold x_row m_row
  rw [x_isBelow_e N σx h1.1 h1.2 (by omega) (by omega), m_in_e N σm h1.1 h1.2 (by omega) (by omega) (by omega) (by omega), bd_k, bd_k]
  simp only [b01_0, itn]
  by_cases c1 : 0 ≤ v1 ∧ v1 < 3
  · rw [if_pos c1, if_pos (show 0 ≤ v1 ∧ v1 ≤ 2 by omega), x_Sheets_isSheet_e N σx hs, m_isSheet_e N σm hs, bd_k, bd_k]
    simp only [b01_0, itn]
    by_cases c2 : 0 ≤ s ∧ s < 4
    · have g := hd.sh s c2.1 c2.2
      rw [if_pos c2, if_pos c2]
      by_cases c3 : i < 0
      · rw [if_pos ((lt32_i hi.1 hi.2 (by omega) (by omega)).mpr c3), if_pos ((lt32_i hi.1 hi.2 (by omega) (by omega)).mpr c3)]
        exact same _
      · rw [if_neg (fun z => c3 ((lt32_i hi.1 hi.2 (by omega) (by omega)).mp z)), if_neg (fun z => c3 ((lt32_i hi.1 hi.2 (by omega) (by omega)).mp z)), x_isWithin_e N σx hn.1 hn.2 (by omega) (by omega) (by omega) (by omega), m_in_e N σm hn.1 hn.2 (by omega) (by omega) (by omega) (by omega), bd_k, bd_k]
        simp only [b01_0, itn]
        by_cases c4 : 1 ≤ n ∧ n ≤ 10
        · rw [if_pos c4, if_pos c4, x_areFacts_e N σx h5 h6 h7, bd_k]
          simp only [b01_0, itn]
          have e51 : OKp RR (if (-1 ≤ v6 ∧ v6 ≤ 7) ∧ (-1 ≤ v7 ∧ v7 ≤ 1) ∧ (v5 = -1 ∨ (1500 ≤ v5 ∧ v5 ≤ 1999)) then (bd (x_Sheets_isLost N s σx) (fun r50 s50 => if eq32 r50 0 then (bd (x_Sheets_hasItems N s i n s50) (fun r73 s73 => if eq32 r73 0 then (bd (x_Sheets_noteFinding N 2 s73) (fun r84 s84 => some (r84, s84))) else (bd (x_Sheets_areLetters N s i n s73) (fun r96 s96 => if eq32 r96 0 then (some ((-3), s96)) else (if lt32 (s96 3 2) 36 then (bd (x_Rows_add N v1 v5 v6 v7 s96) (fun r140 s140 => itr (x_row_146 N s i n (s96 3 2)) (fun _ _ => none) N 0 s140)) else (some ((-4), s96))))))) else (bd (x_Sheets_noteFinding N 1 s50) (fun r61 s61 => some (r61, s61))))) else some (-2, σx)) (if (v5 = -1 ∨ (1500 ≤ v5 ∧ v5 ≤ 1999)) then m_row_51 N v1 s i n v5 v6 v7 σm else some (-2, σm)) := by
            by_cases f5 : v5 = -1 ∨ (1500 ≤ v5 ∧ v5 ≤ 1999)
            · rw [if_pos f5]
              unfold m_row_51
              rw [m_in_e N σm h6.1 h6.2 (by omega) (by omega) (by omega) (by omega), bd_k]
              simp only [b01_0, itn]
              by_cases f6 : -1 ≤ v6 ∧ v6 ≤ 7
              · rw [if_pos f6, m_in_e N σm h7.1 h7.2 (by omega) (by omega) (by omega) (by omega), bd_k]
                simp only [b01_0, itn]
                by_cases f7 : -1 ≤ v7 ∧ v7 ≤ 1
                · rw [if_pos f7, if_pos ⟨f6, f7, f5⟩, gd_k (show inb s 4 by omega), hm.1 33 rfl, x_Sheets_isLost_e N c2 hx hd, bd_k]
                  simp only [b01_0]
                  by_cases c5 : d 33 s = 0
                  · rw [if_neg (fun z => z c5), if_pos ((eq32_i (by omega) (by omega) (by omega) (by omega)).mpr c5)]
                    unfold x_Sheets_noteFinding m_meets
                    exact ⟨_, _, _, rfl, rfl, RR_fnd hx hm hd⟩
                  · rw [if_pos c5, if_neg (fun z => c5 ((eq32_i (by omega) (by omega) (by omega) (by omega)).mp z)), gd_k (show inb s 4 by omega), hm.1 35 rfl, x_Sheets_hasItems_e N c2 hi hn hx hd, bd_k]
                    simp only [b01_0]
                    by_cases c6 : i + n ≤ d 35 s
                    · rw [if_neg (fun z => z ⟨by omega, by omega, c6⟩), if_pos ((le32_i hi.1 hi.2 (by omega) (by omega)).mpr (by omega))]
                      have l1 := x_areL_e N hN c2 (show 0 ≤ i by omega) c4 c6 hx hd
                      have l2 := m_row_112_e N hN (v1 := v1) (v5 := v5) (v6 := v6) (v7 := v7) c2 (show 0 ≤ i by omega) c4 c6 hm hd
                      by_cases c7 : isl d s i n
                      · rw [l1.1 c7, l2.1 c7, bd_k, if_neg (show ¬ eq32 1 0 by decide), hx.rows]
                        by_cases c8 : d 0 1 = 36
                        · rw [if_pos c8, if_neg (fun z => by rw [lt32_i (by omega) (by omega) (by omega) (by omega)] at z; omega)]
                          exact same _
                        · rw [if_neg c8, if_pos ((lt32_i (by omega) (by omega) (by omega) (by omega)).mpr (by omega))]
                          exact row_go hN hx hm hd (by omega) c2 (by omega) c4 c6 f5 f6 f7 c7 (by omega)
                      · rw [l1.2 c7, l2.2 c7, bd_k, if_pos (show eq32 0 0 from rfl)]
                        exact same _
                    · rw [if_pos (fun z => c6 z.2.2), if_neg (fun z => by rw [le32_i hi.1 hi.2 (by omega) (by omega)] at z; omega)]
                      unfold x_Sheets_noteFinding m_meets
                      exact ⟨_, _, _, rfl, rfl, RR_fnd hx hm hd⟩
                · rw [if_neg f7, if_neg (fun z => f7 z.2.1)]
                  exact same _
              · rw [if_neg f6, if_neg (fun z => f6 z.1)]
                exact same _
            · rw [if_neg f5, if_neg (fun z => f5 z.2.2)]
              exact same _
          have em : (if eq32 v5 (-1) then m_row_51 N v1 s i n v5 v6 v7 σm else bd (m_in N v5 1500 1999 σm) (fun r45 s45 => if eq32 r45 0 then some (-2, s45) else m_row_51 N v1 s i n v5 v6 v7 s45)) = (if (v5 = -1 ∨ (1500 ≤ v5 ∧ v5 ≤ 1999)) then m_row_51 N v1 s i n v5 v6 v7 σm else some (-2, σm)) := by
            by_cases f : v5 = -1
            · rw [if_pos ((eq32_i h5.1 h5.2 (by omega) (by omega)).mpr f), if_pos (Or.inl f)]
            · rw [if_neg (fun z => f ((eq32_i h5.1 h5.2 (by omega) (by omega)).mp z)), m_in_e N σm h5.1 h5.2 (by omega) (by omega) (by omega) (by omega), bd_k]
              simp only [b01_0, itn]
              by_cases f2 : 1500 ≤ v5 ∧ v5 ≤ 1999
              · rw [if_pos f2, if_pos (Or.inr f2)]
              · rw [if_neg f2, if_neg (fun z => z.elim f f2)]
          rw [em]
          by_cases cc : (v5 = -1 ∨ (1500 ≤ v5 ∧ v5 ≤ 1999)) ∧ (-1 ≤ v6 ∧ v6 ≤ 7) ∧ (-1 ≤ v7 ∧ v7 ≤ 1)
          · rw [if_pos (show (-1 ≤ v6 ∧ v6 ≤ 7) ∧ (-1 ≤ v7 ∧ v7 ≤ 1) ∧ (v5 = -1 ∨ (1500 ≤ v5 ∧ v5 ≤ 1999)) from ⟨cc.2.1, cc.2.2, cc.1⟩)] at e51
            rw [if_pos cc]
            exact e51
          · rw [if_neg (show ¬ ((-1 ≤ v6 ∧ v6 ≤ 7) ∧ (-1 ≤ v7 ∧ v7 ≤ 1) ∧ (v5 = -1 ∨ (1500 ≤ v5 ∧ v5 ≤ 1999))) from fun z => cc ⟨z.2.2, z.1, z.2.1⟩)] at e51
            rw [if_neg cc]
            exact e51
        · rw [if_neg c4, if_neg c4]
          exact same _
    · rw [if_neg c2, if_neg c2]
      exact same _
  · rw [if_neg c1, if_neg (show ¬ (0 ≤ v1 ∧ v1 ≤ 2) by omega)]
    exact same _
