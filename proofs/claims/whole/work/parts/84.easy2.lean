theorem q_wy {x : Int32} {a b : Nat} (h : f9_within x (nI a) (nI b) = 1) : ¬ f9_within x (nI a) (nI b) = 0 := by rw [h]; exact q_b1
theorem p_burden : st_burden q_Inv := by
  intro s x1 x2 hI
  obtain ⟨B, P, sh, a, z, hS, ⟨hG, hC, hMd⟩, hR⟩ := hI
  have hB := hS.1.1
  unfold f9_burden f9_burden_b0 f10_burden f10_burden_b0
  rcases q_hasBurden hB hS.1.2.2.1 hS.1.2.2.2.2.1 x1 with ⟨g, hg, rfl, e1, e2⟩ | ⟨e1, e2⟩
  · rw [e1, e2, if_neg q_b1, if_neg q_b1]
    obtain ⟨c0, c1, c2, c3⟩ := hC.1 g hg
    obtain ⟨m0, m1, m2, m3⟩ := hMd.e hg
    obtain ⟨s0, s1, s2, s3, s4, s5⟩ := hS.2.1 g hg
    rw [q_ld (k := 11) (show g < 6 by omega) (by decide), q_ld (k := 17) (show g < 6 by omega) (by decide), q_ld (k := 13) (show g < 6 by omega) (by decide), q_ld (k := 18) (show g < 6 by omega) (by decide), q_ld (k := 19) (show g < 6 by omega) (by decide), q_ld (k := 20) (show g < 6 by omega) (by decide), q_ld (k := 150) (show g < 6 by omega) (by decide), q_ld (k := 152) (show g < 6 by omega) (by decide), q_ld (k := 155) (show g < 31 by omega) (by decide)]
    have l6 : sf_ld s 155 31 ((6 : Int32) + nI g) = some (s 155 (6 + g)) := q_ldn (o := 6) (by omega)
    have l12 : sf_ld s 155 31 ((12 : Int32) + nI g) = some (s 155 (12 + g)) := q_ldn (o := 12) (by omega)
    have l18 : sf_ld s 155 31 ((18 : Int32) + nI g) = some (s 155 (18 + g)) := q_ldn (o := 18) (by omega)
    have c0' : s 17 g = _ := c0
    have c1' : s 18 g = _ := c1
    have c2' : s 19 g = _ := c2
    have c3' : s 20 g = _ := c3
    rw [l6, l12, l18, s0, s1, s3, s4, m0, m1, m2, m3, c0', c1', c2', c3']
    simp only [q_ob]
    repeat' split
    all_goals exact ⟨_, rfl, rfl⟩
  · rw [e1, e2, if_pos rfl, if_pos rfl]
    exact ⟨_, rfl, rfl⟩
theorem p_shareOf : st_shareOf q_Inv := by
  intro s x1 x2 x3 hI
  obtain ⟨B, P, sh, a, z, hS, ⟨hG, hC, hMd⟩, hR⟩ := hI
  have hB := hS.1.1
  have hP := hS.1.2.1
  unfold f9_shareOf f9_shareOf_b0 f10_shareOf f10_shareOf_b0 f7_hasTwoBacks f7_hasTwoBacks_b0 f7_hasTwoBacks_b25
  rcases q_hasBurden hB hS.1.2.2.1 hS.1.2.2.2.2.1 x1 with ⟨g, hg, rfl, e1, e2⟩ | ⟨e1, e2⟩
  · rw [e1, e2, if_neg q_b1, if_neg q_b1]
    rcases q_hasBack hP hS.1.2.2.2.1 hS.1.2.2.2.2.2.1 x2 with ⟨p, hp, rfl, e3, e4⟩ | ⟨e3, e4⟩
    · rw [e3, e4, if_neg q_b1, if_neg q_b1]
      rcases q_hasBack hP hS.1.2.2.2.1 hS.1.2.2.2.2.2.1 x3 with ⟨q, hq, rfl, e5, e6⟩ | ⟨e5, e6⟩
      · rw [e5, e6, if_neg q_b1, if_neg q_b1]
        by_cases hpq : nI p = nI q
        · rw [if_pos hpq, if_pos hpq, if_pos rfl]
          exact ⟨_, rfl, rfl⟩
        · obtain ⟨c0, c1, c2, c3⟩ := hC.1 g hg
          obtain ⟨m0, m1, m2, m3⟩ := hMd.e hg
          obtain ⟨b0, b1, b2, b3, b4⟩ := hS.2.2 p hp
          obtain ⟨d0, d1, d2, d3, d4⟩ := hS.2.2 q hq
          have c0' : s 17 g = _ := c0
          rw [if_neg hpq, if_neg hpq, if_neg q_b1, q_ld (k := 14) (show p < 5 by omega) (by decide), q_ld (k := 14) (show q < 5 by omega) (by decide), q_ld (k := 153) (show p < 5 by omega) (by decide), q_ld (k := 153) (show q < 5 by omega) (by decide), q_ld (k := 17) (show g < 6 by omega) (by decide), q_ld (k := 155) (show g < 31 by omega) (by decide), b0, b1, d0, d1, c0', m0]
          simp only [q_ob]
          have e7 : (1 : Int32) ≤ nI (sh 2 p) + nI (sh 2 q) := by
            rw [nI_add]
            exact (nI_leI (a := 1) (by decide) (by omega)).mpr (by omega)
          rw [if_pos e7]
          have e8 : ¬ nI (sh 2 p) + nI (sh 2 q) = 0 := by
            rw [nI_add]
            exact fun h => by
              have := (nI_eq (b := 0) (by omega) (by decide)).mp h
              omega
          unfold sf_div
          rw [if_neg e8]
          exact ⟨_, rfl, rfl⟩
      · rw [e5, e6, if_pos rfl, if_pos rfl, if_pos rfl]
        exact ⟨_, rfl, rfl⟩
    · rw [e3, e4, if_pos rfl, if_pos rfl, if_pos rfl]
      exact ⟨_, rfl, rfl⟩
  · rw [e1, e2, if_pos rfl, if_pos rfl]
    exact ⟨_, rfl, rfl⟩
theorem p_judge : st_judge q_Inv := by
  intro s hI
  obtain ⟨B, P, sh, a, z, hS, ⟨hG, hC, hMd⟩, hT, hF, ⟨n, b1, b2, b3, b4⟩, hR⟩ := hI
  have hP := hS.1.2.1
  have key : ∀ (f i : Nat), n < f + i → i ≤ n → ∃ r, sf_it (f0_firstWrong_b2 16 s) (fun _ => none) f (nI i) = some r ∧ sf_it (f10_judge_b2 s) (fun _ => none) f (nI i) = some r := by
    intro f
    induction f with
    | zero => intro i h1 h2; omega
    | succ f ih =>
      intro i h1 h2
      rw [q_it, q_it]
      generalize sf_it (f0_firstWrong_b2 16 s) (fun _ => none) f = K at ih ⊢
      generalize sf_it (f10_judge_b2 s) (fun _ => none) f = K' at ih ⊢
      unfold f0_firstWrong_b2 f10_judge_b2
      rw [b2, b3]
      by_cases hi : i = n
      · subst hi
        rw [if_pos (nI_le (Nat.le_refl _) (by omega)), if_pos (nI_le (Nat.le_refl _) (by omega))]
        exact ⟨_, rfl, rfl⟩
      · have hlt : i < n := by omega
        obtain ⟨⟨e1, p, hp, e2⟩, e3⟩ := b4 i hlt
        rw [if_neg (nI_ge hlt (by omega)), if_neg (nI_ge hlt (by omega)), q_ld (k := 132) (show i < 15 by omega) (by decide), q_ld (k := 169) (show i < 15 by omega) (by decide), q_ld (k := 133) (show i < 15 by omega) (by decide), q_ld (k := 170) (show i < 15 by omega) (by decide), e1, e2, e3]
        simp only [q_ob]
        have l24 : sf_ld s 155 31 ((24 : Int32) + nI p) = some (s 155 (24 + p)) := q_ldn (o := 24) (by omega)
        rw [q_ld (show p < 5 by omega) (by decide), l24, hMd.so hp, hC.2.1 p hp]
        simp only [q_ob]
        by_cases e : nI (a 4 p) = s 133 i
        · rw [if_pos e, if_pos e, nI_1]
          exact ih (i + 1) (by omega) (by omega)
        · rw [if_neg e, if_neg e]
          exact ⟨_, rfl, rfl⟩
  obtain ⟨r, e1, e2⟩ := key sf_FU 0 (by unfold sf_FU; omega) (by omega)
  refine ⟨r, ?_, e2⟩
  unfold f9_judge f9_judge_b0
  have e1' : f0_firstWrong 16 s = some r := e1
  rw [e1']
  rfl
theorem p_write : st_write q_Inv := by
  intro s x1 x2 hI
  obtain ⟨B, P, sh, a, z, hS, hL, hT, hF, ⟨n, b1, b2, b3, b4⟩, hU, hM, hO⟩ := hI
  have hP := hS.1.2.1
  have same : q_Inv s := ⟨B, P, sh, a, z, hS, hL, hT, hF, ⟨n, b1, b2, b3, b4⟩, hU, hM, hO⟩
  rcases q_hasBack hP hS.1.2.2.2.1 hS.1.2.2.2.2.2.1 x1 with ⟨p, hp, rfl, e1, e2⟩ | ⟨e1, e2⟩
  · by_cases h : f9_within x2 0 9999 = 0
    · refine ⟨-1000000002, s, s, ?_, ?_, same⟩
      · unfold f9_write f9_write_b0
        rw [e1, if_neg q_b1, if_pos h]
      · unfold f10_write f10_write_b0
        rw [e2, if_neg q_b1, show f10_in x2.toInt64 0 9999 = f9_within x2 0 9999 from q_in x2 0 9999, if_pos h]
    · by_cases hf : n = 15
      · subst hf
        refine ⟨-1000000004, s, s, ?_, ?_, same⟩
        · unfold f9_write f9_write_b0 f0_add f0_add_b0
          rw [e1, if_neg q_b1, if_neg h, b2, if_neg (show ¬ nI 15 < 15 by decide)]
          rfl
        · unfold f10_write f10_write_b0
          rw [e2, if_neg q_b1, show f10_in x2.toInt64 0 9999 = f9_within x2 0 9999 from q_in x2 0 9999, if_neg h, b3, if_pos (show nI 15 = 15 by decide)]
      · have hlt : n < 15 := by omega
        refine ⟨nI (n + 1), sf_s1 (sf_s1 (sf_s1 s 132 n (nI p)) 133 n x2) 131 0 (nI (n + 1)), sf_s1 (sf_s1 (sf_s1 (sf_s1 (sf_s1 (sf_s1 s 132 n (nI p)) 133 n x2) 131 0 (nI (n + 1))) 169 n (nI p)) 170 n x2) 149 37 (nI (n + 1)), ?_, ?_, ?_⟩
        · unfold f9_write f9_write_b0 f0_add f0_add_b0
          rw [e1, if_neg q_b1, if_neg h, b2, if_pos (show nI n < 15 from (nI_ltI (b := 15) (by omega) (by decide)).mpr hlt), q_st hlt (by decide)]
          simp only [q_ob]
          have l1 : sf_s1 s 132 n (nI p) 131 0 = nI n := by rw [q_s1k (by decide), b2]
          rw [l1, q_st hlt (by decide)]
          simp only [q_ob]
          have l2 : sf_s1 (sf_s1 s 132 n (nI p)) 133 n x2 131 0 + 1 = nI (n + 1) := by rw [q_s1k (by decide), l1, nI_1]
          rw [l2, if_neg q_b1]
          rfl
        · unfold f10_write f10_write_b0
          have k0 : f10_isBack (sf_s1 (sf_s1 (sf_s1 s 132 n (nI p)) 133 n x2) 131 0 (nI (n + 1))) (nI p) = f10_isBack s (nI p) := rfl
          rw [k0, e2, if_neg q_b1, show f10_in x2.toInt64 0 9999 = f9_within x2 0 9999 from q_in x2 0 9999, if_neg h]
          have l0 : sf_s1 (sf_s1 (sf_s1 s 132 n (nI p)) 133 n x2) 131 0 (nI (n + 1)) 149 37 = nI n := by rw [q_s1k (by decide), q_s1k (by decide), q_s1k (by decide), b3]
          rw [l0, if_neg (show ¬ nI n = 15 from fun h => hf ((nI_eq (b := 15) (by omega) (by decide)).mp h)), q_st hlt (by decide)]
          simp only [q_ob]
          have l1 : sf_s1 (sf_s1 (sf_s1 (sf_s1 s 132 n (nI p)) 133 n x2) 131 0 (nI (n + 1))) 169 n (nI p) 149 37 = nI n := by rw [q_s1k (by decide), l0]
          rw [l1, q_st hlt (by decide)]
          simp only [q_ob]
          have l2 : sf_s1 (sf_s1 (sf_s1 (sf_s1 (sf_s1 s 132 n (nI p)) 133 n x2) 131 0 (nI (n + 1))) 169 n (nI p)) 170 n x2 149 37 + 1 = nI (n + 1) := by rw [q_s1k (by decide), l1, nI_1]
          rw [l2]
          rfl
        · refine ⟨B, P, sh, a, z, hS.of (fun k h1 h2 => ?_) (fun k hk => ?_) rfl rfl rfl, ⟨hL.1, hL.2.1.of (fun k h1 h2 => ?_), hL.2.2.of rfl⟩, hT.of rfl rfl rfl rfl rfl, hF.of rfl (fun k hk => ?_) rfl, ⟨n + 1, by omega, rfl, rfl, fun i hi => ?_⟩, hU.of rfl (fun k h1 h2 => ?_) rfl rfl, hM.of (fun k h1 h2 => ?_) rfl rfl, hO.of rfl rfl⟩
          case refine_5 =>
            by_cases hin : i = n
            · subst hin
              refine ⟨⟨?_, p, hp, ?_⟩, ?_⟩
              · rw [q_s1k (by decide), q_s1k (by decide), q_s1s, q_s1k (by decide), q_s1k (by decide), q_s1k (by decide), q_s1k (by decide), q_s1k (by decide), q_s1s]
              · rw [q_s1k (by decide), q_s1k (by decide), q_s1k (by decide), q_s1k (by decide), q_s1k (by decide), q_s1s]
              · rw [q_s1k (by decide), q_s1s, q_s1k (by decide), q_s1k (by decide), q_s1k (by decide), q_s1k (by decide), q_s1s]
            · obtain ⟨⟨g1, q, hq, g2⟩, g3⟩ := b4 i (by omega)
              have r1 : sf_s1 (sf_s1 (sf_s1 (sf_s1 (sf_s1 (sf_s1 s 132 n (nI p)) 133 n x2) 131 0 (nI (n + 1))) 169 n (nI p)) 170 n x2) 149 37 (nI (n + 1)) 132 i = s 132 i := by
                rw [q_s1k (by decide), q_s1k (by decide), q_s1k (by decide), q_s1k (by decide), q_s1k (by decide), q_s1i hin]
              have r2 : sf_s1 (sf_s1 (sf_s1 (sf_s1 (sf_s1 (sf_s1 s 132 n (nI p)) 133 n x2) 131 0 (nI (n + 1))) 169 n (nI p)) 170 n x2) 149 37 (nI (n + 1)) 133 i = s 133 i := by
                rw [q_s1k (by decide), q_s1k (by decide), q_s1k (by decide), q_s1k (by decide), q_s1i hin, q_s1k (by decide)]
              have r3 : sf_s1 (sf_s1 (sf_s1 (sf_s1 (sf_s1 (sf_s1 s 132 n (nI p)) 133 n x2) 131 0 (nI (n + 1))) 169 n (nI p)) 170 n x2) 149 37 (nI (n + 1)) 169 i = s 169 i := by
                rw [q_s1k (by decide), q_s1k (by decide), q_s1i hin, q_s1k (by decide), q_s1k (by decide), q_s1k (by decide)]
              have r4 : sf_s1 (sf_s1 (sf_s1 (sf_s1 (sf_s1 (sf_s1 s 132 n (nI p)) 133 n x2) 131 0 (nI (n + 1))) 169 n (nI p)) 170 n x2) 149 37 (nI (n + 1)) 170 i = s 170 i := by
                rw [q_s1k (by decide), q_s1i hin, q_s1k (by decide), q_s1k (by decide), q_s1k (by decide), q_s1k (by decide)]
              rw [r1, r2, r3, r4]
              exact ⟨⟨g1, q, hq, g2⟩, g3⟩
          all_goals rw [q_s1k (by omega), q_s1k (by omega), q_s1k (by omega), q_s1k (by omega), q_s1k (by omega), q_s1k (by omega)]
  · refine ⟨-1000000001, s, s, ?_, ?_, same⟩
    · unfold f9_write f9_write_b0
      rw [e1, if_pos rfl]
    · unfold f10_write f10_write_b0
      rw [e2, if_pos rfl]
theorem p_feel : st_feel q_Inv := by
  intro s x1 x2 x3 hI
  obtain ⟨B, P, sh, a, z, hS, hL, hT, ⟨n, b1, b2, b3, b4⟩, hB, hU, hM, hO⟩ := hI
  have same : q_Inv s := ⟨B, P, sh, a, z, hS, hL, hT, ⟨n, b1, b2, b3, b4⟩, hB, hU, hM, hO⟩
  have E1 : f10_in x1.toInt64 1 99 = f9_within x1 1 99 := q_in x1 1 99
  have E2 : f10_in x2.toInt64 0 30 = f9_within x2 0 30 := q_in x2 0 30
  have E3 : f10_in x3.toInt64 0 99 = f9_within x3 0 99 := q_in x3 0 99
  rcases q_within x1 (a := 1) (b := 99) (by decide) (by decide) with ⟨w1, u1, v1, rfl, y1⟩ | y1
  · have z1 : ¬ f9_within (nI w1) 1 99 = 0 := q_wy y1
    rcases q_within x2 (a := 0) (b := 30) (by decide) (by decide) with ⟨w2, u2, v2, rfl, y2⟩ | y2
    · have z2 : ¬ f9_within (nI w2) 0 30 = 0 := q_wy y2
      rcases q_within x3 (a := 0) (b := 99) (by decide) (by decide) with ⟨w3, u3, v3, rfl, y3⟩ | y3
      · have z3 : ¬ f9_within (nI w3) 0 99 = 0 := q_wy y3
        by_cases hf : n = 6
        · subst hf
          refine ⟨-1000000004, s, s, ?_, ?_, same⟩
          · unfold f9_feel f9_feel_b0 f1_add f1_add_b0
            rw [if_neg z1, if_neg z2, if_neg z3, b2, if_neg (show ¬ nI 6 < 6 by decide)]
            rfl
          · unfold f10_feel f10_feel_b0
            rw [E1, E2, E3, if_neg z1, if_neg z2, if_neg z3, b3, if_pos (show nI 6 = 6 by decide)]
        · have hlt : n < 6 := by omega
          obtain ⟨t, ht⟩ : ∃ t, t = sf_s1 (sf_s1 (sf_s1 (sf_s1 s 127 n (nI w1)) 128 n (nI w2)) 129 n (nI w3)) 125 0 (nI (n + 1)) := ⟨_, rfl⟩
          obtain ⟨u, hu⟩ : ∃ u, u = sf_s1 (sf_s1 (sf_s1 (sf_s1 t 165 n (nI w1)) 166 n (nI w2)) 167 n (nI w3)) 149 32 (nI (n + 1)) := ⟨_, rfl⟩
          have t1 : t 149 = s 149 := by rw [ht, q_s1k (by decide), q_s1k (by decide), q_s1k (by decide), q_s1k (by decide)]
          refine ⟨nI (n + 1), t, u, ?_, ?_, ?_⟩
          · unfold f9_feel f9_feel_b0 f1_add f1_add_b0
            rw [if_neg z1, if_neg z2, if_neg z3, b2, if_pos (show nI n < 6 from (nI_ltI (b := 6) (by omega) (by decide)).mpr hlt), q_st hlt (by decide)]
            simp only [q_ob]
            have l1 : sf_s1 s 127 n (nI w1) 125 0 = nI n := by rw [q_s1k (by decide), b2]
            rw [l1, q_st hlt (by decide)]
            simp only [q_ob]
            have l2 : sf_s1 (sf_s1 s 127 n (nI w1)) 128 n (nI w2) 125 0 = nI n := by rw [q_s1k (by decide), l1]
            rw [l2, q_st hlt (by decide)]
            simp only [q_ob]
            have l3 : sf_s1 (sf_s1 (sf_s1 s 127 n (nI w1)) 128 n (nI w2)) 129 n (nI w3) 125 0 + 1 = nI (n + 1) := by rw [q_s1k (by decide), l2, nI_1]
            rw [l3, if_neg q_b1, ht]
            rfl
          · unfold f10_feel f10_feel_b0
            have l0 : t 149 32 = nI n := by rw [t1, b3]
            rw [E1, E2, E3, if_neg z1, if_neg z2, if_neg z3, l0, if_neg (show ¬ nI n = 6 from fun h => hf ((nI_eq (b := 6) (by omega) (by decide)).mp h)), q_st hlt (by decide)]
            simp only [q_ob]
            have l1 : sf_s1 t 165 n (nI w1) 149 32 = nI n := by rw [q_s1k (by decide), l0]
            rw [l1, q_st hlt (by decide)]
            simp only [q_ob]
            have l2 : sf_s1 (sf_s1 t 165 n (nI w1)) 166 n (nI w2) 149 32 = nI n := by rw [q_s1k (by decide), l1]
            rw [l2, q_st hlt (by decide)]
            simp only [q_ob]
            have l3 : sf_s1 (sf_s1 (sf_s1 t 165 n (nI w1)) 166 n (nI w2)) 167 n (nI w3) 149 32 + 1 = nI (n + 1) := by rw [q_s1k (by decide), l2, nI_1]
            rw [l3, hu]
            rfl
          · have ho : ∀ k, k ≠ 127 → k ≠ 128 → k ≠ 129 → k ≠ 125 → k ≠ 165 → k ≠ 166 → k ≠ 167 → k ≠ 149 → u k = s k := by
              intro k h1 h2 h3 h4 h5 h6 h7 h8
              rw [hu, q_s1k h8, q_s1k h7, q_s1k h6, q_s1k h5, ht, q_s1k h4, q_s1k h3, q_s1k h2, q_s1k h1]
            have o149 : ∀ j, j ≠ 32 → u 149 j = s 149 j := by
              intro j hj
              rw [hu, q_s1i hj, q_s1k (by decide), q_s1k (by decide), q_s1k (by decide), t1]
            refine ⟨B, P, sh, a, z, hS.of (fun k h1 h2 => ho k (by omega) (by omega) (by omega) (by omega) (by omega) (by omega) (by omega) (by omega)) (fun k hk => ho k (by omega) (by omega) (by omega) (by omega) (by omega) (by omega) (by omega) (by omega)) (o149 0 (by decide)) (o149 2 (by decide)) (o149 6 (by decide)), ⟨hL.1, hL.2.1.of (fun k h1 h2 => ho k (by omega) (by omega) (by omega) (by omega) (by omega) (by omega) (by omega) (by omega)), hL.2.2.of (ho 155 (by omega) (by omega) (by omega) (by omega) (by omega) (by omega) (by omega) (by omega))⟩, hT.of (ho 1 (by omega) (by omega) (by omega) (by omega) (by omega) (by omega) (by omega) (by omega)) (ho 2 (by omega) (by omega) (by omega) (by omega) (by omega) (by omega) (by omega) (by omega)) (ho 156 (by omega) (by omega) (by omega) (by omega) (by omega) (by omega) (by omega) (by omega)) (o149 12 (by decide)) (o149 13 (by decide)), ⟨n + 1, by omega, ?_, ?_, fun i hi => ?_⟩, hB.of (congrFun (ho 131 (by omega) (by omega) (by omega) (by omega) (by omega) (by omega) (by omega) (by omega)) 0) (fun k hk => ho k (by omega) (by omega) (by omega) (by omega) (by omega) (by omega) (by omega) (by omega)) (o149 37 (by decide)), hU.of (ho 27 (by omega) (by omega) (by omega) (by omega) (by omega) (by omega) (by omega) (by omega)) (fun k h1 h2 => ho k (by omega) (by omega) (by omega) (by omega) (by omega) (by omega) (by omega) (by omega)) (ho 162 (by omega) (by omega) (by omega) (by omega) (by omega) (by omega) (by omega) (by omega)) (o149 26 (by decide)), hM.of (fun k h1 h2 => ho k (by omega) (by omega) (by omega) (by omega) (by omega) (by omega) (by omega) (by omega)) (ho 171 (by omega) (by omega) (by omega) (by omega) (by omega) (by omega) (by omega) (by omega)) (ho 172 (by omega) (by omega) (by omega) (by omega) (by omega) (by omega) (by omega) (by omega)), hO.of (congrFun (ho 0 (by omega) (by omega) (by omega) (by omega) (by omega) (by omega) (by omega) (by omega)) 13) (o149 10 (by decide))⟩
            · rw [hu, ht]
              rfl
            · rw [hu]
              rfl
            · have a1 : u 127 = sf_s1 s 127 n (nI w1) 127 := by rw [hu, ht, q_s1k (by decide), q_s1k (by decide), q_s1k (by decide), q_s1k (by decide), q_s1k (by decide), q_s1k (by decide), q_s1k (by decide)]
              have a2 : u 128 = sf_s1 s 128 n (nI w2) 128 := by
                funext j
                rw [hu, ht]
                simp [q_s1]
              have a3 : u 129 = sf_s1 s 129 n (nI w3) 129 := by
                funext j
                rw [hu, ht]
                simp [q_s1]
              have a4 : u 165 = sf_s1 s 165 n (nI w1) 165 := by
                funext j
                rw [hu, ht]
                simp [q_s1]
              have a5 : u 166 = sf_s1 s 166 n (nI w2) 166 := by
                funext j
                rw [hu, ht]
                simp [q_s1]
              have a6 : u 167 = sf_s1 s 167 n (nI w3) 167 := by
                funext j
                rw [hu, ht]
                simp [q_s1]
              rw [a1, a2, a3, a4, a5, a6]
              by_cases hin : i = n
              · subst hin
                rw [q_s1s, q_s1s, q_s1s, q_s1s, q_s1s, q_s1s]
                exact ⟨⟨rfl, w1, u1, v1, rfl⟩, ⟨rfl, w2, v2, rfl⟩, rfl, w3, v3, rfl⟩
              · rw [q_s1i hin, q_s1i hin, q_s1i hin, q_s1i hin, q_s1i hin, q_s1i hin]
                exact b4 i (by omega)
      · have z3 : f9_within x3 0 99 = 0 := y3
        refine ⟨-1000000002, s, s, ?_, ?_, same⟩
        · unfold f9_feel f9_feel_b0
          rw [if_neg z1, if_neg z2, if_pos z3]
        · unfold f10_feel f10_feel_b0
          rw [E1, E2, E3, if_neg z1, if_neg z2, if_pos z3]
    · have z2 : f9_within x2 0 30 = 0 := y2
      refine ⟨-1000000002, s, s, ?_, ?_, same⟩
      · unfold f9_feel f9_feel_b0
        rw [if_neg z1, if_pos z2]
      · unfold f10_feel f10_feel_b0
        rw [E1, E2, if_neg z1, if_pos z2]
  · have z1 : f9_within x1 1 99 = 0 := y1
    refine ⟨-1000000002, s, s, ?_, ?_, same⟩
    · unfold f9_feel f9_feel_b0
      rw [if_pos z1]
    · unfold f10_feel f10_feel_b0
      rw [E1, if_pos z1]
-- one more on one back
theorem q_gal_more {sh a : Nat → Nat → Nat} {B p d g : Nat} (hB : B ≤ 6) (hg : g < B) (h3 : a 3 g = 0) : q_gal sh (q_up a 2 g (p + 1)) B p (fun i => q_on (q_up a 2 g (p + 1)) i p) d = q_gal sh a B p (fun i => (q_bits B (fun i => q_on a i p) ||| 2 ^ g).testBit i) d := by
  have e1 : ∀ i, i < B → q_on (q_up a 2 g (p + 1)) i p = (q_bits B (fun i => q_on a i p) ||| 2 ^ g).testBit i := by
    intro i hi
    rw [Nat.testBit_or, q_bits_test _ i B hi, Nat.testBit_two_pow]
    unfold q_on
    rw [q_up_k (k' := 3) (by decide)]
    by_cases e : i = g
    · subst e
      rw [q_up_s]
      simp
    · rw [q_up_i e]
      have : ¬ g = i := fun w => e w.symm
      simp [this]
  rw [q_gal_congr e1]
  have e2 : ∀ i, q_part (q_up a 2 g (p + 1)) i p = q_part a i p := by
    intro i
    unfold q_part
    rw [q_up_k (k' := 3) (by decide), q_up_k (k' := 0) (by decide)]
    by_cases e : i = g
    · subst e
      rw [if_pos h3, if_pos h3]
    · rw [q_up_i e]
  have e3 : ∀ i b, q_rub sh (q_up a 2 g (p + 1)) i p b d = q_rub sh a i p b d := by
    intro i b
    unfold q_rub
    rw [q_up_k (k' := 1) (by decide)]
  have e4 : ∀ i, q_shd (q_up a 2 g (p + 1)) i = q_shd a i := by
    intro i
    unfold q_shd
    rw [q_up_k (by decide)]
  unfold q_gal q_parts q_rubs
  simp only [e2, e3, e4]
theorem q_or0 (x : Int32) : x ||| 0 = x := by simp
theorem p_could : st_could q_Inv := by
  intro s x1 hI
  have hI' := hI
  obtain ⟨B, P, sh, a, z, hS, ⟨hG, hC, hMd⟩, hR⟩ := hI
  have hB := hS.1.1
  have hP := hS.1.2.1
  have G := hG.t
  rcases q_hasBurden hB hS.1.2.2.1 hS.1.2.2.2.2.1 x1 with ⟨g, hg, rfl, e1, e2⟩ | ⟨e1, e2⟩
  · have l12 : ∀ t : sf_Sg, sf_ld t 155 31 ((12 : Int32) + nI g) = some (t 155 (12 + g)) := fun t => q_ldn (o := 12) (by omega)
    by_cases h2 : a 2 g = 0
    · have h3 : a 3 g = 0 := by
        rcases (G.1 g hg).2.2.2.2.2 with w | w
        · exact w
        · exact absurd h2 w.1
      have hm1 : s 155 (12 + g) = -1 := by
        rw [(hMd.e hg).2.2.1, h2]
        rfl
      have key : ∀ (f i : Nat) (x : Int32), P < f + i → i ≤ P → ∃ r, sf_it (f6_ableToTake_b4 s) (fun _ _ _ => none) f (nI g) x (nI i) = some r ∧ sf_it f10_could_b31 (fun _ _ _ _ => none) f s (nI g) x (nI i) = some (r, s) := by
        intro f
        induction f with
        | zero => intro i x q1 q2; omega
        | succ f ih =>
          intro i x q1 q2
          rw [q_it, q_it]
          generalize sf_it (f6_ableToTake_b4 s) (fun _ _ _ => none) f = K at ih ⊢
          generalize sf_it f10_could_b31 (fun _ _ _ _ => none) f = K' at ih ⊢
          unfold f6_ableToTake_b4 f6_ableToTake_b63 f10_could_b31 f10_could_b74
          rw [hS.1.2.2.2.1, hS.1.2.2.2.2.2.1]
          by_cases hi : i = P
          · subst hi
            rw [if_pos (nI_le (Nat.le_refl _) (by omega)), if_pos (nI_le (Nat.le_refl _) (by omega))]
            exact ⟨_, rfl, rfl⟩
          · have hlt : i < P := by omega
            rw [if_neg (nI_ge hlt (by omega)), if_neg (nI_ge hlt (by omega)), c_carriedBy hS.c hC hB hP G hlt, m_gallingOf hS.m hS.g hMd G hlt]
            simp only [q_ob]
            have s12 : ∀ (t : sf_Sg) (v : Int32), sf_st t 155 31 ((12 : Int32) + nI g) v = some (sf_s1 t 155 (12 + g) v) := by
              intro t v
              rw [show (12 : Int32) + nI g = nI (12 + g) from nI_add 12 g]
              exact q_st (by omega) (by decide)
            have en : q_en (i + 1) = nI i := by
              unfold q_en
              rw [if_neg (by omega)]
              rfl
            have back : ∀ v, sf_s1 (sf_s1 s 155 (12 + g) v) 155 (12 + g) (-1) = s := by
              intro v
              funext k j
              rw [q_s1, q_s1]
              by_cases hk : k = 155
              · subst hk
                by_cases hj : j = 12 + g
                · subst hj
                  simp [hm1]
                · simp [hj, q_s1i hj]
              · simp [hk, q_s1k hk]
            have hL2 : q_LM (sf_s1 s 155 (12 + g) (nI i)) B P 155 0 (q_up a 2 g (i + 1)) z := by
              rw [← en]
              exact hMd.u2 hB hg (i + 1)
            have hG2 : q_LT B P (q_up a 2 g (i + 1)) := by
              refine ⟨fun j hj => ?_, fun p hp => ?_, ?_⟩
              · obtain ⟨w1, w2, w3, w4, w5, w6⟩ := G.1 j hj
                rw [q_up_k (k' := 0) (by decide), q_up_k (k' := 1) (by decide), q_up_k (k' := 3) (by decide)]
                by_cases e : j = g
                · subst e
                  rw [q_up_s]
                  exact ⟨w1, w2, w3, by omega, w5, Or.inl h3⟩
                · rw [q_up_i e]
                  exact ⟨w1, w2, w3, w4, w5, w6⟩
              · rw [q_up_k (by decide)]
                exact G.2.1 p hp
              · rw [q_up_k (by decide)]
                exact G.2.2
            have hS2 : q_SM (sf_s1 s 155 (12 + g) (nI i)) B P sh := hS.m.of (fun k hk => q_s1k (by omega)) rfl rfl
            rw [s12]
            simp only [q_ob]
            rw [m_gallingOf hS2 hS.g hL2 hG2 hlt]
            have ea6 : q_up a 2 g (i + 1) 6 0 = a 6 0 := q_up_k (by decide)
            have or64 : q_bits B (fun j => q_on a j i) ||| 2 ^ g < 64 := by
              have h1 := q_bits64 hB (fun j => q_on a j i)
              have h2 : 2 ^ g < 2 ^ 6 := Nat.pow_lt_pow_right (by decide) (by omega)
              exact Nat.or_lt_two_pow (n := 6) h1 h2
            have d16 : s 16 0 = nI (a 6 0) := hC.2.2.2
            have eor : nI (q_bits B (fun j => q_on a j i)) ||| ((1 : Int32) <<< (nI g &&& 31)) = nI (q_bits B (fun j => q_on a j i) ||| 2 ^ g) := by
              rw [q_shl g (by omega)]
              exact fa_or _ _
            rw [eor, d16, c_gallingOf hS.c hS.g hC G or64 hlt G.2.2, c_gallingOf hS.c hS.g hC G (q_bits64 hB _) hlt G.2.2]
            simp only [q_ob]
            rw [q_gal_bits, ea6, q_gal_more hB hg h3]
            by_cases hc : nI (q_gal sh a B i (fun j => q_on a j i) (a 6 0)) < nI (q_gal sh a B i (fun j => (q_bits B (fun j => q_on a j i) ||| 2 ^ g).testBit j) (a 6 0))
            · rw [if_pos hc, if_pos hc, s12]
              simp only [q_ob]
              rw [back, q_or0, nI_1]
              exact ih (i + 1) x (by omega) (by omega)
            · rw [if_neg hc, if_neg hc, s12]
              simp only [q_ob]
              rw [back, nI_1]
              exact ih (i + 1) _ (by omega) (by omega)
      obtain ⟨r, k1, k2⟩ := key sf_FU 0 0 (by unfold sf_FU; omega) (by omega)
      refine ⟨r, s, ?_, ?_, hI'⟩
      · unfold f9_could f9_could_b0
        rw [e1, if_neg q_b1, c_isCarried hC hB hP G hg, if_pos h2]
        simp only [q_ob]
        rw [if_pos trivial]
        have k1' : f6_ableToTake s (nI g) = some r := k1
        rw [k1']
        rfl
      · unfold f10_could f10_could_b0
        rw [e2, if_neg q_b1, l12, hm1]
        simp only [q_ob]
        rw [if_pos trivial]
        exact k2
    · refine ⟨-1000000003, s, ?_, ?_, hI'⟩
      · unfold f9_could f9_could_b0
        rw [e1, if_neg q_b1, c_isCarried hC hB hP G hg, if_neg h2]
        simp only [q_ob]
        rw [if_neg q_b1]
      · unfold f10_could f10_could_b0
        rw [e2, if_neg q_b1, l12, (hMd.e hg).2.2.1]
        simp only [q_ob]
        have h2' : ¬ q_en (a 2 g) = -1 := fun h => h2 (cast (q_en_m (by have := (G.1 g hg).2.2.2.1; omega)) h)
        rw [if_neg h2']
  · refine ⟨-1000000001, s, ?_, ?_, hI'⟩
    · unfold f9_could f9_could_b0
      rw [e1, if_pos rfl]
    · unfold f10_could f10_could_b0
      rw [e2, if_pos rfl]
