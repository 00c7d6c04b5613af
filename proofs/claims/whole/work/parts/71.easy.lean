theorem q_b1 : ¬ ((1 : Int32) = 0) := by decide
theorem p_fault : st_fault q_Inv := by
  intro s hI
  obtain ⟨B, P, sh, a, z, hS, hL, ⟨hT, t4⟩, hR⟩ := hI
  exact ⟨s 1 1, rfl, t4.symm⟩
theorem p_seed : st_seed q_Inv := by
  intro s x hI
  obtain ⟨B, P, sh, a, z, hS, hL, hT, hF, hB, hU, hM, hO⟩ := hI
  unfold f9_seed f9_seed_b0 f10_seed f10_seed_b0
  by_cases h : 0 ≤ x
  · rw [if_pos h]
    refine ⟨s 0 13, sf_s1 s 0 13 x, sf_s1 (sf_s1 s 0 13 x) 149 10 x, rfl, ?_, ?_⟩
    · rw [if_pos h]
      show (s 149 10, _) = _
      rw [hO.1]
    · refine ⟨B, P, sh, a, z, hS.of (fun k h1 h2 => ?_) (fun k hk => ?_) rfl rfl rfl, ⟨hL.1, hL.2.1.of (fun k h1 h2 => ?_), hL.2.2.of rfl⟩, hT.of rfl rfl rfl rfl rfl, hF.of rfl (fun k hk => ?_) rfl, hB.of rfl (fun k hk => ?_) rfl, hU.of rfl (fun k h1 h2 => ?_) rfl rfl, hM.of (fun k h1 h2 => ?_) rfl rfl, rfl, h⟩
      all_goals rw [q_s1k (by omega), q_s1k (by omega)]
  · rw [if_neg h]
    refine ⟨_, s, s, rfl, ?_, B, P, sh, a, z, hS, hL, hT, hF, hB, hU, hM, hO⟩
    rw [if_neg h]
theorem p_tear : st_tear q_Inv := by
  intro s hI
  obtain ⟨B, P, sh, a, z, hS, hL, hT, ⟨n, f1, f2, f3, f4⟩, ⟨m, b1, b2, b3, b4⟩, hU, hM, hO⟩ := hI
  refine ⟨_, _, sf_s1 (sf_s1 (f0_clear (f1_clear s)) 149 32 (0 : Int32)) 149 37 (0 : Int32), rfl, ?_, ?_⟩
  · show (s 149 32 + s 149 37, _) = (s 125 0 + s 131 0, _)
    rw [f2, f3, b2, b3]
  · unfold f0_clear f0_clear_b0 f1_clear f1_clear_b0
    refine ⟨B, P, sh, a, z, hS.of (fun k h1 h2 => ?_) (fun k hk => ?_) rfl rfl rfl, ⟨hL.1, hL.2.1.of (fun k h1 h2 => ?_), hL.2.2.of rfl⟩, hT.of rfl rfl rfl rfl rfl, ⟨0, by decide, rfl, rfl, fun i hi => absurd hi (by omega)⟩, ⟨0, by decide, rfl, rfl, fun i hi => absurd hi (by omega)⟩, hU.of rfl (fun k h1 h2 => ?_) rfl rfl, hM.of (fun k h1 h2 => ?_) rfl rfl, hO.of rfl rfl⟩
    all_goals rw [q_s1k (by omega), q_s1k (by omega), q_s1k (by omega), q_s1k (by omega)]
theorem p_feed : st_feed q_Inv := by
  intro s x hI
  obtain ⟨B, P, sh, a, z, hS, hL, ⟨⟨n, hn, t1, t2, t3⟩, t4⟩, hF, hB, hU, hM, hO⟩ := hI
  have e : f10_in x.toInt64 0 255 = f9_within x 0 255 := q_in x 0 255
  rcases q_within x (a := 0) (b := 255) (by decide) (by decide) with ⟨c, c1, c2, rfl, c3⟩ | c3
  · have c3' : ¬ f9_within (nI c) 0 255 = 0 := by
      have : f9_within (nI c) 0 255 = 1 := c3
      rw [this]
      exact q_b1
    by_cases hf : n = 240
    · subst hf
      refine ⟨-1000000004, s, s, ?_, ?_, B, P, sh, a, z, hS, hL, ⟨⟨240, hn, t1, t2, t3⟩, t4⟩, hF, hB, hU, hM, hO⟩
      · unfold f9_feed f9_feed_b0 f5_add f5_add_b0
        rw [if_neg c3', t1, if_neg (show ¬ (nI 240 < 240) by decide)]
        rfl
      · unfold f10_feed f10_feed_b0
        rw [e, if_neg c3', t2, if_pos (show nI 240 = 240 by decide)]
    · have hlt : n < 240 := by omega
      refine ⟨nI (n + 1), sf_s1 (sf_s1 s 2 n (nI c)) 1 0 (nI (n + 1)), sf_s1 (sf_s1 (sf_s1 (sf_s1 s 2 n (nI c)) 1 0 (nI (n + 1))) 156 n (nI c)) 149 12 (nI (n + 1)), ?_, ?_, ?_⟩
      · unfold f9_feed f9_feed_b0 f5_add f5_add_b0
        rw [if_neg c3', t1, if_pos (show nI n < 240 from (nI_ltI (b := 240) (by omega) (by decide)).mpr hlt), q_st hlt (by decide)]
        simp only [q_ob]
        have e1 : sf_s1 s 2 n (nI c) 1 0 + 1 = nI (n + 1) := by
          rw [q_s1k (by decide), t1]
          exact nI_1 n
        rw [e1, if_neg q_b1]
        rfl
      · have e1 : sf_s1 (sf_s1 s 2 n (nI c)) 1 0 (nI (n + 1)) 149 12 = nI n := by
          rw [q_s1k (by decide), q_s1k (by decide), t2]
        unfold f10_feed f10_feed_b0
        rw [e, if_neg c3', e1, if_neg (show ¬ nI n = 240 from fun h => hf ((nI_eq (b := 240) (by omega) (by decide)).mp h)), q_st hlt (by decide)]
        simp only [q_ob]
        have e2 : sf_s1 (sf_s1 (sf_s1 s 2 n (nI c)) 1 0 (nI (n + 1))) 156 n (nI c) 149 12 + 1 = nI (n + 1) := by
          rw [q_s1k (by decide), e1]
          exact nI_1 n
        rw [e2]
        rfl
      · refine ⟨B, P, sh, a, z, hS.of (fun k h1 h2 => ?_) (fun k hk => ?_) rfl rfl rfl, ⟨hL.1, hL.2.1.of (fun k h1 h2 => ?_), hL.2.2.of rfl⟩, ⟨⟨n + 1, by omega, rfl, rfl, fun i hi => ?_⟩, t4⟩, hF.of rfl (fun k hk => ?_) rfl, hB.of rfl (fun k hk => ?_) rfl, hU.of rfl (fun k h1 h2 => ?_) rfl rfl, hM.of (fun k h1 h2 => ?_) rfl rfl, hO.of rfl rfl⟩
        case refine_4 =>
          by_cases hin : i = n
          · subst hin
            have e3 : sf_s1 (sf_s1 (sf_s1 (sf_s1 s 2 i (nI c)) 1 0 (nI (i + 1))) 156 i (nI c)) 149 12 (nI (i + 1)) 156 i = nI c := by
              rw [q_s1k (by decide), q_s1s]
            have e4 : sf_s1 (sf_s1 (sf_s1 (sf_s1 s 2 i (nI c)) 1 0 (nI (i + 1))) 156 i (nI c)) 149 12 (nI (i + 1)) 2 i = nI c := by
              rw [q_s1k (by decide), q_s1k (by decide), q_s1k (by decide), q_s1s]
            rw [e3, e4]
            exact ⟨rfl, c, c2, rfl⟩
          · have e3 : sf_s1 (sf_s1 (sf_s1 (sf_s1 s 2 n (nI c)) 1 0 (nI (n + 1))) 156 n (nI c)) 149 12 (nI (n + 1)) 156 i = s 156 i := by
              rw [q_s1k (by decide), q_s1i hin, q_s1k (by decide), q_s1k (by decide)]
            have e4 : sf_s1 (sf_s1 (sf_s1 (sf_s1 s 2 n (nI c)) 1 0 (nI (n + 1))) 156 n (nI c)) 149 12 (nI (n + 1)) 2 i = s 2 i := by
              rw [q_s1k (by decide), q_s1k (by decide), q_s1k (by decide), q_s1i hin]
            rw [e3, e4]
            exact t3 i (by omega)
        all_goals rw [q_s1k (by omega), q_s1k (by omega), q_s1k (by omega), q_s1k (by omega)]
  · have c3' : f9_within x 0 255 = 0 := c3
    refine ⟨-1000000002, s, s, ?_, ?_, B, P, sh, a, z, hS, hL, ⟨⟨n, hn, t1, t2, t3⟩, t4⟩, hF, hB, hU, hM, hO⟩
    · unfold f9_feed f9_feed_b0
      rw [if_pos c3']
    · unfold f10_feed f10_feed_b0
      rw [e, if_pos c3']
theorem p_fair : st_fair q_Inv := by
  intro s x1 x2 hI
  unfold f9_fair f9_fair_b0 f10_fair f10_fair_b0
  have e1 : f10_in x1.toInt64 0 60 = f9_within x1 0 60 := q_in x1 0 60
  have e2 : f10_in x2.toInt64 0 100 = f9_within x2 0 100 := q_in x2 0 100
  rw [e1, e2]
  rcases q_within x1 (a := 0) (b := 60) (by decide) (by decide) with ⟨n, n1, n2, rfl, n3⟩ | n3
  · have n3' : ¬ f9_within (nI n) 0 60 = 0 := by
      have : f9_within (nI n) 0 60 = 1 := n3
      rw [this]
      exact q_b1
    rw [if_neg n3', if_neg n3']
    by_cases h : f9_within x2 0 100 = 0
    · rw [if_pos h, if_pos h]
      exact ⟨_, rfl, rfl⟩
    · rw [if_neg h, if_neg h]
      have key : ∀ (f i : Nat) (o : Int64), n < f + i → i ≤ n → ∃ r, sf_it f9_fair_b30 (fun _ _ _ _ => none) f (nI n) x2 o (nI i) = some r ∧ sf_it f10_fair_b34 (fun _ _ _ _ => none) f (nI n) x2 o (nI i) = some r := by
        intro f
        induction f with
        | zero => intro i o h1 h2; omega
        | succ f ih =>
          intro i o h1 h2
          rw [q_it, q_it]
          unfold f9_fair_b30 f10_fair_b34
          by_cases hi : i = n
          · subst hi
            rw [if_pos (nI_le (Nat.le_refl _) (by omega))]
            exact ⟨_, rfl, rfl⟩
          · rw [if_neg (nI_ge (show i < n by omega) (by omega)), nI_1]
            exact ih (i + 1) _ (by omega) (by omega)
      exact key sf_FU 0 _ (by unfold sf_FU; omega) (by omega)
  · have n3' : f9_within x1 0 60 = 0 := n3
    rw [if_pos n3', if_pos n3']
    exact ⟨_, rfl, rfl⟩
