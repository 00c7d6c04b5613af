theorem q_UC0 {s t : sf_Sg} {B P n : Nat} {A A' : Nat → (Nat → Nat → Nat) × Int32} (h : q_UC s B P n A) (h0 : t 27 0 = 0) (h1 : t 27 1 = s 27 1) : q_UC t B P 0 A' := by
  obtain ⟨x, x1, x2, x3, x4⟩ := h
  exact ⟨x, x1, h0, by rw [h1]; exact x3, fun u hu => absurd hu (by omega)⟩
theorem p_keep : st_keep q_Inv := by
  intro s x hI
  obtain ⟨B, P, sh, a, z, hS, hL, hT, hF, hB, ⟨n, A, u1, u2, u3, u4⟩, hM, hO⟩ := id hI
  have hB6 := hS.1.1
  have hP5 := hS.1.2.1
  have e1 : f10_in x.toInt64 0 1 = f9_within x 0 1 := q_in x 0 1
  rcases q_within x (a := 0) (b := 1) (by decide) (by decide) with ⟨i, i1, i2, rfl, n3⟩ | n3
  · have n3' : ¬ f9_within (nI i) 0 1 = 0 := by
      have : f9_within (nI i) 0 1 = 1 := n3
      rw [this]
      exact q_b1
    obtain ⟨t, t1, t2, t3⟩ := q_copyLC (c := 137 + 6 * i) hB6 hP5 (by omega) hL.2.1
    have t0 : t 0 13 = s 0 13 := by rw [t2 0 (by omega)]
    generalize hu : sf_s1 (sf_s1 (sf_s1 t 135 i (s 0 13)) 136 i 1) 27 0 0 = u
    have uk : ∀ k, k ≠ 27 → k ≠ 135 → k ≠ 136 → (k < 137 + 6 * i ∨ 137 + 6 * i + 5 < k) → u k = s k := fun k h1 h2 h3 h4 => by
      rw [← hu, q_s1k h1, q_s1k h3, q_s1k h2, t2 k h4]
    have mk : ∀ (f j : Nat) (v : sf_Sg), 31 < f + j → j ≤ 31 → (∀ k, k ≠ 171 → v k = u k) → (∀ q, q < j → v 171 (32 * i + q) = s 155 q) → (∀ q, (q < 32 * i ∨ 32 * i + 31 ≤ q) → v 171 q = s 171 q) → ∃ w, sf_it f10_keep_b15 (fun _ _ _ => none) f v (nI i) (nI j) = f10_keep_b44 w (nI i) ∧ (∀ k, k ≠ 171 → w k = u k) ∧ (∀ q, q < 31 → w 171 (32 * i + q) = s 155 q) ∧ (∀ q, (q < 32 * i ∨ 32 * i + 31 ≤ q) → w 171 q = s 171 q) := by
      intro f
      induction f with
      | zero => intro j v h1 h2; omega
      | succ f ih =>
        intro j v h1 h2 h3 h4 h5
        rw [q_it]
        generalize sf_it f10_keep_b15 (fun _ _ _ => none) f = K at ih ⊢
        unfold f10_keep_b15
        by_cases hj : j = 31
        · subst hj
          rw [if_pos (show (31 : Int32) ≤ nI 31 by decide)]
          exact ⟨v, rfl, h3, h4, h5⟩
        · rw [if_neg (show ¬ (31 : Int32) ≤ nI j from nI_ge (b := 31) (by omega) (by decide)), q_ld (by omega) (by decide)]
          simp only [q_ob]
          rw [show (32 : Int32) * nI i + nI j = nI (32 * i + j) by rw [show (32 : Int32) = nI 32 from rfl, pk_mul, nI_add], q_st (by omega) (by decide)]
          simp only [q_ob]
          rw [nI_1]
          refine ih (j + 1) _ (by omega) (by omega) (fun k hk => by rw [q_s1k hk, h3 k hk]) (fun q hq => ?_) (fun q hq => ?_)
          · by_cases e : q = j
            · subst e
              rw [q_s1s, h3 155 (by decide), uk 155 (by decide) (by decide) (by decide) (by omega)]
            · rw [q_s1i (by omega)]
              exact h4 q (by omega)
          · rw [q_s1i (by omega)]
            exact h5 q hq
    obtain ⟨w, w1, w2, w3, w4⟩ := mk sf_FU 0 u (by unfold sf_FU; omega) (by omega) (fun _ _ => rfl) (fun q hq => absurd hq (by omega)) (fun q _ => by rw [uk 171 (by decide) (by decide) (by decide) (by omega)])
    have w1' : f10_keep_L15 u (nI i) 0 = f10_keep_b44 w (nI i) := w1
    refine ⟨1, u, sf_s1 (sf_s1 (sf_s1 w 171 (32 * i + 31) (s 0 13)) 172 i 1) 149 26 0, ?_, ?_, ?_⟩
    · unfold f9_keep f9_keep_b0
      rw [if_neg n3', q_ix (by omega) (by decide)]
      simp only [q_ob]
      rw [t1]
      simp only [q_ob]
      rw [q_st (by omega) (by decide)]
      simp only [q_ob]
      rw [q_st (by omega) (by decide)]
      simp only [q_ob]
      rw [t0, ← hu]
      rfl
    · unfold f10_keep f10_keep_b0
      rw [e1, if_neg n3', w1']
      unfold f10_keep_b44
      rw [show (32 : Int32) * nI i + 31 = nI (32 * i + 31) by rw [show (32 : Int32) = nI 32 from rfl, show (31 : Int32) = nI 31 from rfl, pk_mul, nI_add], q_st (by omega) (by decide)]
      simp only [q_ob]
      rw [q_st (by omega) (by decide)]
      simp only [q_ob]
      have : w 149 10 = s 0 13 := by rw [w2 149 (by decide), uk 149 (by decide) (by decide) (by decide) (by omega), hO.1]
      rw [this]
    · generalize hy : sf_s1 (sf_s1 (sf_s1 w 171 (32 * i + 31) (s 0 13)) 172 i 1) 149 26 0 = y
      have yk : ∀ k, k ≠ 149 → k ≠ 171 → k ≠ 172 → y k = u k := fun k h1 h2 h3 => by rw [← hy, q_s1k h1, q_s1k h3, q_s1k h2, w2 k h2]
      have y149 : ∀ j, j ≠ 26 → y 149 j = s 149 j := fun j hj => by rw [← hy, q_s1i hj, q_s1k (by decide), q_s1k (by decide), w2 149 (by decide), uk 149 (by decide) (by decide) (by decide) (by omega)]
      have ys : ∀ k, k ≠ 149 → k ≠ 171 → k ≠ 172 → k ≠ 27 → k ≠ 135 → k ≠ 136 → (k < 137 + 6 * i ∨ 137 + 6 * i + 5 < k) → y k = s k := fun k h1 h2 h3 h4 h5 h6 h7 => (yk k h1 h2 h3).trans (uk k h4 h5 h6 h7)
      have y171a : ∀ q, q < 31 → y 171 (32 * i + q) = s 155 q := fun q hq => by rw [← hy, q_s1k (by decide), q_s1k (by decide), q_s1i (by omega), w3 q hq]
      have y171b : ∀ q, (q < 32 * i ∨ 32 * i + 32 ≤ q) → y 171 q = s 171 q := fun q hq => by rw [← hy, q_s1k (by decide), q_s1k (by decide), q_s1i (by omega), w4 q (by omega)]
      have y171c : y 171 (32 * i + 31) = s 0 13 := by rw [← hy, q_s1k (by decide), q_s1k (by decide), q_s1s]
      have y27 : y 27 0 = 0 ∧ y 27 1 = s 27 1 := by
        rw [yk 27 (by decide) (by decide) (by decide), ← hu]
        refine ⟨q_s1s, ?_⟩
        rw [q_s1i (by decide), q_s1k (by decide), q_s1k (by decide), t2 27 (by omega)]
      refine ⟨B, P, sh, a, z, hS.of (fun k h1 h2 => ys k (by omega) (by omega) (by omega) (by omega) (by omega) (by omega) (by omega)) (fun k hk => ys k (by omega) (by omega) (by omega) (by omega) (by omega) (by omega) (by omega)) (y149 0 (by decide)) (y149 2 (by decide)) (y149 6 (by decide)), ⟨hL.1, hL.2.1.of (fun k h1 h2 => ys k (by omega) (by omega) (by omega) (by omega) (by omega) (by omega) (by omega)), hL.2.2.of (ys 155 (by decide) (by decide) (by decide) (by decide) (by decide) (by decide) (by omega))⟩, hT.of (ys 1 (by decide) (by decide) (by decide) (by decide) (by decide) (by decide) (by omega)) (ys 2 (by decide) (by decide) (by decide) (by decide) (by decide) (by decide) (by omega)) (ys 156 (by decide) (by decide) (by decide) (by decide) (by decide) (by decide) (by omega)) (y149 12 (by decide)) (y149 13 (by decide)), hF.of (congrFun (ys 125 (by decide) (by decide) (by decide) (by decide) (by decide) (by decide) (by omega)) 0) (fun k hk => ys k (by omega) (by omega) (by omega) (by omega) (by omega) (by omega) (by omega)) (y149 32 (by decide)), hB.of (congrFun (ys 131 (by decide) (by decide) (by decide) (by decide) (by decide) (by decide) (by omega)) 0) (fun k hk => ys k (by omega) (by omega) (by omega) (by omega) (by omega) (by omega) (by omega)) (y149 37 (by decide)), ⟨0, A, by omega, fun u hu => absurd hu (by omega), q_UC0 u3 y27.1 y27.2, ⟨by rw [← hy, q_s1s]; rfl, fun u hu => absurd hu (by omega)⟩⟩, ?_, hO.of (congrFun (ys 0 (by decide) (by decide) (by decide) (by decide) (by decide) (by decide) (by omega)) 13) (y149 10 (by decide))⟩
      intro q hq
      by_cases e : q = i
      · subst e
        have a136 : y 136 q = 1 := by rw [yk 136 (by decide) (by decide) (by decide), ← hu, q_s1k (by decide), q_s1s]
        have a172 : y 172 q = 1 := by rw [← hy, q_s1k (by decide), q_s1s]
        have a135 : y 135 q = s 0 13 := by rw [yk 135 (by decide) (by decide) (by decide), ← hu, q_s1k (by decide), q_s1k (by decide), q_s1s]
        refine ⟨by rw [a136, a172], Or.inr ⟨a136, ⟨by rw [y171c, a135], by rw [a135]; exact hO.2⟩, a, z, hL.1, t3.of (fun k h1 h2 => ?_), q_LMcopy hB6 hP5 hL.2.2 (fun j hj => by rw [y171a j hj, Nat.zero_add])⟩⟩
        rw [yk k (by omega) (by omega) (by omega), ← hu, q_s1k (by omega), q_s1k (by omega), q_s1k (by omega)]
      · obtain ⟨b1, b2⟩ := hM q hq
        have a136 : y 136 q = s 136 q := by rw [yk 136 (by decide) (by decide) (by decide), ← hu, q_s1k (by decide), q_s1i e, q_s1k (by decide), t2 136 (by omega)]
        have a172 : y 172 q = s 172 q := by rw [← hy, q_s1k (by decide), q_s1i e, q_s1k (by decide), w2 172 (by decide), uk 172 (by decide) (by decide) (by decide) (by omega)]
        have a135 : y 135 q = s 135 q := by rw [yk 135 (by decide) (by decide) (by decide), ← hu, q_s1k (by decide), q_s1k (by decide), q_s1i e, t2 135 (by omega)]
        rw [a136, a172, a135]
        refine ⟨b1, ?_⟩
        rcases b2 with b2 | ⟨b2, b3, a', z', b4, b5, b6⟩
        · exact Or.inl b2
        · refine Or.inr ⟨b2, ⟨?_, b3.2⟩, a', z', b4, b5.of (fun k h1 h2 => ys k (by omega) (by omega) (by omega) (by omega) (by omega) (by omega) (by omega)), q_LMcopy hB6 hP5 b6 (fun j hj => y171b _ (by omega))⟩
          rw [y171b _ (by omega)]
          exact b3.1
  · have n3' : f9_within x 0 1 = 0 := n3
    refine ⟨-1000000001, s, s, ?_, ?_, hI⟩
    · unfold f9_keep f9_keep_b0
      rw [if_pos n3']
    · unfold f10_keep f10_keep_b0
      rw [e1, if_pos n3']
theorem p_goBack : st_goBack q_Inv := by
  intro s x hI
  obtain ⟨B, P, sh, a, z, hS, hL, hT, hF, hB, ⟨n, A, u1, u2, u3, u4⟩, hM, hO⟩ := id hI
  have hB6 := hS.1.1
  have hP5 := hS.1.2.1
  have e1 : f10_in x.toInt64 0 1 = f9_within x 0 1 := q_in x 0 1
  rcases q_within x (a := 0) (b := 1) (by decide) (by decide) with ⟨i, i1, i2, rfl, n3⟩ | n3
  · have n3' : ¬ f9_within (nI i) 0 1 = 0 := by
      have : f9_within (nI i) 0 1 = 1 := n3
      rw [this]
      exact q_b1
    obtain ⟨k1, k2⟩ := hM i (by omega)
    rcases k2 with k2 | ⟨k2, ⟨k3, k4⟩, a', z', g1, g2, g3⟩
    · refine ⟨-1000000003, s, s, ?_, ?_, hI⟩
      · unfold f9_goBack f9_goBack_b0
        rw [if_neg n3', q_ld (by omega) (by decide), k2]
        rfl
      · unfold f10_goBack f10_goBack_b0
        rw [e1, if_neg n3', q_ld (by omega) (by decide), k1, k2]
        rfl
    · obtain ⟨t, t1, t2, t3⟩ := q_copyLC (c := 16) hB6 hP5 (by omega) g2
      generalize hu : sf_s1 (sf_s1 t 0 13 (s 135 i)) 27 0 0 = u
      have uk : ∀ k, k ≠ 0 → k ≠ 27 → (k < 16 ∨ 21 < k) → u k = s k := fun k h1 h2 h3 => by rw [← hu, q_s1k h2, q_s1k h1, t2 k (by omega)]
      have mk : ∀ (f j : Nat) (v : sf_Sg), 31 < f + j → j ≤ 31 → (∀ k, k ≠ 155 → v k = u k) → (∀ q, q < j → v 155 q = s 171 (32 * i + q)) → ∃ w, sf_it f10_goBack_b27 (fun _ _ _ => none) f v (nI i) (nI j) = f10_goBack_b56 w (nI i) ∧ (∀ k, k ≠ 155 → w k = u k) ∧ (∀ q, q < 31 → w 155 q = s 171 (32 * i + q)) := by
        intro f
        induction f with
        | zero => intro j v h1 h2; omega
        | succ f ih =>
          intro j v h1 h2 h3 h4
          rw [q_it]
          generalize sf_it f10_goBack_b27 (fun _ _ _ => none) f = K at ih ⊢
          unfold f10_goBack_b27
          by_cases hj : j = 31
          · subst hj
            rw [if_pos (show (31 : Int32) ≤ nI 31 by decide)]
            exact ⟨v, rfl, h3, h4⟩
          · rw [if_neg (show ¬ (31 : Int32) ≤ nI j from nI_ge (b := 31) (by omega) (by decide)), show (32 : Int32) * nI i + nI j = nI (32 * i + j) by rw [show (32 : Int32) = nI 32 from rfl, pk_mul, nI_add], q_ld (by omega) (by decide)]
            simp only [q_ob]
            rw [q_st (by omega) (by decide)]
            simp only [q_ob]
            rw [nI_1]
            refine ih (j + 1) _ (by omega) (by omega) (fun k hk => by rw [q_s1k hk, h3 k hk]) (fun q hq => ?_)
            by_cases e : q = j
            · subst e
              rw [q_s1s, h3 171 (by decide), uk 171 (by decide) (by decide) (by omega)]
            · rw [q_s1i (by omega)]
              exact h4 q (by omega)
      obtain ⟨w, w1, w2, w3⟩ := mk sf_FU 0 u (by unfold sf_FU; omega) (by omega) (fun _ _ => rfl) (fun q hq => absurd hq (by omega))
      have w1' : f10_goBack_L27 u (nI i) 0 = f10_goBack_b56 w (nI i) := w1
      have t135 : t 135 i = s 135 i := by rw [t2 135 (by omega)]
      have b1 : ¬ s 136 i = 0 := by rw [k2]; exact q_b1
      refine ⟨1, u, sf_s1 (sf_s1 w 149 10 (s 135 i)) 149 26 0, ?_, ?_, ?_⟩
      · unfold f9_goBack f9_goBack_b0
        rw [if_neg n3', q_ld (by omega) (by decide)]
        simp only [q_ob]
        rw [if_neg b1, q_ix (by omega) (by decide)]
        simp only [q_ob]
        rw [t1]
        simp only [q_ob]
        rw [q_ld (by omega) (by decide), t135, ← hu]
        rfl
      · unfold f10_goBack f10_goBack_b0
        rw [e1, if_neg n3', q_ld (by omega) (by decide), uk 172 (by decide) (by decide) (by omega), k1]
        simp only [q_ob]
        rw [if_neg b1, w1']
        unfold f10_goBack_b56
        rw [show (32 : Int32) * nI i + 31 = nI (32 * i + 31) by rw [show (32 : Int32) = nI 32 from rfl, show (31 : Int32) = nI 31 from rfl, pk_mul, nI_add], q_ld (by omega) (by decide), w2 171 (by decide), uk 171 (by decide) (by decide) (by omega), k3]
        rfl
      · generalize hy : sf_s1 (sf_s1 w 149 10 (s 135 i)) 149 26 0 = y
        have yk : ∀ k, k ≠ 149 → k ≠ 155 → y k = u k := fun k h1 h2 => by rw [← hy, q_s1k h1, q_s1k h1, w2 k h2]
        have hUC : q_UC u B P 0 A := q_UC0 u3 (by rw [← hu]; exact q_s1s) (by rw [← hu, q_s1i (by decide), q_s1k (by decide), t2 27 (by omega)])
        refine q_fin (u := u) hS hT hF hB hM ?_ (fun k h0 h1 h2 => uk k h0 h1 (by omega)) (fun k h1 h2 h3 => yk k h1 h2) (fun j h1 h2 => ?_) (show 0 ≤ 16 by omega) (fun q hq => absurd hq (by omega)) hUC ⟨?_, fun q hq => absurd hq (by omega)⟩ g1 (t3.of (fun k h1 h2 => ?_)) ?_
        · have o1 : y 149 10 = s 135 i := by rw [← hy, q_s1i (by decide), q_s1s]
          have o2 : y 0 13 = s 135 i := by rw [yk 0 (by decide) (by decide), ← hu, q_s1k (by decide), q_s1s]
          exact ⟨by rw [o1, o2], by rw [o2]; exact k4⟩
        · rw [← hy, q_s1i h1, q_s1i h2, w2 149 (by decide)]
        · rw [← hy, q_s1s]
          rfl
        · rw [← hu, q_s1k (by omega), q_s1k (by omega)]
        · refine q_LMcopy hB6 hP5 g3 (fun j hj => ?_)
          rw [← hy, q_s1k (by decide), q_s1k (by decide), Nat.zero_add, w3 j hj]
  · have n3' : f9_within x 0 1 = 0 := n3
    refine ⟨-1000000001, s, s, ?_, ?_, hI⟩
    · unfold f9_goBack f9_goBack_b0
      rw [if_pos n3']
    · unfold f10_goBack f10_goBack_b0
      rw [e1, if_pos n3']
