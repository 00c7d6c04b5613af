-- the text read whole, by the class and by the reference
section READ
variable (T : Nat → Nat) (n : Nat)
def q_rdall : Nat → Nat → (Nat → Nat → Nat) → (Nat × Nat) × (Nat → Nat → Nat)
  | 0, i, D => ((0, i), D)
  | k + 1, i, D => if i < n then (if (q_cl T n i D).1.1 = 0 then q_rdall k (q_B T n (q_cl T n i D).1.2) (q_cl T n i D).2 else q_cl T n i D) else ((0, i), D)
end READ
def q_D0 : Nat → Nat → Nat := fun _ _ => 0
theorem q_D0_G : q_DG q_D0 := ⟨by decide, by decide, by decide, by decide, fun i h => absurd h (Nat.not_lt_zero i), fun i h => absurd h (Nat.not_lt_zero i), fun _ => rfl⟩
theorem q_DM.of {t u : sf_Sg} {D : Nat → Nat → Nat} (h : q_DM t D) (hc : ∀ k, 157 ≤ k → k ≤ 161 → u k = t k) (h1 : u 149 17 = t 149 17) (h2 : u 149 18 = t 149 18) (h3 : u 149 19 = t 149 19) (h4 : u 149 23 = t 149 23) : q_DM u D := by
  unfold q_DM at h ⊢
  rw [hc 157 (by decide) (by decide), hc 158 (by decide) (by decide), hc 159 (by decide) (by decide), hc 160 (by decide) (by decide), hc 161 (by decide) (by decide), h1, h2, h3, h4]
  exact h
section READT
variable {T : Nat → Nat} {n : Nat}
theorem q_rdall_s {k i : Nat} {D : Nat → Nat → Nat} : q_rdall T n (k + 1) i D = if i < n then (if (q_cl T n i D).1.1 = 0 then q_rdall T n k (q_B T n (q_cl T n i D).1.2) (q_cl T n i D).2 else q_cl T n i D) else ((0, i), D) := rfl
theorem q_rdall_ok : ∀ (k i : Nat) (D : Nat → Nat → Nat), i ≤ n → q_DG D → (q_rdall T n k i D).1.1 ≤ 3 ∧ ((q_rdall T n k i D).1.1 = 0 → q_DG (q_rdall T n k i D).2)
  | 0, i, D, hi, G => ⟨by show (0 : Nat) ≤ 3; decide, fun _ => G⟩
  | k + 1, i, D, hi, G => by
    rw [q_rdall_s]
    by_cases h : i < n
    · obtain ⟨a1, a2, a3⟩ := q_cl_ok (T := T) h G
      rw [if_pos h]
      by_cases c : (q_cl T n i D).1.1 = 0
      · rw [if_pos c]
        exact q_rdall_ok k _ _ (q_B_le a1) (a3 c).2
      · rw [if_neg c]
        exact ⟨a2, fun w => absurd w c⟩
    · rw [if_neg h]
      exact ⟨by show (0 : Nat) ≤ 3; decide, fun _ => G⟩
theorem c_run_e (w : sf_Sg) : f5_readInto_b65 3 w = some (w 1 4, sf_s1 w 1 0 0) := by
  unfold f5_readInto_b65
  rw [q_s1i (by decide)]
theorem c_run_end {f : Nat} {w : sf_Sg} {y : Int32} (hf : 0 < f) (h : ¬ w 1 4 = 0) : sf_it (f5_readInto_b25 3) (fun _ _ => none) f w y = some (w 1 4, sf_s1 w 1 0 0) := by
  obtain ⟨g, rfl⟩ : ∃ g, f = g + 1 := ⟨f - 1, by omega⟩
  rw [q_it]
  generalize sf_it (f5_readInto_b25 3) (fun _ _ => none) g = K
  unfold f5_readInto_b25
  rw [c_run_e]
  by_cases a : (240 : Int32) ≤ y
  · rw [if_pos a]
  · rw [if_neg a]
    by_cases b : w 1 0 ≤ w 1 3
    · rw [if_pos b]
    · rw [if_neg b, if_neg h]
theorem c_run (hT : ∀ j, T j ≤ 255) (hn : n ≤ 240) : ∀ (f k i x : Nat) (t : sf_Sg) (D : Nat → Nat → Nat), n < f + i → n < k + i → x ≤ i → i ≤ n → q_DG D → q_RS t T n (-1) (0, i) → q_DC t D → ∃ u, sf_it (f5_readInto_b25 3) (fun _ _ => none) f t (nI x) = some (nI (q_rdall T n k i D).1.1, u) ∧ (∀ k, (k = 0 ∨ k = 2 ∨ 8 < k) → u k = t k) ∧ u 1 0 = 0 ∧ ((q_rdall T n k i D).1.1 = 0 → u 1 1 = -1 ∧ q_DC u (q_rdall T n k i D).2) ∧ ((q_rdall T n k i D).1.1 ≠ 0 → u 1 1 = nI (q_rdall T n k i D).1.2) := by
  intro f
  induction f with
  | zero => intro k i x t D h1 h2 h3 h4; omega
  | succ f ih =>
    intro k i x t D h1 h2 h3 h4 G hR hD
    obtain ⟨k, rfl⟩ : ∃ g, k = g + 1 := ⟨k - 1, by omega⟩
    obtain ⟨e1, e2, e3⟩ := hR.2.1 rfl
    have htc : q_TC t T n i := hR.tc rfl
    rw [q_it, q_rdall_s]
    by_cases hi : i < n
    · have hend := fun (w : sf_Sg) (y : Int32) => c_run_end (f := f) (w := w) (y := y) (by omega)
      generalize sf_it (f5_readInto_b25 3) (fun _ _ => none) f = K at ih hend ⊢
      unfold f5_readInto_b25
      rw [if_neg (show ¬ (240 : Int32) ≤ nI x from nI_ge (b := 240) (by omega) (by decide)), htc.1, htc.2.1, if_neg (nI_ge hi (by omega)), e2, if_pos rfl, if_pos hi]
      obtain ⟨v, v1, v2, v3, v4⟩ := c_clause hT hn hi G hR hD
      obtain ⟨a1, a2, a3⟩ := q_cl_ok (T := T) hi G
      rw [v1]
      simp only [q_ob]
      by_cases c : (q_cl T n i D).1.1 = 0
      · rw [if_pos c]
        obtain ⟨b1, b2, b3⟩ := v3.2.1 c
        obtain ⟨w, w1, w2, w3, w4⟩ := c_blank hT hn a1 (v3.tc c)
        rw [w1]
        simp only [q_ob]
        rw [nI_1]
        have l1 := (a3 c).1
        have l2 := q_B_ge (T := T) a1
        obtain ⟨u, u1, u2, u3, u4, u5⟩ := ih k (q_B T n (q_cl T n i D).1.2) (x + 1) w (q_cl T n i D).2 (by omega) (by omega) (by omega) (q_B_le a1) (a3 c).2 ⟨⟨_, q_B_le a1, w4⟩, fun _ => ⟨w4.2.1, (w3 4 (by decide)).trans b2, (w3 1 (by decide)).trans b3⟩, fun q => absurd rfl q⟩ ((v4 c).of (fun k k1 k2 => w2 k (by omega)))
        exact ⟨u, u1, fun k hk => by rw [u2 k hk, w2 k (by omega), v2 k hk], u3, u4, u5⟩
      · rw [if_neg c]
        obtain ⟨b1, b2⟩ := v3.2.2 c
        obtain ⟨⟨i', hi', tc'⟩, _⟩ := v3
        obtain ⟨w, w1, w2, w3, w4⟩ := c_blank hT hn hi' tc'
        rw [w1]
        simp only [q_ob]
        have w14 : w 1 4 = nI (q_cl T n i D).1.1 := (w3 4 (by decide)).trans b1
        rw [hend w _ (by rw [w14]; exact nI_ne0 (by omega) (by omega)), w14]
        exact ⟨_, rfl, fun k hk => by rw [q_s1k (by omega), w2 k (by omega), v2 k hk], q_s1s, fun q => absurd q c, fun _ => by rw [q_s1i (by decide), w3 1 (by decide), b2]⟩
    · generalize sf_it (f5_readInto_b25 3) (fun _ _ => none) f = K
      unfold f5_readInto_b25
      rw [c_run_e, e2, htc.1, htc.2.1, if_pos (show nI n ≤ nI i from nI_le (by omega) (by omega)), if_neg hi, ite_self]
      refine ⟨_, rfl, fun k hk => q_s1k (by omega), q_s1s, fun _ => ⟨(q_s1i (by decide)).trans e3, hD.of (fun k k1 k2 => q_s1k (by omega))⟩, fun q => absurd rfl q⟩
theorem m_run_end {f c : Nat} {w : sf_Sg} (hf : 0 < f) (h : c ≠ 0) (h3 : c ≤ 3) : sf_it f10_shop_b27 (fun _ _ => none) f w (nI c) = f10_shop_b46 w (nI c) := by
  obtain ⟨g, rfl⟩ : ∃ g, f = g + 1 := ⟨f - 1, by omega⟩
  rw [q_it]
  generalize sf_it f10_shop_b27 (fun _ _ => none) g = K
  unfold f10_shop_b27
  rw [if_neg (nI_ne0 (by omega) (by omega))]
theorem m_run (hT : ∀ j, T j ≤ 255) (hn : n ≤ 240) : ∀ (f k i0 i : Nat) (t : sf_Sg) (D : Nat → Nat → Nat), n < f + i → n < k + i → i0 ≤ n → q_B T n i0 = i → q_DG D → q_TM t T n i0 → t 149 13 = -1 → q_DM t D → ∃ u, sf_it f10_shop_b27 (fun _ _ => none) f t (nI 0) = f10_shop_b46 u (nI (q_rdall T n k i D).1.1) ∧ (∀ k, k ≠ 149 → (k < 157 ∨ 161 < k) → u k = t k) ∧ (∀ j, (j < 13 ∨ 23 < j) → u 149 j = t 149 j) ∧ ((q_rdall T n k i D).1.1 = 0 → u 149 13 = -1 ∧ q_DM u (q_rdall T n k i D).2) ∧ ((q_rdall T n k i D).1.1 ≠ 0 → u 149 13 = nI (q_rdall T n k i D).1.2) := by
  intro f
  induction f with
  | zero => intro k i0 i t D h1 h2 h3 h4; have := q_B_le (T := T) h3; omega
  | succ f ih =>
    intro k i0 i t D h1 h2 h3 h4 G hR h13 hD
    have hin : i ≤ n := by rw [← h4]; exact q_B_le h3
    obtain ⟨k, rfl⟩ : ∃ g, k = g + 1 := ⟨k - 1, by omega⟩
    rw [q_it, q_rdall_s]
    have hend := fun (w : sf_Sg) (c : Nat) (hf : 0 < f) => m_run_end (f := f) (c := c) (w := w) hf
    generalize sf_it f10_shop_b27 (fun _ _ => none) f = K at ih hend ⊢
    unfold f10_shop_b27
    obtain ⟨v, v1, v2, v3, v4⟩ := m_here hT hn h3 hR
    rw [h4] at v1 v4
    rw [if_pos (show nI 0 = 0 from rfl), v1]
    simp only [q_ob]
    have hDv : q_DM v D := hD.of (fun k k1 k2 => v2 k (by omega)) (v3 17 (by decide)) (v3 18 (by decide)) (v3 19 (by decide)) (v3 23 (by decide))
    have v13 : v 149 13 = -1 := (v3 13 (by decide)).trans h13
    by_cases hi : i < n
    · have hb : q_B T n i = i := by rw [← h4]; exact q_B_B h3
      have hlh : ¬ q_lh T n i < 0 := by
        unfold q_lh
        rw [if_pos hi]
        have := hT i
        exact q_lt0 (by omega)
      rw [if_neg hlh, if_pos hi]
      obtain ⟨w, w1, w2, w3, w4, w5⟩ := m_clause hT hn hin hb hi G v4 v13 hDv
      obtain ⟨a1, a2, a3⟩ := q_cl_ok (T := T) hi G
      rw [w1]
      simp only [q_ob]
      by_cases c : (q_cl T n i D).1.1 = 0
      · rw [if_pos c, c]
        have l1 := (a3 c).1
        have l2 := q_B_ge (T := T) a1
        obtain ⟨u, u1, u2, u3, u4, u5⟩ := ih k (q_cl T n i D).1.2 (q_B T n (q_cl T n i D).1.2) w (q_cl T n i D).2 (by omega) (by omega) a1 rfl (a3 c).2 (w4.tm c) (w4.2.2.1 c).2 (w5 c)
        exact ⟨u, u1, fun k k1 k2 => by rw [u2 k k1 k2, w2 k k1 k2, v2 k k1], fun j hj => by rw [u3 j hj, w3 j hj, v3 j (by omega)], u4, u5⟩
      · rw [if_neg c, hend w _ (by omega) c a2]
        exact ⟨w, rfl, fun k k1 k2 => by rw [w2 k k1 k2, v2 k k1], fun j hj => by rw [w3 j hj, v3 j (by omega)], fun q => absurd q c, fun q => w4.2.2.2 q⟩
    · have hlh : q_lh T n i < 0 := by
        unfold q_lh
        rw [if_neg hi]
        decide
      rw [if_pos hlh, if_neg hi]
      exact ⟨v, rfl, fun k k1 _ => v2 k k1, fun j hj => v3 j (by omega), fun _ => ⟨v13, hDv⟩, fun q => absurd rfl q⟩
theorem c_read {s : sf_Sg} (hT : ∀ j, T j ≤ 255) (hn : n ≤ 240) (h1 : s 1 0 = nI n) (h2 : ∀ j, j < n → s 2 j = nI (T j)) : ∃ u, f5_readInto 3 s = some (nI (q_rdall T n (n + 1) (q_B T n 0) q_D0).1.1, u) ∧ (∀ k, (k = 0 ∨ k = 2 ∨ 8 < k) → u k = s k) ∧ u 1 0 = 0 ∧ ((q_rdall T n (n + 1) (q_B T n 0) q_D0).1.1 = 0 → u 1 1 = -1 ∧ q_DC u (q_rdall T n (n + 1) (q_B T n 0) q_D0).2) ∧ ((q_rdall T n (n + 1) (q_B T n 0) q_D0).1.1 ≠ 0 → u 1 1 = nI (q_rdall T n (n + 1) (q_B T n 0) q_D0).1.2) := by
  unfold f5_readInto f5_readInto_b0 f7_clear f7_clear_b0
  obtain ⟨t, ht⟩ : ∃ t, t = sf_s1 (sf_s1 (sf_s1 (sf_s1 (sf_s1 (sf_s1 (sf_s1 s 3 0 (0 : Int32)) 3 1 (0 : Int32)) 3 2 (0 : Int32)) 3 3 (0 : Int32)) 1 3 (0 : Int32)) 1 4 (0 : Int32)) 1 1 (-1 : Int32) := ⟨_, rfl⟩
  rw [← ht]
  have ok : ∀ k, k ≠ 1 → k ≠ 3 → t k = s k := fun k k1 k2 => by rw [ht, q_s1k k1, q_s1k k1, q_s1k k1, q_s1k k2, q_s1k k2, q_s1k k2, q_s1k k2]
  have t0 : t 1 0 = nI n := by
    rw [ht, q_s1i (by decide), q_s1i (by decide), q_s1i (by decide), q_s1k (by decide), q_s1k (by decide), q_s1k (by decide), q_s1k (by decide)]
    exact h1
  have t1 : t 1 1 = -1 := by rw [ht, q_s1s]
  have t4 : t 1 4 = 0 := by rw [ht, q_s1i (by decide), q_s1s]
  have t3 : t 1 3 = nI 0 := by
    rw [ht, q_s1i (by decide), q_s1i (by decide), q_s1s]
    rfl
  have hD : q_DC t q_D0 := by
    refine ⟨?_, ?_, ?_, ?_, fun i h => absurd h (Nat.not_lt_zero i), fun i h => absurd h (Nat.not_lt_zero i)⟩
    · rw [ht, q_s1k (by decide), q_s1k (by decide), q_s1k (by decide), q_s1i (by decide), q_s1i (by decide), q_s1i (by decide), q_s1s]
      rfl
    · rw [ht, q_s1k (by decide), q_s1k (by decide), q_s1k (by decide), q_s1i (by decide), q_s1i (by decide), q_s1s]
      rfl
    · rw [ht, q_s1k (by decide), q_s1k (by decide), q_s1k (by decide), q_s1i (by decide), q_s1s]
      rfl
    · rw [ht, q_s1k (by decide), q_s1k (by decide), q_s1k (by decide), q_s1s]
      rfl
  obtain ⟨v, v1, v2, v3, v4⟩ := c_blank hT hn (Nat.zero_le n) (show q_TC t T n 0 from ⟨t0, t3, fun j hj => by rw [ok 2 (by decide) (by decide)]; exact h2 j hj⟩)
  rw [v1]
  simp only [q_ob]
  unfold f5_readInto_L25
  have hb := q_B_le (T := T) (Nat.zero_le n)
  obtain ⟨u, u1, u2, u3, u4, u5⟩ := c_run hT hn sf_FU (n + 1) (q_B T n 0) 0 v q_D0 (by unfold sf_FU; omega) (by omega) (Nat.zero_le _) hb q_D0_G ⟨⟨_, hb, v4⟩, fun _ => ⟨v4.2.1, (v3 4 (by decide)).trans t4, (v3 1 (by decide)).trans t1⟩, fun q => absurd rfl q⟩ (hD.of (fun k k1 k2 => v2 k (by omega)))
  exact ⟨u, u1, fun k hk => by rw [u2 k hk, v2 k (by omega), ok k (by omega) (by omega)], u3, u4, u5⟩
theorem m_read {s : sf_Sg} (hT : ∀ j, T j ≤ 255) (hn : n ≤ 240) (h1 : s 149 12 = nI n) (h2 : ∀ j, j < n → s 156 j = nI (T j)) : ∃ u, f10_shop s = f10_shop_b46 u (nI (q_rdall T n (n + 1) (q_B T n 0) q_D0).1.1) ∧ (∀ k, k ≠ 149 → (k < 157 ∨ 161 < k) → u k = s k) ∧ (∀ j, (j < 13 ∨ 23 < j) → u 149 j = s 149 j) ∧ ((q_rdall T n (n + 1) (q_B T n 0) q_D0).1.1 = 0 → u 149 13 = -1 ∧ q_DM u (q_rdall T n (n + 1) (q_B T n 0) q_D0).2) ∧ ((q_rdall T n (n + 1) (q_B T n 0) q_D0).1.1 ≠ 0 → u 149 13 = nI (q_rdall T n (n + 1) (q_B T n 0) q_D0).1.2) := by
  unfold f10_shop f10_shop_b0 f10_shop_L27
  obtain ⟨t, ht⟩ : ∃ t, t = sf_s1 (sf_s1 (sf_s1 (sf_s1 (sf_s1 s 149 13 (-1 : Int32)) 149 14 (0 : Int32)) 149 17 (0 : Int32)) 149 19 (0 : Int32)) 149 23 (0 : Int32) := ⟨_, rfl⟩
  rw [← ht]
  have ok : ∀ k, k ≠ 149 → t k = s k := fun k k1 => by rw [ht, q_s1k k1, q_s1k k1, q_s1k k1, q_s1k k1, q_s1k k1]
  have oj : ∀ j, (j < 13 ∨ 23 < j) → t 149 j = s 149 j := fun j hj => by rw [ht, q_s1i (by omega), q_s1i (by omega), q_s1i (by omega), q_s1i (by omega), q_s1i (by omega)]
  have t13 : t 149 13 = -1 := by rw [ht, q_s1i (by decide), q_s1i (by decide), q_s1i (by decide), q_s1i (by decide), q_s1s]
  have t14 : t 149 14 = nI 0 := by
    rw [ht, q_s1i (by decide), q_s1i (by decide), q_s1i (by decide), q_s1s]
    rfl
  have hD : q_DM t q_D0 := by
    refine ⟨?_, fun w => absurd rfl w, ?_, ?_, fun i h => absurd h (Nat.not_lt_zero i), fun i h => absurd h (Nat.not_lt_zero i)⟩
    · rw [ht, q_s1i (by decide), q_s1i (by decide), q_s1s]
      rfl
    · rw [ht, q_s1i (by decide), q_s1s]
      rfl
    · rw [ht, q_s1s]
      rfl
  have hb := q_B_le (T := T) (Nat.zero_le n)
  obtain ⟨u, u1, u2, u3, u4, u5⟩ := m_run hT hn sf_FU (n + 1) 0 (q_B T n 0) t q_D0 (by unfold sf_FU; omega) (by omega) (Nat.zero_le _) rfl q_D0_G ⟨(oj 12 (by decide)).trans h1, t14, fun j hj => by rw [ok 156 (by decide)]; exact h2 j hj⟩ t13 hD
  exact ⟨u, u1, fun k k1 k2 => by rw [u2 k k1 k2, ok k k1], fun j hj => by rw [u3 j hj, oj j hj], u4, u5⟩
end READT
