section CLAUSEM
variable {T : Nat → Nat} {n : Nat}
def q_RM (t : sf_Sg) (T : Nat → Nat) (n : Nat) (f0 : Int32) (st : Nat × Nat) : Prop := t 149 12 = nI n ∧ (∀ j, j < n → t 156 j = nI (T j)) ∧ (st.1 = 0 → t 149 14 = nI st.2 ∧ t 149 13 = f0) ∧ (st.1 ≠ 0 → t 149 13 = nI st.2)
theorem q_RM.tm {t : sf_Sg} {f0 : Int32} {st : Nat × Nat} (h : q_RM t T n f0 st) (h0 : st.1 = 0) : q_TM t T n st.2 := ⟨h.1, (h.2.2.1 h0).1, h.2.1⟩
theorem q_RM.of {t u : sf_Sg} {f0 : Int32} {st : Nat × Nat} (h : q_RM t T n f0 st) (h1 : u 149 12 = t 149 12) (h2 : u 149 13 = t 149 13) (h3 : u 149 14 = t 149 14) (h4 : u 156 = t 156) : q_RM u T n f0 st := by
  unfold q_RM at h ⊢
  rw [h1, h2, h3, h4]
  exact h
theorem m_numX {t : sf_Sg} {f0 : Int32} {st : Nat × Nat} {lo hi : Nat} (hT : ∀ j, T j ≤ 255) (hn : n ≤ 240) (hst : st.2 ≤ n) (hlh : lo ≤ hi) (hh : hi ≤ 100000) (h : q_RM t T n f0 st) (h0 : st.1 = 0) : ∃ u, f10_takeNumber t (nI lo) (nI hi) = some (nI (q_nu T n st lo hi).1, u) ∧ (∀ k, k ≠ 149 → u k = t k) ∧ (∀ j, j ≠ 13 → j ≠ 14 → j ≠ 15 → j ≠ 16 → u 149 j = t 149 j) ∧ q_RM u T n f0 (q_nu T n st lo hi) ∧ ((q_nu T n st lo hi).1 = 0 → u 149 15 = nI (q_va T n st lo hi)) := by
  unfold q_nu q_va
  rw [if_pos h0]
  obtain ⟨u, u1, u2, u3, u4, u5⟩ := m_num hT hn hst hlh hh (h.tm h0)
  exact ⟨u, u1, u2, u3, ⟨(u3 12 (by decide) (by decide) (by decide) (by decide)).trans h.1, fun j hj => by rw [u2 156 (by decide)]; exact h.2.1 j hj, fun w => ⟨(u4 w).1, (u4 w).2.1.trans (h.2.2.1 h0).2⟩, fun w => u5 w⟩, fun w => (u4 w).2.2⟩
theorem m_endX {t : sf_Sg} {f0 : Int32} {st : Nat × Nat} (hT : ∀ j, T j ≤ 255) (hn : n ≤ 240) (hst : st.2 ≤ n) (hc : st.1 ≤ 3) (h : q_RM t T n f0 st) : ∃ u, f10_takeClause_b160 t (nI st.1) = some (nI (q_ne T n st).1, u) ∧ (∀ k, k ≠ 149 → u k = t k) ∧ (∀ j, j ≠ 13 → j ≠ 14 → u 149 j = t 149 j) ∧ q_RM u T n f0 (q_ne T n st) := by
  unfold q_ne f10_takeClause_b160 f10_takeClause_b186
  by_cases e : st.1 = 0
  · rw [if_pos e, e, if_pos (show nI 0 = 0 from rfl)]
    obtain ⟨u, u1, u2, u3, u4⟩ := m_here hT hn hst (h.tm e)
    rw [u1]
    simp only [q_ob]
    have e59 : (q_lh T n (q_B T n st.2) = 59) = (q_B T n st.2 < n ∧ T (q_B T n st.2) = 59) := q_lh_eq (k := 59) hT (by decide)
    simp only [e59]
    by_cases c : q_B T n st.2 < n ∧ T (q_B T n st.2) = 59
    · rw [if_pos c, if_pos c, u4.2.1, nI_1]
      exact ⟨_, rfl, fun k hk => (q_s1k hk).trans (u2 k hk), fun j j1 j2 => (q_s1i j2).trans (u3 j j2), (q_s1i (by decide)).trans u4.1, fun j hj => by rw [q_s1k (by decide)]; exact u4.2.2 j hj, fun _ => ⟨q_s1s, (q_s1i (by decide)).trans ((u3 13 (by decide)).trans (h.2.2.1 e).2)⟩, fun w => absurd rfl w⟩
    · rw [if_neg c, if_neg c, u4.2.1]
      exact ⟨sf_s1 u 149 13 (nI (q_B T n st.2)), rfl, fun k hk => (q_s1k hk).trans (u2 k hk), fun j j1 j2 => (q_s1i j1).trans (u3 j j2), (q_s1i (by decide)).trans u4.1, fun j hj => by rw [q_s1k (by decide)]; exact u4.2.2 j hj, fun w => absurd (show (1 : Nat) = 0 from w) (by decide), fun _ => q_s1s⟩
  · rw [if_neg e, if_neg (nI_ne0 (by omega) (by omega))]
    exact ⟨_, rfl, fun k hk => q_s1k hk, fun j j1 j2 => q_s1i j2, (q_s1i (by decide)).trans h.1, fun j hj => by rw [q_s1k (by decide)]; exact h.2.1 j hj, fun w => absurd w e, fun w => (q_s1i (by decide)).trans (h.2.2.2 w)⟩
theorem m_intoX {t : sf_Sg} {f0 : Int32} {st : Nat × Nat} {lo hi x a1 n1 : Nat} (hT : ∀ j, T j ≤ 255) (hn : n ≤ 240) (hst : st.2 ≤ n) (hlh : lo ≤ hi) (hh : hi ≤ 100000) (h : q_RM t T n f0 st) (h0 : st.1 = 0) (hx : x < n1) (hn1 : n1 ≤ 1000) (ha : a1 ≠ 149) (ha2 : a1 ≠ 156) : ∃ u, f10_into a1 n1 t (nI x) (nI lo) (nI hi) = some (nI (q_nu T n st lo hi).1, u) ∧ (∀ k, k ≠ 149 → k ≠ a1 → u k = t k) ∧ (∀ j, j ≠ 13 → j ≠ 14 → j ≠ 15 → j ≠ 16 → u 149 j = t 149 j) ∧ (∀ j, j ≠ x → u a1 j = t a1 j) ∧ q_RM u T n f0 (q_nu T n st lo hi) ∧ ((q_nu T n st lo hi).1 = 0 → u a1 x = nI (q_va T n st lo hi)) := by
  obtain ⟨u, u1, u2, u3, u4, u5⟩ := m_numX hT hn hst hlh hh h h0
  unfold f10_into f10_into_b0
  rw [u1]
  simp only [q_ob]
  rw [q_st hx hn1]
  refine ⟨_, rfl, fun k k1 k2 => (q_s1k k2).trans (u2 k k1), fun j j1 j2 j3 j4 => ?_, fun j hj => ?_, u4.of ?_ ?_ ?_ ?_, fun w => ?_⟩
  · rw [q_s1k (Ne.symm ha)]
    exact u3 j j1 j2 j3 j4
  · rw [q_s1i hj, u2 a1 ha]
  · rw [q_s1k (Ne.symm ha)]
  · rw [q_s1k (Ne.symm ha)]
  · rw [q_s1k (Ne.symm ha)]
  · rw [q_s1k (Ne.symm ha2)]
  · rw [q_s1s]
    exact u5 w
theorem q_nu_c {st : Nat × Nat} {lo hi : Nat} (h : st.1 ≠ 0) : q_nu T n st lo hi = st := by
  unfold q_nu
  rw [if_neg h]
theorem q_le0 {c : Nat} (h : c ≤ 1000) : (nI c ≤ 0) = (c = 0) := by
  have : (nI c ≤ 0) = (c ≤ 0) := q_le (b := 0) (by omega) (by decide)
  rw [this]
  exact propext ⟨fun w => by omega, fun w => by omega⟩
theorem m_clause {t : sf_Sg} {f0 : Int32} {i0 i : Nat} {D : Nat → Nat → Nat} (hT : ∀ j, T j ≤ 255) (hn : n ≤ 240) (hi0 : i0 ≤ n) (hb : q_B T n i0 = i) (hi : i < n) (G : q_DG D) (h : q_TM t T n i0) (h13 : t 149 13 = f0) (hD : q_DM t D) : ∃ u, f10_takeClause t = some (nI (q_cl T n i D).1.1, u) ∧ (∀ k, k ≠ 149 → (k < 157 ∨ 161 < k) → u k = t k) ∧ (∀ j, (j < 13 ∨ 23 < j) → u 149 j = t 149 j) ∧ q_RM u T n f0 (q_cl T n i D).1 ∧ ((q_cl T n i D).1.1 = 0 → q_DM u (q_cl T n i D).2) := by
  obtain ⟨g1, g2, g3, g4, g5, g6, g7⟩ := id G
  obtain ⟨v, v1, v2, v3, v4⟩ := m_here hT hn hi0 h
  rw [hb] at v1 v4
  obtain ⟨d0, d1, d2, d3, d4, d5⟩ : q_DM v D := by
    unfold q_DM at hD ⊢
    rw [v3 17 (by decide), v3 18 (by decide), v3 19 (by decide), v3 23 (by decide), v2 157 (by decide), v2 158 (by decide), v2 159 (by decide), v2 160 (by decide), v2 161 (by decide)]
    exact hD
  have hTi := hT i
  have hch : q_lh T n i = nI (T i) := by
    unfold q_lh
    rw [if_pos hi]
  have c102 : (nI (T i) = 102) = (T i = 102) := q_32 (by omega) 102 (by decide)
  have c98 : (nI (T i) = 98) = (T i = 98) := q_32 (by omega) 98 (by decide)
  have c112 : (nI (T i) = 112) = (T i = 112) := q_32 (by omega) 112 (by decide)
  have z0 : (nI (D 0 0) = 0) = (D 0 0 = 0) := q_eq (b := 0) (by omega) (by decide)
  have six : (nI (D 0 2) = (6 : Int32)) = (D 0 2 = 6) := q_eq (b := 6) (by omega) (by decide)
  have five : (nI (D 0 3) = (5 : Int32)) = (D 0 3 = 5) := q_eq (b := 5) (by omega) (by decide)
  have v14 : v 149 14 = nI i := v4.2.1
  have v13 : v 149 13 = f0 := (v3 13 (by decide)).trans h13
  have bad : ∀ c : Nat, c ≤ 3 → c ≠ 0 → ∃ u, some ((nI c, sf_s1 v 149 13 (nI i)) : Int32 × sf_Sg) = some (nI (((c, i), D) : (Nat × Nat) × (Nat → Nat → Nat)).1.1, u) ∧ (∀ k, k ≠ 149 → (k < 157 ∨ 161 < k) → u k = t k) ∧ (∀ j, (j < 13 ∨ 23 < j) → u 149 j = t 149 j) ∧ q_RM u T n f0 (((c, i), D) : (Nat × Nat) × (Nat → Nat → Nat)).1 ∧ ((((c, i), D) : (Nat × Nat) × (Nat → Nat → Nat)).1.1 = 0 → q_DM u (((c, i), D) : (Nat × Nat) × (Nat → Nat → Nat)).2) := by
    intro c h3 h0
    exact ⟨_, rfl, fun k k1 _ => (q_s1k k1).trans (v2 k k1), fun j hj => (q_s1i (by omega)).trans (v3 j (by omega)), ⟨(q_s1i (by decide)).trans v4.1, fun j hj => by rw [q_s1k (by decide)]; exact v4.2.2 j hj, fun w => absurd w h0, fun _ => q_s1s⟩, fun w => absurd w h0⟩
  have b52 : f10_takeClause_b52 v = some (nI 1, sf_s1 v 149 13 (nI i)) := by
    unfold f10_takeClause_b52 f10_fails f10_fails_b0
    rw [v14]
    rfl
  have b3 : some ((f10_fails v (3 : Int32) (v 149 14)).1, (f10_fails v (3 : Int32) (v 149 14)).2) = some ((nI 3, sf_s1 v 149 13 (nI i)) : Int32 × sf_Sg) := by
    unfold f10_fails f10_fails_b0
    rw [v14]
    rfl
  have s0 : ((0, i + 1) : Nat × Nat).2 ≤ n := by show i + 1 ≤ n; omega
  have s0c : ((0, i + 1) : Nat × Nat).1 ≤ 3 := by show 0 ≤ 3; omega
  obtain ⟨va, hva⟩ : ∃ va, va = sf_s1 v 149 14 (nI (i + 1)) := ⟨_, rfl⟩
  have oa : ∀ k, k ≠ 149 → va k = t k := fun k hk => by rw [hva, q_s1k hk, v2 k hk]
  have oav : ∀ k, k ≠ 149 → va k = v k := fun k hk => by rw [hva, q_s1k hk]
  have oj : ∀ j, j ≠ 14 → va 149 j = v 149 j := fun j hj => by rw [hva, q_s1i hj]
  have ra : q_RM va T n f0 (0, i + 1) := ⟨(oj 12 (by decide)).trans v4.1, fun j hj => by rw [oav 156 (by decide)]; exact v4.2.2 j hj, fun _ => ⟨by rw [hva, q_s1s], (oj 13 (by decide)).trans v13⟩, fun w => absurd rfl w⟩
  have e14 : sf_s1 v 149 14 (v 149 14 + 1) = va := by rw [v14, nI_1, hva]
  unfold f10_takeClause f10_takeClause_b0
  rw [v1]
  simp only [q_ob]
  rw [hch]
  simp only [c102, c98, c112]
  unfold q_cl
  by_cases w1 : T i = 102
  · rw [if_pos w1, if_pos w1]
    unfold f10_takeClause_b36 f10_takeClause_b62 f10_takeClause_b108
    rw [if_neg (show ¬ (0 : Int32) < 0 by decide), if_pos (show (0 : Int32) ≤ 0 by decide), if_pos (show (0 : Int32) = 0 from rfl), if_pos (show (0 : Int32) = 0 from rfl), d0, e14]
    simp only [z0]
    by_cases e0 : D 0 0 = 0
    · rw [if_pos e0, if_pos e0]
      unfold q_cF f10_takeShop f10_takeShop_b0
      obtain ⟨a1, a2, a3, a4⟩ := q_nu_ok (T := T) (lo := 0) (hi := 99) s0 s0c
      obtain ⟨b1, b2, b3⟩ := q_ne_ok (T := T) a1 a3
      have rb : q_RM (sf_s1 va 149 17 1) T n f0 (0, i + 1) := ra.of (q_s1i (by decide)) (q_s1i (by decide)) (q_s1i (by decide)) (q_s1k (by decide))
      obtain ⟨u, u1, u2, u3, u4, u5⟩ := m_numX (lo := 0) (hi := 99) hT hn s0 (by decide) (by decide) rb rfl
      have u1' : f10_takeNumber (sf_s1 va 149 17 1) 0 99 = some (nI (q_nu T n (0, i + 1) 0 99).1, u) := u1
      rw [u1']
      simp only [q_ob]
      have rc : q_RM (sf_s1 u 149 18 (u 149 15)) T n f0 (q_nu T n (0, i + 1) 0 99) := u4.of (q_s1i (by decide)) (q_s1i (by decide)) (q_s1i (by decide)) (q_s1k (by decide))
      obtain ⟨w, r1, r2, r3, r4⟩ := m_endX hT hn a1 a3 rc
      rw [r1]
      have ow : ∀ k, k ≠ 149 → w k = v k := fun k hk => by rw [r2 k hk, q_s1k hk, u2 k hk, q_s1k hk, oav k hk]
      have owj : ∀ j, j ≠ 13 → j ≠ 14 → j ≠ 15 → j ≠ 16 → j ≠ 17 → j ≠ 18 → w 149 j = v 149 j := fun j j1 j2 j3 j4 j5 j6 => by rw [r3 j j1 j2, q_s1i j6, u3 j j1 j2 j3 j4, q_s1i j5, oj j j2]
      refine ⟨w, rfl, fun k k1 _ => (ow k k1).trans (v2 k k1), fun j hj => (owj j (by omega) (by omega) (by omega) (by omega) (by omega) (by omega)).trans (v3 j (by omega)), r4, fun hw => ⟨?_, fun _ => ?_, ?_, ?_, fun j hj => ?_, fun j hj => ?_⟩⟩
      · rw [r3 17 (by decide) (by decide), q_s1i (by decide), u3 17 (by decide) (by decide) (by decide) (by decide), q_s1s]
        rfl
      · rw [r3 18 (by decide) (by decide), q_s1s, u5 (b3 hw).1]
        rfl
      · rw [owj 19 (by decide) (by decide) (by decide) (by decide) (by decide) (by decide)]
        exact d2
      · rw [owj 23 (by decide) (by decide) (by decide) (by decide) (by decide) (by decide)]
        exact d3
      · rw [ow 157 (by decide), ow 158 (by decide), ow 159 (by decide)]
        exact d4 j hj
      · rw [ow 160 (by decide), ow 161 (by decide)]
        exact d5 j hj
    · rw [if_neg e0, if_neg e0, b3]
      exact bad 3 (by decide) (by decide)
  · rw [if_neg w1, if_neg w1]
    by_cases w2 : T i = 98
    · rw [if_pos w2, if_pos w2]
      unfold f10_takeClause_b36
      rw [if_neg (show ¬ (1 : Int32) < 0 by decide), if_neg (show ¬ (1 : Int32) ≤ 0 by decide), d0, b52]
      simp only [z0]
      by_cases e0 : D 0 0 = 0
      · rw [if_pos e0, if_pos e0]
        exact bad 1 (by decide) (by decide)
      · rw [if_neg e0, if_neg e0]
        unfold f10_takeClause_b62 f10_takeClause_b108
        rw [if_neg q_b1, if_pos (show (1 : Int32) = 1 from rfl), d2, b3, if_pos (show (0 : Int32) = 0 from rfl), if_neg q_b1, if_neg q_b1, if_pos (show (1 : Int32) = 1 from rfl), e14]
        simp only [six]
        by_cases e6 : D 0 2 = 6
        · rw [if_pos e6, if_pos e6]
          exact bad 3 (by decide) (by decide)
        · rw [if_neg e6, if_neg e6]
          unfold q_cB f10_takeBurden f10_takeBurden_b0
          have l2 : va 149 19 = nI (D 0 2) := (oj 19 (by decide)).trans d2
          rw [l2, nI_1]
          obtain ⟨vb, hvb⟩ : ∃ vb, vb = sf_s1 va 149 19 (nI (D 0 2 + 1)) := ⟨_, rfl⟩
          rw [← hvb]
          have rb : q_RM vb T n f0 (0, i + 1) := by
            rw [hvb]
            exact ra.of (q_s1i (by decide)) (q_s1i (by decide)) (q_s1i (by decide)) (q_s1k (by decide))
          obtain ⟨a1, a2, a3, a4⟩ := q_nu_ok (T := T) (lo := 0) (hi := 4) s0 s0c
          obtain ⟨b1, b2, b3, b4⟩ := q_nu_ok (T := T) (lo := 1) (hi := 60) a1 a3
          obtain ⟨c1, c2, c3, c4⟩ := q_nu_ok (T := T) (lo := 0) (hi := 20) b1 b3
          obtain ⟨_, _, f3⟩ := q_ne_ok (T := T) c1 c3
          -- the rows that the three numbers fill
          have rows : ∃ w, ((f10_into 157 6 vb (nI (D 0 2)) (0 : Int32) (4 : Int32)).bind fun q23 => if q23.1 ≤ 0 then (f10_into 158 6 q23.2 (nI (D 0 2)) (1 : Int32) (60 : Int32)).bind fun q44 => f10_takeBurden_b47 q44.2 (nI (D 0 2)) q44.1 else f10_takeBurden_b47 q23.2 (nI (D 0 2)) q23.1) = some (nI (q_nu T n (q_nu T n (q_nu T n (0, i + 1) 0 4) 1 60) 0 20).1, w) ∧ (∀ k, k ≠ 149 → k ≠ 157 → k ≠ 158 → k ≠ 159 → w k = v k) ∧ (∀ j, j ≠ 13 → j ≠ 14 → j ≠ 15 → j ≠ 16 → w 149 j = vb 149 j) ∧ (∀ j, j ≠ D 0 2 → w 157 j = v 157 j ∧ w 158 j = v 158 j ∧ w 159 j = v 159 j) ∧ q_RM w T n f0 (q_nu T n (q_nu T n (q_nu T n (0, i + 1) 0 4) 1 60) 0 20) ∧ ((q_nu T n (q_nu T n (q_nu T n (0, i + 1) 0 4) 1 60) 0 20).1 = 0 → w 157 (D 0 2) = nI (q_va T n (0, i + 1) 0 4) ∧ w 158 (D 0 2) = nI (q_va T n (q_nu T n (0, i + 1) 0 4) 1 60) ∧ w 159 (D 0 2) = nI (q_va T n (q_nu T n (q_nu T n (0, i + 1) 0 4) 1 60) 0 20)) := by
            have ob : ∀ k, k ≠ 149 → vb k = v k := fun k hk => by rw [hvb, q_s1k hk, oav k hk]
            obtain ⟨u, u1, u2, u3, u4, u5, u6⟩ := m_intoX (lo := 0) (hi := 4) (x := D 0 2) (a1 := 157) (n1 := 6) hT hn s0 (by decide) (by decide) rb rfl (by omega) (by decide) (by decide) (by decide)
            have u1' : f10_into 157 6 vb (nI (D 0 2)) 0 4 = some (nI (q_nu T n (0, i + 1) 0 4).1, u) := u1
            rw [u1']
            simp only [q_ob, q_le0 (show (q_nu T n (0, i + 1) 0 4).1 ≤ 1000 by omega)]
            generalize hS1 : q_nu T n (0, i + 1) 0 4 = S1 at *
            generalize q_va T n (0, i + 1) 0 4 = V1 at *
            unfold f10_takeBurden_b47
            by_cases k1 : S1.1 = 0
            · rw [if_pos k1]
              obtain ⟨y, y1, y2, y3, y4, y5, y6⟩ := m_intoX (lo := 1) (hi := 60) (x := D 0 2) (a1 := 158) (n1 := 6) hT hn a1 (by decide) (by decide) u5 k1 (by omega) (by decide) (by decide) (by decide)
              have y1' : f10_into 158 6 u (nI (D 0 2)) 1 60 = some (nI (q_nu T n S1 1 60).1, y) := y1
              rw [y1']
              simp only [q_ob, q_le0 (show (q_nu T n S1 1 60).1 ≤ 1000 by omega)]
              generalize hS2 : q_nu T n S1 1 60 = S2 at *
              generalize q_va T n S1 1 60 = V2 at *
              by_cases k2 : S2.1 = 0
              · rw [if_pos k2]
                obtain ⟨x, x1, x2, x3, x4, x5, x6⟩ := m_intoX (lo := 0) (hi := 20) (x := D 0 2) (a1 := 159) (n1 := 6) hT hn b1 (by decide) (by decide) y5 k2 (by omega) (by decide) (by decide) (by decide)
                have x1' : f10_into 159 6 y (nI (D 0 2)) 0 20 = some (nI (q_nu T n S2 0 20).1, x) := x1
                rw [x1']
                refine ⟨x, rfl, fun k k1 k2 k3 k4 => by rw [x2 k k1 k4, y2 k k1 k3, u2 k k1 k2, ob k k1], fun j j1 j2 j3 j4 => by rw [x3 j j1 j2 j3 j4, y3 j j1 j2 j3 j4, u3 j j1 j2 j3 j4], fun j hj => ⟨?_, ?_, ?_⟩, x5, fun hw => ⟨?_, ?_, x6 hw⟩⟩
                · rw [x2 157 (by decide) (by decide), y2 157 (by decide) (by decide), u4 j hj, ob 157 (by decide)]
                · rw [x2 158 (by decide) (by decide), y4 j hj, u2 158 (by decide) (by decide), ob 158 (by decide)]
                · rw [x4 j hj, y2 159 (by decide) (by decide), u2 159 (by decide) (by decide), ob 159 (by decide)]
                · rw [x2 157 (by decide) (by decide), y2 157 (by decide) (by decide), u6 k1]
                · rw [x2 158 (by decide) (by decide), y6 k2]
              · rw [if_neg k2, q_nu_c k2]
                refine ⟨y, rfl, fun k k1 k2 k3 k4 => by rw [y2 k k1 k3, u2 k k1 k2, ob k k1], fun j j1 j2 j3 j4 => by rw [y3 j j1 j2 j3 j4, u3 j j1 j2 j3 j4], fun j hj => ⟨?_, ?_, ?_⟩, y5, fun hw => absurd hw k2⟩
                · rw [y2 157 (by decide) (by decide), u4 j hj, ob 157 (by decide)]
                · rw [y4 j hj, u2 158 (by decide) (by decide), ob 158 (by decide)]
                · rw [y2 159 (by decide) (by decide), u2 159 (by decide) (by decide), ob 159 (by decide)]
            · have k1' : ¬ nI S1.1 ≤ 0 := fun w => k1 (cast (q_le0 (show S1.1 ≤ 1000 by omega)) w)
              rw [if_neg k1, if_neg k1', q_nu_c k1, q_nu_c k1]
              refine ⟨u, rfl, fun k k1 k2 k3 k4 => by rw [u2 k k1 k2, ob k k1], fun j j1 j2 j3 j4 => by rw [u3 j j1 j2 j3 j4], fun j hj => ⟨?_, ?_, ?_⟩, u5, fun hw => absurd hw k1⟩
              · rw [u4 j hj, ob 157 (by decide)]
              · rw [u2 158 (by decide) (by decide), ob 158 (by decide)]
              · rw [u2 159 (by decide) (by decide), ob 159 (by decide)]
          obtain ⟨w, r1, r2, r3, r4, r5, r6⟩ := rows
          rw [r1]
          simp only [q_ob]
          obtain ⟨q, q1, q2, q3, q4⟩ := m_endX hT hn c1 c3 r5
          rw [q1]
          have vbj : ∀ j, j ≠ 14 → j ≠ 19 → vb 149 j = v 149 j := fun j j1 j2 => by rw [hvb, q_s1i j2, oj j j1]
          refine ⟨q, rfl, fun k k1 k2 => by rw [q2 k k1, r2 k k1 (by omega) (by omega) (by omega), v2 k k1], fun j hj => by rw [q3 j (by omega) (by omega), r3 j (by omega) (by omega) (by omega) (by omega), vbj j (by omega) (by omega), v3 j (by omega)], q4, fun hw => ?_⟩
          obtain ⟨x1, x2, x3⟩ := r6 (f3 hw).1
          generalize q_va T n (0, i + 1) 0 4 = k1 at *
          generalize q_va T n (q_nu T n (0, i + 1) 0 4) 1 60 = k2 at *
          generalize q_va T n (q_nu T n (q_nu T n (0, i + 1) 0 4) 1 60) 0 20 = k3 at *
          refine ⟨?_, fun e => ?_, ?_, ?_, fun j hj => ?_, fun j hj => ?_⟩
          · rw [q3 17 (by decide) (by decide), r3 17 (by decide) (by decide) (by decide) (by decide), vbj 17 (by decide) (by decide)]
            exact d0
          · rw [q3 18 (by decide) (by decide), r3 18 (by decide) (by decide) (by decide) (by decide), vbj 18 (by decide) (by decide)]
            exact d1 e0
          · rw [q3 19 (by decide) (by decide), r3 19 (by decide) (by decide) (by decide) (by decide), hvb, q_s1s]
            rfl
          · rw [q3 23 (by decide) (by decide), r3 23 (by decide) (by decide) (by decide) (by decide), vbj 23 (by decide) (by decide)]
            exact d3
          · have hj' : j < D 0 2 + 1 := hj
            rw [q2 157 (by decide), q2 158 (by decide), q2 159 (by decide)]
            by_cases e : j = D 0 2
            · subst e
              rw [x1, x2, x3]
              unfold q_db q_up
              simp
            · obtain ⟨y1, y2, y3⟩ := r4 j e
              rw [y1, y2, y3]
              have hd := d4 j (by omega)
              unfold q_db q_up
              simp [e]
              exact hd
          · rw [q2 160 (by decide), q2 161 (by decide), r2 160 (by decide) (by decide) (by decide) (by decide), r2 161 (by decide) (by decide) (by decide) (by decide)]
            exact d5 j hj
    · rw [if_neg w2, if_neg w2]
      by_cases w3 : T i = 112
      · rw [if_pos w3, if_pos w3]
        unfold f10_takeClause_b36
        rw [if_neg (show ¬ (2 : Int32) < 0 by decide), if_neg (show ¬ (2 : Int32) ≤ 0 by decide), d0, b52]
        simp only [z0]
        by_cases e0 : D 0 0 = 0
        · rw [if_pos e0, if_pos e0]
          exact bad 1 (by decide) (by decide)
        · rw [if_neg e0, if_neg e0]
          unfold f10_takeClause_b62 f10_takeClause_b108
          rw [if_neg (show ¬ (2 : Int32) = 0 by decide), if_neg (show ¬ (2 : Int32) = 1 by decide), d3, b3, if_pos (show (0 : Int32) = 0 from rfl), if_neg q_b1, if_neg (show ¬ (2 : Int32) = 0 by decide), if_neg (show ¬ (2 : Int32) = 1 by decide), e14]
          simp only [five]
          by_cases e6 : D 0 3 = 5
          · rw [if_pos e6, if_pos e6]
            exact bad 3 (by decide) (by decide)
          · rw [if_neg e6, if_neg e6]
            unfold q_cP f10_takeBack f10_takeBack_b0
            have l2 : va 149 23 = nI (D 0 3) := (oj 23 (by decide)).trans d3
            rw [l2, nI_1]
            obtain ⟨vb, hvb⟩ : ∃ vb, vb = sf_s1 va 149 23 (nI (D 0 3 + 1)) := ⟨_, rfl⟩
            rw [← hvb]
            have rb : q_RM vb T n f0 (0, i + 1) := by
              rw [hvb]
              exact ra.of (q_s1i (by decide)) (q_s1i (by decide)) (q_s1i (by decide)) (q_s1k (by decide))
            obtain ⟨a1, a2, a3, a4⟩ := q_nu_ok (T := T) (lo := 1) (hi := 99) s0 s0c
            obtain ⟨b1, b2, b3, b4⟩ := q_nu_ok (T := T) (lo := 0) (hi := 9) a1 a3
            obtain ⟨_, _, f3⟩ := q_ne_ok (T := T) b1 b3
            have rows : ∃ w, ((f10_into 160 5 vb (nI (D 0 3)) (1 : Int32) (99 : Int32)).bind fun q24 => if q24.1 ≤ 0 then (f10_into 161 5 q24.2 (nI (D 0 3)) (0 : Int32) (9 : Int32)).bind fun q45 => some (q45.1, q45.2) else some (q24.1, q24.2)) = some (nI (q_nu T n (q_nu T n (0, i + 1) 1 99) 0 9).1, w) ∧ (∀ k, k ≠ 149 → k ≠ 160 → k ≠ 161 → w k = v k) ∧ (∀ j, j ≠ 13 → j ≠ 14 → j ≠ 15 → j ≠ 16 → w 149 j = vb 149 j) ∧ (∀ j, j ≠ D 0 3 → w 160 j = v 160 j ∧ w 161 j = v 161 j) ∧ q_RM w T n f0 (q_nu T n (q_nu T n (0, i + 1) 1 99) 0 9) ∧ ((q_nu T n (q_nu T n (0, i + 1) 1 99) 0 9).1 = 0 → w 160 (D 0 3) = nI (q_va T n (0, i + 1) 1 99) ∧ w 161 (D 0 3) = nI (q_va T n (q_nu T n (0, i + 1) 1 99) 0 9)) := by
              have ob : ∀ k, k ≠ 149 → vb k = v k := fun k hk => by rw [hvb, q_s1k hk, oav k hk]
              obtain ⟨u, u1, u2, u3, u4, u5, u6⟩ := m_intoX (lo := 1) (hi := 99) (x := D 0 3) (a1 := 160) (n1 := 5) hT hn s0 (by decide) (by decide) rb rfl (by omega) (by decide) (by decide) (by decide)
              have u1' : f10_into 160 5 vb (nI (D 0 3)) 1 99 = some (nI (q_nu T n (0, i + 1) 1 99).1, u) := u1
              rw [u1']
              simp only [q_ob, q_le0 (show (q_nu T n (0, i + 1) 1 99).1 ≤ 1000 by omega)]
              generalize hS1 : q_nu T n (0, i + 1) 1 99 = S1 at *
              generalize q_va T n (0, i + 1) 1 99 = V1 at *
              by_cases k1 : S1.1 = 0
              · rw [if_pos k1]
                obtain ⟨y, y1, y2, y3, y4, y5, y6⟩ := m_intoX (lo := 0) (hi := 9) (x := D 0 3) (a1 := 161) (n1 := 5) hT hn a1 (by decide) (by decide) u5 k1 (by omega) (by decide) (by decide) (by decide)
                have y1' : f10_into 161 5 u (nI (D 0 3)) 0 9 = some (nI (q_nu T n S1 0 9).1, y) := y1
                rw [y1']
                refine ⟨y, rfl, fun k k1 k2 k3 => by rw [y2 k k1 k3, u2 k k1 k2, ob k k1], fun j j1 j2 j3 j4 => by rw [y3 j j1 j2 j3 j4, u3 j j1 j2 j3 j4], fun j hj => ⟨?_, ?_⟩, y5, fun hw => ⟨?_, y6 hw⟩⟩
                · rw [y2 160 (by decide) (by decide), u4 j hj, ob 160 (by decide)]
                · rw [y4 j hj, u2 161 (by decide) (by decide), ob 161 (by decide)]
                · rw [y2 160 (by decide) (by decide), u6 k1]
              · rw [if_neg k1, q_nu_c k1]
                refine ⟨u, rfl, fun k k1 k2 k3 => by rw [u2 k k1 k2, ob k k1], fun j j1 j2 j3 j4 => by rw [u3 j j1 j2 j3 j4], fun j hj => ⟨?_, ?_⟩, u5, fun hw => absurd hw k1⟩
                · rw [u4 j hj, ob 160 (by decide)]
                · rw [u2 161 (by decide) (by decide), ob 161 (by decide)]
            obtain ⟨w, r1, r2, r3, r4, r5, r6⟩ := rows
            rw [r1]
            simp only [q_ob]
            obtain ⟨q, q1, q2, q3, q4⟩ := m_endX hT hn b1 b3 r5
            rw [q1]
            have vbj : ∀ j, j ≠ 14 → j ≠ 23 → vb 149 j = v 149 j := fun j j1 j2 => by rw [hvb, q_s1i j2, oj j j1]
            refine ⟨q, rfl, fun k k1 k2 => by rw [q2 k k1, r2 k k1 (by omega) (by omega), v2 k k1], fun j hj => by rw [q3 j (by omega) (by omega), r3 j (by omega) (by omega) (by omega) (by omega), vbj j (by omega) (by omega), v3 j (by omega)], q4, fun hw => ?_⟩
            obtain ⟨x1, x2⟩ := r6 (f3 hw).1
            generalize q_va T n (0, i + 1) 1 99 = k1 at *
            generalize q_va T n (q_nu T n (0, i + 1) 1 99) 0 9 = k2 at *
            refine ⟨?_, fun e => ?_, ?_, ?_, fun j hj => ?_, fun j hj => ?_⟩
            · rw [q3 17 (by decide) (by decide), r3 17 (by decide) (by decide) (by decide) (by decide), vbj 17 (by decide) (by decide)]
              exact d0
            · rw [q3 18 (by decide) (by decide), r3 18 (by decide) (by decide) (by decide) (by decide), vbj 18 (by decide) (by decide)]
              exact d1 e0
            · rw [q3 19 (by decide) (by decide), r3 19 (by decide) (by decide) (by decide) (by decide), vbj 19 (by decide) (by decide)]
              exact d2
            · rw [q3 23 (by decide) (by decide), r3 23 (by decide) (by decide) (by decide) (by decide), hvb, q_s1s]
              rfl
            · rw [q2 157 (by decide), q2 158 (by decide), q2 159 (by decide), r2 157 (by decide) (by decide) (by decide), r2 158 (by decide) (by decide) (by decide), r2 159 (by decide) (by decide) (by decide)]
              exact d4 j hj
            · have hj' : j < D 0 3 + 1 := hj
              rw [q2 160 (by decide), q2 161 (by decide)]
              by_cases e : j = D 0 3
              · subst e
                rw [x1, x2]
                unfold q_dp q_up
                simp
              · obtain ⟨y1, y2⟩ := r4 j e
                rw [y1, y2]
                have hd := d5 j (by omega)
                unfold q_dp q_up
                simp [e]
                exact hd
      · rw [if_neg w3, if_neg w3]
        unfold f10_takeClause_b36
        rw [if_pos (show (-1 : Int32) < 0 by decide), b52]
        exact bad 1 (by decide) (by decide)
end CLAUSEM
