-- clauses
section CLAUSE
variable (T : Nat → Nat) (n : Nat)
def q_nu (st : Nat × Nat) (lo hi : Nat) : Nat × Nat := if st.1 = 0 then ((q_num T n st.2 lo hi).1, (q_num T n st.2 lo hi).2.1) else st
def q_va (st : Nat × Nat) (lo hi : Nat) : Nat := (q_num T n st.2 lo hi).2.2
def q_ne (st : Nat × Nat) : Nat × Nat := if st.1 = 0 then (if q_B T n st.2 < n ∧ T (q_B T n st.2) = 59 then (0, q_B T n st.2 + 1) else (1, q_B T n st.2)) else st
def q_df (D : Nat → Nat → Nat) (v : Nat) : Nat → Nat → Nat := q_up (q_up D 0 0 1) 0 1 v
def q_db (D : Nat → Nat → Nat) (k w e : Nat) : Nat → Nat → Nat := q_up (q_up (q_up (q_up D 1 (D 0 2) k) 2 (D 0 2) w) 3 (D 0 2) e) 0 2 (D 0 2 + 1)
def q_dp (D : Nat → Nat → Nat) (x y : Nat) : Nat → Nat → Nat := q_up (q_up (q_up D 4 (D 0 3) x) 5 (D 0 3) y) 0 3 (D 0 3 + 1)
def q_cF (i : Nat) (D : Nat → Nat → Nat) : (Nat × Nat) × (Nat → Nat → Nat) := (q_ne T n (q_nu T n (0, i + 1) 0 99), q_df D (q_va T n (0, i + 1) 0 99))
def q_cB (i : Nat) (D : Nat → Nat → Nat) : (Nat × Nat) × (Nat → Nat → Nat) := (q_ne T n (q_nu T n (q_nu T n (q_nu T n (0, i + 1) 0 4) 1 60) 0 20), q_db D (q_va T n (0, i + 1) 0 4) (q_va T n (q_nu T n (0, i + 1) 0 4) 1 60) (q_va T n (q_nu T n (q_nu T n (0, i + 1) 0 4) 1 60) 0 20))
def q_cP (i : Nat) (D : Nat → Nat → Nat) : (Nat × Nat) × (Nat → Nat → Nat) := (q_ne T n (q_nu T n (q_nu T n (0, i + 1) 1 99) 0 9), q_dp D (q_va T n (0, i + 1) 1 99) (q_va T n (q_nu T n (0, i + 1) 1 99) 0 9))
def q_cl (i : Nat) (D : Nat → Nat → Nat) : (Nat × Nat) × (Nat → Nat → Nat) :=
  if T i = 102 then (if D 0 0 = 0 then q_cF T n i D else ((3, i), D))
  else if T i = 98 then (if D 0 0 = 0 then ((1, i), D) else if D 0 2 = 6 then ((3, i), D) else q_cB T n i D)
  else if T i = 112 then (if D 0 0 = 0 then ((1, i), D) else if D 0 3 = 5 then ((3, i), D) else q_cP T n i D)
  else ((1, i), D)
end CLAUSE
def q_DG (D : Nat → Nat → Nat) : Prop := D 0 0 ≤ 1 ∧ D 0 1 ≤ 99 ∧ D 0 2 ≤ 6 ∧ D 0 3 ≤ 5 ∧ (∀ i, i < D 0 2 → D 1 i ≤ 4 ∧ 1 ≤ D 2 i ∧ D 2 i ≤ 60 ∧ D 3 i ≤ 20) ∧ (∀ i, i < D 0 3 → 1 ≤ D 4 i ∧ D 4 i ≤ 99 ∧ D 5 i ≤ 9) ∧ (D 0 0 = 0 → D 0 1 = 0)
def q_DC (t : sf_Sg) (D : Nat → Nat → Nat) : Prop := t 3 0 = nI (D 0 0) ∧ t 3 1 = nI (D 0 1) ∧ t 3 2 = nI (D 0 2) ∧ t 3 3 = nI (D 0 3) ∧ (∀ i, i < D 0 2 → t 4 i = nI (D 1 i) ∧ t 5 i = nI (D 2 i) ∧ t 6 i = nI (D 3 i)) ∧ (∀ i, i < D 0 3 → t 7 i = nI (D 4 i) ∧ t 8 i = nI (D 5 i))
def q_DM (t : sf_Sg) (D : Nat → Nat → Nat) : Prop := t 149 17 = nI (D 0 0) ∧ (D 0 0 ≠ 0 → t 149 18 = nI (D 0 1)) ∧ t 149 19 = nI (D 0 2) ∧ t 149 23 = nI (D 0 3) ∧ (∀ i, i < D 0 2 → t 157 i = nI (D 1 i) ∧ t 158 i = nI (D 2 i) ∧ t 159 i = nI (D 3 i)) ∧ (∀ i, i < D 0 3 → t 160 i = nI (D 4 i) ∧ t 161 i = nI (D 5 i))
section CLAUSET
variable {T : Nat → Nat} {n : Nat}
theorem q_num_ok {i lo hi : Nat} (hi' : i ≤ n) : (q_num T n i lo hi).2.1 ≤ n ∧ i ≤ (q_num T n i lo hi).2.1 ∧ (q_num T n i lo hi).1 ≤ 2 ∧ ((q_num T n i lo hi).1 = 0 → i < (q_num T n i lo hi).2.1 ∧ lo ≤ (q_num T n i lo hi).2.2 ∧ (q_num T n i lo hi).2.2 ≤ hi) := by
  have h1 := q_B_le (T := T) hi'
  have h2 := q_B_ge (T := T) hi'
  have h3 := q_F_le (T := T) h1
  have h4 := q_F_ge (T := T) h1
  unfold q_num
  by_cases c1 : q_F T n (q_B T n i) = q_B T n i
  · rw [if_pos c1]
    exact ⟨h1, h2, by show (1 : Nat) ≤ 2; decide, fun w => absurd (show (1 : Nat) = 0 from w) (by decide)⟩
  · rw [if_neg c1]
    split
    · exact ⟨h1, h2, by show (2 : Nat) ≤ 2; decide, fun w => absurd (show (2 : Nat) = 0 from w) (by decide)⟩
    · rename_i c2
      refine ⟨h3, by show i ≤ q_F T n (q_B T n i); omega, by show (0 : Nat) ≤ 2; decide, fun _ => ⟨by show i < q_F T n (q_B T n i); omega, ?_⟩⟩
      rcases Classical.em (lo ≤ q_nv T (q_B T n i) (q_F T n (q_B T n i) - q_B T n i) ∧ q_nv T (q_B T n i) (q_F T n (q_B T n i) - q_B T n i) ≤ hi) with w | w
      · exact w
      · exact absurd (Or.inr w) c2
theorem q_nu_ok {st : Nat × Nat} {lo hi : Nat} (h : st.2 ≤ n) (hc : st.1 ≤ 3) : (q_nu T n st lo hi).2 ≤ n ∧ st.2 ≤ (q_nu T n st lo hi).2 ∧ (q_nu T n st lo hi).1 ≤ 3 ∧ ((q_nu T n st lo hi).1 = 0 → st.1 = 0 ∧ lo ≤ q_va T n st lo hi ∧ q_va T n st lo hi ≤ hi) := by
  unfold q_nu q_va
  obtain ⟨a1, a2, a3, a4⟩ := q_num_ok (T := T) (lo := lo) (hi := hi) h
  by_cases e : st.1 = 0
  · rw [if_pos e]
    exact ⟨a1, a2, by show (q_num T n st.2 lo hi).1 ≤ 3; omega, fun w => ⟨e, (a4 w).2⟩⟩
  · rw [if_neg e]
    exact ⟨h, Nat.le_refl _, hc, fun w => absurd w e⟩
theorem q_ne_ok {st : Nat × Nat} (h : st.2 ≤ n) (hc : st.1 ≤ 3) : (q_ne T n st).2 ≤ n ∧ (q_ne T n st).1 ≤ 3 ∧ ((q_ne T n st).1 = 0 → st.1 = 0 ∧ st.2 < (q_ne T n st).2) := by
  unfold q_ne
  have h1 := q_B_le (T := T) h
  have h2 := q_B_ge (T := T) h
  by_cases e : st.1 = 0
  · rw [if_pos e]
    by_cases c : q_B T n st.2 < n ∧ T (q_B T n st.2) = 59
    · rw [if_pos c]
      exact ⟨c.1, by show (0 : Nat) ≤ 3; decide, fun _ => ⟨e, by show st.2 < q_B T n st.2 + 1; omega⟩⟩
    · rw [if_neg c]
      exact ⟨h1, by show (1 : Nat) ≤ 3; decide, fun w => absurd (show (1 : Nat) = 0 from w) (by decide)⟩
  · rw [if_neg e]
    exact ⟨h, hc, fun w => absurd w e⟩
theorem q_df_G {D : Nat → Nat → Nat} {v : Nat} (G : q_DG D) (hv : v ≤ 99) : q_DG (q_df D v) := by
  obtain ⟨g1, g2, g3, g4, g5, g6, g7⟩ := G
  exact ⟨by show (1 : Nat) ≤ 1; omega, by show v ≤ 99; omega, g3, g4, g5, g6, fun w => absurd (show (1 : Nat) = 0 from w) (by decide)⟩
theorem q_db_G {D : Nat → Nat → Nat} {k w e : Nat} (G : q_DG D) (h6 : D 0 2 ≠ 6) (hk : k ≤ 4) (hw : 1 ≤ w) (hw2 : w ≤ 60) (he : e ≤ 20) : q_DG (q_db D k w e) := by
  obtain ⟨g1, g2, g3, g4, g5, g6, g7⟩ := G
  refine ⟨g1, g2, by show D 0 2 + 1 ≤ 6; omega, g4, fun i hi => ?_, g6, g7⟩
  have hi' : i < D 0 2 + 1 := hi
  have e1 : q_db D k w e 1 i = if i = D 0 2 then k else D 1 i := by
    unfold q_db
    rw [q_up_k (by decide), q_up_k (by decide), q_up_k (by decide)]
    unfold q_up
    by_cases c : i = D 0 2
    · rw [if_pos ⟨rfl, c⟩, if_pos c]
    · rw [if_neg (fun w => c w.2), if_neg c]
  have e2 : q_db D k w e 2 i = if i = D 0 2 then w else D 2 i := by
    unfold q_db
    rw [q_up_k (by decide), q_up_k (by decide)]
    unfold q_up
    by_cases c : i = D 0 2
    · rw [if_pos ⟨rfl, c⟩, if_pos c]
    · rw [if_neg (fun w => c w.2), if_neg c, if_neg (fun w => absurd w.1 (by decide))]
  have e3 : q_db D k w e 3 i = if i = D 0 2 then e else D 3 i := by
    unfold q_db
    rw [q_up_k (by decide)]
    unfold q_up
    by_cases c : i = D 0 2
    · rw [if_pos ⟨rfl, c⟩, if_pos c]
    · rw [if_neg (fun w => c w.2), if_neg c, if_neg (fun w => absurd w.1 (by decide)), if_neg (fun w => absurd w.1 (by decide))]
  rw [e1, e2, e3]
  by_cases c : i = D 0 2
  · rw [if_pos c, if_pos c, if_pos c]
    exact ⟨hk, hw, hw2, he⟩
  · rw [if_neg c, if_neg c, if_neg c]
    exact g5 i (by omega)
theorem q_dp_G {D : Nat → Nat → Nat} {x y : Nat} (G : q_DG D) (h5 : D 0 3 ≠ 5) (hx : 1 ≤ x) (hx2 : x ≤ 99) (hy : y ≤ 9) : q_DG (q_dp D x y) := by
  obtain ⟨g1, g2, g3, g4, g5, g6, g7⟩ := G
  refine ⟨g1, g2, g3, by show D 0 3 + 1 ≤ 5; omega, g5, fun i hi => ?_, g7⟩
  have hi' : i < D 0 3 + 1 := hi
  have e1 : q_dp D x y 4 i = if i = D 0 3 then x else D 4 i := by
    unfold q_dp
    rw [q_up_k (by decide), q_up_k (by decide)]
    unfold q_up
    by_cases c : i = D 0 3
    · rw [if_pos ⟨rfl, c⟩, if_pos c]
    · rw [if_neg (fun w => c w.2), if_neg c]
  have e2 : q_dp D x y 5 i = if i = D 0 3 then y else D 5 i := by
    unfold q_dp
    rw [q_up_k (by decide)]
    unfold q_up
    by_cases c : i = D 0 3
    · rw [if_pos ⟨rfl, c⟩, if_pos c]
    · rw [if_neg (fun w => c w.2), if_neg c, if_neg (fun w => absurd w.1 (by decide))]
  rw [e1, e2]
  by_cases c : i = D 0 3
  · rw [if_pos c, if_pos c]
    exact ⟨hx, hx2, hy⟩
  · rw [if_neg c, if_neg c]
    exact g6 i (by omega)
theorem q_cl_ok {i : Nat} {D : Nat → Nat → Nat} (hi : i < n) (G : q_DG D) : (q_cl T n i D).1.2 ≤ n ∧ (q_cl T n i D).1.1 ≤ 3 ∧ ((q_cl T n i D).1.1 = 0 → i < (q_cl T n i D).1.2 ∧ q_DG (q_cl T n i D).2) := by
  have bad : ∀ c : Nat, c ≤ 3 → c ≠ 0 → (((c, i), D) : (Nat × Nat) × (Nat → Nat → Nat)).1.2 ≤ n ∧ (((c, i), D) : (Nat × Nat) × (Nat → Nat → Nat)).1.1 ≤ 3 ∧ ((((c, i), D) : (Nat × Nat) × (Nat → Nat → Nat)).1.1 = 0 → i < (((c, i), D) : (Nat × Nat) × (Nat → Nat → Nat)).1.2 ∧ q_DG (((c, i), D) : (Nat × Nat) × (Nat → Nat → Nat)).2) := fun c h1 h2 => ⟨by show i ≤ n; omega, h1, fun w => absurd w h2⟩
  have s0 : ((0, i + 1) : Nat × Nat).2 ≤ n := by show i + 1 ≤ n; omega
  have s0c : ((0, i + 1) : Nat × Nat).1 ≤ 3 := by show 0 ≤ 3; omega
  unfold q_cl
  by_cases w1 : T i = 102
  · rw [if_pos w1]
    by_cases d0 : D 0 0 = 0
    · rw [if_pos d0]
      unfold q_cF
      obtain ⟨a1, a2, a3, a4⟩ := q_nu_ok (T := T) (lo := 0) (hi := 99) s0 s0c
      obtain ⟨b1, b2, b3⟩ := q_ne_ok (T := T) a1 a3
      refine ⟨b1, b2, fun w => ?_⟩
      obtain ⟨c1, c2⟩ := b3 w
      have e : ((0, i + 1) : Nat × Nat).2 = i + 1 := rfl
      exact ⟨by show i < (q_ne T n (q_nu T n (0, i + 1) 0 99)).2; omega, q_df_G G (a4 c1).2.2⟩
    · rw [if_neg d0]
      exact bad 3 (by decide) (by decide)
  · rw [if_neg w1]
    by_cases w2 : T i = 98
    · rw [if_pos w2]
      by_cases d0 : D 0 0 = 0
      · rw [if_pos d0]
        exact bad 1 (by decide) (by decide)
      · rw [if_neg d0]
        by_cases d2 : D 0 2 = 6
        · rw [if_pos d2]
          exact bad 3 (by decide) (by decide)
        · rw [if_neg d2]
          unfold q_cB
          obtain ⟨a1, a2, a3, a4⟩ := q_nu_ok (T := T) (lo := 0) (hi := 4) s0 s0c
          obtain ⟨b1, b2, b3, b4⟩ := q_nu_ok (T := T) (lo := 1) (hi := 60) a1 a3
          obtain ⟨c1, c2, c3, c4⟩ := q_nu_ok (T := T) (lo := 0) (hi := 20) b1 b3
          obtain ⟨e1, e2, e3⟩ := q_ne_ok (T := T) c1 c3
          refine ⟨e1, e2, fun w => ?_⟩
          obtain ⟨f1, f2⟩ := e3 w
          have g3 := c4 f1
          have g2 := b4 g3.1
          have g1 := a4 g2.1
          have e : ((0, i + 1) : Nat × Nat).2 = i + 1 := rfl
          exact ⟨by show i < (q_ne T n (q_nu T n (q_nu T n (q_nu T n (0, i + 1) 0 4) 1 60) 0 20)).2; omega, q_db_G G d2 g1.2.2 g2.2.1 g2.2.2 g3.2.2⟩
    · rw [if_neg w2]
      by_cases w3 : T i = 112
      · rw [if_pos w3]
        by_cases d0 : D 0 0 = 0
        · rw [if_pos d0]
          exact bad 1 (by decide) (by decide)
        · rw [if_neg d0]
          by_cases d2 : D 0 3 = 5
          · rw [if_pos d2]
            exact bad 3 (by decide) (by decide)
          · rw [if_neg d2]
            unfold q_cP
            obtain ⟨a1, a2, a3, a4⟩ := q_nu_ok (T := T) (lo := 1) (hi := 99) s0 s0c
            obtain ⟨b1, b2, b3, b4⟩ := q_nu_ok (T := T) (lo := 0) (hi := 9) a1 a3
            obtain ⟨e1, e2, e3⟩ := q_ne_ok (T := T) b1 b3
            refine ⟨e1, e2, fun w => ?_⟩
            obtain ⟨f1, f2⟩ := e3 w
            have g2 := b4 f1
            have g1 := a4 g2.1
            have e : ((0, i + 1) : Nat × Nat).2 = i + 1 := rfl
            exact ⟨by show i < (q_ne T n (q_nu T n (q_nu T n (0, i + 1) 1 99) 0 9)).2; omega, q_dp_G G d2 g1.2.1 g1.2.2 g2.2.2⟩
      · rw [if_neg w3]
        exact bad 1 (by decide) (by decide)
-- the class
def q_RS (t : sf_Sg) (T : Nat → Nat) (n : Nat) (f0 : Int32) (st : Nat × Nat) : Prop := (∃ i, i ≤ n ∧ q_TC t T n i) ∧ (st.1 = 0 → t 1 3 = nI st.2 ∧ t 1 4 = 0 ∧ t 1 1 = f0) ∧ (st.1 ≠ 0 → t 1 4 = nI st.1 ∧ t 1 1 = nI st.2)
theorem q_RS.tc {t : sf_Sg} {f0 : Int32} {st : Nat × Nat} (h : q_RS t T n f0 st) (h0 : st.1 = 0) : q_TC t T n st.2 := by
  obtain ⟨⟨i, _, i1, i2, i3⟩, h2, _⟩ := h
  exact ⟨i1, (h2 h0).1, i3⟩
theorem q_RS.of {t u : sf_Sg} {f0 : Int32} {st : Nat × Nat} (h : q_RS t T n f0 st) (h1 : u 1 = t 1) (h2 : u 2 = t 2) : q_RS u T n f0 st := by
  unfold q_RS q_TC at h ⊢
  rw [h1, h2]
  exact h
theorem c_numX {t : sf_Sg} {f0 : Int32} {st : Nat × Nat} {lo hi : Nat} (hT : ∀ j, T j ≤ 255) (hn : n ≤ 240) (hst : st.2 ≤ n) (hc : st.1 ≤ 3) (hlh : lo ≤ hi) (hh : hi ≤ 100000) (h : q_RS t T n f0 st) : ∃ x u, f5_readNumber t (nI lo) (nI hi) = some (x, u) ∧ (∀ k, k ≠ 1 → u k = t k) ∧ q_RS u T n f0 (q_nu T n st lo hi) ∧ ((q_nu T n st lo hi).1 = 0 → x = nI (q_va T n st lo hi)) := by
  unfold q_nu q_va
  by_cases e : st.1 = 0
  · rw [if_pos e]
    obtain ⟨e1, e2, e3⟩ := h.2.1 e
    obtain ⟨x, u, u1, u2, u3, u4, u5⟩ := c_num hT hn hst hlh hh (h.tc e) e2
    exact ⟨x, u, u1, u2, ⟨u3, fun w => ⟨(u4 w).1, (u4 w).2.1, (u4 w).2.2.1.trans e3⟩, fun w => u5 w⟩, fun w => (u4 w).2.2.2⟩
  · rw [if_neg e]
    refine ⟨nI lo, t, ?_, fun _ _ => rfl, h, fun w => absurd w e⟩
    unfold f5_readNumber f5_readNumber_b0
    rw [(h.2.2 e).1, if_neg (nI_ne0 (by omega) (by omega))]
theorem c_endX {t : sf_Sg} {f0 : Int32} {st : Nat × Nat} (hT : ∀ j, T j ≤ 255) (hn : n ≤ 240) (hst : st.2 ≤ n) (hc : st.1 ≤ 3) (h : q_RS t T n f0 st) : ∃ u, f5_endClause t = some u ∧ (∀ k, k ≠ 1 → u k = t k) ∧ q_RS u T n f0 (q_ne T n st) := by
  unfold q_ne
  by_cases e : st.1 = 0
  · rw [if_pos e]
    obtain ⟨e1, e2, e3⟩ := h.2.1 e
    obtain ⟨u, u1, u2, u3, u4⟩ := c_blank hT hn hst (h.tc e)
    have hb := q_B_le (T := T) hst
    unfold f5_endClause f5_endClause_b0
    rw [e2, if_pos rfl, u1]
    simp only [q_ob]
    rw [c_letter hn hb u4]
    simp only [q_ob]
    have e59 : (q_lh T n (q_B T n st.2) = 59) = (q_B T n st.2 < n ∧ T (q_B T n st.2) = 59) := q_lh_eq (k := 59) hT (by decide)
    simp only [e59]
    by_cases c : q_B T n st.2 < n ∧ T (q_B T n st.2) = 59
    · rw [if_pos c, if_pos c, u4.2.1, nI_1]
      refine ⟨_, rfl, fun k hk => (q_s1k hk).trans (u2 k hk), ⟨q_B T n st.2 + 1, c.1, (q_s1i (by decide)).trans u4.1, q_s1s, fun j hj => by rw [q_s1k (by decide)]; exact u4.2.2 j hj⟩, fun _ => ⟨q_s1s, (q_s1i (by decide)).trans ((u3 4 (by decide)).trans e2), (q_s1i (by decide)).trans ((u3 1 (by decide)).trans e3)⟩, fun w => absurd rfl w⟩
    · rw [if_neg c, if_neg c, u4.2.1]
      unfold f5_blame f5_blame_b0
      refine ⟨_, rfl, fun k hk => by rw [q_s1k hk, q_s1k hk, u2 k hk], ⟨q_B T n st.2, hb, ?_, ?_, fun j hj => ?_⟩, fun w => absurd (show (1 : Nat) = 0 from w) (by decide), fun _ => ⟨?_, ?_⟩⟩
      · rw [q_s1i (by decide), q_s1i (by decide)]
        exact u4.1
      · rw [q_s1i (by decide), q_s1i (by decide)]
        exact u4.2.1
      · rw [q_s1k (by decide), q_s1k (by decide)]
        exact u4.2.2 j hj
      · rw [q_s1i (by decide), q_s1s]
        rfl
      · rw [q_s1s]
  · rw [if_neg e]
    refine ⟨t, ?_, fun _ _ => rfl, h⟩
    unfold f5_endClause f5_endClause_b0
    rw [(h.2.2 e).1, if_neg (nI_ne0 (by omega) (by omega))]
theorem q_DC.of {t u : sf_Sg} {D : Nat → Nat → Nat} (h : q_DC t D) (hc : ∀ k, 3 ≤ k → k ≤ 8 → u k = t k) : q_DC u D := by
  unfold q_DC at h ⊢
  rw [hc 3 (by decide) (by decide), hc 4 (by decide) (by decide), hc 5 (by decide) (by decide), hc 6 (by decide) (by decide), hc 7 (by decide) (by decide), hc 8 (by decide) (by decide)]
  exact h
theorem c_clause {t : sf_Sg} {f0 : Int32} {i : Nat} {D : Nat → Nat → Nat} (hT : ∀ j, T j ≤ 255) (hn : n ≤ 240) (hi : i < n) (G : q_DG D) (h : q_RS t T n f0 (0, i)) (hD : q_DC t D) : ∃ u, f5_readClause 3 t = some u ∧ (∀ k, (k = 0 ∨ k = 2 ∨ 8 < k) → u k = t k) ∧ q_RS u T n f0 (q_cl T n i D).1 ∧ ((q_cl T n i D).1.1 = 0 → q_DC u (q_cl T n i D).2) := by
  obtain ⟨d0, d1, d2, d3, d4, d5⟩ := hD
  obtain ⟨g1, g2, g3, g4, g5, g6, g7⟩ := id G
  have htc := h.tc rfl
  have hch : q_lh T n i = nI (T i) := by
    unfold q_lh
    rw [if_pos hi]
  have hTi := hT i
  have c102 : (nI (T i) = 102) = (T i = 102) := q_32 (by omega) 102 (by decide)
  have c98 : (nI (T i) = 98) = (T i = 98) := q_32 (by omega) 98 (by decide)
  have c112 : (nI (T i) = 112) = (T i = 112) := q_32 (by omega) 112 (by decide)
  have z0 : (nI (D 0 0) = 0) = (D 0 0 = 0) := q_eq (b := 0) (by omega) (by decide)
  have six : ((6 : Int32) ≤ nI (D 0 2)) = (6 ≤ D 0 2) := q_le (a := 6) (by decide) (by omega)
  have five : (nI (D 0 3) < (5 : Int32)) = (D 0 3 < 5) := q_lt (b := 5) (by omega) (by decide)
  have hfw : f5_faultOfWord 3 t (nI (T i)) = if T i = 102 then (if D 0 0 = 0 then 0 else 3) else if T i = 98 then (if D 0 0 = 0 then 1 else if D 0 2 = 6 then 3 else 0) else if T i = 112 then (if D 0 0 = 0 then 1 else if D 0 3 = 5 then 3 else 0) else 1 := by
    unfold f5_faultOfWord f5_faultOfWord_b0 f5_faultOfWord_b27 f5_faultOfWord_b18 f5_faultOfWord_b27 f5_faultOfWord_b40 f5_faultOfWord_b55 f5_faultOfWord_b69 f5_faultOfWord_b73 f5_faultOfWord_b74
    rw [d0, d2, d3]
    simp only [c102, c98, c112, z0, six, five]
    rw [if_neg q_b1]
    by_cases w1 : T i = 102
    · simp [w1]
    · by_cases w2 : T i = 98
      · by_cases e0 : D 0 0 = 0
        · simp [w2, e0]
        · by_cases e6 : D 0 2 = 6
          · simp [w2, e0, e6]
          · have : ¬ 6 ≤ D 0 2 := by omega
            simp [w2, e0, e6, this]
      · by_cases w3 : T i = 112
        · by_cases e0 : D 0 0 = 0
          · simp [w3, e0]
          · by_cases e5 : D 0 3 = 5
            · simp [w3, e0, e5]
            · have : D 0 3 < 5 := by omega
              simp [w3, e0, e5, this]
        · simp [w1, w2, w3]
  unfold f5_readClause f5_readClause_b0
  rw [c_letter hn (by omega) htc, hch]
  simp only [q_ob]
  rw [hfw]
  have t13 : t 1 3 = nI i := htc.2.1
  rw [t13, nI_1]
  simp only [c102, c98]
  have blame : ∀ c : Nat, c ≤ 3 → c ≠ 0 → ∃ u, some (f5_blame t (nI c) (nI i)) = some u ∧ (∀ k, (k = 0 ∨ k = 2 ∨ 8 < k) → u k = t k) ∧ q_RS u T n f0 (((c, i), D) : (Nat × Nat) × (Nat → Nat → Nat)).1 ∧ ((((c, i), D) : (Nat × Nat) × (Nat → Nat → Nat)).1.1 = 0 → q_DC u (((c, i), D) : (Nat × Nat) × (Nat → Nat → Nat)).2) := by
    intro c h3 h0
    unfold f5_blame f5_blame_b0
    refine ⟨_, rfl, fun k hk => by rw [q_s1k (by omega), q_s1k (by omega)], ⟨⟨i, by omega, ?_, ?_, fun j hj => ?_⟩, fun w => absurd w h0, fun _ => ⟨?_, ?_⟩⟩, fun w => absurd w h0⟩
    · rw [q_s1i (by decide), q_s1i (by decide)]
      exact htc.1
    · rw [q_s1i (by decide), q_s1i (by decide)]
      exact htc.2.1
    · rw [q_s1k (by decide), q_s1k (by decide)]
      exact htc.2.2 j hj
    · rw [q_s1i (by decide), q_s1s]
    · rw [q_s1s]
  obtain ⟨ta, hta⟩ : ∃ ta, ta = sf_s1 t 1 3 (nI (i + 1)) := ⟨_, rfl⟩
  rw [← hta]
  have oa : ∀ k, k ≠ 1 → ta k = t k := fun k hk => by rw [hta, q_s1k hk]
  have ra : q_RS ta T n f0 (0, i + 1) := by
    obtain ⟨e1, e2, e3⟩ := h.2.1 rfl
    refine ⟨⟨i + 1, hi, ?_, ?_, fun j hj => ?_⟩, fun _ => ⟨?_, ?_, ?_⟩, fun w => absurd rfl w⟩
    · rw [hta, q_s1i (by decide)]
      exact htc.1
    · rw [hta, q_s1s]
    · rw [oa 2 (by decide)]
      exact htc.2.2 j hj
    · rw [hta, q_s1s]
    · rw [hta, q_s1i (by decide)]
      exact e2
    · rw [hta, q_s1i (by decide)]
      exact e3
  have s0 : ((0, i + 1) : Nat × Nat).2 ≤ n := by show i + 1 ≤ n; omega
  have s0c : ((0, i + 1) : Nat × Nat).1 ≤ 3 := by show 0 ≤ 3; omega
  unfold q_cl
  by_cases w1 : T i = 102
  · rw [if_pos w1, if_pos w1, if_pos w1]
    by_cases e0 : D 0 0 = 0
    · rw [if_pos e0, if_pos e0, if_pos rfl]
      unfold q_cF
      obtain ⟨a1, a2, a3, a4⟩ := q_nu_ok (T := T) (lo := 0) (hi := 99) s0 s0c
      obtain ⟨b1, b2, b3⟩ := q_ne_ok (T := T) a1 a3
      obtain ⟨x, u, u1, u2, u3, u4⟩ := c_numX (lo := 0) (hi := 99) hT hn s0 s0c (by decide) (by decide) ra
      have u1' : f5_readNumber ta 0 99 = some (x, u) := u1
      rw [u1']
      simp only [q_ob]
      obtain ⟨v, v1, v2, v3⟩ := c_endX hT hn a1 a3 u3
      rw [v1]
      simp only [q_ob]
      refine ⟨_, rfl, fun k hk => ?_, v3.of (by rw [q_s1k (by decide), q_s1k (by decide)]) (by rw [q_s1k (by decide), q_s1k (by decide)]), fun w => ?_⟩
      · rw [q_s1k (by omega), q_s1k (by omega), v2 k (by omega), u2 k (by omega), oa k (by omega)]
      · have hx := u4 (b3 w).1
        have ov : ∀ k, k ≠ 1 → v k = t k := fun k hk => by rw [v2 k hk, u2 k hk, oa k hk]
        refine ⟨?_, ?_, ?_, ?_, fun j hj => ?_, fun j hj => ?_⟩
        · rw [q_s1i (by decide), q_s1s]
          rfl
        · rw [q_s1s, hx]
          rfl
        · rw [q_s1i (by decide), q_s1i (by decide), ov 3 (by decide)]
          exact d2
        · rw [q_s1i (by decide), q_s1i (by decide), ov 3 (by decide)]
          exact d3
        · rw [q_s1k (by decide), q_s1k (by decide), q_s1k (by decide), q_s1k (by decide), q_s1k (by decide), q_s1k (by decide), ov 4 (by decide), ov 5 (by decide), ov 6 (by decide)]
          exact d4 j hj
        · rw [q_s1k (by decide), q_s1k (by decide), q_s1k (by decide), q_s1k (by decide), ov 7 (by decide), ov 8 (by decide)]
          exact d5 j hj
    · rw [if_neg e0, if_neg e0, if_neg (by decide)]
      exact blame 3 (by decide) (by decide)
  · rw [if_neg w1, if_neg w1, if_neg w1]
    by_cases w2 : T i = 98
    · rw [if_pos w2, if_pos w2, if_pos w2]
      by_cases e0 : D 0 0 = 0
      · rw [if_pos e0, if_pos e0, if_neg (by decide)]
        exact blame 1 (by decide) (by decide)
      · rw [if_neg e0, if_neg e0]
        by_cases e6 : D 0 2 = 6
        · rw [if_pos e6, if_pos e6, if_neg (by decide)]
          exact blame 3 (by decide) (by decide)
        · rw [if_neg e6, if_neg e6, if_pos rfl]
          unfold q_cB
          obtain ⟨a1, a2, a3, a4⟩ := q_nu_ok (T := T) (lo := 0) (hi := 4) s0 s0c
          obtain ⟨b1, b2, b3, b4⟩ := q_nu_ok (T := T) (lo := 1) (hi := 60) a1 a3
          obtain ⟨c1, c2, c3, c4⟩ := q_nu_ok (T := T) (lo := 0) (hi := 20) b1 b3
          obtain ⟨_, _, f3⟩ := q_ne_ok (T := T) c1 c3
          obtain ⟨x, u, u1, u2, u3, u4⟩ := c_numX (lo := 0) (hi := 4) hT hn s0 s0c (by decide) (by decide) ra
          have u1' : f5_readNumber ta 0 4 = some (x, u) := u1
          rw [u1']
          simp only [q_ob]
          obtain ⟨y, v, v1, v2, v3, v4⟩ := c_numX (lo := 1) (hi := 60) hT hn a1 a3 (by decide) (by decide) u3
          have v1' : f5_readNumber u 1 60 = some (y, v) := v1
          rw [v1']
          simp only [q_ob]
          obtain ⟨z, w, r1, r2, r3, r4⟩ := c_numX (lo := 0) (hi := 20) hT hn b1 b3 (by decide) (by decide) v3
          have r1' : f5_readNumber v 0 20 = some (z, w) := r1
          rw [r1']
          simp only [q_ob]
          obtain ⟨q, q1, q2, q3⟩ := c_endX hT hn c1 c3 r3
          rw [q1]
          simp only [q_ob]
          have oq : ∀ k, k ≠ 1 → q k = t k := fun k hk => by rw [q2 k hk, r2 k hk, v2 k hk, u2 k hk, oa k hk]
          unfold f7_addBurden f7_addBurden_b0
          have l2 : q 3 2 = nI (D 0 2) := by rw [oq 3 (by decide)]; exact d2
          rw [l2, if_neg (show ¬ (6 : Int32) ≤ nI (D 0 2) from nI_ge (b := 6) (by omega) (by decide)), q_st (show D 0 2 < 6 by omega) (by decide)]
          simp only [q_ob]
          rw [q_s1k (k' := 3) (by decide), l2, q_st (show D 0 2 < 6 by omega) (by decide)]
          simp only [q_ob]
          rw [q_s1k (k' := 3) (by decide), q_s1k (k' := 3) (by decide), l2, q_st (show D 0 2 < 6 by omega) (by decide)]
          simp only [q_ob]
          rw [q_s1k (k' := 3) (by decide), q_s1k (k' := 3) (by decide), q_s1k (k' := 3) (by decide), l2, nI_1]
          refine ⟨_, rfl, fun k hk => ?_, q3.of ?_ ?_, fun hw => ?_⟩
          · rw [q_s1k (by omega), q_s1k (by omega), q_s1k (by omega), q_s1k (by omega), oq k (by omega)]
          · rw [q_s1k (by decide), q_s1k (by decide), q_s1k (by decide), q_s1k (by decide)]
          · rw [q_s1k (by decide), q_s1k (by decide), q_s1k (by decide), q_s1k (by decide)]
          · have h3 := (f3 hw).1
            have h2 := (c4 h3).1
            have h1 := (b4 h2).1
            rw [u4 h1, v4 h2, r4 h3]
            generalize q_va T n (0, i + 1) 0 4 = k1
            generalize q_va T n (q_nu T n (0, i + 1) 0 4) 1 60 = k2
            generalize q_va T n (q_nu T n (q_nu T n (0, i + 1) 0 4) 1 60) 0 20 = k3
            refine ⟨?_, ?_, ?_, ?_, fun j hj => ?_, fun j hj => ?_⟩
            · rw [q_s1i (by decide), q_s1k (by decide), q_s1k (by decide), q_s1k (by decide), oq 3 (by decide)]
              exact d0
            · rw [q_s1i (by decide), q_s1k (by decide), q_s1k (by decide), q_s1k (by decide), oq 3 (by decide)]
              exact d1
            · rw [q_s1s]
              rfl
            · rw [q_s1i (by decide), q_s1k (by decide), q_s1k (by decide), q_s1k (by decide), oq 3 (by decide)]
              exact d3
            · have hj' : j < D 0 2 + 1 := hj
              rw [q_s1k (k' := 4) (by decide), q_s1k (k' := 5) (by decide), q_s1k (k' := 6) (by decide), q_s1k (k' := 4) (by decide), q_s1k (k' := 4) (by decide), q_s1k (k' := 5) (by decide)]
              by_cases e : j = D 0 2
              · subst e
                rw [q_s1s, q_s1s, q_s1s]
                unfold q_db q_up
                simp
              · rw [q_s1i e, q_s1i e, q_s1i e, q_s1k (k' := 5) (by decide), q_s1k (k' := 6) (by decide), q_s1k (k' := 6) (by decide), oq 4 (by decide), oq 5 (by decide), oq 6 (by decide)]
                have hd := d4 j (by omega)
                unfold q_db q_up
                simp [e]
                exact hd
            · rw [q_s1k (by decide), q_s1k (by decide), q_s1k (by decide), q_s1k (by decide), q_s1k (by decide), q_s1k (by decide), q_s1k (by decide), q_s1k (by decide), oq 7 (by decide), oq 8 (by decide)]
              exact d5 j hj
    · rw [if_neg w2, if_neg w2, if_neg w2]
      by_cases w3 : T i = 112
      · rw [if_pos w3, if_pos w3]
        by_cases e0 : D 0 0 = 0
        · rw [if_pos e0, if_pos e0, if_neg (by decide)]
          exact blame 1 (by decide) (by decide)
        · rw [if_neg e0, if_neg e0]
          by_cases e6 : D 0 3 = 5
          · rw [if_pos e6, if_pos e6, if_neg (by decide)]
            exact blame 3 (by decide) (by decide)
          · rw [if_neg e6, if_neg e6, if_pos rfl]
            unfold q_cP
            obtain ⟨a1, a2, a3, a4⟩ := q_nu_ok (T := T) (lo := 1) (hi := 99) s0 s0c
            obtain ⟨b1, b2, b3, b4⟩ := q_nu_ok (T := T) (lo := 0) (hi := 9) a1 a3
            obtain ⟨_, _, f3⟩ := q_ne_ok (T := T) b1 b3
            obtain ⟨x, u, u1, u2, u3, u4⟩ := c_numX (lo := 1) (hi := 99) hT hn s0 s0c (by decide) (by decide) ra
            have u1' : f5_readNumber ta 1 99 = some (x, u) := u1
            rw [u1']
            simp only [q_ob]
            obtain ⟨y, v, v1, v2, v3, v4⟩ := c_numX (lo := 0) (hi := 9) hT hn a1 a3 (by decide) (by decide) u3
            have v1' : f5_readNumber u 0 9 = some (y, v) := v1
            rw [v1']
            simp only [q_ob]
            obtain ⟨q, q1, q2, q3⟩ := c_endX hT hn b1 b3 v3
            rw [q1]
            simp only [q_ob]
            have oq : ∀ k, k ≠ 1 → q k = t k := fun k hk => by rw [q2 k hk, v2 k hk, u2 k hk, oa k hk]
            unfold f7_addBack f7_addBack_b0
            have l2 : q 3 3 = nI (D 0 3) := by rw [oq 3 (by decide)]; exact d3
            rw [l2, if_neg (show ¬ (5 : Int32) ≤ nI (D 0 3) from nI_ge (b := 5) (by omega) (by decide)), q_st (show D 0 3 < 5 by omega) (by decide)]
            simp only [q_ob]
            rw [q_s1k (k' := 3) (by decide), l2, q_st (show D 0 3 < 5 by omega) (by decide)]
            simp only [q_ob]
            rw [q_s1k (k' := 3) (by decide), q_s1k (k' := 3) (by decide), l2, nI_1]
            refine ⟨_, rfl, fun k hk => ?_, q3.of ?_ ?_, fun hw => ?_⟩
            · rw [q_s1k (by omega), q_s1k (by omega), q_s1k (by omega), oq k (by omega)]
            · rw [q_s1k (by decide), q_s1k (by decide), q_s1k (by decide)]
            · rw [q_s1k (by decide), q_s1k (by decide), q_s1k (by decide)]
            · have h2 := (f3 hw).1
              have h1 := (b4 h2).1
              rw [u4 h1, v4 h2]
              generalize q_va T n (0, i + 1) 1 99 = k1
              generalize q_va T n (q_nu T n (0, i + 1) 1 99) 0 9 = k2
              refine ⟨?_, ?_, ?_, ?_, fun j hj => ?_, fun j hj => ?_⟩
              · rw [q_s1i (by decide), q_s1k (by decide), q_s1k (by decide), oq 3 (by decide)]
                exact d0
              · rw [q_s1i (by decide), q_s1k (by decide), q_s1k (by decide), oq 3 (by decide)]
                exact d1
              · rw [q_s1i (by decide), q_s1k (by decide), q_s1k (by decide), oq 3 (by decide)]
                exact d2
              · rw [q_s1s]
                rfl
              · rw [q_s1k (by decide), q_s1k (by decide), q_s1k (by decide), q_s1k (by decide), q_s1k (by decide), q_s1k (by decide), q_s1k (by decide), q_s1k (by decide), q_s1k (by decide), oq 4 (by decide), oq 5 (by decide), oq 6 (by decide)]
                exact d4 j hj
              · have hj' : j < D 0 3 + 1 := hj
                rw [q_s1k (k' := 7) (by decide), q_s1k (k' := 8) (by decide), q_s1k (k' := 7) (by decide)]
                by_cases e : j = D 0 3
                · subst e
                  rw [q_s1s, q_s1s]
                  unfold q_dp q_up
                  simp
                · rw [q_s1i e, q_s1i e, q_s1k (k' := 8) (by decide), oq 7 (by decide), oq 8 (by decide)]
                  have hd := d5 j (by omega)
                  unfold q_dp q_up
                  simp [e]
                  exact hd
      · rw [if_neg w3, if_neg w3, if_neg (by decide)]
        exact blame 1 (by decide) (by decide)
end CLAUSET
