-- burdens to backs so that all gall least
theorem q_fd_first {c : Nat → Nat} {lo n : Nat} {st st' : Nat × Nat} (h : c lo < st.1) (h' : c lo < st'.1) (hn : 0 < n) : q_fd c lo n st = q_fd c lo n st' := by
  obtain ⟨m, rfl⟩ : ∃ m, n = 1 + m := ⟨n - 1, by omega⟩
  rw [q_fd_add, q_fd_add]
  have e : q_fd c lo 1 st = q_fd c lo 1 st' := by
    show q_stp c st (lo + 0) = q_stp c st' (lo + 0)
    unfold q_stp
    rw [Nat.add_zero, if_pos h, if_pos h']
  rw [e]
theorem q_fd_snd {c : Nat → Nat} {lo : Nat} {st : Nat × Nat} : ∀ n, q_fd c lo n st = st ∨ (lo ≤ (q_fd c lo n st).2 ∧ (q_fd c lo n st).2 < lo + n)
  | 0 => Or.inl rfl
  | n + 1 => by
    have ih := q_fd_snd (c := c) (lo := lo) (st := st) n
    show q_stp c (q_fd c lo n st) (lo + n) = st ∨ (lo ≤ (q_stp c (q_fd c lo n st) (lo + n)).2 ∧ (q_stp c (q_fd c lo n st) (lo + n)).2 < lo + (n + 1))
    unfold q_stp
    by_cases h : c (lo + n) < (q_fd c lo n st).1
    · rw [if_pos h]
      right
      show lo ≤ lo + n ∧ lo + n < lo + (n + 1)
      omega
    · rw [if_neg h]
      rcases ih with e | e
      · exact Or.inl e
      · exact Or.inr ⟨e.1, by omega⟩
theorem c_begin {s : sf_Sg} : ∃ t, f2_begin s = some t ∧ (∀ k, k ≠ 22 → k ≠ 24 → t k = s k) ∧ t 22 0 = nI 2147483647 ∧ t 22 1 = -1 ∧ t 22 5 = -1 ∧ (∀ p, p < 5 → t 24 p = 0) := by
  have key : ∀ (f i : Nat) (t : sf_Sg), 5 < f + i → i ≤ 5 → (∀ p, p < i → t 24 p = 0) → ∃ u, sf_it f2_begin_b18 (fun _ _ => none) f t (nI i) = some u ∧ (∀ k, k ≠ 24 → u k = t k) ∧ (∀ p, p < 5 → u 24 p = 0) := by
    intro f
    induction f with
    | zero => intro i t h1 h2; omega
    | succ f ih =>
      intro i t h1 h2 h3
      rw [q_it]
      generalize sf_it f2_begin_b18 (fun _ _ => none) f = K at ih ⊢
      unfold f2_begin_b18
      by_cases hi : i = 5
      · subst hi
        rw [if_pos (show (5 : Int32) ≤ nI 5 by decide)]
        exact ⟨t, rfl, fun _ _ => rfl, h3⟩
      · have hlt : i < 5 := by omega
        rw [if_neg (show ¬ (5 : Int32) ≤ nI i from nI_ge (b := 5) hlt (by decide)), q_st hlt (by decide)]
        simp only [q_ob]
        rw [nI_1]
        obtain ⟨u, e1, e2, e3⟩ := ih (i + 1) (sf_s1 t 24 i 0) (by omega) (by omega) (fun p hp => by
          by_cases e : p = i
          · subst e
            rw [q_s1s]
          · rw [q_s1i e]
            exact h3 p (by omega))
        exact ⟨u, e1, fun k hk => (e2 k hk).trans (q_s1k hk), e3⟩
  obtain ⟨t, e1, e2, e3⟩ := key sf_FU 0 (sf_s1 (sf_s1 (sf_s1 s 22 0 (2147483647 : Int32)) 22 1 (-1 : Int32)) 22 5 (-1 : Int32)) (by unfold sf_FU; omega) (by omega) (fun p hp => absurd hp (by omega))
  refine ⟨t, e1, fun k k1 k2 => ?_, ?_, ?_, ?_, e3⟩
  · rw [e2 k k2, q_s1k k1, q_s1k k1, q_s1k k1]
  · rw [e2 22 (by decide), q_s1i (by decide), q_s1i (by decide), q_s1s]
    rfl
  · rw [e2 22 (by decide), q_s1i (by decide), q_s1s]
  · rw [e2 22 (by decide), q_s1s]
theorem q_pc0 {sh a : Nat → Nat → Nat} {P ld d j R0 : Nat} : q_pc sh a P ld d (fun _ => 0) R0 0 j = R0 := by
  unfold q_pc
  show q_sm P (fun p => 0 - sh 2 p) + R0 = R0
  rw [q_sm_congr (g := fun _ => 0) (fun p _ => Nat.zero_sub _), q_sm_zero, Nat.zero_add]
theorem c_layAlone {s : sf_Sg} {B P : Nat} {sh a : Nat → Nat → Nat} {z : Int32} (S : q_SC s B P sh) (SG : q_SG B P sh) (L : q_LC s B P 16 a z) (G : q_LT B P a) (hP0 : 0 < P) : ∃ u, f2_layAlone s = some u ∧ (∀ k, (k < 22 ∨ 25 < k) → u k = s k) ∧ u 22 0 = nI (q_fd (q_pc sh a P 6 (a 6 0) (fun _ => 0) 0 B) 0 (q_Nx B P 6 B) (1000000, 0)).1 ∧ (∀ i, i < B → u 23 i = nI (q_dg P 6 B (q_fd (q_pc sh a P 6 (a 6 0) (fun _ => 0) 0 B) 0 (q_Nx B P 6 B) (1000000, 0)).2 i)) := by
  have hB := SG.1
  have hP5 := SG.2.1
  obtain ⟨t, t1, t2, t3, t4, t5, t6⟩ := c_begin (s := s)
  have hc := q_pc_le (ld := 6) (d := a 6 0) (j := 0) (L0 := fun _ => 0) (R0 := 0) SG (fun g hg => (G.1 g hg).2.1) (fun _ _ => by decide) (by decide) hP0 (Nat.le_refl B)
  have hN : 0 < q_Nx B P 6 B := by
    rw [q_Nx_pow hB B (Nat.le_refl _)]
    exact Nat.pow_pos hP0
  obtain ⟨u, u1, u2, u3, u4, u5, u6, u7⟩ := c_lay (ld := 6) (d := a 6 0) (L0 := fun _ => 0) (R0 := 0) (z := z) (lx := -1) SG G rfl (fun _ _ => by decide) (by decide) hP0 (fun g hg => by
    have h1 : ¬ nI g = -1 := q_neg1 g (by omega)
    have h2 : ¬ g = 6 := by omega
    exact propext ⟨fun h => absurd h h1, fun h => absurd h h2⟩) B 9 0 0 t (2147483647, 0) (by omega) (by omega) ⟨S.of (fun k a1 a2 => t2 k (by omega) (by omega)), L.of (fun k a1 a2 => t2 k (by omega) (by omega)), fun p hp => t6 p (by omega), fun i hi => absurd hi (by omega), t3, by decide⟩
  rw [q_pc0] at u1
  rw [Nat.zero_mul, q_fd_first (st' := (1000000, 0)) (show _ < 2147483647 by omega) (show _ < 1000000 by omega) hN] at u6 u7
  refine ⟨u, ?_, fun k hk => (u2 k (by omega) (by omega) (by omega) (by omega)).trans (t2 k (by omega) (by omega)), u6, ?_⟩
  · unfold f2_layAlone f2_layAlone_b0
    rw [t1]
    simp only [q_ob]
    have u1' : f2_lay 9 t 0 0 (-1) = some u := u1
    rw [u1']
    rfl
  · rcases u7 with ⟨w1, _, _⟩ | ⟨w1, w2, w3⟩
    · exfalso
      have h2 := congrArg Prod.fst w1
      have h3 := q_fd_le (c := q_pc sh a P 6 (a 6 0) (fun _ => 0) 0 B) (lo := 0) (st := (1000000, 0)) (q_Nx B P 6 B)
      have h4 : (2147483647, 0).1 = 2147483647 := rfl
      have h5 : (1000000, 0).1 = 1000000 := rfl
      omega
    · intro i hi
      exact w3 i hi (by omega)
theorem m_findFit {s : sf_Sg} {B P : Nat} {sh a : Nat → Nat → Nat} {z : Int32} (S : q_SM s B P sh) (SG : q_SG B P sh) (L : q_LM s B P 155 0 a z) (G : q_LT B P a) (hP0 : 0 < P) : ∃ u, f10_findFit s = some u ∧ (∀ k, k ≠ 149 → k ≠ 155 → k ≠ 163 → k ≠ 164 → u k = s k) ∧ (∀ j, j ≠ 29 → j ≠ 30 → u 149 j = s 149 j) ∧ (∀ j, j < 31 → u 155 j = s 155 j) ∧ u 149 29 = nI (q_fd (q_pc sh a P 6 (a 6 0) (fun _ => 0) 0 B) 0 (q_Nx B P 6 B) (1000000, 0)).1 ∧ (∀ i, i < B → u 164 i = nI (q_dg P 6 B (q_fd (q_pc sh a P 6 (a 6 0) (fun _ => 0) 0 B) 0 (q_Nx B P 6 B) (1000000, 0)).2 i)) := by
  have hB := SG.1
  have hP5 := SG.2.1
  have hNp := q_Nx_pow (P := P) hB B (Nat.le_refl _)
  have hpw := q_pw (P := P) hP5 hB
  have hN : 0 < q_Nx B P 6 B := by
    rw [hNp]
    exact Nat.pow_pos hP0
  obtain ⟨t, t1, t2, t3, t4⟩ := m_copyRow (s := s) 155 31 163 31 31 (by decide) (by decide) (by decide) (by decide) (by decide)
  obtain ⟨c, hc⟩ : ∃ c, c = q_pc sh a P 6 (a 6 0) (fun _ => 0) 0 B := ⟨_, rfl⟩
  have hcl : ∀ j, c j ≤ 10000 := by
    intro j
    rw [hc]
    exact q_pc_le SG (fun g hg => (G.1 g hg).2.1) (fun _ _ => by decide) (by decide) hP0 (Nat.le_refl B)
  have hcg : ∀ (v : sf_Sg) (j : Nat), q_SM v B P sh → q_LM v B P 155 0 (q_wl a (q_dg P 6 B j) 6 0) z → f10_allGalling v = some (nI (c j)) := by
    intro v j Sv Lv
    have hW : ∀ g, g < B → q_dg P 6 B j g < P := fun g _ => q_dg_lt hB hP0 B j g (Nat.le_refl _)
    have hq : 6 < B → 0 < P ∧ q_dg P 6 B j 6 ≠ 0 := fun h => absurd h (by omega)
    have G' := q_wl_LT (q0 := 0) (ld := 6) G hW hq
    rw [m_all Sv SG Lv G', hc, q_pc_TT]
    have e := q_all_TT (sh := sh) (a := a) (d := a 6 0) (q0 := 0) (ld := 6) hW hq
    have e0 : q_l0 a B 6 (q_dg P 6 B j 6) 0 = fun _ => 0 := by
      funext p
      unfold q_l0
      rw [if_neg (by omega)]
    have e1 : q_r0 sh a B 6 (a 6 0) (q_dg P 6 B j 6) 0 = 0 := by
      unfold q_r0
      rw [if_neg (by omega)]
    rw [e0, e1] at e
    rw [← e]
    rfl
  rw [← hc]
  have loop : ∀ (f j : Nat) (v : sf_Sg), q_Nx B P 6 B < f + j → j ≤ q_Nx B P 6 B → (∀ k, k ≠ 149 → k ≠ 155 → v k = t k) → (∀ m, m ≠ 29 → m ≠ 30 → v 149 m = t 149 m) → (∀ m, (m < 12 ∨ 24 ≤ m) → v 155 m = t 155 m) → v 149 29 = nI (q_fd c 0 j (1000000, 0)).1 → ((q_fd c 0 j (1000000, 0)).1 < 1000000 → v 149 30 = nI (q_fd c 0 j (1000000, 0)).2) → ∃ u, sf_it f10_findFit_b21 (fun _ _ => none) f v (nI j) = f10_findFit_b85 u ∧ (∀ k, k ≠ 149 → k ≠ 155 → u k = t k) ∧ (∀ m, m ≠ 29 → m ≠ 30 → u 149 m = t 149 m) ∧ (∀ m, (m < 12 ∨ 24 ≤ m) → u 155 m = t 155 m) ∧ u 149 29 = nI (q_fd c 0 (q_Nx B P 6 B) (1000000, 0)).1 ∧ ((q_fd c 0 (q_Nx B P 6 B) (1000000, 0)).1 < 1000000 → u 149 30 = nI (q_fd c 0 (q_Nx B P 6 B) (1000000, 0)).2) := by
    intro f
    induction f with
    | zero => intro j v h1 h2; omega
    | succ f ih =>
      intro j v h1 h2 h3 h4 h5 h6 h7
      rw [q_it]
      generalize sf_it f10_findFit_b21 (fun _ _ => none) f = K at ih ⊢
      have Sv : q_SM v B P sh := S.of (fun k hk => (h3 k (by omega) (by omega)).trans (t2 k (by omega))) ((h4 2 (by decide) (by decide)).trans (congrFun (t2 149 (by decide)) 2)) ((h4 6 (by decide) (by decide)).trans (congrFun (t2 149 (by decide)) 6))
      unfold f10_findFit_b21
      rw [m_ways Sv hB hP5, ← hNp]
      simp only [q_ob]
      by_cases hj : j = q_Nx B P 6 B
      · rw [← hj, if_pos (nI_le (Nat.le_refl _) (by omega))]
        exact ⟨v, rfl, h3, h4, h5, h6, h7⟩
      · have hlt : j < q_Nx B P 6 B := by omega
        rw [if_neg (nI_ge hlt (by omega))]
        obtain ⟨w, w1, w2, w3, w4⟩ := m_carryBy Sv hB hP5 hP0 (show j ≤ 100000 by omega)
        have Sw : q_SM w B P sh := Sv.of (fun k hk => w2 k (by omega)) (congrFun (w2 149 (by decide)) 2) (congrFun (w2 149 (by decide)) 6)
        have Lw : q_LM w B P 155 0 (q_wl a (q_dg P 6 B j) 6 0) z := m_byWay (s := s) hB hP5 L w3 (fun m a1 a2 => (w4 m a1).trans ((h5 m a1).trans (congrFun (t2 155 (by decide)) m)))
        rw [w1]
        simp only [q_ob]
        rw [hcg w j Sw Lw]
        simp only [q_ob]
        have l29 : w 149 29 = nI (q_fd c 0 j (1000000, 0)).1 := by rw [w2 149 (by decide), h6]
        have hm := q_fd_le (c := c) (lo := 0) (st := (1000000, 0)) j
        have hm' : (q_fd c 0 j (1000000, 0)).1 ≤ 1000000 := hm
        have hcj := hcl j
        have eS : q_fd c 0 (j + 1) (1000000, 0) = if c j < (q_fd c 0 j (1000000, 0)).1 then (c j, j) else q_fd c 0 j (1000000, 0) := by
          show q_stp c (q_fd c 0 j (1000000, 0)) (0 + j) = _
          rw [Nat.zero_add]
          rfl
        rw [l29]
        simp only [q_le (show (q_fd c 0 j (1000000, 0)).1 ≤ 2000000 by omega) (show c j ≤ 2000000 by omega)]
        unfold f10_findFit_b56 f10_findFit_b76
        have l29' : ∀ v', sf_s1 w 149 30 v' 149 29 = nI (q_fd c 0 j (1000000, 0)).1 := fun v' => by rw [q_s1i (by decide), l29]
        rw [l29', l29', nI_1]
        simp only [q_le (show (q_fd c 0 j (1000000, 0)).1 ≤ 2000000 by omega) (show c j ≤ 2000000 by omega)]
        by_cases hle : (q_fd c 0 j (1000000, 0)).1 ≤ c j
        · rw [if_neg (show ¬ c j < (q_fd c 0 j (1000000, 0)).1 by omega)] at eS
          rw [if_pos hle, if_pos hle]
          refine ih (j + 1) _ (by omega) (by omega) (fun k k1 k2 => ?_) (fun m m1 m2 => ?_) (fun m hm => ?_) ?_ (fun hh => ?_)
          · rw [q_s1k k1, q_s1k k1, w2 k k2, h3 k k1 k2]
          · rw [q_s1i m1, q_s1i m2, w2 149 (by decide), h4 m m1 m2]
          · rw [q_s1k (by decide), q_s1k (by decide), w4 m hm, h5 m hm]
          · rw [q_s1s, eS]
          · rw [eS] at hh ⊢
            rw [q_s1i (by decide), q_s1s, w2 149 (by decide)]
            exact h7 hh
        · rw [if_pos (show c j < (q_fd c 0 j (1000000, 0)).1 by omega)] at eS
          rw [if_neg hle, if_neg hle]
          refine ih (j + 1) _ (by omega) (by omega) (fun k k1 k2 => ?_) (fun m m1 m2 => ?_) (fun m hm => ?_) ?_ (fun hh => ?_)
          · rw [q_s1k k1, q_s1k k1, w2 k k2, h3 k k1 k2]
          · rw [q_s1i m1, q_s1i m2, w2 149 (by decide), h4 m m1 m2]
          · rw [q_s1k (by decide), q_s1k (by decide), w4 m hm, h5 m hm]
          · rw [q_s1s, eS]
          · rw [eS] at hh ⊢
            rw [q_s1i (by decide), q_s1s]
  obtain ⟨u, u1, u2, u3, u4, u5, u6⟩ := loop sf_FU 0 (sf_s1 t 149 29 1000000) (by unfold sf_FU; omega) (by omega) (fun k k1 k2 => q_s1k k1) (fun m m1 m2 => q_s1i m1) (fun m hm => by rw [q_s1k (by decide)]) (by rw [q_s1s]; rfl) (fun hh => absurd hh (by show ¬ 1000000 < 1000000; omega))
  have hst : (q_fd c 0 (q_Nx B P 6 B) (1000000, 0)).1 < 1000000 := by
    obtain ⟨m, hm⟩ : ∃ m, q_Nx B P 6 B = 1 + m := ⟨q_Nx B P 6 B - 1, by omega⟩
    have h1 := q_fd_le (c := c) (lo := 0 + 1) (st := q_fd c 0 1 (1000000, 0)) m
    rw [← q_fd_add, ← hm] at h1
    have h2 : q_fd c 0 1 (1000000, 0) = (c 0, 0) := by
      show q_stp c (1000000, 0) (0 + 0) = _
      unfold q_stp
      rw [if_pos (show c 0 < 1000000 by have := hcl 0; omega)]
    rw [h2] at h1
    have := hcl 0
    have h3 : (c 0, 0).1 = c 0 := rfl
    omega
  have hlt : (q_fd c 0 (q_Nx B P 6 B) (1000000, 0)).2 < q_Nx B P 6 B := by
    rcases q_fd_snd (c := c) (lo := 0) (st := (1000000, 0)) (q_Nx B P 6 B) with e | e
    · rw [e]
      exact hN
    · omega
  generalize q_fd c 0 (q_Nx B P 6 B) (1000000, 0) = st at *
  have Su : q_SM u B P sh := S.of (fun k hk => (u2 k (by omega) (by omega)).trans (t2 k (by omega))) ((u3 2 (by decide) (by decide)).trans (congrFun (t2 149 (by decide)) 2)) ((u3 6 (by decide) (by decide)).trans (congrFun (t2 149 (by decide)) 6))
  obtain ⟨w, w1, w2, w3, w4⟩ := m_carryBy Su hB hP5 hP0 (show st.2 ≤ 100000 by omega)
  have Sw : q_SM w B P sh := Su.of (fun k hk => w2 k (by omega)) (congrFun (w2 149 (by decide)) 2) (congrFun (w2 149 (by decide)) 6)
  have copy : ∀ (f i : Nat) (v : sf_Sg), B < f + i → i ≤ B → (∀ k, k ≠ 164 → v k = w k) → (∀ m, m < i → v 164 m = nI (q_dg P 6 B st.2 m)) → ∃ u, sf_it f10_findFit_b95 (fun _ _ => none) f v (nI i) = f10_findFit_b124 u ∧ (∀ k, k ≠ 164 → u k = w k) ∧ (∀ m, m < B → u 164 m = nI (q_dg P 6 B st.2 m)) := by
    intro f
    induction f with
    | zero => intro i v h1 h2; omega
    | succ f ih =>
      intro i v h1 h2 h3 h4
      rw [q_it]
      generalize sf_it f10_findFit_b95 (fun _ _ => none) f = K at ih ⊢
      unfold f10_findFit_b95
      rw [h3 149 (by decide), Sw.1]
      by_cases hi : i = B
      · subst hi
        rw [if_pos (nI_le (Nat.le_refl _) (by omega))]
        exact ⟨v, rfl, h3, h4⟩
      · have hil : i < B := by omega
        have l12 : sf_ld v 155 31 ((12 : Int32) + nI i) = some (v 155 (12 + i)) := q_ldn (o := 12) (by omega)
        rw [if_neg (nI_ge hil (by omega)), l12, h3 155 (by decide), (w3 i hil).1]
        simp only [q_ob]
        rw [q_st (show i < 6 by omega) (by decide)]
        simp only [q_ob]
        rw [nI_1]
        refine ih (i + 1) _ (by omega) (by omega) (fun k hk => (q_s1k hk).trans (h3 k hk)) (fun m hm => ?_)
        by_cases e : m = i
        · subst e
          rw [q_s1s]
        · rw [q_s1i e]
          exact h4 m (by omega)
  obtain ⟨x, x1, x2, x3⟩ := copy sf_FU 0 w (by unfold sf_FU; omega) (by omega) (fun _ _ => rfl) (fun m hm => absurd hm (by omega))
  obtain ⟨y, y1, y2, y3, y4⟩ := m_copyRow (s := x) 163 31 155 31 31 (by decide) (by decide) (by decide) (by decide) (by decide)
  refine ⟨y, ?_, fun k k1 k2 k3 k4 => ?_, fun j j1 j2 => ?_, fun j hj => ?_, ?_, fun i hi => ?_⟩
  · unfold f10_findFit f10_findFit_b0
    have t1' : f10_copyRow 155 31 163 31 s 31 = some t := t1
    rw [t1']
    simp only [q_ob]
    have u1' : f10_findFit_L21 (sf_s1 t 149 29 1000000) 0 = f10_findFit_b85 u := u1
    rw [u1']
    unfold f10_findFit_b85
    rw [u6 hst, w1]
    simp only [q_ob]
    have x1' : f10_findFit_L95 w 0 = f10_findFit_b124 x := x1
    rw [x1']
    unfold f10_findFit_b124
    have y1' : f10_copyRow 163 31 155 31 x 31 = some y := y1
    rw [y1']
    rfl
  · rw [y2 k k2, x2 k k4, w2 k k2, u2 k k1 k2, t2 k k3]
  · rw [y2 149 (by decide), x2 149 (by decide), w2 149 (by decide), u3 j j1 j2, t2 149 (by decide)]
  · rw [y3 j hj, x2 163 (by decide), w2 163 (by decide), u2 163 (by decide) (by decide), t3 j hj]
  · rw [y2 149 (by decide), x2 149 (by decide), w2 149 (by decide), u5]
  · rw [y2 164 (by decide), x3 i hi]
theorem p_fit : st_fit q_Inv := by
  intro s x hI
  have hI' := hI
  obtain ⟨B, P, sh, a, z, hS, ⟨hG, hC, hMd⟩, hR⟩ := hI
  have hB := hS.1.1
  have hP := hS.1.2.1
  have G := hG.t
  have core : (x = -1 ∨ ∃ g : Nat, g < B ∧ x = nI g) → ∃ (r : Int32) (s1 s2 : sf_Sg), f9_fit_b19 s x = some (r, s1) ∧ f10_fit_b16 s1 x = some (r, s2) ∧ (∀ y, f10_isBurden s1 y = f10_isBurden s y) ∧ q_Inv s2 := by
    intro hx
    by_cases hP0 : P = 0
    · refine ⟨-1, s, s, ?_, ?_, fun _ => rfl, hI'⟩
      · unfold f9_fit_b19
        rw [hS.1.2.2.2.1, if_neg (show ¬ 1 ≤ nI P by rw [hP0]; decide)]
      · unfold f10_fit_b16
        rw [hS.1.2.2.2.2.2.1, if_pos (show nI P = 0 by rw [hP0]; rfl)]
    · obtain ⟨u, u1, u2, u3, u4⟩ := c_layAlone hS.c hS.g hC G (by omega)
      obtain ⟨w, w1, w2, w3, w4, w5, w6⟩ := m_findFit (s := u) (hS.m.of (fun k hk => u2 k (by omega)) (congrFun (u2 149 (by omega)) 2) (congrFun (u2 149 (by omega)) 6)) hS.g (hMd.of (u2 155 (by omega))) G (by omega)
      have hIw : q_Inv w := q_stay hI' (fun k hk => (w2 k (by omega) (by omega) (by omega) (by omega)).trans (u2 k (by omega))) ((congrFun (w2 125 (by decide) (by decide) (by decide) (by decide)) 0).trans (congrFun (u2 125 (by omega)) 0)) (fun j hj => (w3 j (by omega) (by omega)).trans (congrFun (u2 149 (by omega)) j)) (fun j hj => (w4 j hj).trans (congrFun (u2 155 (by omega)) j))
      have c1 : f9_fit_b19 s x = if x = -1 then some (u 22 0, u) else (sf_ld u 23 6 x).bind fun v => some (v, u) := by
        unfold f9_fit_b19
        rw [hS.1.2.2.2.1, if_pos (show 1 ≤ nI P from nI_le (a := 1) (by omega) (by omega)), u1]
        rfl
      have m1 : f10_fit_b16 u x = if x = -1 then some (w 149 29, w) else (sf_ld w 164 6 x).bind fun v => some (v, w) := by
        unfold f10_fit_b16
        have : u 149 6 = nI P := by rw [u2 149 (by omega), hS.1.2.2.2.2.2.1]
        rw [this, if_neg (nI_ne0 (by omega) (by omega)), w1]
        rfl
      rcases hx with hx | ⟨g, hg, rfl⟩
      · refine ⟨u 22 0, u, w, ?_, ?_, fun y => q_isBu (u2 149 (by omega)) y, hIw⟩
        · rw [c1, if_pos hx]
        · rw [m1, if_pos hx, w5, u3]
      · have hne : ¬ nI g = -1 := q_neg1 g (by omega)
        refine ⟨u 23 g, u, w, ?_, ?_, fun y => q_isBu (u2 149 (by omega)) y, hIw⟩
        · rw [c1, if_neg hne, q_ld (show g < 6 by omega) (by decide)]
          rfl
        · rw [m1, if_neg hne, q_ld (show g < 6 by omega) (by decide), w6 g hg, u4 g hg]
          rfl
  by_cases hx : x = -1
  · obtain ⟨r, s1, s2, e1, e2, _, e3⟩ := core (Or.inl hx)
    refine ⟨r, s1, s2, ?_, ?_, e3⟩
    · unfold f9_fit f9_fit_b0
      rw [if_pos hx]
      exact e1
    · unfold f10_fit f10_fit_b0
      rw [if_pos hx]
      exact e2
  · rcases q_hasBurden hB hS.1.2.2.1 hS.1.2.2.2.2.1 x with ⟨g, hg, hgx, e1, e2⟩ | ⟨e1, e2⟩
    · obtain ⟨r, s1, s2, g1, g2, g4, g3⟩ := core (Or.inr ⟨g, hg, hgx⟩)
      refine ⟨r, s1, s2, ?_, ?_, g3⟩
      · unfold f9_fit f9_fit_b0
        rw [if_neg hx, e1, if_neg q_b1]
        exact g1
      · unfold f10_fit f10_fit_b0
        rw [if_neg hx, g4, e2, if_neg q_b1]
        exact g2
    · refine ⟨-1000000001, s, s, ?_, ?_, hI'⟩
      · unfold f9_fit f9_fit_b0
        rw [if_neg hx, e1, if_pos rfl]
      · unfold f10_fit f10_fit_b0
        rw [if_neg hx, e2, if_pos rfl]
