-- what was read becomes the shop
theorem c_shopCopy (s : sf_Sg) (h0 : s 3 0 = 0 ∨ s 3 0 = 1) : ∃ t, f7_copyFrom 10 3 s = some t ∧ (∀ k, (k < 10 ∨ 15 < k) → t k = s k) ∧ (∀ j, j < 4 → t 10 j = s 3 j) ∧ (∀ g, g < 6 → t 11 g = s 4 g ∧ t 12 g = s 5 g ∧ t 13 g = s 6 g) ∧ (∀ p, p < 5 → t 14 p = s 7 p ∧ t 15 p = s 8 p) := by
  have key2 : ∀ (f i : Nat) (t : sf_Sg), 5 < f + i → i ≤ 5 → (∀ p, p < i → t 14 p = t 7 p ∧ t 15 p = t 8 p) → ∃ t', sf_it (f7_copyFrom_b84 10 3) (fun _ _ => none) f t (nI i) = some t' ∧ (∀ k, k ≠ 14 → k ≠ 15 → t' k = t k) ∧ ∀ p, p < 5 → t' 14 p = t 7 p ∧ t' 15 p = t 8 p := by
    intro f
    induction f with
    | zero => intro i t h1 h2; omega
    | succ f ih =>
      intro i t h1 h2 h3
      rw [q_it]
      generalize sf_it (f7_copyFrom_b84 10 3) (fun _ _ => none) f = K at ih ⊢
      unfold f7_copyFrom_b84
      by_cases hi : i = 5
      · subst hi
        rw [if_pos (show (5 : Int32) ≤ nI 5 by decide)]
        exact ⟨t, rfl, fun _ _ _ => rfl, h3⟩
      · rw [if_neg (show ¬ (5 : Int32) ≤ nI i from nI_ge (b := 5) (by omega) (by decide)), q_ld (by omega) (by decide)]
        simp only [q_ob]
        rw [q_st (by omega) (by decide)]
        simp only [q_ob]
        rw [q_ld (by omega) (by decide)]
        simp only [q_ob]
        rw [q_st (by omega) (by decide)]
        simp only [q_ob]
        rw [nI_1]
        generalize hX : sf_s1 (sf_s1 t (10 + 4) i (t (3 + 4) i)) (10 + 5) i (sf_s1 t (10 + 4) i (t (3 + 4) i) (3 + 5) i) = X
        have eo : ∀ k, k ≠ 14 → k ≠ 15 → X k = t k := fun k k1 k2 => by rw [← hX, q_s1k k2, q_s1k k1]
        have e14 : ∀ j, X 14 j = if j = i then t 7 i else t 14 j := fun j => by
          rw [← hX, q_s1k (show 14 ≠ 10 + 5 by decide)]
          by_cases w : j = i
          · rw [if_pos w, w]
            exact q_s1s
          · rw [if_neg w]
            exact q_s1i w
        have e15 : ∀ j, X 15 j = if j = i then t 8 i else t 15 j := fun j => by
          rw [← hX]
          by_cases w : j = i
          · rw [if_pos w, w]
            exact q_s1s.trans (congrFun (q_s1k (by decide)) i)
          · rw [if_neg w]
            exact (q_s1i w).trans (congrFun (q_s1k (by decide)) j)
        obtain ⟨t', a1, a2, a3⟩ := ih (i + 1) X (by omega) (by omega) (by
          intro p hp
          rw [e14, e15, eo 7 (by decide) (by decide), eo 8 (by decide) (by decide)]
          by_cases w : p = i
          · rw [if_pos w, if_pos w, w]
            exact ⟨rfl, rfl⟩
          · rw [if_neg w, if_neg w]
            exact h3 p (by omega))
        refine ⟨t', a1, fun k k1 k2 => by rw [a2 k k1 k2, eo k k1 k2], fun p hp => ?_⟩
        have := a3 p hp
        rw [eo 7 (by decide) (by decide), eo 8 (by decide) (by decide)] at this
        exact this
  have key1 : ∀ (f i : Nat) (t : sf_Sg), 6 < f + i → i ≤ 6 → (∀ p, p < i → t 11 p = t 4 p ∧ t 12 p = t 5 p ∧ t 13 p = t 6 p) → ∃ t', sf_it (f7_copyFrom_b34 10 3) (fun _ _ => none) f t (nI i) = f7_copyFrom_b82 10 3 t' ∧ (∀ k, k ≠ 11 → k ≠ 12 → k ≠ 13 → t' k = t k) ∧ ∀ p, p < 6 → t' 11 p = t 4 p ∧ t' 12 p = t 5 p ∧ t' 13 p = t 6 p := by
    intro f
    induction f with
    | zero => intro i t h1 h2; omega
    | succ f ih =>
      intro i t h1 h2 h3
      rw [q_it]
      generalize sf_it (f7_copyFrom_b34 10 3) (fun _ _ => none) f = K at ih ⊢
      unfold f7_copyFrom_b34
      by_cases hi : i = 6
      · subst hi
        rw [if_pos (show (6 : Int32) ≤ nI 6 by decide)]
        exact ⟨t, rfl, fun _ _ _ _ => rfl, h3⟩
      · rw [if_neg (show ¬ (6 : Int32) ≤ nI i from nI_ge (b := 6) (by omega) (by decide)), q_ld (by omega) (by decide)]
        simp only [q_ob]
        rw [q_st (by omega) (by decide)]
        simp only [q_ob]
        rw [q_ld (by omega) (by decide)]
        simp only [q_ob]
        rw [q_st (by omega) (by decide)]
        simp only [q_ob]
        rw [q_ld (by omega) (by decide)]
        simp only [q_ob]
        rw [q_st (by omega) (by decide)]
        simp only [q_ob]
        rw [nI_1]
        generalize hX : sf_s1 (sf_s1 (sf_s1 t (10 + 1) i (t (3 + 1) i)) (10 + 2) i (sf_s1 t (10 + 1) i (t (3 + 1) i) (3 + 2) i)) (10 + 3) i (sf_s1 (sf_s1 t (10 + 1) i (t (3 + 1) i)) (10 + 2) i (sf_s1 t (10 + 1) i (t (3 + 1) i) (3 + 2) i) (3 + 3) i) = X
        have eo : ∀ k, k ≠ 11 → k ≠ 12 → k ≠ 13 → X k = t k := fun k k1 k2 k3 => by rw [← hX, q_s1k k3, q_s1k k2, q_s1k k1]
        have e11 : ∀ j, X 11 j = if j = i then t 4 i else t 11 j := fun j => by
          rw [← hX, q_s1k (show 11 ≠ 10 + 3 by decide), q_s1k (show 11 ≠ 10 + 2 by decide)]
          by_cases w : j = i
          · rw [if_pos w, w]
            exact q_s1s
          · rw [if_neg w]
            exact q_s1i w
        have e12 : ∀ j, X 12 j = if j = i then t 5 i else t 12 j := fun j => by
          rw [← hX, q_s1k (show 12 ≠ 10 + 3 by decide)]
          by_cases w : j = i
          · rw [if_pos w, w]
            exact q_s1s.trans (congrFun (q_s1k (by decide)) i)
          · rw [if_neg w]
            exact (q_s1i w).trans (congrFun (q_s1k (by decide)) j)
        have e13 : ∀ j, X 13 j = if j = i then t 6 i else t 13 j := fun j => by
          rw [← hX]
          by_cases w : j = i
          · rw [if_pos w, w]
            exact q_s1s.trans ((congrFun (q_s1k (by decide)) i).trans (congrFun (q_s1k (by decide)) i))
          · rw [if_neg w]
            exact (q_s1i w).trans ((congrFun (q_s1k (by decide)) j).trans (congrFun (q_s1k (by decide)) j))
        have e4 := eo 4 (by decide) (by decide) (by decide)
        have e5 := eo 5 (by decide) (by decide) (by decide)
        have e6 := eo 6 (by decide) (by decide) (by decide)
        obtain ⟨t', a1, a2, a3⟩ := ih (i + 1) X (by omega) (by omega) (by
          intro p hp
          rw [e11, e12, e13, e4, e5, e6]
          by_cases w : p = i
          · rw [if_pos w, if_pos w, if_pos w, w]
            exact ⟨rfl, rfl, rfl⟩
          · rw [if_neg w, if_neg w, if_neg w]
            exact h3 p (by omega))
        refine ⟨t', a1, fun k k1 k2 k3 => by rw [a2 k k1 k2 k3, eo k k1 k2 k3], fun p hp => ?_⟩
        have := a3 p hp
        rw [e4, e5, e6] at this
        exact this
  have hbo : sf_bo (s 3 0) = some (s 3 0) := by
    unfold sf_bo
    rw [if_pos h0]
  unfold f7_copyFrom f7_copyFrom_b0
  rw [hbo, q_ob]
  simp only [q_s1k (show 3 ≠ 10 by decide)]
  generalize hX : sf_s1 (sf_s1 (sf_s1 (sf_s1 s 10 0 (s 3 0)) 10 1 (s 3 1)) 10 2 (s 3 2)) 10 3 (s 3 3) = X
  have eo : ∀ k, k ≠ 10 → X k = s k := fun k k1 => by rw [← hX, q_s1k k1, q_s1k k1, q_s1k k1, q_s1k k1]
  have e10 : ∀ j, j < 4 → X 10 j = s 3 j := by
    intro j hj
    rw [← hX]
    rcases (show j = 0 ∨ j = 1 ∨ j = 2 ∨ j = 3 by omega) with rfl | rfl | rfl | rfl
    · rw [q_s1i (by decide), q_s1i (by decide), q_s1i (by decide), q_s1s]
    · rw [q_s1i (by decide), q_s1i (by decide), q_s1s]
    · rw [q_s1i (by decide), q_s1s]
    · rw [q_s1s]
  obtain ⟨t1, a1, a2, a3⟩ := key1 sf_FU 0 X (by unfold sf_FU; omega) (by omega) (fun p hp => absurd hp (Nat.not_lt_zero p))
  obtain ⟨t2, b1, b2, b3⟩ := key2 sf_FU 0 t1 (by unfold sf_FU; omega) (by omega) (fun p hp => absurd hp (Nat.not_lt_zero p))
  have a1' : f7_copyFrom_L34 10 3 X 0 = f7_copyFrom_b82 10 3 t1 := a1
  rw [a1']
  refine ⟨t2, b1, fun k hk => ?_, fun j hj => ?_, fun g hg => ?_, fun p hp => ?_⟩
  · rw [b2 k (by omega) (by omega), a2 k (by omega) (by omega) (by omega), eo k (by omega)]
  · rw [b2 10 (by decide) (by decide), a2 10 (by decide) (by decide) (by decide), e10 j hj]
  · rw [b2 11 (by decide) (by decide), b2 12 (by decide) (by decide), b2 13 (by decide) (by decide)]
    have := a3 g hg
    rw [eo 4 (by decide), eo 5 (by decide), eo 6 (by decide)] at this
    exact this
  · have := b3 p hp
    rw [a2 7 (by decide) (by decide) (by decide), a2 8 (by decide) (by decide) (by decide), eo 7 (by decide), eo 8 (by decide)] at this
    exact this
theorem c_startOf (s : sf_Sg) : ∃ t, f3_startOf 16 10 s = some t ∧ (∀ k, (k < 16 ∨ 21 < k) → t k = s k) ∧ t 16 0 = 0 ∧ t 16 1 = s 10 1 ∧ (∀ g, g < 6 → t 17 g = s 12 g ∧ t 18 g = 0 ∧ t 19 g = -1 ∧ t 20 g = -1) ∧ (∀ p, p < 5 → t 21 p = 0) := by
  have key2 : ∀ (f i : Nat) (t : sf_Sg), 5 < f + i → i ≤ 5 → (∀ p, p < i → t 21 p = 0) → ∃ t', sf_it (f3_startOf_b62 16 10) (fun _ _ => none) f t (nI i) = some t' ∧ (∀ k, k ≠ 21 → t' k = t k) ∧ ∀ p, p < 5 → t' 21 p = 0 := by
    intro f
    induction f with
    | zero => intro i t h1 h2; omega
    | succ f ih =>
      intro i t h1 h2 h3
      rw [q_it]
      generalize sf_it (f3_startOf_b62 16 10) (fun _ _ => none) f = K at ih ⊢
      unfold f3_startOf_b62
      by_cases hi : i = 5
      · subst hi
        rw [if_pos (show (5 : Int32) ≤ nI 5 by decide)]
        exact ⟨t, rfl, fun _ _ => rfl, h3⟩
      · rw [if_neg (show ¬ (5 : Int32) ≤ nI i from nI_ge (b := 5) (by omega) (by decide)), q_st (by omega) (by decide)]
        simp only [q_ob]
        rw [nI_1]
        obtain ⟨t', a1, a2, a3⟩ := ih (i + 1) (sf_s1 t (16 + 5) i 0) (by omega) (by omega) (by
          intro p hp
          by_cases w : p = i
          · rw [w]
            exact q_s1s
          · exact (q_s1i w).trans (h3 p (by omega)))
        exact ⟨t', a1, fun k k1 => by rw [a2 k k1, q_s1k k1], a3⟩
  have key1 : ∀ (f i : Nat) (t : sf_Sg), 6 < f + i → i ≤ 6 → (∀ p, p < i → t 17 p = t 12 p ∧ t 18 p = 0 ∧ t 19 p = -1 ∧ t 20 p = -1) → ∃ t', sf_it (f3_startOf_b15 16 10) (fun _ _ => none) f t (nI i) = f3_startOf_b60 16 10 t' ∧ (∀ k, k ≠ 17 → k ≠ 18 → k ≠ 19 → k ≠ 20 → t' k = t k) ∧ ∀ p, p < 6 → t' 17 p = t 12 p ∧ t' 18 p = 0 ∧ t' 19 p = -1 ∧ t' 20 p = -1 := by
    intro f
    induction f with
    | zero => intro i t h1 h2; omega
    | succ f ih =>
      intro i t h1 h2 h3
      rw [q_it]
      generalize sf_it (f3_startOf_b15 16 10) (fun _ _ => none) f = K at ih ⊢
      unfold f3_startOf_b15
      by_cases hi : i = 6
      · subst hi
        rw [if_pos (show (6 : Int32) ≤ nI 6 by decide)]
        exact ⟨t, rfl, fun _ _ _ _ _ => rfl, h3⟩
      · rw [if_neg (show ¬ (6 : Int32) ≤ nI i from nI_ge (b := 6) (by omega) (by decide)), q_ld (by omega) (by decide)]
        simp only [q_ob]
        rw [q_st (by omega) (by decide)]
        simp only [q_ob]
        rw [q_st (by omega) (by decide)]
        simp only [q_ob]
        rw [q_st (by omega) (by decide)]
        simp only [q_ob]
        rw [q_st (by omega) (by decide)]
        simp only [q_ob]
        rw [nI_1]
        generalize hX : sf_s1 (sf_s1 (sf_s1 (sf_s1 t (16 + 1) i (t (10 + 2) i)) (16 + 2) i 0) (16 + 3) i (-1)) (16 + 4) i (-1) = X
        have eo : ∀ k, k ≠ 17 → k ≠ 18 → k ≠ 19 → k ≠ 20 → X k = t k := fun k k1 k2 k3 k4 => by rw [← hX, q_s1k k4, q_s1k k3, q_s1k k2, q_s1k k1]
        have e17 : ∀ j, X 17 j = if j = i then t 12 i else t 17 j := fun j => by
          rw [← hX, q_s1k (show 17 ≠ 16 + 4 by decide), q_s1k (show 17 ≠ 16 + 3 by decide), q_s1k (show 17 ≠ 16 + 2 by decide)]
          by_cases w : j = i
          · rw [if_pos w, w]
            exact q_s1s
          · rw [if_neg w]
            exact q_s1i w
        have e18 : ∀ j, X 18 j = if j = i then 0 else t 18 j := fun j => by
          rw [← hX, q_s1k (show 18 ≠ 16 + 4 by decide), q_s1k (show 18 ≠ 16 + 3 by decide)]
          by_cases w : j = i
          · rw [if_pos w, w]
            exact q_s1s
          · rw [if_neg w]
            exact (q_s1i w).trans (congrFun (q_s1k (by decide)) j)
        have e19 : ∀ j, X 19 j = if j = i then -1 else t 19 j := fun j => by
          rw [← hX, q_s1k (show 19 ≠ 16 + 4 by decide)]
          by_cases w : j = i
          · rw [if_pos w, w]
            exact q_s1s
          · rw [if_neg w]
            exact (q_s1i w).trans ((congrFun (q_s1k (by decide)) j).trans (congrFun (q_s1k (by decide)) j))
        have e20 : ∀ j, X 20 j = if j = i then -1 else t 20 j := fun j => by
          rw [← hX]
          by_cases w : j = i
          · rw [if_pos w, w]
            exact q_s1s
          · rw [if_neg w]
            exact (q_s1i w).trans ((congrFun (q_s1k (by decide)) j).trans ((congrFun (q_s1k (by decide)) j).trans (congrFun (q_s1k (by decide)) j)))
        have e12 := eo 12 (by decide) (by decide) (by decide) (by decide)
        obtain ⟨t', a1, a2, a3⟩ := ih (i + 1) X (by omega) (by omega) (by
          intro p hp
          rw [e17, e18, e19, e20, e12]
          by_cases w : p = i
          · rw [if_pos w, if_pos w, if_pos w, if_pos w, w]
            exact ⟨rfl, rfl, rfl, rfl⟩
          · rw [if_neg w, if_neg w, if_neg w, if_neg w]
            exact h3 p (by omega))
        refine ⟨t', a1, fun k k1 k2 k3 k4 => by rw [a2 k k1 k2 k3 k4, eo k k1 k2 k3 k4], fun p hp => ?_⟩
        have := a3 p hp
        rw [e12] at this
        exact this
  unfold f3_startOf f3_startOf_b0 f3_startOf_L15
  rw [q_s1k (k' := 10) (by decide)]
  generalize hX : sf_s1 (sf_s1 s 16 0 0) 16 1 (s 10 1) = X
  have eo : ∀ k, k ≠ 16 → X k = s k := fun k k1 => by rw [← hX, q_s1k k1, q_s1k k1]
  obtain ⟨t1, a1, a2, a3⟩ := key1 sf_FU 0 X (by unfold sf_FU; omega) (by omega) (fun p hp => absurd hp (Nat.not_lt_zero p))
  obtain ⟨t2, b1, b2, b3⟩ := key2 sf_FU 0 t1 (by unfold sf_FU; omega) (by omega) (fun p hp => absurd hp (Nat.not_lt_zero p))
  have a1' : sf_it (f3_startOf_b15 16 10) (fun _ _ => none) sf_FU X 0 = f3_startOf_b60 16 10 t1 := a1
  rw [a1']
  refine ⟨t2, b1, fun k hk => ?_, ?_, ?_, fun g hg => ?_, b3⟩
  · rw [b2 k (by omega), a2 k (by omega) (by omega) (by omega) (by omega), eo k (by omega)]
  · rw [b2 16 (by decide), a2 16 (by decide) (by decide) (by decide) (by decide), ← hX, q_s1i (by decide), q_s1s]
  · rw [b2 16 (by decide), a2 16 (by decide) (by decide) (by decide) (by decide), ← hX, q_s1s]
  · rw [b2 17 (by decide), b2 18 (by decide), b2 19 (by decide), b2 20 (by decide)]
    have := a3 g hg
    rw [eo 12 (by decide)] at this
    exact this
theorem c_unkeep (s : sf_Sg) : ∃ t, f9_shop_L66 s 0 = some (t 10 2, t) ∧ (∀ k, k ≠ 136 → t k = s k) ∧ (∀ i, i < 2 → t 136 i = 0) := by
  have key : ∀ (f i : Nat) (t : sf_Sg), 2 < f + i → i ≤ 2 → (∀ p, p < i → t 136 p = 0) → ∃ t', sf_it f9_shop_b66 (fun _ _ => none) f t (nI i) = some (t' 10 2, t') ∧ (∀ k, k ≠ 136 → t' k = t k) ∧ ∀ p, p < 2 → t' 136 p = 0 := by
    intro f
    induction f with
    | zero => intro i t h1 h2; omega
    | succ f ih =>
      intro i t h1 h2 h3
      rw [q_it]
      generalize sf_it f9_shop_b66 (fun _ _ => none) f = K at ih ⊢
      unfold f9_shop_b66
      by_cases hi : i = 2
      · subst hi
        rw [if_pos (show (2 : Int32) ≤ nI 2 by decide)]
        exact ⟨t, rfl, fun _ _ => rfl, h3⟩
      · rw [if_neg (show ¬ (2 : Int32) ≤ nI i from nI_ge (b := 2) (by omega) (by decide)), q_st (by omega) (by decide)]
        simp only [q_ob]
        rw [nI_1]
        obtain ⟨t', a1, a2, a3⟩ := ih (i + 1) (sf_s1 t 136 i 0) (by omega) (by omega) (by
          intro p hp
          by_cases w : p = i
          · rw [w]
            exact q_s1s
          · exact (q_s1i w).trans (h3 p (by omega)))
        exact ⟨t', a1, fun k k1 => by rw [a2 k k1, q_s1k k1], a3⟩
  exact key sf_FU 0 s (by unfold sf_FU; omega) (by omega) (fun p hp => absurd hp (Nat.not_lt_zero p))
def q_a0 (D : Nat → Nat → Nat) : Nat → Nat → Nat := fun k g => if k = 0 then D 2 g else 0
def q_sh0 (D : Nat → Nat → Nat) : Nat → Nat → Nat := fun k g => if k = 0 then D 1 g else if k = 1 then D 3 g else if k = 2 then D 4 g else D 5 g
theorem q_a0_G {D : Nat → Nat → Nat} (G : q_DG D) : q_LG (D 0 2) (D 0 3) (q_a0 D) := by
  obtain ⟨g1, g2, g3, g4, g5, g6, g7⟩ := G
  refine ⟨fun g hg => ⟨(g5 g hg).2.1, (g5 g hg).2.2.1, Nat.zero_le _, Nat.zero_le _, Nat.zero_le _, Or.inl rfl⟩, fun p hp => Nat.zero_le _, Nat.zero_le _⟩
theorem q_wn {v lo hi : Nat} (hv : v ≤ 2000000) (hl : lo ≤ 2000000) (hh : hi ≤ 2000000) : f9_within (nI v) (nI lo) (nI hi) = if lo ≤ v ∧ v ≤ hi then 1 else 0 := by
  unfold f9_within f9_within_b0 f9_within_b14
  simp only [q_lt hv hl, q_lt hh hv]
  by_cases a1 : v < lo
  · rw [if_pos a1, if_neg (by omega)]
  · rw [if_neg a1]
    by_cases a2 : hi < v
    · rw [if_pos a2, if_neg (by omega)]
    · rw [if_neg a2, if_pos (by omega)]
theorem m_takeRead {s : sf_Sg} {D : Nat → Nat → Nat} (G : q_DG D) (h : q_DM s D) : ∃ t, f10_takeRead s = some t ∧ (∀ k, (k < 149 ∨ 155 < k) → t k = s k) ∧ (∀ j, j ≠ 0 → j ≠ 1 → j ≠ 2 → j ≠ 6 → t 149 j = s 149 j) ∧ t 149 0 = nI (D 0 0) ∧ t 149 2 = nI (D 0 2) ∧ t 149 6 = nI (D 0 3) ∧ (∀ g, g < D 0 2 → t 150 g = nI (D 1 g) ∧ t 152 g = nI (D 3 g)) ∧ (∀ p, p < D 0 3 → t 153 p = nI (D 4 p) ∧ t 154 p = nI (D 5 p)) ∧ q_LM t (D 0 2) (D 0 3) 155 0 (q_a0 D) (nI (D 0 1)) := by
  obtain ⟨g1, g2, g3, g4, g5, g6, g7⟩ := id G
  obtain ⟨d0, d1, d2, d3, d4, d5⟩ := h
  have key : ∀ (f i : Nat) (t : sf_Sg), 31 < f + i → i ≤ 31 → (∀ p, p < i → t 155 p = if 12 ≤ p ∧ p ≤ 23 then -1 else 0) → ∃ t', sf_it f10_takeRead_b120 (fun _ _ => none) f t (nI i) = f10_takeRead_b157 t' ∧ (∀ k, k ≠ 155 → t' k = t k) ∧ ∀ p, p < 31 → t' 155 p = if 12 ≤ p ∧ p ≤ 23 then -1 else 0 := by
    intro f
    induction f with
    | zero => intro i t h1 h2; omega
    | succ f ih =>
      intro i t h1 h2 h3
      rw [q_it]
      generalize sf_it f10_takeRead_b120 (fun _ _ => none) f = K at ih ⊢
      unfold f10_takeRead_b120 f10_takeRead_b150
      by_cases hi : i = 31
      · subst hi
        rw [if_pos (show (31 : Int32) ≤ nI 31 by decide)]
        exact ⟨t, rfl, fun _ _ => rfl, h3⟩
      · rw [if_neg (show ¬ (31 : Int32) ≤ nI i from nI_ge (b := 31) (by omega) (by decide))]
        have e : f10_in (nI i).toInt64 12 23 = if 12 ≤ i ∧ i ≤ 23 then 1 else 0 := (q_in (nI i) 12 23).trans (q_wn (lo := 12) (hi := 23) (by omega) (by decide) (by decide))
        rw [e]
        have go : ∀ x : Int32, x = (if 12 ≤ i ∧ i ≤ 23 then -1 else 0) → ∃ t', ((sf_st t 155 31 (nI i) x).bind fun s150 => K s150 (nI i + 1)) = f10_takeRead_b157 t' ∧ (∀ k, k ≠ 155 → t' k = t k) ∧ ∀ p, p < 31 → t' 155 p = if 12 ≤ p ∧ p ≤ 23 then -1 else 0 := by
          intro x hx
          rw [q_st (by omega) (by decide)]
          simp only [q_ob]
          rw [nI_1]
          obtain ⟨t', a1, a2, a3⟩ := ih (i + 1) (sf_s1 t 155 i x) (by omega) (by omega) (by
            intro p hp
            by_cases w : p = i
            · rw [w]
              exact q_s1s.trans hx
            · exact (q_s1i w).trans (h3 p (by omega)))
          exact ⟨t', a1, fun k k1 => by rw [a2 k k1, q_s1k k1], a3⟩
        by_cases c : 12 ≤ i ∧ i ≤ 23
        · rw [if_pos c, if_neg q_b1]
          exact go _ (by rw [if_pos c])
        · rw [if_neg c, if_pos rfl]
          exact go _ (by rw [if_neg c])
  have core : ∀ s' : sf_Sg, (∀ k, k ≠ 149 → s' k = s k) → (∀ j, j ≠ 0 → s' 149 j = s 149 j) → s' 149 0 = nI (D 0 0) → ∃ t, f10_takeRead_b24 s' (nI (D 0 1)) = some t ∧ (∀ k, (k < 149 ∨ 155 < k) → t k = s k) ∧ (∀ j, j ≠ 0 → j ≠ 1 → j ≠ 2 → j ≠ 6 → t 149 j = s 149 j) ∧ t 149 0 = nI (D 0 0) ∧ t 149 2 = nI (D 0 2) ∧ t 149 6 = nI (D 0 3) ∧ (∀ g, g < D 0 2 → t 150 g = nI (D 1 g) ∧ t 152 g = nI (D 3 g)) ∧ (∀ p, p < D 0 3 → t 153 p = nI (D 4 p) ∧ t 154 p = nI (D 5 p)) ∧ q_LM t (D 0 2) (D 0 3) 155 0 (q_a0 D) (nI (D 0 1)) := by
    intro s' o1 o2 o3
    unfold f10_takeRead_b24
    rw [q_s1i (show 23 ≠ 2 by decide), q_s1i (show 19 ≠ 1 by decide), q_s1i (show 23 ≠ 1 by decide), o2 19 (by decide), o2 23 (by decide), d2, d3]
    generalize hX : sf_s1 (sf_s1 (sf_s1 s' 149 1 (nI (D 0 1))) 149 2 (nI (D 0 2))) 149 6 (nI (D 0 3)) = X
    have x0 : ∀ k, k ≠ 149 → X k = s k := fun k k1 => by rw [← hX, q_s1k k1, q_s1k k1, q_s1k k1, o1 k k1]
    have x1 : X 149 1 = nI (D 0 1) := by rw [← hX, q_s1i (by decide), q_s1i (by decide), q_s1s]
    have x2 : X 149 2 = nI (D 0 2) := by rw [← hX, q_s1i (by decide), q_s1s]
    have x6 : X 149 6 = nI (D 0 3) := by rw [← hX, q_s1s]
    have xo : ∀ j, j ≠ 1 → j ≠ 2 → j ≠ 6 → X 149 j = s' 149 j := fun j j1 j2 j6 => by rw [← hX, q_s1i j6, q_s1i j2, q_s1i j1]
    rw [x2]
    obtain ⟨y1, a1, a2, a3, _⟩ := m_copyRow (s := X) 157 6 150 6 (D 0 2) (by omega) (by omega) (by decide) (by decide) (by decide)
    rw [a1, q_ob]
    rw [a2 149 (by decide), x2]
    obtain ⟨y2, b1, b2, b3, _⟩ := m_copyRow (s := y1) 158 6 151 6 (D 0 2) (by omega) (by omega) (by decide) (by decide) (by decide)
    rw [b1, q_ob]
    rw [b2 149 (by decide), a2 149 (by decide), x2]
    obtain ⟨y3, c1, c2, c3, _⟩ := m_copyRow (s := y2) 159 6 152 6 (D 0 2) (by omega) (by omega) (by decide) (by decide) (by decide)
    rw [c1, q_ob]
    rw [c2 149 (by decide), b2 149 (by decide), a2 149 (by decide), x6]
    obtain ⟨y4, e1, e2, e3, _⟩ := m_copyRow (s := y3) 160 5 153 5 (D 0 3) (by omega) (by omega) (by decide) (by decide) (by decide)
    rw [e1, q_ob]
    rw [e2 149 (by decide), c2 149 (by decide), b2 149 (by decide), a2 149 (by decide), x6]
    obtain ⟨y5, f1, f2, f3, _⟩ := m_copyRow (s := y4) 161 5 154 5 (D 0 3) (by omega) (by omega) (by decide) (by decide) (by decide)
    rw [f1, q_ob]
    obtain ⟨y6, k1, k2, k3⟩ := key sf_FU 0 y5 (by unfold sf_FU; omega) (by omega) (fun p hp => absurd hp (Nat.not_lt_zero p))
    have k1' : f10_takeRead_L120 y5 0 = f10_takeRead_b157 y6 := k1
    rw [k1']
    unfold f10_takeRead_b157
    have q149 : y6 149 = X 149 := by rw [k2 149 (by decide), f2 149 (by decide), e2 149 (by decide), c2 149 (by decide), b2 149 (by decide), a2 149 (by decide)]
    rw [q149, x2]
    obtain ⟨y7, l1, l2, l3, l4⟩ := m_copyRow (s := y6) 151 6 155 31 (D 0 2) (by omega) (by omega) (by decide) (by decide) (by decide)
    rw [l1, q_ob]
    rw [l2 149 (by decide), q149, x1, show (29 : Int32) = nI 29 from rfl, q_st (show 29 < 31 by decide) (by decide), q_ob]
    have r149 : ∀ j, sf_s1 y7 155 29 (nI (D 0 1)) 149 j = X 149 j := fun j => by rw [q_s1k (by decide), l2 149 (by decide), q149]
    have r151 : ∀ g, g < D 0 2 → y6 151 g = nI (D 2 g) := fun g hg => by rw [k2 151 (by decide), f2 151 (by decide), e2 151 (by decide), c2 151 (by decide), b3 g hg, a2 158 (by decide), x0 158 (by decide), (d4 g hg).2.1]
    refine ⟨_, rfl, fun k hk => ?_, fun j j0 j1 j2 j6 => ?_, ?_, ?_, ?_, fun g hg => ⟨?_, ?_⟩, fun p hp => ⟨?_, ?_⟩, fun g hg => ⟨?_, ?_, ?_, ?_⟩, fun p hp => ?_, ?_, ?_⟩
    · rw [q_s1k (by omega), l2 k (by omega), k2 k (by omega), f2 k (by omega), e2 k (by omega), c2 k (by omega), b2 k (by omega), a2 k (by omega), x0 k (by omega)]
    · rw [r149, xo j j1 j2 j6, o2 j j0]
    · rw [r149, xo 0 (by decide) (by decide) (by decide), o3]
    · rw [r149, x2]
    · rw [r149, x6]
    · rw [q_s1k (by decide), l2 150 (by decide), k2 150 (by decide), f2 150 (by decide), e2 150 (by decide), c2 150 (by decide), b2 150 (by decide), a3 g hg, x0 157 (by decide), (d4 g hg).1]
    · rw [q_s1k (by decide), l2 152 (by decide), k2 152 (by decide), f2 152 (by decide), e2 152 (by decide), c3 g hg, b2 159 (by decide), a2 159 (by decide), x0 159 (by decide), (d4 g hg).2.2]
    · rw [q_s1k (by decide), l2 153 (by decide), k2 153 (by decide), f2 153 (by decide), e3 p hp, c2 160 (by decide), b2 160 (by decide), a2 160 (by decide), x0 160 (by decide), (d5 p hp).1]
    · rw [q_s1k (by decide), l2 154 (by decide), k2 154 (by decide), f3 p hp, e2 161 (by decide), c2 161 (by decide), b2 161 (by decide), a2 161 (by decide), x0 161 (by decide), (d5 p hp).2]
    · rw [Nat.zero_add, q_s1i (by omega), l3 g hg, r151 g hg]
      rfl
    · rw [Nat.zero_add, q_s1i (by omega), l4 _ (by omega), k3 _ (by omega), if_neg (by omega)]
      rfl
    · rw [Nat.zero_add, q_s1i (by omega), l4 _ (by omega), k3 _ (by omega), if_pos (by omega)]
      rfl
    · rw [Nat.zero_add, q_s1i (by omega), l4 _ (by omega), k3 _ (by omega), if_pos (by omega)]
      rfl
    · rw [Nat.zero_add, q_s1i (by omega), l4 _ (by omega), k3 _ (by omega), if_neg (by omega)]
      rfl
    · rw [Nat.zero_add, q_s1s]
    · rw [Nat.zero_add, q_s1i (by decide), l4 _ (by omega), k3 _ (by decide), if_neg (by decide)]
      rfl
  have h01 : nI (D 0 0) = 0 ∨ nI (D 0 0) = 1 := by
    rcases (show D 0 0 = 0 ∨ D 0 0 = 1 by omega) with w | w
    · rw [w]
      exact Or.inl rfl
    · rw [w]
      exact Or.inr rfl
  have hbo : sf_bo (nI (D 0 0)) = some (nI (D 0 0)) := by
    unfold sf_bo
    rw [if_pos h01]
  unfold f10_takeRead f10_takeRead_b0
  rw [d0, hbo, q_ob]
  rw [q_s1i (show 17 ≠ 0 by decide), q_s1i (show 18 ≠ 0 by decide), d0]
  have C := core (sf_s1 s 149 0 (nI (D 0 0))) (fun k k1 => q_s1k k1) (fun j j0 => q_s1i j0) q_s1s
  have z0 : (nI (D 0 0) = 0) = (D 0 0 = 0) := q_eq (b := 0) (by omega) (by decide)
  simp only [z0]
  by_cases c : D 0 0 = 0
  · rw [if_pos c]
    rw [g7 c] at C ⊢
    exact C
  · rw [if_neg c, d1 c]
    exact C
theorem p_shop : st_shop q_Inv := by
  intro s hI
  obtain ⟨B, P, sh, a, z, hS, hL, ⟨⟨n, hn, t1, t2, t3⟩, t4⟩, hF, hB, hU, hM, hO⟩ := hI
  obtain ⟨T, hT, hT2⟩ : ∃ T : Nat → Nat, (∀ j, T j ≤ 255) ∧ ∀ j, j < n → s 2 j = nI (T j) := by
    have hc : ∀ j, ∃ c : Nat, c ≤ 255 ∧ (j < n → s 2 j = nI c) := by
      intro j
      by_cases w : j < n
      · obtain ⟨_, c, c1, c2⟩ := t3 j w
        exact ⟨c, c1, fun _ => c2⟩
      · exact ⟨0, by decide, fun q => absurd q w⟩
    exact ⟨fun j => Classical.choose (hc j), fun j => (Classical.choose_spec (hc j)).1, fun j => (Classical.choose_spec (hc j)).2⟩
  obtain ⟨u, u1, u2, u3, u4, u5⟩ := c_read hT hn t1 hT2
  obtain ⟨rc, rG⟩ := q_rdall_ok (T := T) (n + 1) (q_B T n 0) q_D0 (q_B_le (Nat.zero_le n)) q_D0_G
  have hm := fun (w : sf_Sg) (w1 : w 149 = s 149) (w2 : w 156 = s 156) => m_read (s := w) (T := T) (n := n) hT hn (by rw [w1]; exact t2) (fun j hj => by rw [w2, (t3 j hj).1]; exact hT2 j hj)
  generalize q_rdall T n (n + 1) (q_B T n 0) q_D0 = R at *
  by_cases hc : R.1.1 = 0
  · obtain ⟨u11, uD⟩ := u4 hc
    have G := rG hc
    generalize R.2 = D at *
    obtain ⟨g1, g2, g3, g4, g5, g6, g7⟩ := id G
    obtain ⟨d0, d1, d2, d3, d4, d5⟩ := uD
    have h01 : nI (D 0 0) = 0 ∨ nI (D 0 0) = 1 := by
      rcases (show D 0 0 = 0 ∨ D 0 0 = 1 by omega) with w | w
      · rw [w]
        exact Or.inl rfl
      · rw [w]
        exact Or.inr rfl
    obtain ⟨v, v1, v2, v3, v4, v5⟩ := c_shopCopy u (by rw [d0]; exact h01)
    obtain ⟨w, w1, w2, w3, w4, w5, w6⟩ := c_startOf v
    obtain ⟨x, x1, x2, x3⟩ := c_unkeep (sf_s1 (sf_s1 (sf_s1 w 125 0 0) 131 0 0) 27 0 0)
    have xo : ∀ k, (k < 1 ∨ k = 2 ∨ (8 < k ∧ k < 10) ∨ (21 < k ∧ k < 27) ∨ (27 < k ∧ k < 125) ∨ (125 < k ∧ k < 131) ∨ (131 < k ∧ k < 136) ∨ 136 < k) → x k = s k := fun k hk => by rw [x2 k (by omega), q_s1k (by omega), q_s1k (by omega), q_s1k (by omega), w2 k (by omega), v2 k (by omega), u2 k (by omega)]
    have xw : ∀ k, k < 27 → x k = w k := fun k hk => by rw [x2 k (by omega), q_s1k (by omega), q_s1k (by omega), q_s1k (by omega)]
    have xv : ∀ k, k < 16 → x k = v k := fun k hk => by rw [xw k (by omega), w2 k (by omega)]
    obtain ⟨m, m1, m2, m3, m4, m5⟩ := hm x (xo 149 (by omega)) (xo 156 (by omega))
    obtain ⟨m13, mD⟩ := m4 hc
    have mD' : q_DM (sf_s1 m 149 12 0) D := mD.of (fun k k1 k2 => q_s1k (by omega)) (q_s1i (by decide)) (q_s1i (by decide)) (q_s1i (by decide)) (q_s1i (by decide))
    obtain ⟨y, y1, y2, y3, y4, y5, y6, y7, y8, y9⟩ := m_takeRead G mD'
    obtain ⟨e, he⟩ : ∃ e, e = sf_s1 (sf_s1 (sf_s1 (sf_s1 (sf_s1 y 149 32 0) 149 37 0) 149 26 0) 172 0 0) 172 1 0 := ⟨_, rfl⟩
    have eo : ∀ k, k ≠ 149 → k ≠ 172 → e k = y k := fun k k1 k2 => by rw [he, q_s1k k2, q_s1k k2, q_s1k k1, q_s1k k1, q_s1k k1]
    have ej : ∀ j, j ≠ 32 → j ≠ 37 → j ≠ 26 → e 149 j = y 149 j := fun j j1 j2 j3 => by rw [he, q_s1k (by decide), q_s1k (by decide), q_s1i j3, q_s1i j2, q_s1i j1]
    have ex : ∀ k, k < 149 → e k = x k := fun k hk => by rw [eo k (by omega) (by omega), y2 k (by omega), q_s1k (by omega), m2 k (by omega) (by omega)]
    refine ⟨nI (D 0 2), x, e, ?_, ?_, ?_⟩
    · unfold f9_shop f9_shop_b0
      rw [u1, hc, q_ob]
      dsimp only
      rw [if_pos (show nI 0 = 0 from rfl), v1, q_ob]
      have x1' : f9_shop_L66 (f4_clear (f0_clear (f1_clear w))) 0 = some (x 10 2, x) := x1
      rw [w1, q_ob, x1', xv 10 (by decide), v3 2 (by decide), d2]
    · rw [m1, hc]
      unfold f10_shop_b46
      rw [if_pos (show nI 0 ≤ 0 by decide), y1, q_ob]
      have st0 : ∀ t : sf_Sg, sf_st t 172 2 0 0 = some (sf_s1 t 172 0 0) := fun t => q_st (i := 0) (n := 2) (by decide) (by decide)
      have st1 : ∀ t : sf_Sg, sf_st t 172 2 1 0 = some (sf_s1 t 172 1 0) := fun t => q_st (i := 1) (n := 2) (by decide) (by decide)
      rw [st0, q_ob, st1, q_ob]
      rw [← he, ej 2 (by decide) (by decide) (by decide), y5]
    · refine ⟨D 0 2, D 0 3, q_sh0 D, q_a0 D, nI (D 0 1), ⟨⟨g3, g4, ?_, ?_, ?_, ?_, ?_, ?_⟩, fun g hg => ⟨?_, ?_, (g5 g hg).1, ?_, ?_, (g5 g hg).2.2.2⟩, fun p hp => ⟨?_, ?_, (g6 p hp).1, (g6 p hp).2.1, ?_, ?_, (g6 p hp).2.2⟩⟩, ⟨q_a0_G G, ⟨fun g hg => ⟨?_, ?_, ?_, ?_⟩, fun p hp => ?_, ?_, ?_⟩, y9.of (eo 155 (by decide) (by decide))⟩, ⟨⟨0, by decide, ?_, ?_, fun i hi => absurd hi (Nat.not_lt_zero i)⟩, ?_⟩, ⟨0, by decide, ?_, ?_, fun i hi => absurd hi (Nat.not_lt_zero i)⟩, ⟨0, by decide, ?_, ?_, fun i hi => absurd hi (Nat.not_lt_zero i)⟩, ?_, fun i hi => ⟨?_, Or.inl ?_⟩, ?_⟩
      · rw [ex 10 (by decide), xv 10 (by decide), v3 2 (by decide), d2]
      · rw [ex 10 (by decide), xv 10 (by decide), v3 3 (by decide), d3]
      · rw [ej 2 (by decide) (by decide) (by decide), y5]
      · rw [ej 6 (by decide) (by decide) (by decide), y6]
      · rw [ex 10 (by decide), xv 10 (by decide), v3 0 (by decide), d0]
        exact h01
      · rw [ej 0 (by decide) (by decide) (by decide), y4, ex 10 (by decide), xv 10 (by decide), v3 0 (by decide), d0]
      · rw [ex 11 (by decide), xv 11 (by decide), (v4 g (by omega)).1, (d4 g hg).1]
        rfl
      · rw [eo 150 (by decide) (by decide), (y7 g hg).1]
        rfl
      · rw [ex 13 (by decide), xv 13 (by decide), (v4 g (by omega)).2.2, (d4 g hg).2.2]
        rfl
      · rw [eo 152 (by decide) (by decide), (y7 g hg).2]
        rfl
      · rw [ex 14 (by decide), xv 14 (by decide), (v5 p (by omega)).1, (d5 p hp).1]
        rfl
      · rw [eo 153 (by decide) (by decide), (y8 p hp).1]
        rfl
      · rw [ex 15 (by decide), xv 15 (by decide), (v5 p (by omega)).2, (d5 p hp).2]
        rfl
      · rw [eo 154 (by decide) (by decide), (y8 p hp).2]
        rfl
      · rw [ex 17 (by decide), xw 17 (by decide), (w5 g (by omega)).1, (v4 g (by omega)).2.1, (d4 g hg).2.1]
        rfl
      · rw [ex 18 (by decide), xw 18 (by decide), (w5 g (by omega)).2.1]
        rfl
      · rw [ex 19 (by decide), xw 19 (by decide), (w5 g (by omega)).2.2.1]
        rfl
      · rw [ex 20 (by decide), xw 20 (by decide), (w5 g (by omega)).2.2.2]
        rfl
      · rw [ex 21 (by decide), xw 21 (by decide), w6 p (by omega)]
        rfl
      · rw [ex 16 (by decide), xw 16 (by decide), w4, v3 1 (by decide), d1]
      · rw [ex 16 (by decide), xw 16 (by decide), w3]
        rfl
      · rw [ex 1 (by decide), xv 1 (by decide), v2 1 (by decide), u3]
        rfl
      · rw [ej 12 (by decide) (by decide) (by decide), y3 12 (by decide) (by decide) (by decide) (by decide), q_s1s]
        rfl
      · rw [ex 1 (by decide), xv 1 (by decide), v2 1 (by decide), u11, ej 13 (by decide) (by decide) (by decide), y3 13 (by decide) (by decide) (by decide) (by decide), q_s1i (by decide), m13]
      · rw [ex 125 (by decide), x2 125 (by decide), q_s1k (by decide), q_s1k (by decide), q_s1s]
        rfl
      · rw [he, q_s1k (by decide), q_s1k (by decide), q_s1i (by decide), q_s1i (by decide), q_s1s]
        rfl
      · rw [ex 131 (by decide), x2 131 (by decide), q_s1k (by decide), q_s1s]
        rfl
      · rw [he, q_s1k (by decide), q_s1k (by decide), q_s1i (by decide), q_s1s]
        rfl
      · obtain ⟨un, uA, uh1, uh2, ⟨ux, ux1, ux2, ux3, ux4⟩, uM⟩ := hU
        refine ⟨0, fun _ => (fun _ _ => 0, 0), by decide, fun i hi => absurd hi (Nat.not_lt_zero i), ⟨ux, ux1, ?_, ?_, fun i hi => absurd hi (Nat.not_lt_zero i)⟩, ?_, fun i hi => absurd hi (Nat.not_lt_zero i)⟩
        · rw [ex 27 (by decide), x2 27 (by decide), q_s1s]
          rfl
        · rw [ex 27 (by decide), x2 27 (by decide), q_s1i (by decide), q_s1k (by decide), q_s1k (by decide), w2 27 (by decide), v2 27 (by decide), u2 27 (by decide), ux3]
        · rw [he, q_s1k (by decide), q_s1k (by decide), q_s1s]
          rfl
      · rw [ex 136 (by decide), x3 i hi, he]
        rcases (show i = 0 ∨ i = 1 by omega) with rfl | rfl
        · rw [q_s1i (by decide), q_s1s]
        · rw [q_s1s]
      · rw [ex 136 (by decide), x3 i hi]
      · refine hO.of ?_ ?_
        · rw [ex 0 (by decide), xo 0 (by omega)]
        · rw [ej 10 (by decide) (by decide) (by decide), y3 10 (by decide) (by decide) (by decide) (by decide), q_s1i (by decide), m3 10 (by decide), xo 149 (by omega)]
  · have ufl := u5 hc
    obtain ⟨m, m1, m2, m3, m4, m5⟩ := hm u (u2 149 (by omega)) (u2 156 (by omega))
    have mfl := m5 hc
    have hne : ¬ nI R.1.1 = 0 := nI_ne0 (by omega) (by omega)
    have hnl : ¬ nI R.1.1 ≤ 0 := fun q => hc (cast (q_le0 (by omega)) q)
    refine ⟨-10 - nI R.1.1, u, sf_s1 m 149 12 0, ?_, ?_, ?_⟩
    · unfold f9_shop f9_shop_b0
      rw [u1, q_ob]
      dsimp only
      rw [if_neg hne]
    · rw [m1]
      unfold f10_shop_b46
      rw [if_neg hnl]
    · have eo : ∀ k, k ≠ 149 → (k = 0 ∨ k = 2 ∨ 8 < k) → (k < 157 ∨ 161 < k) → sf_s1 m 149 12 0 k = s k := fun k k1 k2 k3 => by rw [q_s1k k1, m2 k k1 k3, u2 k k2]
      have ej : ∀ j, j ≠ 12 → (j < 13 ∨ 23 < j) → sf_s1 m 149 12 0 149 j = s 149 j := fun j j1 j2 => by rw [q_s1i j1, m3 j j2, u2 149 (by omega)]
      have e1 : ∀ j, sf_s1 m 149 12 0 1 j = u 1 j := fun j => by rw [q_s1k (by decide), m2 1 (by decide) (by decide)]
      refine ⟨B, P, sh, a, z, hS.of (fun k k1 k2 => eo k (by omega) (by omega) (by omega)) (fun k hk => eo k (by omega) (by omega) (by omega)) (ej 0 (by decide) (by decide)) (ej 2 (by decide) (by decide)) (ej 6 (by decide) (by decide)), ⟨hL.1, hL.2.1.of (fun k k1 k2 => eo k (by omega) (by omega) (by omega)), hL.2.2.of (eo 155 (by decide) (by decide) (by decide))⟩, ⟨⟨0, by decide, ?_, q_s1s, fun i hi => absurd hi (Nat.not_lt_zero i)⟩, ?_⟩, hF.of ?_ (fun k hk => eo k (by omega) (by omega) (by omega)) (ej 32 (by decide) (by decide)), hB.of ?_ (fun k hk => eo k (by omega) (by omega) (by omega)) (ej 37 (by decide) (by decide)), hU.of (eo 27 (by decide) (by decide) (by decide)) (fun k k1 k2 => eo k (by omega) (by omega) (by omega)) (eo 162 (by decide) (by decide) (by decide)) (ej 26 (by decide) (by decide)), hM.of (fun k k1 k2 => eo k (by omega) (by omega) (by omega)) (eo 171 (by decide) (by decide) (by decide)) (eo 172 (by decide) (by decide) (by decide)), hO.of ?_ (ej 10 (by decide) (by decide))⟩
      · rw [e1, u3]
        rfl
      · rw [e1, ufl, q_s1i (by decide), mfl]
      · rw [eo 125 (by decide) (by decide) (by decide)]
      · rw [eo 131 (by decide) (by decide) (by decide)]
      · rw [eo 0 (by decide) (by decide) (by decide)]
