-- a load that changes in one place
def q_up (a : Nat → Nat → Nat) (k i v : Nat) : Nat → Nat → Nat := fun k' i' => if k' = k ∧ i' = i then v else a k' i'
theorem q_up_s {a : Nat → Nat → Nat} {k i v : Nat} : q_up a k i v k i = v := by unfold q_up; rw [if_pos ⟨rfl, rfl⟩]
theorem q_up_i {a : Nat → Nat → Nat} {k i v i' : Nat} (h : i' ≠ i) : q_up a k i v k i' = a k i' := by unfold q_up; rw [if_neg (fun w => h w.2)]
theorem q_up_k {a : Nat → Nat → Nat} {k i v k' i' : Nat} (h : k' ≠ k) : q_up a k i v k' i' = a k' i' := by unfold q_up; rw [if_neg (fun w => h w.1)]
theorem q_LC.u0 {s : sf_Sg} {B P : Nat} {a : Nat → Nat → Nat} {z : Int32} (h : q_LC s B P 16 a z) (g w : Nat) : q_LC (sf_s1 s 17 g (nI w)) B P 16 (q_up a 0 g w) z := by
  refine ⟨fun i hi => ?_, fun p hp => ?_, ?_, ?_⟩
  · obtain ⟨h0, h1, h2, h3⟩ := h.1 i hi
    show sf_s1 s 17 g (nI w) 17 i = _ ∧ sf_s1 s 17 g (nI w) 18 i = _ ∧ sf_s1 s 17 g (nI w) 19 i = _ ∧ sf_s1 s 17 g (nI w) 20 i = _
    refine ⟨?_, ?_, ?_, ?_⟩
    · by_cases e : i = g
      · subst e
        rw [q_s1s, q_up_s]
      · rw [q_s1i e, q_up_i e]
        exact h0
    · rw [q_s1k (by decide), q_up_k (by decide)]
      exact h1
    · rw [q_s1k (by decide), q_up_k (by decide)]
      exact h2
    · rw [q_s1k (by decide), q_up_k (by decide)]
      exact h3
  · rw [q_up_k (by decide), q_s1k (by decide)]
    exact h.2.1 p hp
  · rw [q_s1k (by decide)]
    exact h.2.2.1
  · rw [q_up_k (by decide), q_s1k (by decide)]
    exact h.2.2.2
theorem q_LM.u0 {s : sf_Sg} {B P : Nat} {a : Nat → Nat → Nat} {z : Int32} (hB : B ≤ 6) (h : q_LM s B P 155 0 a z) {g : Nat} (hg : g < B) (w : Nat) : q_LM (sf_s1 s 155 g (nI w)) B P 155 0 (q_up a 0 g w) z := by
  refine ⟨fun i hi => ?_, fun p hp => ?_, ?_, ?_⟩
  · obtain ⟨h0, h1, h2, h3⟩ := h.e hi
    rw [Nat.zero_add, Nat.zero_add, Nat.zero_add, Nat.zero_add]
    refine ⟨?_, ?_, ?_, ?_⟩
    · by_cases e : i = g
      · subst e
        rw [q_s1s, q_up_s]
      · rw [q_s1i (by omega), q_up_i e]
        exact h0
    · rw [q_s1i (by omega), q_up_k (by decide)]
      exact h1
    · rw [q_s1i (by omega), q_up_k (by decide)]
      exact h2
    · rw [q_s1i (by omega), q_up_k (by decide)]
      exact h3
  · rw [q_up_k (by decide), q_s1i (by omega)]
    exact h.2.1 p hp
  · rw [q_s1i (by omega)]
    exact h.2.2.1
  · rw [q_up_k (by decide), q_s1i (by omega)]
    exact h.2.2.2
theorem q_LC.u1 {s : sf_Sg} {B P : Nat} {a : Nat → Nat → Nat} {z : Int32} (h : q_LC s B P 16 a z) (g w : Nat) : q_LC (sf_s1 s 18 g (nI w)) B P 16 (q_up a 1 g w) z := by
  refine ⟨fun i hi => ?_, fun p hp => ?_, ?_, ?_⟩
  · obtain ⟨h0, h1, h2, h3⟩ := h.1 i hi
    show sf_s1 s 18 g (nI w) 17 i = _ ∧ sf_s1 s 18 g (nI w) 18 i = _ ∧ sf_s1 s 18 g (nI w) 19 i = _ ∧ sf_s1 s 18 g (nI w) 20 i = _
    refine ⟨?_, ?_, ?_, ?_⟩
    · rw [q_s1k (by decide), q_up_k (by decide)]
      exact h0
    · by_cases e : i = g
      · subst e
        rw [q_s1s, q_up_s]
      · rw [q_s1i e, q_up_i e]
        exact h1
    · rw [q_s1k (by decide), q_up_k (by decide)]
      exact h2
    · rw [q_s1k (by decide), q_up_k (by decide)]
      exact h3
  · rw [q_up_k (by decide), q_s1k (by decide)]
    exact h.2.1 p hp
  · rw [q_s1k (by decide)]
    exact h.2.2.1
  · rw [q_up_k (by decide), q_s1k (by decide)]
    exact h.2.2.2
theorem q_LM.u1 {s : sf_Sg} {B P : Nat} {a : Nat → Nat → Nat} {z : Int32} (hB : B ≤ 6) (h : q_LM s B P 155 0 a z) {g : Nat} (hg : g < B) (w : Nat) : q_LM (sf_s1 s 155 (6 + g) (nI w)) B P 155 0 (q_up a 1 g w) z := by
  refine ⟨fun i hi => ?_, fun p hp => ?_, ?_, ?_⟩
  · obtain ⟨h0, h1, h2, h3⟩ := h.e hi
    rw [Nat.zero_add, Nat.zero_add, Nat.zero_add, Nat.zero_add]
    refine ⟨?_, ?_, ?_, ?_⟩
    · rw [q_s1i (by omega), q_up_k (by decide)]
      exact h0
    · by_cases e : i = g
      · subst e
        rw [q_s1s, q_up_s]
      · rw [q_s1i (by omega), q_up_i e]
        exact h1
    · rw [q_s1i (by omega), q_up_k (by decide)]
      exact h2
    · rw [q_s1i (by omega), q_up_k (by decide)]
      exact h3
  · rw [q_up_k (by decide), q_s1i (by omega)]
    exact h.2.1 p hp
  · rw [q_s1i (by omega)]
    exact h.2.2.1
  · rw [q_up_k (by decide), q_s1i (by omega)]
    exact h.2.2.2
theorem q_LC.u2 {s : sf_Sg} {B P : Nat} {a : Nat → Nat → Nat} {z : Int32} (h : q_LC s B P 16 a z) (g w : Nat) : q_LC (sf_s1 s 19 g (q_en w)) B P 16 (q_up a 2 g w) z := by
  refine ⟨fun i hi => ?_, fun p hp => ?_, ?_, ?_⟩
  · obtain ⟨h0, h1, h2, h3⟩ := h.1 i hi
    show sf_s1 s 19 g (q_en w) 17 i = _ ∧ sf_s1 s 19 g (q_en w) 18 i = _ ∧ sf_s1 s 19 g (q_en w) 19 i = _ ∧ sf_s1 s 19 g (q_en w) 20 i = _
    refine ⟨?_, ?_, ?_, ?_⟩
    · rw [q_s1k (by decide), q_up_k (by decide)]
      exact h0
    · rw [q_s1k (by decide), q_up_k (by decide)]
      exact h1
    · by_cases e : i = g
      · subst e
        rw [q_s1s, q_up_s]
      · rw [q_s1i e, q_up_i e]
        exact h2
    · rw [q_s1k (by decide), q_up_k (by decide)]
      exact h3
  · rw [q_up_k (by decide), q_s1k (by decide)]
    exact h.2.1 p hp
  · rw [q_s1k (by decide)]
    exact h.2.2.1
  · rw [q_up_k (by decide), q_s1k (by decide)]
    exact h.2.2.2
theorem q_LM.u2 {s : sf_Sg} {B P : Nat} {a : Nat → Nat → Nat} {z : Int32} (hB : B ≤ 6) (h : q_LM s B P 155 0 a z) {g : Nat} (hg : g < B) (w : Nat) : q_LM (sf_s1 s 155 (12 + g) (q_en w)) B P 155 0 (q_up a 2 g w) z := by
  refine ⟨fun i hi => ?_, fun p hp => ?_, ?_, ?_⟩
  · obtain ⟨h0, h1, h2, h3⟩ := h.e hi
    rw [Nat.zero_add, Nat.zero_add, Nat.zero_add, Nat.zero_add]
    refine ⟨?_, ?_, ?_, ?_⟩
    · rw [q_s1i (by omega), q_up_k (by decide)]
      exact h0
    · rw [q_s1i (by omega), q_up_k (by decide)]
      exact h1
    · by_cases e : i = g
      · subst e
        rw [q_s1s, q_up_s]
      · rw [q_s1i (by omega), q_up_i e]
        exact h2
    · rw [q_s1i (by omega), q_up_k (by decide)]
      exact h3
  · rw [q_up_k (by decide), q_s1i (by omega)]
    exact h.2.1 p hp
  · rw [q_s1i (by omega)]
    exact h.2.2.1
  · rw [q_up_k (by decide), q_s1i (by omega)]
    exact h.2.2.2
theorem q_LC.u3 {s : sf_Sg} {B P : Nat} {a : Nat → Nat → Nat} {z : Int32} (h : q_LC s B P 16 a z) (g w : Nat) : q_LC (sf_s1 s 20 g (q_en w)) B P 16 (q_up a 3 g w) z := by
  refine ⟨fun i hi => ?_, fun p hp => ?_, ?_, ?_⟩
  · obtain ⟨h0, h1, h2, h3⟩ := h.1 i hi
    show sf_s1 s 20 g (q_en w) 17 i = _ ∧ sf_s1 s 20 g (q_en w) 18 i = _ ∧ sf_s1 s 20 g (q_en w) 19 i = _ ∧ sf_s1 s 20 g (q_en w) 20 i = _
    refine ⟨?_, ?_, ?_, ?_⟩
    · rw [q_s1k (by decide), q_up_k (by decide)]
      exact h0
    · rw [q_s1k (by decide), q_up_k (by decide)]
      exact h1
    · rw [q_s1k (by decide), q_up_k (by decide)]
      exact h2
    · by_cases e : i = g
      · subst e
        rw [q_s1s, q_up_s]
      · rw [q_s1i e, q_up_i e]
        exact h3
  · rw [q_up_k (by decide), q_s1k (by decide)]
    exact h.2.1 p hp
  · rw [q_s1k (by decide)]
    exact h.2.2.1
  · rw [q_up_k (by decide), q_s1k (by decide)]
    exact h.2.2.2
theorem q_LM.u3 {s : sf_Sg} {B P : Nat} {a : Nat → Nat → Nat} {z : Int32} (hB : B ≤ 6) (h : q_LM s B P 155 0 a z) {g : Nat} (hg : g < B) (w : Nat) : q_LM (sf_s1 s 155 (18 + g) (q_en w)) B P 155 0 (q_up a 3 g w) z := by
  refine ⟨fun i hi => ?_, fun p hp => ?_, ?_, ?_⟩
  · obtain ⟨h0, h1, h2, h3⟩ := h.e hi
    rw [Nat.zero_add, Nat.zero_add, Nat.zero_add, Nat.zero_add]
    refine ⟨?_, ?_, ?_, ?_⟩
    · rw [q_s1i (by omega), q_up_k (by decide)]
      exact h0
    · rw [q_s1i (by omega), q_up_k (by decide)]
      exact h1
    · rw [q_s1i (by omega), q_up_k (by decide)]
      exact h2
    · by_cases e : i = g
      · subst e
        rw [q_s1s, q_up_s]
      · rw [q_s1i (by omega), q_up_i e]
        exact h3
  · rw [q_up_k (by decide), q_s1i (by omega)]
    exact h.2.1 p hp
  · rw [q_s1i (by omega)]
    exact h.2.2.1
  · rw [q_up_k (by decide), q_s1i (by omega)]
    exact h.2.2.2
theorem q_fin {s u w : sf_Sg} {B P n : Nat} {sh a : Nat → Nat → Nat} {z : Int32} {A : Nat → (Nat → Nat → Nat) × Int32} (hS : q_IS s B P sh) (hT : q_IT s) (hF : q_IF s) (hB : q_IB s P) (hM : q_IM s B P) (hO : q_IO w)
    (h1 : ∀ k, k ≠ 0 → k ≠ 27 → (k < 16 ∨ (21 < k ∧ k < 29) ∨ 124 < k) → u k = s k) (h2 : ∀ k, k ≠ 149 → k ≠ 155 → k ≠ 162 → w k = u k) (h3 : ∀ j, j ≠ 26 → j ≠ 10 → w 149 j = u 149 j)
    (hn : n ≤ 16) (hA : ∀ i, i < n → q_LG B P (A i).1) (hUC : q_UC u B P n A) (hUM : q_UM w B P n A) (hG : q_LG B P a) (hC : q_LC u B P 16 a z) (hL : q_LM w B P 155 0 a z) : q_Inv w := by
  have h4 : ∀ k, k ≠ 0 → k ≠ 149 → k ≠ 155 → k ≠ 162 → k ≠ 27 → (k < 16 ∨ (21 < k ∧ k < 29) ∨ 124 < k) → w k = s k := fun k a0 a1 a2 a3 a4 a5 => (h2 k a1 a2 a3).trans (h1 k a0 a4 a5)
  have h5 : ∀ j, j ≠ 26 → j ≠ 10 → w 149 j = s 149 j := fun j a1 a2 => (h3 j a1 a2).trans (congrFun (h1 149 (by decide) (by decide) (by omega)) j)
  refine ⟨B, P, sh, a, z, hS.of (fun k a1 a2 => h4 k (by omega) (by omega) (by omega) (by omega) (by omega) (by omega)) (fun k hk => h4 k (by omega) (by omega) (by omega) (by omega) (by omega) (by omega)) (h5 0 (by decide) (by decide)) (h5 2 (by decide) (by decide)) (h5 6 (by decide) (by decide)), ⟨hG, hC.of (fun k a1 a2 => h2 k (by omega) (by omega) (by omega)), hL⟩, hT.of (h4 1 (by decide) (by decide) (by decide) (by decide) (by decide) (by decide)) (h4 2 (by decide) (by decide) (by decide) (by decide) (by decide) (by decide)) (h4 156 (by decide) (by decide) (by decide) (by decide) (by decide) (by decide)) (h5 12 (by decide) (by decide)) (h5 13 (by decide) (by decide)), hF.of (congrFun (h4 125 (by decide) (by decide) (by decide) (by decide) (by decide) (by decide)) 0) (fun k hk => h4 k (by omega) (by omega) (by omega) (by omega) (by omega) (by omega)) (h5 32 (by decide) (by decide)), hB.of (congrFun (h4 131 (by decide) (by decide) (by decide) (by decide) (by decide) (by decide)) 0) (fun k hk => h4 k (by omega) (by omega) (by omega) (by omega) (by omega) (by omega)) (h5 37 (by decide) (by decide)), ⟨n, A, hn, hA, hUC.of (h2 27 (by decide) (by decide) (by decide)) (fun k a1 a2 => h2 k (by omega) (by omega) (by omega)), hUM⟩, hM.of (fun k a1 a2 => h4 k (by omega) (by omega) (by omega) (by omega) (by omega) (by omega)) (h4 171 (by decide) (by decide) (by decide) (by decide) (by decide) (by decide)) (h4 172 (by decide) (by decide) (by decide) (by decide) (by decide) (by decide)), hO⟩
theorem q_psn_le (n : Nat) : q_psn n ≤ 16 := by unfold q_psn; split <;> omega
theorem q_psh_LG {B P n : Nat} {A : Nat → (Nat → Nat → Nat) × Int32} {v : (Nat → Nat → Nat) × Int32} (hn : n ≤ 16) (h : ∀ i, i < n → q_LG B P (A i).1) (hv : q_LG B P v.1) : ∀ i, i < q_psn n → q_LG B P (q_psh n A v i).1 := by
  intro i hi
  unfold q_psn at hi
  unfold q_psh
  by_cases hh : n < 16
  · rw [if_pos hh] at hi ⊢
    by_cases e : i = n
    · rw [if_pos e]; exact hv
    · rw [if_neg e]; exact h i (by omega)
  · rw [if_neg hh] at hi ⊢
    by_cases e : i = 15
    · rw [if_pos e]; exact hv
    · rw [if_neg e]; exact h (i + 1) (by omega)
/-- a deed: what can be undone grows, then the load changes by the same deed in both halves -/
theorem q_deed {s : sf_Sg} {B P : Nat} {sh a : Nat → Nat → Nat} {z : Int32} (hS : q_IS s B P sh) (hL : q_LG B P a ∧ q_LC s B P 16 a z ∧ q_LM s B P 155 0 a z) (hT : q_IT s) (hF : q_IF s) (hB : q_IB s P) (hU : q_IU s B P) (hM : q_IM s B P) (hO : q_IO s) :
    ∃ t, f4_add 16 s = some t ∧ q_SC t B P sh ∧ q_LC t B P 16 a z ∧ (∀ k, k ≠ 27 → (k < 29 ∨ 124 < k) → t k = s k) ∧
      ∀ u : sf_Sg, (∀ k, (k < 16 ∨ 21 < k) → u k = t k) → ∃ v, f10_remember u = some v ∧ q_SM v B P sh ∧ q_LM v B P 155 0 a z ∧
        (∀ k, k ≠ 149 → k ≠ 162 → v k = u k) ∧ (∀ j, j ≠ 26 → v 149 j = u 149 j) ∧
        ∀ (w : sf_Sg) (a' : Nat → Nat → Nat) (z' : Int32), (∀ k, k ≠ 155 → w k = v k) → q_LG B P a' → q_LC u B P 16 a' z' → q_LM w B P 155 0 a' z' → q_Inv w := by
  obtain ⟨n, A, u1, u2, u3, u4⟩ := hU
  have hB6 := hS.1.1
  have hP5 := hS.1.2.1
  obtain ⟨t, e1, e2, e3⟩ := q_add hB6 hP5 u1 u3 hL.2.1
  refine ⟨t, e1, hS.c.of (fun k a1 a2 => e2 k (by omega) (by omega)), hL.2.1.of (fun k a1 a2 => e2 k (by omega) (by omega)), e2, fun u hu => ?_⟩
  have hus : ∀ k, k ≠ 27 → (k < 16 ∨ (21 < k ∧ k < 29) ∨ 124 < k) → u k = s k := fun k a1 a2 => (hu k (by omega)).trans (e2 k a1 (by omega))
  obtain ⟨v, f1, f2, f3, f4⟩ := q_remember hB6 hP5 u1 (u4.of (hus 162 (by decide) (by omega)) (congrFun (hus 149 (by decide) (by omega)) 26)) (hL.2.2.of (hus 155 (by decide) (by omega)))
  have hvs : ∀ k, k ≠ 27 → k ≠ 149 → k ≠ 162 → (k < 16 ∨ (21 < k ∧ k < 29) ∨ 124 < k) → v k = s k := fun k a1 a2 a3 a4 => (f2 k a2 a3).trans (hus k a1 a4)
  refine ⟨v, f1, hS.m.of (fun k hk => hvs k (by omega) (by omega) (by omega) (by omega)) ((f3 2 (by decide)).trans (congrFun (hus 149 (by decide) (by omega)) 2)) ((f3 6 (by decide)).trans (congrFun (hus 149 (by decide) (by omega)) 6)), hL.2.2.of (hvs 155 (by decide) (by decide) (by decide) (by omega)), f2, f3, fun w a' z' hw hG' hC' hM' => ?_⟩
  refine q_fin hS hT hF hB hM ?_ (fun k _ a1 a2 => hus k a1 a2) (fun k a1 a2 a3 => (hw k a2).trans (f2 k a1 a3)) (fun j a1 _ => (congrFun (hw 149 (by decide)) j).trans (f3 j a1)) (q_psn_le n) (q_psh_LG u1 u2 hL.1) (e3.of (hu 27 (by omega)) (fun k a1 a2 => hu k (by omega))) (f4.of (hw 162 (by decide)) (congrFun (hw 149 (by decide)) 26)) hG' hC' hM'
  refine hO.of ?_ ?_
  · rw [hw 0 (by decide), f2 0 (by decide) (by decide), hus 0 (by decide) (by omega)]
  · rw [hw 149 (by decide), f3 10 (by decide), hus 149 (by decide) (by omega)]
