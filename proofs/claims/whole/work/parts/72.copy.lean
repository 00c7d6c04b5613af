-- rows copied, loads copied, what can be undone
theorem q_copyFrom (s : sf_Sg) (c c1 : Nat) (hd : c + 5 < c1 ∨ c1 + 5 < c) : ∃ t, f3_copyFrom c c1 s = some t ∧ (∀ k, (k < c ∨ c + 5 < k) → t k = s k) ∧ t c 0 = s c1 0 ∧ t c 1 = s c1 1 ∧ (∀ g, g < 6 → t (c + 1) g = s (c1 + 1) g ∧ t (c + 2) g = s (c1 + 2) g ∧ t (c + 3) g = s (c1 + 3) g ∧ t (c + 4) g = s (c1 + 4) g) ∧ (∀ p, p < 5 → t (c + 5) p = s (c1 + 5) p) := by
  have key2 : ∀ (f i : Nat) (t : sf_Sg), 5 < f + i → i ≤ 5 → (∀ k, k ≠ c + 5 → ∀ u : sf_Sg, True) → (∀ p, p < i → t (c + 5) p = t (c1 + 5) p) → ∃ t', sf_it (f3_copyFrom_b80 c c1) (fun _ _ => none) f t (nI i) = some t' ∧ (∀ k, k ≠ c + 5 → t' k = t k) ∧ ∀ p, p < 5 → t' (c + 5) p = t (c1 + 5) p := by
    intro f
    induction f with
    | zero => intro i t h1 h2; omega
    | succ f ih =>
      intro i t h1 h2 _ h3
      rw [q_it]
      unfold f3_copyFrom_b80
      by_cases hi : i = 5
      · subst hi
        rw [if_pos (show (5 : Int32) ≤ nI 5 by decide)]
        exact ⟨t, rfl, fun _ _ => rfl, h3⟩
      · rw [if_neg (show ¬ (5 : Int32) ≤ nI i from nI_ge (b := 5) (by omega) (by decide)), q_ld (by omega) (by decide)]
        simp only [q_ob]
        rw [q_st (by omega) (by decide)]
        simp only [q_ob]
        rw [nI_1]
        obtain ⟨t', e1, e2, e3⟩ := ih (i + 1) (sf_s1 t (c + 5) i (t (c1 + 5) i)) (by omega) (by omega) (fun _ _ _ => trivial) (by
          intro p hp
          rw [q_s1k (k' := c1 + 5) (by omega)]
          by_cases hpi : p = i
          · subst hpi; rw [q_s1s]
          · rw [q_s1i hpi]; exact h3 p (by omega))
        refine ⟨t', e1, fun k hk => ?_, fun p hp => ?_⟩
        · rw [e2 k hk, q_s1k hk]
        · rw [e3 p hp, q_s1k (by omega)]
  have key1 : ∀ (f i : Nat) (t : sf_Sg), 6 < f + i → i ≤ 6 → (∀ g, g < i → t (c + 1) g = t (c1 + 1) g ∧ t (c + 2) g = t (c1 + 2) g ∧ t (c + 3) g = t (c1 + 3) g ∧ t (c + 4) g = t (c1 + 4) g) → ∃ t', sf_it (f3_copyFrom_b18 c c1) (fun _ _ => none) f t (nI i) = f3_copyFrom_b78 c c1 t' ∧ (∀ k, (k ≤ c ∨ c + 5 ≤ k) → t' k = t k) ∧ ∀ g, g < 6 → t' (c + 1) g = t (c1 + 1) g ∧ t' (c + 2) g = t (c1 + 2) g ∧ t' (c + 3) g = t (c1 + 3) g ∧ t' (c + 4) g = t (c1 + 4) g := by
    intro f
    induction f with
    | zero => intro i t h1 h2; omega
    | succ f ih =>
      intro i t h1 h2 h3
      rw [q_it]
      unfold f3_copyFrom_b18
      by_cases hi : i = 6
      · subst hi
        rw [if_pos (show (6 : Int32) ≤ nI 6 by decide)]
        exact ⟨t, rfl, fun _ _ => rfl, h3⟩
      · rw [if_neg (show ¬ (6 : Int32) ≤ nI i from nI_ge (b := 6) (by omega) (by decide))]
        rw [q_ld (by omega) (by decide)]; simp only [q_ob]
        rw [q_st (by omega) (by decide)]; simp only [q_ob]
        rw [q_ld (by omega) (by decide)]; simp only [q_ob]
        rw [q_st (by omega) (by decide)]; simp only [q_ob]
        rw [q_ld (by omega) (by decide)]; simp only [q_ob]
        rw [q_st (by omega) (by decide)]; simp only [q_ob]
        rw [q_ld (by omega) (by decide)]; simp only [q_ob]
        rw [q_st (by omega) (by decide)]; simp only [q_ob]
        rw [nI_1]
        generalize hT : sf_s1 (sf_s1 (sf_s1 (sf_s1 t (c + 1) i (t (c1 + 1) i)) (c + 2) i (sf_s1 t (c + 1) i (t (c1 + 1) i) (c1 + 2) i)) (c + 3) i (sf_s1 (sf_s1 t (c + 1) i (t (c1 + 1) i)) (c + 2) i (sf_s1 t (c + 1) i (t (c1 + 1) i) (c1 + 2) i) (c1 + 3) i)) (c + 4) i (sf_s1 (sf_s1 (sf_s1 t (c + 1) i (t (c1 + 1) i)) (c + 2) i (sf_s1 t (c + 1) i (t (c1 + 1) i) (c1 + 2) i)) (c + 3) i (sf_s1 (sf_s1 t (c + 1) i (t (c1 + 1) i)) (c + 2) i (sf_s1 t (c + 1) i (t (c1 + 1) i) (c1 + 2) i) (c1 + 3) i) (c1 + 4) i) = T
        have eo : ∀ k, (k ≤ c ∨ c + 5 ≤ k) → T k = t k := by
          intro k hk
          rw [← hT, q_s1k (by omega), q_s1k (by omega), q_s1k (by omega), q_s1k (by omega)]
        have ec : ∀ j, 1 ≤ j → j ≤ 4 → T (c1 + j) = t (c1 + j) := fun j h1 h2 => eo _ (by omega)
        have ei : T (c + 1) i = t (c1 + 1) i ∧ T (c + 2) i = t (c1 + 2) i ∧ T (c + 3) i = t (c1 + 3) i ∧ T (c + 4) i = t (c1 + 4) i := by
          rw [← hT]
          refine ⟨?_, ?_, ?_, ?_⟩
          · rw [q_s1k (by omega), q_s1k (by omega), q_s1k (by omega), q_s1s]
          · rw [q_s1k (by omega), q_s1k (by omega), q_s1s, q_s1k (by omega)]
          · rw [q_s1k (by omega), q_s1s, q_s1k (by omega), q_s1k (by omega)]
          · rw [q_s1s, q_s1k (by omega), q_s1k (by omega), q_s1k (by omega)]
        have en : ∀ g, g ≠ i → T (c + 1) g = t (c + 1) g ∧ T (c + 2) g = t (c + 2) g ∧ T (c + 3) g = t (c + 3) g ∧ T (c + 4) g = t (c + 4) g := by
          intro g hg
          rw [← hT]
          refine ⟨?_, ?_, ?_, ?_⟩
          · rw [q_s1k (by omega), q_s1k (by omega), q_s1k (by omega), q_s1i hg]
          · rw [q_s1k (by omega), q_s1k (by omega), q_s1i hg, q_s1k (by omega)]
          · rw [q_s1k (by omega), q_s1i hg, q_s1k (by omega), q_s1k (by omega)]
          · rw [q_s1i hg, q_s1k (by omega), q_s1k (by omega), q_s1k (by omega)]
        obtain ⟨t', e1, e2, e3⟩ := ih (i + 1) T (by omega) (by omega) (by
          intro g hg
          rw [ec 1 (by decide) (by decide), ec 2 (by decide) (by decide), ec 3 (by decide) (by decide), ec 4 (by decide) (by decide)]
          by_cases hgi : g = i
          · subst hgi; exact ei
          · obtain ⟨n1, n2, n3, n4⟩ := en g hgi
            rw [n1, n2, n3, n4]
            exact h3 g (by omega))
        refine ⟨t', e1, fun k hk => by rw [e2 k hk, eo k hk], fun g hg => ?_⟩
        rw [← ec 1 (by decide) (by decide), ← ec 2 (by decide) (by decide), ← ec 3 (by decide) (by decide), ← ec 4 (by decide) (by decide)]
        exact e3 g hg
  unfold f3_copyFrom f3_copyFrom_b0 f3_copyFrom_L18
  obtain ⟨t1, e1, e2, e3⟩ := key1 sf_FU 0 (sf_s1 (sf_s1 s c 0 (s c1 0)) c 1 ((sf_s1 s c 0 (s c1 0)) c1 1)) (by unfold sf_FU; omega) (by omega) (fun g hg => absurd hg (by omega))
  have e1' : sf_it (f3_copyFrom_b18 c c1) (fun _ _ => none) sf_FU (sf_s1 (sf_s1 s c 0 (s c1 0)) c 1 ((sf_s1 s c 0 (s c1 0)) c1 1)) 0 = f3_copyFrom_b78 c c1 t1 := e1
  rw [e1']
  unfold f3_copyFrom_b78 f3_copyFrom_L80
  obtain ⟨t2, d1, d2, d3⟩ := key2 sf_FU 0 t1 (by unfold sf_FU; omega) (by omega) (fun _ _ _ => trivial) (fun g hg => absurd hg (by omega))
  refine ⟨t2, d1, fun k hk => ?_, ?_, ?_, fun g hg => ?_, fun p hp => ?_⟩
  · rw [d2 k (by omega), e2 k (by omega), q_s1k (by omega), q_s1k (by omega)]
  · rw [d2 c (by omega), e2 c (by omega), q_s1i (by decide), q_s1s]
  · rw [d2 c (by omega), e2 c (by omega), q_s1s, q_s1k (by omega)]
  · rw [d2 (c + 1) (by omega), d2 (c + 2) (by omega), d2 (c + 3) (by omega), d2 (c + 4) (by omega)]
    have := e3 g hg
    rw [q_s1k (k' := c1 + 1) (by omega), q_s1k (k' := c1 + 2) (by omega), q_s1k (k' := c1 + 3) (by omega), q_s1k (k' := c1 + 4) (by omega), q_s1k (k' := c1 + 1) (by omega), q_s1k (k' := c1 + 2) (by omega), q_s1k (k' := c1 + 3) (by omega), q_s1k (k' := c1 + 4) (by omega)] at this
    exact this
  · rw [d3 p hp, e2 (c1 + 5) (by omega), q_s1k (by omega), q_s1k (by omega)]
theorem q_copyLC {s : sf_Sg} {B P c c1 : Nat} {a : Nat → Nat → Nat} {z : Int32} (hB : B ≤ 6) (hP : P ≤ 5) (hd : c + 5 < c1 ∨ c1 + 5 < c) (h : q_LC s B P c1 a z) : ∃ t, f3_copyFrom c c1 s = some t ∧ (∀ k, (k < c ∨ c + 5 < k) → t k = s k) ∧ q_LC t B P c a z := by
  obtain ⟨t, e1, e2, e3, e4, e5, e6⟩ := q_copyFrom s c c1 hd
  refine ⟨t, e1, e2, fun g hg => ?_, fun p hp => ?_, ?_, ?_⟩
  · obtain ⟨n1, n2, n3, n4⟩ := e5 g (by omega)
    rw [n1, n2, n3, n4]
    exact h.1 g hg
  · rw [e6 p (by omega)]
    exact h.2.1 p hp
  · rw [e4]; exact h.2.2.1
  · rw [e3]; exact h.2.2.2
def q_psh (n : Nat) (A : Nat → (Nat → Nat → Nat) × Int32) (v : (Nat → Nat → Nat) × Int32) : Nat → (Nat → Nat → Nat) × Int32 := if n < 16 then (fun u => if u = n then v else A u) else fun u => if u = 15 then v else A (u + 1)
def q_psn (n : Nat) : Nat := if n < 16 then n + 1 else 16
theorem q_rem16 {n : Nat} (h : n ≤ 1000) : sf_rem (nI n) 16 = nI (n % 16) := pk_rem (a := n) (d := 16) (by omega) (by decide) (by decide)
theorem q_add {s : sf_Sg} {B P n : Nat} {A : Nat → (Nat → Nat → Nat) × Int32} {a : Nat → Nat → Nat} {z : Int32} (hB : B ≤ 6) (hP : P ≤ 5) (hn : n ≤ 16) (hU : q_UC s B P n A) (h : q_LC s B P 16 a z) : ∃ t, f4_add 16 s = some t ∧ (∀ k, k ≠ 27 → (k < 29 ∨ 124 < k) → t k = s k) ∧ q_UC t B P (q_psn n) (q_psh n A (a, z)) := by
  obtain ⟨x, a2, a3, a4, a6⟩ := hU
  obtain ⟨t, e1, e2, e3⟩ := q_copyLC hB hP (c := 29 + 6 * x) (c1 := 16) (by omega) h
  have et : t 27 = s 27 := e2 27 (by omega)
  refine ⟨sf_s1 (sf_s1 t 27 1 (nI ((x + 1) % 16))) 27 0 (nI (q_psn n)), ?_, fun k h1 h2 => ?_, (x + 1) % 16, Nat.mod_lt _ (by decide), rfl, rfl, fun u hu => ?_⟩
  · unfold f4_add f4_add_b0
    rw [a4, q_ix a2 (by decide)]
    simp only [q_ob]
    rw [e1]
    simp only [q_ob]
    have x1 : sf_rem (t 27 1 + 1) 16 = nI ((x + 1) % 16) := by
      rw [et, a4, nI_1]
      exact q_rem16 (by omega)
    rw [x1]
    have x2 : sf_s1 t 27 1 (nI ((x + 1) % 16)) 27 0 = nI n := by
      rw [q_s1i (by decide), et, a3]
    have x3 : sf_min (nI n + 1) 16 = nI (q_psn n) := by
      unfold sf_min q_psn
      rw [nI_1]
      by_cases hh : n < 16
      · rw [if_neg (show ¬ (16 : Int32) < nI (n + 1) from fun w => absurd ((nI_ltI (a := 16) (by decide) (by omega)).mp w) (by omega)), if_pos hh]
      · rw [if_pos (show (16 : Int32) < nI (n + 1) from (nI_ltI (a := 16) (by decide) (by omega)).mpr (by omega)), if_neg hh]
        rfl
    rw [x2, x3]
  · rw [q_s1k h1, q_s1k h1, e2 k (by omega)]
  · unfold q_psn q_psh at *
    by_cases hh : n < 16
    · rw [if_pos hh] at hu ⊢
      rw [if_pos hh]
      by_cases hun : u = n
      · subst hun
        have ex : ((x + 1) % 16 + 16 - (u + 1) + u) % 16 = x := by omega
        rw [ex, if_pos rfl]
        exact e3.of (fun k k1 k2 => by rw [q_s1k (by omega), q_s1k (by omega)])
      · have ex : ((x + 1) % 16 + 16 - (n + 1) + u) % 16 = (x + 16 - n + u) % 16 := by omega
        rw [ex, if_neg hun]
        have hne : (x + 16 - n + u) % 16 ≠ x := by omega
        exact (a6 u (by omega)).of (fun k k1 k2 => by rw [q_s1k (by omega), q_s1k (by omega), e2 k (by omega)])
    · rw [if_neg hh] at hu ⊢
      rw [if_neg hh]
      have hn16 : n = 16 := by omega
      by_cases hun : u = 15
      · subst hun
        have ex : ((x + 1) % 16 + 16 - 16 + 15) % 16 = x := by omega
        rw [ex, if_pos rfl]
        exact e3.of (fun k k1 k2 => by rw [q_s1k (by omega), q_s1k (by omega)])
      · have ex : ((x + 1) % 16 + 16 - 16 + u) % 16 = (x + 16 - n + (u + 1)) % 16 := by omega
        rw [ex, if_neg hun]
        have hne : (x + 16 - n + (u + 1)) % 16 ≠ x := by omega
        exact (a6 (u + 1) (by omega)).of (fun k k1 k2 => by rw [q_s1k (by omega), q_s1k (by omega), e2 k (by omega)])
-- the reference's own rows
theorem q_rowcopy {s : sf_Sg} (F : (sf_Sg → Int32 → Option sf_Sg) → sf_Sg → Int32 → Option sf_Sg) (E : sf_Sg → Option sf_Sg) (k1 k2 o1 o2 N : Nat) (hk : k1 ≠ k2)
    (hx : ∀ (k : sf_Sg → Int32 → Option sf_Sg) (t : sf_Sg), F k t (nI N) = E t)
    (hs : ∀ (k : sf_Sg → Int32 → Option sf_Sg) (t : sf_Sg) (i : Nat), i < N → (∀ j, j ≠ k2 → t j = s j) → F k t (nI i) = k (sf_s1 t k2 (o2 + i) (t k1 (o1 + i))) (nI (i + 1))) :
    ∀ (f i : Nat) (t : sf_Sg), N < f + i → i ≤ N → (∀ j, j ≠ k2 → t j = s j) → (∀ j, j < i → t k2 (o2 + j) = s k1 (o1 + j)) → (∀ j, (j < o2 ∨ o2 + N ≤ j) → t k2 j = s k2 j) → ∃ t', sf_it F (fun _ _ => none) f t (nI i) = E t' ∧ (∀ j, j ≠ k2 → t' j = s j) ∧ (∀ j, j < N → t' k2 (o2 + j) = s k1 (o1 + j)) ∧ (∀ j, (j < o2 ∨ o2 + N ≤ j) → t' k2 j = s k2 j) := by
  intro f
  induction f with
  | zero => intro i t h1 h2; omega
  | succ f ih =>
    intro i t h1 h2 h3 h4 h5
    rw [q_it]
    by_cases hi : i = N
    · subst hi
      exact ⟨t, hx _ t, h3, h4, h5⟩
    · rw [hs _ t i (by omega) h3]
      refine ih (i + 1) _ (by omega) (by omega) (fun j hj => by rw [q_s1k hj, h3 j hj]) (fun j hj => ?_) (fun j hj => ?_)
      · by_cases hji : j = i
        · subst hji
          rw [q_s1s, h3 k1 hk]
        · rw [q_s1i (by omega)]
          exact h4 j (by omega)
      · rw [q_s1i (by omega)]
        exact h5 j hj
theorem q_LMcopy {s t : sf_Sg} {B P k1 k2 o1 o2 : Nat} {a : Nat → Nat → Nat} {z : Int32} (hB : B ≤ 6) (hP : P ≤ 5) (h : q_LM s B P k1 o1 a z) (hc : ∀ j, j < 31 → t k2 (o2 + j) = s k1 (o1 + j)) : q_LM t B P k2 o2 a z := by
  refine ⟨fun g hg => ?_, fun p hp => ?_, ?_, ?_⟩
  · rw [hc g (by omega), hc (6 + g) (by omega), hc (12 + g) (by omega), hc (18 + g) (by omega)]
    exact h.1 g hg
  · rw [hc (24 + p) (by omega)]
    exact h.2.1 p hp
  · rw [hc 29 (by decide)]; exact h.2.2.1
  · rw [hc 30 (by decide)]; exact h.2.2.2
theorem q_rem50 {s : sf_Sg} {n : Nat} (hn : n < 16) (h : s 149 26 = nI n) : ∃ t, f10_remember_b50 s = some t ∧ (∀ j, j ≠ 162 → j ≠ 149 → t j = s j) ∧ (∀ j, j ≠ 26 → t 149 j = s 149 j) ∧ t 149 26 = nI (n + 1) ∧ (∀ j, j < 31 → t 162 (31 * n + j) = s 155 j) ∧ (∀ j, (j < 31 * n ∨ 31 * n + 31 ≤ j) → t 162 j = s 162 j) := by
  have := q_rowcopy (s := s) f10_remember_b52 f10_remember_b84 155 162 0 (31 * n) 31 (by decide) (fun k t => by
    unfold f10_remember_b52
    rw [if_pos (show (31 : Int32) ≤ nI 31 by decide)]) (fun k t i hi ht => by
    unfold f10_remember_b52
    rw [if_neg (show ¬ (31 : Int32) ≤ nI i from nI_ge (b := 31) hi (by decide)), q_ld hi (by decide)]
    simp only [q_ob]
    have e : (31 : Int32) * t 149 26 + nI i = nI (31 * n + i) := by
      rw [ht 149 (by decide), h]
      rw [show (31 : Int32) = nI 31 from rfl, pk_mul, nI_add]
    rw [e, q_st (by omega) (by decide)]
    simp only [q_ob]
    rw [nI_1, Nat.zero_add]) sf_FU 0 s (by unfold sf_FU; omega) (by omega) (fun _ _ => rfl) (fun j hj => absurd hj (by omega)) (fun _ _ => rfl)
  obtain ⟨t, e1, e2, e3, e4⟩ := this
  refine ⟨sf_s1 t 149 26 (nI (n + 1)), ?_, fun j h1 h2 => by rw [q_s1k h2, e2 j h1], fun j h1 => by rw [q_s1i h1, e2 149 (by decide)], q_s1s, fun j hj => ?_, fun j hj => ?_⟩
  · unfold f10_remember_b50 f10_remember_L52
    have e1' : sf_it f10_remember_b52 (fun _ _ => none) sf_FU s 0 = f10_remember_b84 t := e1
    rw [e1']
    unfold f10_remember_b84
    rw [e2 149 (by decide), h, nI_1]
  · rw [q_s1k (by decide), e3 j hj, Nat.zero_add]
  · rw [q_s1k (by decide), e4 j hj]
theorem q_remember {s : sf_Sg} {B P n : Nat} {A : Nat → (Nat → Nat → Nat) × Int32} {a : Nat → Nat → Nat} {z : Int32} (hB : B ≤ 6) (hP : P ≤ 5) (hn : n ≤ 16) (hU : q_UM s B P n A) (h : q_LM s B P 155 0 a z) : ∃ t, f10_remember s = some t ∧ (∀ k, k ≠ 149 → k ≠ 162 → t k = s k) ∧ (∀ j, j ≠ 26 → t 149 j = s 149 j) ∧ q_UM t B P (q_psn n) (q_psh n A (a, z)) := by
  unfold f10_remember f10_remember_b0
  by_cases hh : n < 16
  · rw [hU.1, if_neg (show ¬ nI n = 16 from fun w => absurd ((nI_eq (b := 16) (by omega) (by decide)).mp w) (by omega))]
    obtain ⟨t, e1, e2, e3, e4, e5, e6⟩ := q_rem50 hh hU.1
    refine ⟨t, e1, fun k h1 h2 => e2 k h2 h1, e3, ?_, fun u hu => ?_⟩
    · unfold q_psn
      rw [if_pos hh]
      exact e4
    · unfold q_psn at hu
      unfold q_psh
      rw [if_pos hh] at hu ⊢
      by_cases hun : u = n
      · subst hun
        rw [if_pos rfl]
        exact q_LMcopy hB hP h (fun j hj => by rw [e5 j hj, Nat.zero_add])
      · rw [if_neg hun]
        exact q_LMcopy hB hP (hU.2 u (by omega)) (fun j hj => e6 _ (by omega))
  · have hn16 : n = 16 := by omega
    subst hn16
    rw [hU.1, if_pos (show nI 16 = 16 by decide)]
    have key : ∀ (f i : Nat) (t : sf_Sg), 496 < f + i → 31 ≤ i → i ≤ 496 → (∀ j, j ≠ 162 → t j = s j) → (∀ j, j + 31 < i → t 162 j = s 162 (j + 31)) → (∀ j, i ≤ j + 31 → t 162 j = s 162 j) → ∃ t', sf_it f10_remember_b12 (fun _ _ => none) f t (nI i) = f10_remember_b40 t' ∧ (∀ j, j ≠ 162 → t' j = s j) ∧ (∀ j, j < 465 → t' 162 j = s 162 (j + 31)) := by
      intro f
      induction f with
      | zero => intro i t h1 h2 h3; omega
      | succ f ih =>
        intro i t h1 h2 h3 h4 h5 h6
        rw [q_it]
        unfold f10_remember_b12
        by_cases hi : i = 496
        · subst hi
          rw [if_pos (show (496 : Int32) ≤ nI 496 by decide)]
          exact ⟨t, rfl, h4, fun j hj => h5 j (by omega)⟩
        · rw [if_neg (show ¬ (496 : Int32) ≤ nI i from nI_ge (b := 496) (by omega) (by decide)), q_ld (by omega) (by decide)]
          simp only [q_ob]
          rw [show nI i - 31 = nI (i - 31) from pk_sub (b := 31) h2, q_st (by omega) (by decide)]
          simp only [q_ob]
          rw [nI_1]
          refine ih (i + 1) _ (by omega) (by omega) (by omega) (fun j hj => by rw [q_s1k hj, h4 j hj]) (fun j hj => ?_) (fun j hj => ?_)
          · by_cases hji : j = i - 31
            · subst hji
              rw [q_s1s, h6 i (by omega), show i - 31 + 31 = i by omega]
            · rw [q_s1i hji]
              exact h5 j (by omega)
          · rw [q_s1i (by omega)]
            exact h6 j (by omega)
    obtain ⟨t, e1, e2, e3⟩ := key sf_FU 31 s (by unfold sf_FU; omega) (by omega) (by omega) (fun _ _ => rfl) (fun j hj => absurd hj (by omega)) (fun _ _ => rfl)
    have e1' : f10_remember_L12 s 31 = f10_remember_b40 t := e1
    rw [e1']
    unfold f10_remember_b40
    have e4 : sf_s1 t 149 26 (t 149 26 - 1) 149 26 = nI 15 := by
      rw [q_s1s, e2 149 (by decide), hU.1]
      rfl
    obtain ⟨w, d1, d2, d3, d4, d5, d6⟩ := q_rem50 (s := sf_s1 t 149 26 (t 149 26 - 1)) (n := 15) (by decide) e4
    refine ⟨w, d1, fun k h1 h2 => ?_, fun j hj => ?_, d4, fun u hu => ?_⟩
    · rw [d2 k h2 h1, q_s1k h1, e2 k h2]
    · rw [d3 j hj, q_s1i hj, e2 149 (by decide)]
    · unfold q_psh
      rw [if_neg hh]
      have hu' : u < 16 := hu
      by_cases hun : u = 15
      · subst hun
        rw [if_pos rfl]
        exact q_LMcopy hB hP h (fun j hj => by rw [d5 j hj, q_s1k (by decide), e2 155 (by decide), Nat.zero_add])
      · rw [if_neg hun]
        exact q_LMcopy hB hP (hU.2 (u + 1) (by omega)) (fun j hj => by rw [d6 _ (by omega), q_s1k (by decide), e3 _ (by omega), show 31 * u + j + 31 = 31 * (u + 1) + j by omega])
