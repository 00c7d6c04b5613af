theorem q_LT.g {B P : Nat} {a : Nat → Nat → Nat} (h : q_LT B P a) (h6 : a 6 0 ≤ 9060) : q_LG B P a := ⟨h.1, h.2.1, h6⟩
theorem c_dayLoop {B P n : Nat} {sh : Nat → Nat → Nat} {z : Int32} (SG : q_SG B P sh) (hn : n ≤ 200) : ∀ (f i : Nat) (t : sf_Sg) (a : Nat → Nat → Nat), n < f + i → i ≤ n → q_SC t B P sh → q_LC t B P 16 a z → q_LT B P a → a 6 0 + (n - i) ≤ 20000 → ∃ u, sf_it f9_day_b25 (fun _ _ _ => none) f t (nI n) (nI i) = f9_day_b43 u ∧ (∀ k, k ≠ 16 → k ≠ 21 → u k = t k) ∧ q_LC u B P 16 (q_days sh B P (n - i) a) z := by
  intro f
  induction f with
  | zero => intro i t a h1 h2; omega
  | succ f ih =>
    intro i t a h1 h2 S L G h6
    rw [q_it]
    generalize sf_it f9_day_b25 (fun _ _ _ => none) f = K at ih ⊢
    unfold f9_day_b25
    by_cases hi : i = n
    · subst hi
      rw [if_pos (nI_le (Nat.le_refl _) (by omega)), Nat.sub_self]
      exact ⟨t, rfl, fun _ _ _ => rfl, L⟩
    · rw [if_neg (nI_ge (show i < n by omega) (by omega))]
      obtain ⟨u, e1, e2, e3⟩ := c_passDay S SG L G
      rw [e1]
      simp only [q_ob]
      rw [nI_1]
      obtain ⟨w, d1, d2, d3⟩ := ih (i + 1) u (q_day sh B P a) (by omega) (by omega) (S.of (fun k a1 a2 => e2 k (by omega) (by omega))) e3 (q_day_LT G (by omega)) (by show a 6 0 + 1 + (n - (i + 1)) ≤ 20000; omega)
      refine ⟨w, d1, fun k a1 a2 => (d2 k a1 a2).trans (e2 k a1 a2), ?_⟩
      rw [show n - i = (n - (i + 1)) + 1 by omega]
      exact d3
theorem m_dayLoop {B P n : Nat} {sh : Nat → Nat → Nat} {z : Int32} (SG : q_SG B P sh) (hn : n ≤ 200) : ∀ (f i : Nat) (t : sf_Sg) (a : Nat → Nat → Nat), n < f + i → i ≤ n → q_SM t B P sh → q_LM t B P 155 0 a z → q_LT B P a → a 6 0 + (n - i) ≤ 20000 → ∃ u, sf_it f10_day_b18 (fun _ _ _ => none) f t (nI n) (nI i) = f10_day_b33 u ∧ (∀ k, k ≠ 155 → u k = t k) ∧ q_LM u B P 155 0 (q_days sh B P (n - i) a) z := by
  intro f
  induction f with
  | zero => intro i t a h1 h2; omega
  | succ f ih =>
    intro i t a h1 h2 S L G h6
    rw [q_it]
    generalize sf_it f10_day_b18 (fun _ _ _ => none) f = K at ih ⊢
    unfold f10_day_b18
    by_cases hi : i = n
    · subst hi
      rw [if_pos (nI_le (Nat.le_refl _) (by omega)), Nat.sub_self]
      exact ⟨t, rfl, fun _ _ => rfl, L⟩
    · rw [if_neg (nI_ge (show i < n by omega) (by omega))]
      obtain ⟨u, e1, e2, e3⟩ := m_pass S SG L G
      rw [e1]
      simp only [q_ob]
      rw [nI_1]
      obtain ⟨w, d1, d2, d3⟩ := ih (i + 1) u (q_day sh B P a) (by omega) (by omega) (S.of (fun k a1 => e2 k (by omega)) (congrFun (e2 149 (by decide)) 2) (congrFun (e2 149 (by decide)) 6)) e3 (q_day_LT G (by omega)) (by show a 6 0 + 1 + (n - (i + 1)) ≤ 20000; omega)
      refine ⟨w, d1, fun k a1 => (d2 k a1).trans (e2 k a1), ?_⟩
      rw [show n - i = (n - (i + 1)) + 1 by omega]
      exact d3
/-- may days pass: both halves say the same -/
theorem q_refuse {s : sf_Sg} {B P : Nat} {sh a : Nat → Nat → Nat} {z : Int32} (hS : q_IS s B P sh) (hL : q_LG B P a ∧ q_LC s B P 16 a z ∧ q_LM s B P 155 0 a z) (x : Int32) : (∃ n : Nat, 1 ≤ n ∧ n ≤ 60 ∧ x = nI n ∧ a 6 0 ≤ 9000 ∧ f9_refusalOfDays s x = 0 ∧ ∀ u : sf_Sg, u 149 0 = s 149 0 → u 155 = s 155 → f10_daysRefused u x = some 0) ∨ (∃ r : Int32, ¬ r = 0 ∧ f9_refusalOfDays s x = r ∧ f10_daysRefused s x = some r) := by
  have e : f10_in x.toInt64 1 60 = f9_within x 1 60 := q_in x 1 60
  have h6 := hL.1.2.2
  unfold f9_refusalOfDays f9_refusalOfDays_b0 f10_daysRefused f10_daysRefused_b0
  rcases q_within x (a := 1) (b := 60) (by decide) (by decide) with ⟨n, n1, n2, rfl, n3⟩ | n3
  · have n3' : ¬ f9_within (nI n) 1 60 = 0 := by
      have : f9_within (nI n) 1 60 = 1 := n3
      rw [this]
      exact q_b1
    have l30 : ∀ t : sf_Sg, sf_ld t 155 31 (30 : Int32) = some (t 155 30) := fun t => q_ld (i := 30) (by decide) (by decide)
    have d9 : s 16 0 = nI (a 6 0) := hL.2.1.2.2.2
    have c : (nI (a 6 0) ≤ 9000) = (a 6 0 ≤ 9000) := q_le (b := 9000) (by omega) (by decide)
    rw [e, if_neg n3', if_neg n3', hS.1.2.2.2.2.2.2.2, l30, hL.2.2.dy, d9]
    simp only [q_ob, c]
    by_cases ho : s 10 0 = 0
    · right
      rw [if_pos ho, if_pos ho]
      exact ⟨_, by decide, rfl, rfl⟩
    · rw [if_neg ho, if_neg ho]
      by_cases h9 : a 6 0 ≤ 9000
      · left
        rw [if_pos h9]
        refine ⟨n, n1, n2, rfl, h9, rfl, fun u u1 u2 => ?_⟩
        rw [if_neg n3', u1, if_neg ho, l30, u2, hL.2.2.dy]
        simp only [q_ob, c]
        rw [if_pos h9]
      · right
        rw [if_neg h9, if_neg h9]
        exact ⟨_, by decide, rfl, rfl⟩
  · right
    have n3' : f9_within x 1 60 = 0 := n3
    rw [e, if_pos n3', if_pos n3']
    exact ⟨_, by decide, rfl, rfl⟩
theorem p_day : st_day q_Inv := by
  intro s x hI
  obtain ⟨B, P, sh, a, z, hS, hL, hT, hF, hB, hU, hM, hO⟩ := id hI
  have hB6 := hS.1.1
  have hP5 := hS.1.2.1
  rcases q_refuse hS hL x with ⟨n, n1, n2, rfl, h6, r1, r2⟩ | ⟨r, r0, r1, r2⟩
  · obtain ⟨t, t1, t2, t3, t4, t5⟩ := q_deed hS hL hT hF hB hU hM hO
    obtain ⟨u, u1, u2, u3⟩ := c_dayLoop hS.g (n := n) (by omega) sf_FU 0 t a (by unfold sf_FU; omega) (by omega) t2 t3 hL.1.t (by omega)
    obtain ⟨v, v1, v2, v3, v4, v5, v6⟩ := t5 u (fun k hk => u2 k (by omega) (by omega))
    obtain ⟨w, w1, w2, w3⟩ := m_dayLoop hS.g (n := n) (by omega) sf_FU 0 v a (by unfold sf_FU; omega) (by omega) v2 v3 hL.1.t (by omega)
    rw [Nat.sub_zero] at u3 w3
    have hT' : q_LT B P (q_days sh B P n a) := q_days_LT n a hL.1.t (by omega)
    have hG' : q_LG B P (q_days sh B P n a) := hT'.g (by rw [q_days_6]; omega)
    refine ⟨nI (q_bits P (q_gd (q_days sh B P n a))), u, w, ?_, ?_, v6 w _ _ w2 hG' u3 w3⟩
    · unfold f9_day f9_day_b0
      rw [r1, if_pos rfl, t1]
      simp only [q_ob]
      have u1' : f9_day_L25 t (nI n) 0 = f9_day_b43 u := u1
      rw [u1']
      unfold f9_day_b43
      rw [c_galled (t2.of (fun k a1 a2 => u2 k (by omega) (by omega))) hP5 u3 hT']
      rfl
    · unfold f10_day f10_day_b0
      rw [r2 u (by rw [u2 149 (by decide) (by decide), t4 149 (by decide) (by omega)]) (by rw [u2 155 (by decide) (by decide), t4 155 (by decide) (by omega)])]
      simp only [q_ob]
      rw [if_pos trivial, v1]
      simp only [q_ob]
      have w1' : f10_day_L18 v (nI n) 0 = f10_day_b33 w := w1
      rw [w1']
      unfold f10_day_b33
      rw [m_galled (v2.of (fun k a1 => w2 k (by omega)) (congrFun (w2 149 (by decide)) 2) (congrFun (w2 149 (by decide)) 6)) hP5 w3 hT']
      rfl
  · refine ⟨r, s, s, ?_, ?_, hI⟩
    · unfold f9_day f9_day_b0
      rw [r1, if_neg r0]
    · unfold f10_day f10_day_b0
      rw [r2]
      simp only [q_ob]
      rw [if_neg r0]
-- what is tried leaves all as it was
theorem q_stay {s w : sf_Sg} (hI : q_Inv s) (h : ∀ k, (k < 22 ∨ (26 < k ∧ k < 125) ∨ (126 < k ∧ k < 130) ∨ (130 < k ∧ k < 149) ∨ (149 < k ∧ k < 155) ∨ (155 < k ∧ k < 163) ∨ (164 < k ∧ k < 168) ∨ 168 < k) → w k = s k) (h125 : w 125 0 = s 125 0) (h149 : ∀ j, (j < 14 ∨ j = 26 ∨ j = 32 ∨ j = 37) → w 149 j = s 149 j) (h155 : ∀ j, j < 31 → w 155 j = s 155 j) : q_Inv w := by
  obtain ⟨B, P, sh, a, z, hS, hL, hT, hF, hB, hU, hM, hO⟩ := hI
  refine ⟨B, P, sh, a, z, hS.of (fun k a1 a2 => h k (by omega)) (fun k hk => h k (by omega)) (h149 0 (by omega)) (h149 2 (by omega)) (h149 6 (by omega)), ⟨hL.1, hL.2.1.of (fun k a1 a2 => h k (by omega)), q_LMcopy hS.1.1 hS.1.2.1 hL.2.2 (fun j hj => by rw [Nat.zero_add]; exact h155 j hj)⟩, hT.of (h 1 (by omega)) (h 2 (by omega)) (h 156 (by omega)) (h149 12 (by omega)) (h149 13 (by omega)), hF.of h125 (fun k hk => h k (by omega)) (h149 32 (by omega)), hB.of (congrFun (h 131 (by omega)) 0) (fun k hk => h k (by omega)) (h149 37 (by omega)), hU.of (h 27 (by omega)) (fun k a1 a2 => h k (by omega)) (h 162 (by omega)) (h149 26 (by omega)), hM.of (fun k a1 a2 => h k (by omega)) (h 171 (by omega)) (h 172 (by omega)), hO.of (congrFun (h 0 (by omega)) 13) (h149 10 (by omega))⟩
theorem m_copyRow {s : sf_Sg} (a0 n0 a1 n1 N : Nat) (h0 : N ≤ n0) (h1 : N ≤ n1) (hn0 : n0 ≤ 1000) (hn1 : n1 ≤ 1000) (hk : a0 ≠ a1) : ∃ t, f10_copyRow a0 n0 a1 n1 s (nI N) = some t ∧ (∀ k, k ≠ a1 → t k = s k) ∧ (∀ j, j < N → t a1 j = s a0 j) ∧ (∀ j, N ≤ j → t a1 j = s a1 j) := by
  have := q_rowcopy (s := s) (fun k t i => f10_copyRow_b2 a0 n0 a1 n1 (fun t' _ i' => k t' i') t (nI N) i) (fun t => some t) a0 a1 0 0 N hk (fun k t => by
    show f10_copyRow_b2 a0 n0 a1 n1 (fun t' _ i' => k t' i') t (nI N) (nI N) = some t
    unfold f10_copyRow_b2
    rw [if_pos (nI_le (Nat.le_refl _) (by omega))]) (fun k t i hi ht => by
    show f10_copyRow_b2 a0 n0 a1 n1 (fun t' _ i' => k t' i') t (nI N) (nI i) = _
    unfold f10_copyRow_b2
    rw [if_neg (nI_ge hi (by omega)), q_ld (by omega) hn0]
    simp only [q_ob]
    rw [q_st (by omega) hn1]
    simp only [q_ob]
    rw [nI_1, Nat.zero_add]) sf_FU 0 s (by unfold sf_FU; omega) (by omega) (fun _ _ => rfl) (fun j hj => absurd hj (by omega)) (fun _ _ => rfl)
  obtain ⟨t, e1, e2, e3, e4⟩ := this
  have conv : ∀ (f : Nat) (t : sf_Sg) (i : Int32), sf_it (f10_copyRow_b2 a0 n0 a1 n1) (fun _ _ _ => none) f t (nI N) i = sf_it (fun (k : sf_Sg → Int32 → Option sf_Sg) t i => f10_copyRow_b2 a0 n0 a1 n1 (fun t' _ i' => k t' i') t (nI N) i) (fun _ _ => none) f t i := by
    intro f
    induction f with
    | zero => intro t i; rfl
    | succ f ih =>
      intro t i
      rw [q_it, q_it]
      unfold f10_copyRow_b2
      split
      · rfl
      · cases sf_ld t a0 n0 i with
        | none => rfl
        | some v =>
          simp only [q_ob]
          cases sf_st t a1 n1 i v with
          | none => rfl
          | some t2 =>
            simp only [q_ob]
            exact ih t2 _
  refine ⟨t, ?_, e2, fun j hj => ?_, fun j hj => e4 j (Or.inr (by omega))⟩
  · unfold f10_copyRow f10_copyRow_b0 f10_copyRow_L2
    rw [conv]
    exact e1
  · have := e3 j hj
    rw [Nat.zero_add] at this
    exact this
