def q_ci (x j : Nat) : Nat := (j / 21 + 1 - x) + j % 21
def q_ct (A : Nat → Bool) (x J d : Nat) : Nat := q_sm J (fun j => if A j = true ∧ q_ci x j = d then 1 else 0)
def q_mx (A : Nat → Bool) (x : Nat) : Nat → Nat
  | 0 => 0
  | J + 1 => if A J = true then max (q_mx A x J) (q_ct A x (J + 1) (q_ci x J)) else q_mx A x J
theorem q_ct_le {A : Nat → Bool} {x J d : Nat} : q_ct A x J d ≤ J := by
  have := q_sm_le (n := J) (c := 1) (f := fun j => if A j = true ∧ q_ci x j = d then 1 else 0) (fun j _ => by
    show (if A j = true ∧ q_ci x j = d then 1 else 0) ≤ 1
    split <;> omega)
  unfold q_ct
  omega
theorem q_mx_le {A : Nat → Bool} {x : Nat} : ∀ J, q_mx A x J ≤ J
  | 0 => Nat.le_refl _
  | J + 1 => by
    have h1 := q_mx_le (A := A) (x := x) J
    have h2 := q_ct_le (A := A) (x := x) (J := J + 1) (d := q_ci x J)
    unfold q_mx
    split <;> omega
theorem q_mx_mono {A : Nat → Bool} {x I : Nat} : ∀ {J : Nat}, I ≤ J → q_mx A x I ≤ q_mx A x J
  | 0, h => by
    have : I = 0 := by omega
    subst this
    exact Nat.le_refl _
  | J + 1, h => by
    by_cases e : I = J + 1
    · subst e
      exact Nat.le_refl _
    · have h1 := q_mx_mono (A := A) (x := x) (I := I) (J := J) (by omega)
      refine Nat.le_trans h1 ?_
      show q_mx A x J ≤ if A J = true then max (q_mx A x J) (q_ct A x (J + 1) (q_ci x J)) else q_mx A x J
      split <;> omega
theorem q_ct_y {A : Nat → Bool} {x J : Nat} (h : A J = true) (d : Nat) : q_ct A x (J + 1) d = if d = q_ci x J then q_ct A x J d + 1 else q_ct A x J d := by
  show q_ct A x J d + (if A J = true ∧ q_ci x J = d then 1 else 0) = _
  by_cases e : d = q_ci x J
  · rw [if_pos ⟨h, e.symm⟩, if_pos e]
  · rw [if_neg (show ¬ (A J = true ∧ q_ci x J = d) from fun w => e w.2.symm), if_neg e]
    rfl
theorem q_ct_n {A : Nat → Bool} {x J : Nat} (h : ¬ A J = true) (d : Nat) : q_ct A x (J + 1) d = q_ct A x J d := by
  show q_ct A x J d + (if A J = true ∧ q_ci x J = d then 1 else 0) = _
  rw [if_neg (show ¬ (A J = true ∧ q_ci x J = d) from fun w => h w.1)]
  rfl
theorem q_mx_y {A : Nat → Bool} {x J : Nat} (h : A J = true) : q_mx A x (J + 1) = max (q_mx A x J) (q_ct A x J (q_ci x J) + 1) := by
  show (if A J = true then max (q_mx A x J) (q_ct A x (J + 1) (q_ci x J)) else q_mx A x J) = _
  rw [if_pos h, q_ct_y h, if_pos rfl]
theorem q_mx_n {A : Nat → Bool} {x J : Nat} (h : ¬ A J = true) : q_mx A x (J + 1) = q_mx A x J := by
  show (if A J = true then max (q_mx A x J) (q_ct A x (J + 1) (q_ci x J)) else q_mx A x J) = _
  rw [if_neg h]
theorem q_maxN {a b : Nat} (ha : a ≤ 100000) (hb : b ≤ 100000) : sf_max (nI a) (nI b) = nI (max a b) := by
  unfold sf_max
  simp only [q_lt (show a ≤ 2000000 by omega) (show b ≤ 2000000 by omega)]
  by_cases h : a < b
  · rw [if_pos h, Nat.max_eq_right (by omega)]
  · rw [if_neg h, Nat.max_eq_left (by omega)]
theorem c_clear {x b : Int32} : ∀ (f i : Nat) (t : sf_Sg), 81 < f + i → i ≤ 81 → (∀ d, d < i → t 130 d = 0) → ∃ u, sf_it f1_greatestPart_b2 (fun _ _ _ _ => none) f t x b (nI i) = f1_greatestPart_b24 u x b ∧ (∀ k, k ≠ 130 → u k = t k) ∧ ∀ d, d < 81 → u 130 d = 0 := by
  intro f
  induction f with
  | zero => intro i t h1 h2; omega
  | succ f ih =>
    intro i t h1 h2 h3
    rw [q_it]
    generalize sf_it f1_greatestPart_b2 (fun _ _ _ _ => none) f = K at ih ⊢
    unfold f1_greatestPart_b2
    by_cases hi : i = 81
    · subst hi
      rw [if_pos (show (81 : Int32) ≤ nI 81 by decide)]
      exact ⟨t, rfl, fun _ _ => rfl, h3⟩
    · have hlt : i < 81 := by omega
      rw [if_neg (show ¬ (81 : Int32) ≤ nI i from nI_ge (b := 81) hlt (by decide)), q_st hlt (by decide)]
      simp only [q_ob]
      rw [nI_1]
      obtain ⟨u, e1, e2, e3⟩ := ih (i + 1) (sf_s1 t 130 i 0) (by omega) (by omega) (fun d hd => by
        by_cases e : d = i
        · subst e
          rw [q_s1s]
        · rw [q_s1i e]
          exact h3 d (by omega))
      exact ⟨u, e1, fun k hk => (e2 k hk).trans (q_s1k hk), e3⟩
theorem c_greatest {s : sf_Sg} {n : Nat} {X Y V : Nat → Nat} (h : ∀ w, 1 ≤ w → w ≤ 60 → s 126 w = nI (q_mw n X Y V w)) {x b : Nat} (hx : 1 ≤ x) (hx2 : x ≤ 60) (hb : b ≤ 100000) : ∃ r u, f1_greatestPart s (nI x) (nI b) = some (nI r, u) ∧ (∀ k, k ≠ 130 → u k = s k) ∧ (r = q_mx (q_aj n X Y V) x 1260 ∨ (b ≤ r ∧ r ≤ q_mx (q_aj n X Y V) x 1260)) := by
  have hA : ∀ w e, e < 21 → q_aj n X Y V (21 * w + e) = q_ag n X Y V (w + 1) e := fun w e he => q_aj_at he
  have hbit : ∀ w e, e < 21 → (q_mw n X Y V w).testBit e = q_ag n X Y V w e := fun w e he => q_bits_test _ e 21 he
  generalize q_aj n X Y V = A at *
  have inner : ∀ (K : sf_Sg → Int32 → Int32 → Int32 → Int32 → Option (Int32 × sf_Sg)) (w : Nat), w < 60 → ∀ (f e : Nat) (t : sf_Sg), 21 < f + e → e ≤ 21 → t 126 = s 126 → (∀ d, d < 81 → t 130 d = nI (q_ct A x (21 * w + e) d)) → ∃ t', sf_it (f1_greatestPart_b54 K) (fun _ _ _ _ _ _ _ => none) f t (nI x) (nI b) (nI (q_mx A x (21 * w + e))) (nI (w + 1)) (nI (w + 1 - x)) (nI e) = K t' (nI x) (nI b) (nI (q_mx A x (21 * (w + 1)))) (nI (w + 2)) ∧ (∀ k, k ≠ 130 → t' k = t k) ∧ (∀ d, d < 81 → t' 130 d = nI (q_ct A x (21 * (w + 1)) d)) := by
    intro K w hw f
    induction f with
    | zero => intro e t h1 h2; omega
    | succ f ih =>
      intro e t h1 h2 h3 h4
      rw [q_it]
      generalize sf_it (f1_greatestPart_b54 K) (fun _ _ _ _ _ _ _ => none) f = M at ih ⊢
      unfold f1_greatestPart_b54 f1_greatestPart_b111 f1_greatestPart_b105
      simp only [q_20 (show e ≤ 1000 by omega)]
      by_cases he : e = 21
      · subst he
        rw [if_pos (by decide), nI_1]
        exact ⟨t, rfl, fun _ _ => rfl, h4⟩
      · have hlt : e < 21 := by omega
        have hm := q_mw_lt (n := n) (X := X) (Y := Y) (V := V) (w := w + 1)
        rw [if_neg (by omega), q_ld (k := 126) (show w + 1 < 61 by omega) (by decide), h3, h (w + 1) (by omega) (by omega)]
        simp only [q_ob]
        rw [q_hasL (by omega) (by omega), hbit _ e hlt, ← hA w e hlt, nI_add, nI_1]
        have hci : q_ci x (21 * w + e) = w + 1 - x + e := by
          unfold q_ci
          omega
        have hcl := q_ct_le (A := A) (x := x) (J := 21 * w + e) (d := w + 1 - x + e)
        have hml := q_mx_le (A := A) (x := x) (21 * w + e)
        by_cases ha : A (21 * w + e) = true
        · rw [if_pos ha, if_neg q_b1, q_ld (k := 130) (show w + 1 - x + e < 81 by omega) (by decide), h4 _ (by omega)]
          simp only [q_ob]
          rw [nI_1, q_st (show w + 1 - x + e < 81 by omega) (by decide)]
          simp only [q_ob]
          rw [q_ld (k := 130) (show w + 1 - x + e < 81 by omega) (by decide), q_s1s]
          simp only [q_ob]
          rw [q_maxN (by omega) (by omega)]
          have em := q_mx_y (x := x) ha
          rw [hci] at em
          rw [← em]
          obtain ⟨u, e1, e2, e3⟩ := ih (e + 1) (sf_s1 t 130 (w + 1 - x + e) (nI (q_ct A x (21 * w + e) (w + 1 - x + e) + 1))) (by omega) (by omega) ((q_s1k (by decide)).trans h3) (fun d hd => by
            have ec := q_ct_y (x := x) ha d
            rw [hci] at ec
            by_cases e : d = w + 1 - x + e
            · rw [if_pos e] at ec
              show _ = nI (q_ct A x (21 * w + _ + 1) d)
              rw [ec, e, q_s1s]
            · rw [if_neg e] at ec
              show _ = nI (q_ct A x (21 * w + _ + 1) d)
              rw [ec, q_s1i e]
              exact h4 d hd)
          exact ⟨u, e1, fun k hk => (e2 k hk).trans (q_s1k hk), e3⟩
        · rw [if_neg ha, if_pos rfl]
          have em := q_mx_n (x := x) ha
          rw [← em]
          exact ih (e + 1) t (by omega) (by omega) h3 (fun d hd => by
            have ec := q_ct_n (x := x) ha d
            show _ = nI (q_ct A x (21 * w + e + 1) d)
            rw [ec]
            exact h4 d hd)
  have outer : ∀ (f w : Nat) (t : sf_Sg), 60 < f + w → w ≤ 60 → t 126 = s 126 → (∀ d, d < 81 → t 130 d = nI (q_ct A x (21 * w) d)) → ∃ r u, sf_it f1_greatestPart_b29 (fun _ _ _ _ _ => none) f t (nI x) (nI b) (nI (q_mx A x (21 * w))) (nI (w + 1)) = some (nI r, u) ∧ (∀ k, k ≠ 130 → u k = t k) ∧ (r = q_mx A x 1260 ∨ (b ≤ r ∧ r ≤ q_mx A x 1260)) := by
    intro f
    induction f with
    | zero => intro w t h1 h2; omega
    | succ f ih =>
      intro w t h1 h2 h3 h4
      rw [q_it]
      generalize sf_it f1_greatestPart_b29 (fun _ _ _ _ _ => none) f = K at ih ⊢
      unfold f1_greatestPart_b29
      have hml := q_mx_le (A := A) (x := x) (21 * w)
      simp only [q_60 (show w + 1 ≤ 1000 by omega), q_le (show b ≤ 2000000 by omega) (show q_mx A x (21 * w) ≤ 2000000 by omega)]
      by_cases hw : w = 60
      · subst hw
        rw [if_pos (by decide)]
        exact ⟨_, t, rfl, fun _ _ => rfl, Or.inl rfl⟩
      · rw [if_neg (by omega)]
        by_cases hbm : b ≤ q_mx A x (21 * w)
        · rw [if_pos hbm]
          exact ⟨_, t, rfl, fun _ _ => rfl, Or.inr ⟨hbm, q_mx_mono (by omega)⟩⟩
        · rw [if_neg hbm, q_max0 (by omega) (by omega)]
          obtain ⟨t', e1, e2, e3⟩ := inner K w (by omega) sf_FU 0 t (by unfold sf_FU; omega) (by omega) h3 (fun d hd => h4 d hd)
          have e1' : f1_greatestPart_L54 K t (nI x) (nI b) (nI (q_mx A x (21 * w))) (nI (w + 1)) (nI (w + 1 - x)) 0 = _ := e1
          rw [e1']
          obtain ⟨r, u, g1, g2, g3⟩ := ih (w + 1) t' (by omega) (by omega) ((e2 126 (by decide)).trans h3) e3
          exact ⟨r, u, g1, fun k hk => (g2 k hk).trans (e2 k hk), g3⟩
  obtain ⟨t, e1, e2, e3⟩ := c_clear (x := nI x) (b := nI b) sf_FU 0 s (by unfold sf_FU; omega) (by omega) (fun d hd => absurd hd (by omega))
  have e1' : f1_greatestPart s (nI x) (nI b) = f1_greatestPart_b24 t (nI x) (nI b) := e1
  rw [e1']
  obtain ⟨r, u, g1, g2, g3⟩ := outer sf_FU 0 t (by unfold sf_FU; omega) (by omega) (e2 126 (by decide)) (fun d hd => e3 d hd)
  exact ⟨r, u, g1, fun k hk => (g2 k hk).trans (e2 k hk), g3⟩
theorem m_clear {x b : Int32} : ∀ (f i : Nat) (t : sf_Sg), 80 < f + i → i ≤ 80 → (∀ d, d < i → t 168 d = 0) → ∃ u, sf_it f10_greatestPart_b4 (fun _ _ _ _ => none) f t x b (nI i) = f10_greatestPart_b23 u x b ∧ (∀ k, k ≠ 168 → u k = t k) ∧ ∀ d, d < 80 → u 168 d = 0 := by
  intro f
  induction f with
  | zero => intro i t h1 h2; omega
  | succ f ih =>
    intro i t h1 h2 h3
    rw [q_it]
    generalize sf_it f10_greatestPart_b4 (fun _ _ _ _ => none) f = K at ih ⊢
    unfold f10_greatestPart_b4
    by_cases hi : i = 80
    · subst hi
      rw [if_pos (show (80 : Int32) ≤ nI 80 by decide)]
      exact ⟨t, rfl, fun _ _ => rfl, h3⟩
    · have hlt : i < 80 := by omega
      rw [if_neg (show ¬ (80 : Int32) ≤ nI i from nI_ge (b := 80) hlt (by decide)), q_st hlt (by decide)]
      simp only [q_ob]
      rw [nI_1]
      obtain ⟨u, e1, e2, e3⟩ := ih (i + 1) (sf_s1 t 168 i 0) (by omega) (by omega) (fun d hd => by
        by_cases e : d = i
        · subst e
          rw [q_s1s]
        · rw [q_s1i e]
          exact h3 d (by omega))
      exact ⟨u, e1, fun k hk => (e2 k hk).trans (q_s1k hk), e3⟩
theorem m_greatest {s : sf_Sg} {n : Nat} {X Y V : Nat → Nat} (G : q_FG n X Y V) (H : q_FM s n X Y V) {x : Nat} (hx : 1 ≤ x) (hx2 : x ≤ 60) : ∃ u, f10_greatestPart s (nI x) = some (nI (q_mx (q_aj n X Y V) x 1260), u) ∧ (∀ k, k ≠ 168 → u k = s k) := by
  have loop : ∀ (f j : Nat) (t : sf_Sg), 1260 < f + j → j ≤ 1260 → q_FM t n X Y V → (∀ d, d < 80 → t 168 d = nI (q_ct (q_aj n X Y V) x j d)) → ∃ u, sf_it f10_greatestPart_b25 (fun _ _ _ _ => none) f t (nI x) (nI (q_mx (q_aj n X Y V) x j)) (nI j) = some (nI (q_mx (q_aj n X Y V) x 1260), u) ∧ (∀ k, k ≠ 168 → u k = t k) := by
    intro f
    induction f with
    | zero => intro j t h1 h2; omega
    | succ f ih =>
      intro j t h1 h2 H h4
      rw [q_it]
      generalize sf_it f10_greatestPart_b25 (fun _ _ _ _ => none) f = K at ih ⊢
      unfold f10_greatestPart_b25 f10_greatestPart_b82 f10_greatestPart_b81 f10_greatestPart_b82
      by_cases hj : j = 1260
      · subst hj
        rw [if_pos (show (1260 : Int32) ≤ nI 1260 by decide)]
        exact ⟨t, rfl, fun _ _ => rfl⟩
      · have hlt : j < 1260 := by omega
        rw [if_neg (show ¬ (1260 : Int32) ≤ nI j from nI_ge (b := 1260) hlt (by decide)), m_couldBe G H (by omega), show (0 : Int32) = nI 0 from rfl, m_gallsBy (by omega) (by omega) (by decide)]
        simp only [q_ob]
        have hci : j / 21 + 1 - x + (j % 21 - 0) = q_ci x j := rfl
        have hc80 : q_ci x j < 80 := by
          unfold q_ci
          omega
        rw [hci, nI_1]
        generalize q_aj n X Y V = A at *
        have hcl := q_ct_le (A := A) (x := x) (J := j) (d := q_ci x j)
        have hml := q_mx_le (A := A) (x := x) j
        by_cases ha : A j = true
        · rw [if_pos ha, if_neg (show ¬ (1 : Int32) = nI 0 by decide), q_ld (k := 168) hc80 (by decide), h4 _ hc80]
          simp only [q_ob]
          rw [nI_1, q_st hc80 (by decide)]
          simp only [q_ob]
          rw [q_ld (k := 168) hc80 (by decide), q_s1s]
          simp only [q_ob, q_le (show q_ct A x j (q_ci x j) + 1 ≤ 2000000 by omega) (show q_mx A x j ≤ 2000000 by omega)]
          have em := q_mx_y (x := x) ha
          have go := ih (j + 1) (sf_s1 t 168 (q_ci x j) (nI (q_ct A x j (q_ci x j) + 1))) (by omega) (by omega) (H.of (congrFun (q_s1k (by decide)) 32) (q_s1k (by decide)) (q_s1k (by decide)) (q_s1k (by decide))) (fun d hd => by
            have ec := q_ct_y (x := x) ha d
            by_cases e : d = q_ci x j
            · rw [if_pos e] at ec
              rw [ec, e, q_s1s]
            · rw [if_neg e] at ec
              rw [ec, q_s1i e]
              exact h4 d hd)
          obtain ⟨u, e1, e2⟩ := go
          refine ⟨u, ?_, fun k hk => (e2 k hk).trans (q_s1k hk)⟩
          by_cases hm : q_ct A x j (q_ci x j) + 1 ≤ q_mx A x j
          · rw [if_pos hm]
            rw [em, Nat.max_eq_left hm] at e1
            exact e1
          · rw [if_neg hm]
            rw [em, Nat.max_eq_right (by omega)] at e1
            exact e1
        · rw [if_neg ha, if_pos (show nI 0 = nI 0 from rfl)]
          have em := q_mx_n (x := x) ha
          rw [← em]
          exact ih (j + 1) t (by omega) (by omega) H (fun d hd => by
            rw [q_ct_n (x := x) ha d]
            exact h4 d hd)
  obtain ⟨t, e1, e2, e3⟩ := m_clear (x := nI x) (b := 0) sf_FU 0 s (by unfold sf_FU; omega) (by omega) (fun d hd => absurd hd (by omega))
  have e1' : f10_greatestPart s (nI x) = f10_greatestPart_b23 t (nI x) 0 := e1
  rw [e1']
  obtain ⟨u, g1, g2⟩ := loop sf_FU 0 t (by unfold sf_FU; omega) (by omega) (H.of (congrFun (e2 149 (by decide)) 32) (e2 165 (by decide)) (e2 166 (by decide)) (e2 167 (by decide))) (fun d hd => e3 d hd)
  exact ⟨u, g1, fun k hk => (g2 k hk).trans (e2 k hk)⟩
-- which back to try next
def q_bs (A : Nat → Bool) : Nat → Nat → Int32 → Nat → Int32
  | 0, _, b, _ => b
  | k + 1, x, b, v => if v ≤ q_mx A x 1260 then q_bs A k (x + 1) b v else q_bs A k (x + 1) (nI x) (q_mx A x 1260)
theorem c_bestLoop {n : Nat} {X Y V : Nat → Nat} : ∀ (f x v : Nat) (b : Int32) (s : sf_Sg), 61 < f + x → 1 ≤ x → x ≤ 61 → v ≤ 1260 → (∀ w, 1 ≤ w → w ≤ 60 → s 126 w = nI (q_mw n X Y V w)) → ∃ u, sf_it f1_bestStrength_b9 (fun _ _ _ _ => none) f s b (nI v) (nI x) = some (q_bs (q_aj n X Y V) (61 - x) x b v, u) ∧ (∀ k, k ≠ 130 → u k = s k) := by
  intro f
  induction f with
  | zero => intro x v b s h1 h2; omega
  | succ f ih =>
    intro x v b s h1 h2 h3 hv h4
    rw [q_it]
    generalize sf_it f1_bestStrength_b9 (fun _ _ _ _ => none) f = K at ih ⊢
    unfold f1_bestStrength_b9 f1_bestStrength_b34
    simp only [q_60 (show x ≤ 1000 by omega)]
    by_cases hx : x = 61
    · subst hx
      rw [if_pos (by decide)]
      exact ⟨s, rfl, fun _ _ => rfl⟩
    · rw [if_neg (by omega)]
      obtain ⟨r, u, e1, e2, e3⟩ := c_greatest h4 h2 (show x ≤ 60 by omega) (show v ≤ 100000 by omega)
      have hml := q_mx_le (A := q_aj n X Y V) (x := x) 1260
      rw [e1]
      simp only [q_ob, q_le (show v ≤ 2000000 by omega) (show r ≤ 2000000 by omega)]
      rw [nI_1, show 61 - x = (61 - (x + 1)) + 1 by omega]
      have hu : ∀ w, 1 ≤ w → w ≤ 60 → u 126 w = nI (q_mw n X Y V w) := by
        rw [e2 126 (by decide)]
        exact h4
      show ∃ u, _ = some (if v ≤ q_mx (q_aj n X Y V) x 1260 then q_bs (q_aj n X Y V) (61 - (x + 1)) (x + 1) b v else q_bs (q_aj n X Y V) (61 - (x + 1)) (x + 1) (nI x) (q_mx (q_aj n X Y V) x 1260), u) ∧ _
      by_cases hr : v ≤ r
      · rw [if_pos hr, if_pos (by omega)]
        obtain ⟨w, g1, g2⟩ := ih (x + 1) v b u (by omega) (by omega) (by omega) hv hu
        exact ⟨w, g1, fun k hk => (g2 k hk).trans (e2 k hk)⟩
      · have hr2 : r = q_mx (q_aj n X Y V) x 1260 := by omega
        rw [if_neg hr, if_neg (by omega), ← hr2]
        obtain ⟨w, g1, g2⟩ := ih (x + 1) r (nI x) u (by omega) (by omega) (by omega) (by omega) hu
        exact ⟨w, g1, fun k hk => (g2 k hk).trans (e2 k hk)⟩
theorem m_bestLoop {n : Nat} {X Y V : Nat → Nat} (G : q_FG n X Y V) : ∀ (f x v : Nat) (b : Int32) (s : sf_Sg), 61 < f + x → 1 ≤ x → x ≤ 61 → v ≤ 1260 → q_FM s n X Y V → ∃ u, sf_it f10_tryNext_b10 (fun _ _ _ _ => none) f s b (nI v) (nI x) = some (q_bs (q_aj n X Y V) (61 - x) x b v, u) ∧ (∀ k, k ≠ 168 → u k = s k) := by
  intro f
  induction f with
  | zero => intro x v b s h1 h2; omega
  | succ f ih =>
    intro x v b s h1 h2 h3 hv H
    rw [q_it]
    generalize sf_it f10_tryNext_b10 (fun _ _ _ _ => none) f = K at ih ⊢
    unfold f10_tryNext_b10 f10_tryNext_b34 f10_tryNext_b47
    simp only [q_60 (show x ≤ 1000 by omega)]
    by_cases hx : x = 61
    · subst hx
      rw [if_pos (by decide)]
      exact ⟨s, rfl, fun _ _ => rfl⟩
    · rw [if_neg (by omega)]
      obtain ⟨u, e1, e2⟩ := m_greatest G H h2 (show x ≤ 60 by omega)
      have hml := q_mx_le (A := q_aj n X Y V) (x := x) 1260
      rw [e1]
      simp only [q_ob, q_le (show v ≤ 2000000 by omega) (show q_mx (q_aj n X Y V) x 1260 ≤ 2000000 by omega)]
      rw [nI_1, show 61 - x = (61 - (x + 1)) + 1 by omega]
      have hu : q_FM u n X Y V := H.of (congrFun (e2 149 (by decide)) 32) (e2 165 (by decide)) (e2 166 (by decide)) (e2 167 (by decide))
      show ∃ u, _ = some (if v ≤ q_mx (q_aj n X Y V) x 1260 then q_bs (q_aj n X Y V) (61 - (x + 1)) (x + 1) b v else q_bs (q_aj n X Y V) (61 - (x + 1)) (x + 1) (nI x) (q_mx (q_aj n X Y V) x 1260), u) ∧ _
      by_cases hr : v ≤ q_mx (q_aj n X Y V) x 1260
      · rw [if_pos hr, if_pos hr, if_pos hr]
        obtain ⟨w, g1, g2⟩ := ih (x + 1) v b u (by omega) (by omega) (by omega) hv hu
        exact ⟨w, g1, fun k hk => (g2 k hk).trans (e2 k hk)⟩
      · rw [if_neg hr, if_neg hr, if_neg hr]
        obtain ⟨w, g1, g2⟩ := ih (x + 1) _ (nI x) u (by omega) (by omega) (by omega) hml hu
        exact ⟨w, g1, fun k hk => (g2 k hk).trans (e2 k hk)⟩
theorem p_tryNext : st_tryNext q_Inv := by
  intro s hI
  have hI' := hI
  obtain ⟨B, P, sh, a, z, hS, hL, hT, hF, hR⟩ := hI
  obtain ⟨n, X, Y, V, G, HC, HM⟩ := hF.f
  obtain ⟨t, t1, t2, t3, t4, t5⟩ := c_findPairs G HC
  have hcn := q_cn_le (n := n) (X := X) (Y := Y) (V := V) 1260
  obtain ⟨u, u1, u2⟩ := c_bestLoop (n := n) (X := X) (Y := Y) (V := V) sf_FU 1 (q_cn n X Y V 1260) (-1) t (by unfold sf_FU; omega) (by omega) (by omega) hcn t5
  have hus : ∀ k, k ≠ 125 → k ≠ 126 → k ≠ 130 → u k = s k := fun k a1 a2 a3 => (u2 k a3).trans (t2 k a1 a2)
  have HM2 : q_FM u n X Y V := HM.of (congrFun (hus 149 (by decide) (by decide) (by decide)) 32) (hus 165 (by decide) (by decide) (by decide)) (hus 166 (by decide) (by decide) (by decide)) (hus 167 (by decide) (by decide) (by decide))
  obtain ⟨w, w1, w2⟩ := m_bestLoop G sf_FU 1 (q_cn n X Y V 1260) (-1) u (by unfold sf_FU; omega) (by omega) (by omega) hcn HM2
  refine ⟨q_bs (q_aj n X Y V) (61 - 1) 1 (-1) (q_cn n X Y V 1260), u, w, ?_, ?_, ?_⟩
  · unfold f9_tryNext f9_tryNext_b0
    rw [t1]
    simp only [q_ob]
    have u1' : f1_bestStrength t = some (q_bs (q_aj n X Y V) (61 - 1) 1 (-1) (q_cn n X Y V 1260), u) := by
      unfold f1_bestStrength f1_bestStrength_b0
      rw [t4]
      exact u1
    rw [u1']
    rfl
  · unfold f10_tryNext f10_tryNext_b0
    have m1 : f10_carries u 0 = some (nI (q_cn n X Y V 1260)) := by
      unfold f10_carries f10_carries_b0
      rw [show f10_in (0 : Int32).toInt64 0 2 = f9_within 0 0 2 from q_in 0 0 2, if_neg (show ¬ f9_within 0 0 2 = 0 by decide), m_carries G HM2 0]
      unfold f10_carries_b50
      rw [if_pos rfl]
    rw [m1]
    simp only [q_ob]
    exact w1
  · exact q_stay hI' (fun k hk => (w2 k (by omega)).trans (hus k (by omega) (by omega) (by omega))) ((congrFun (w2 125 (by decide)) 0).trans ((congrFun (u2 125 (by decide)) 0).trans t3)) (fun j _ => congrFun ((w2 149 (by decide)).trans (hus 149 (by decide) (by decide) (by decide))) j) (fun j _ => congrFun ((w2 155 (by decide)).trans (hus 155 (by decide) (by decide) (by decide))) j)
