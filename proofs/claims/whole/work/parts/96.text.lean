-- the text: blanks, figures, numbers
section TEXT
variable (T : Nat → Nat) (n : Nat)
def q_bl : Nat → Nat → Nat
  | 0, i => i
  | k + 1, i => if i < n ∧ T i = 32 then q_bl k (i + 1) else i
def q_B (i : Nat) : Nat := q_bl T n (n - i) i
def q_fl : Nat → Nat → Nat
  | 0, i => i
  | k + 1, i => if i < n ∧ (48 ≤ T i ∧ T i ≤ 57) then q_fl k (i + 1) else i
def q_F (i : Nat) : Nat := q_fl T n (n - i) i
def q_nv (i : Nat) : Nat → Nat
  | 0 => 0
  | l + 1 => 10 * q_nv i l + (T (i + l) - 48)
def q_lh (i : Nat) : Int32 := if i < n then nI (T i) else -1
def q_num (i lo hi : Nat) : Nat × Nat × Nat :=
  if q_F T n (q_B T n i) = q_B T n i then (1, q_B T n i, 0)
  else if 3 < q_F T n (q_B T n i) - q_B T n i ∨ ¬ (lo ≤ q_nv T (q_B T n i) (q_F T n (q_B T n i) - q_B T n i) ∧ q_nv T (q_B T n i) (q_F T n (q_B T n i) - q_B T n i) ≤ hi) then (2, q_B T n i, 0)
  else (0, q_F T n (q_B T n i), q_nv T (q_B T n i) (q_F T n (q_B T n i) - q_B T n i))
end TEXT
section TEXTT
variable {T : Nat → Nat} {n : Nat}
theorem q_B_eq {i : Nat} : q_B T n i = if i < n ∧ T i = 32 then q_B T n (i + 1) else i := by
  unfold q_B
  by_cases h : i < n
  · rw [show n - i = (n - (i + 1)) + 1 by omega]
    rfl
  · rw [show n - i = 0 by omega, if_neg (fun w => h w.1)]
    rfl
theorem q_F_eq {i : Nat} : q_F T n i = if i < n ∧ (48 ≤ T i ∧ T i ≤ 57) then q_F T n (i + 1) else i := by
  unfold q_F
  by_cases h : i < n
  · rw [show n - i = (n - (i + 1)) + 1 by omega]
    rfl
  · rw [show n - i = 0 by omega, if_neg (fun w => h w.1)]
    rfl
theorem q_B_in : ∀ (k i : Nat), n - i ≤ k → i ≤ n → i ≤ q_B T n i ∧ q_B T n i ≤ n ∧ (q_B T n i < n → T (q_B T n i) ≠ 32)
  | 0, i, h1, h2 => by
    rw [q_B_eq, if_neg (fun w => by omega)]
    exact ⟨Nat.le_refl _, h2, fun h => by omega⟩
  | k + 1, i, h1, h2 => by
    rw [q_B_eq]
    by_cases w : i < n ∧ T i = 32
    · rw [if_pos w]
      obtain ⟨a1, a2, a3⟩ := q_B_in k (i + 1) (by omega) (by omega)
      exact ⟨by omega, a2, a3⟩
    · rw [if_neg w]
      exact ⟨Nat.le_refl _, h2, fun h e => w ⟨h, e⟩⟩
theorem q_B_ge {i : Nat} (h : i ≤ n) : i ≤ q_B T n i := (q_B_in (n - i) i (Nat.le_refl _) h).1
theorem q_B_le {i : Nat} (h : i ≤ n) : q_B T n i ≤ n := (q_B_in (n - i) i (Nat.le_refl _) h).2.1
theorem q_B_B {i : Nat} (h : i ≤ n) : q_B T n (q_B T n i) = q_B T n i := by
  obtain ⟨a1, a2, a3⟩ := q_B_in (T := T) (n := n) (n - i) i (Nat.le_refl _) h
  rw [q_B_eq (i := q_B T n i), if_neg (fun w => a3 w.1 w.2)]
theorem q_F_in : ∀ (k i : Nat), n - i ≤ k → i ≤ n → i ≤ q_F T n i ∧ q_F T n i ≤ n
  | 0, i, h1, h2 => by
    rw [q_F_eq, if_neg (fun w => by omega)]
    exact ⟨Nat.le_refl _, h2⟩
  | k + 1, i, h1, h2 => by
    rw [q_F_eq]
    by_cases w : i < n ∧ (48 ≤ T i ∧ T i ≤ 57)
    · rw [if_pos w]
      obtain ⟨a1, a2⟩ := q_F_in k (i + 1) (by omega) (by omega)
      exact ⟨by omega, a2⟩
    · rw [if_neg w]
      exact ⟨Nat.le_refl _, h2⟩
theorem q_F_ge {i : Nat} (h : i ≤ n) : i ≤ q_F T n i := (q_F_in (n - i) i (Nat.le_refl _) h).1
theorem q_F_le {i : Nat} (h : i ≤ n) : q_F T n i ≤ n := (q_F_in (n - i) i (Nat.le_refl _) h).2
theorem q_nv_le {i : Nat} (hT : ∀ j, T j ≤ 255) : ∀ l, l ≤ 3 → q_nv T i l ≤ 25000
  | 0, _ => by show 0 ≤ 25000; omega
  | 1, _ => by
    have := hT (i + 0)
    show 10 * 0 + (T (i + 0) - 48) ≤ 25000
    omega
  | 2, _ => by
    have h0 := hT (i + 0)
    have h1 := hT (i + 1)
    show 10 * (10 * 0 + (T (i + 0) - 48)) + (T (i + 1) - 48) ≤ 25000
    omega
  | 3, _ => by
    have h0 := hT (i + 0)
    have h1 := hT (i + 1)
    have h2 := hT (i + 2)
    show 10 * (10 * (10 * 0 + (T (i + 0) - 48)) + (T (i + 1) - 48)) + (T (i + 2) - 48) ≤ 25000
    omega
  | l + 4, h => by omega
-- the class's reader
def q_TC (t : sf_Sg) (T : Nat → Nat) (n i : Nat) : Prop := t 1 0 = nI n ∧ t 1 3 = nI i ∧ ∀ j, j < n → t 2 j = nI (T j)
def q_TM (t : sf_Sg) (T : Nat → Nat) (n i : Nat) : Prop := t 149 12 = nI n ∧ t 149 14 = nI i ∧ ∀ j, j < n → t 156 j = nI (T j)
theorem c_letter {t : sf_Sg} {i : Nat} (hn : n ≤ 240) (hi : i ≤ n) (h : q_TC t T n i) : f5_letterHere t = some (q_lh T n i) := by
  unfold f5_letterHere f5_letterHere_b0 f5_letterHere_b40 q_lh
  rw [h.2.1, h.1, if_neg (q_lt0 (by omega))]
  by_cases e : i < n
  · rw [if_neg (nI_ge e (by omega)), if_neg (show ¬ (240 : Int32) ≤ nI i from nI_ge (b := 240) (by omega) (by decide)), q_ld (by omega) (by decide), h.2.2 i e, if_pos e]
    rfl
  · rw [if_pos (nI_le (by omega) (by omega)), if_neg e]
theorem q_32 {c : Nat} (h : c ≤ 1000) (k : Nat) (hk : k ≤ 1000) : (nI c = nI k) = (c = k) := q_eq (by omega) (by omega)
theorem q_lh_eq {i k : Nat} (hT : ∀ j, T j ≤ 255) (hk : k ≤ 1000) : (q_lh T n i = nI k) = (i < n ∧ T i = k) := by
  unfold q_lh
  have := hT i
  by_cases e : i < n
  · rw [if_pos e, q_32 (by omega) k hk]
    exact propext ⟨fun w => ⟨e, w⟩, fun w => w.2⟩
  · rw [if_neg e]
    exact propext ⟨fun w => absurd w (q_neg1' k (by omega)), fun w => absurd w.1 e⟩
theorem c_blank {t : sf_Sg} {i : Nat} (hT : ∀ j, T j ≤ 255) (hn : n ≤ 240) (hi : i ≤ n) (h : q_TC t T n i) : ∃ u, f5_passBlanks t = some u ∧ (∀ k, k ≠ 1 → u k = t k) ∧ (∀ j, j ≠ 3 → u 1 j = t 1 j) ∧ q_TC u T n (q_B T n i) := by
  have key : ∀ (f i : Nat) (t : sf_Sg), n < f + i → i ≤ n → q_TC t T n i → ∃ u, sf_it f5_passBlanks_b0 (fun _ => none) f t = some u ∧ (∀ k, k ≠ 1 → u k = t k) ∧ (∀ j, j ≠ 3 → u 1 j = t 1 j) ∧ q_TC u T n (q_B T n i) := by
    intro f
    induction f with
    | zero => intro i t h1 h2; omega
    | succ f ih =>
      intro i t h1 h2 h
      rw [q_it]
      generalize sf_it f5_passBlanks_b0 (fun _ => none) f = K at ih ⊢
      unfold f5_passBlanks_b0
      rw [c_letter hn h2 h, h.1, h.2.1]
      simp only [q_ob]
      have e32 : (q_lh T n i = 32) = (i < n ∧ T i = 32) := q_lh_eq (k := 32) hT (by decide)
      simp only [e32]
      rw [nI_1, q_B_eq]
      by_cases e : i < n
      · rw [if_neg (nI_ge e (by omega))]
        by_cases w : i < n ∧ T i = 32
        · rw [if_pos w, if_pos w]
          obtain ⟨u, u1, u2, u3, u4⟩ := ih (i + 1) (sf_s1 t 1 3 (nI (i + 1))) (by omega) (by omega) ⟨(q_s1i (by decide)).trans h.1, q_s1s, fun j hj => by rw [q_s1k (by decide)]; exact h.2.2 j hj⟩
          exact ⟨u, u1, fun k hk => (u2 k hk).trans (q_s1k hk), fun j hj => (u3 j hj).trans (q_s1i hj), u4⟩
        · rw [if_neg w, if_neg w]
          exact ⟨t, rfl, fun _ _ => rfl, fun _ _ => rfl, h⟩
      · rw [if_pos (nI_le (by omega) (by omega)), if_neg (fun w => e w.1)]
        exact ⟨t, rfl, fun _ _ => rfl, fun _ _ => rfl, h⟩
  exact key sf_FU i t (by unfold sf_FU; omega) hi h
theorem m_here {t : sf_Sg} {i : Nat} (hT : ∀ j, T j ≤ 255) (hn : n ≤ 240) (hi : i ≤ n) (h : q_TM t T n i) : ∃ u, f10_here t = some (q_lh T n (q_B T n i), u) ∧ (∀ k, k ≠ 149 → u k = t k) ∧ (∀ j, j ≠ 14 → u 149 j = t 149 j) ∧ q_TM u T n (q_B T n i) := by
  have fin : ∀ (i : Nat) (t : sf_Sg), i ≤ n → q_TM t T n i → f10_here_b38 t = some (q_lh T n i, t) := by
    intro i t h2 h
    unfold f10_here_b38 q_lh
    rw [h.1, h.2.1]
    by_cases e : i < n
    · rw [if_neg (nI_ge e (by omega)), q_ld (by omega) (by decide), h.2.2 i e, if_pos e]
      rfl
    · rw [if_pos (nI_le (by omega) (by omega)), if_neg e]
  have key : ∀ (f i : Nat) (t : sf_Sg), n < f + i → i ≤ n → q_TM t T n i → ∃ u, sf_it f10_here_b0 (fun _ => none) f t = some (q_lh T n (q_B T n i), u) ∧ (∀ k, k ≠ 149 → u k = t k) ∧ (∀ j, j ≠ 14 → u 149 j = t 149 j) ∧ q_TM u T n (q_B T n i) := by
    intro f
    induction f with
    | zero => intro i t h1 h2; omega
    | succ f ih =>
      intro i t h1 h2 h
      rw [q_it]
      generalize sf_it f10_here_b0 (fun _ => none) f = K at ih ⊢
      unfold f10_here_b0
      rw [fin i t h2 h, h.1, h.2.1, nI_1, q_B_eq]
      by_cases e : i < n
      · rw [if_neg (nI_ge e (by omega)), q_ld (by omega) (by decide), h.2.2 i e]
        simp only [q_ob]
        have e32 : (nI (T i) = 32) = (T i = 32) := q_32 (by have := hT i; omega) 32 (by decide)
        simp only [e32]
        by_cases w : T i = 32
        · rw [if_pos w, if_pos ⟨e, w⟩]
          obtain ⟨u, u1, u2, u3, u4⟩ := ih (i + 1) (sf_s1 t 149 14 (nI (i + 1))) (by omega) (by omega) ⟨(q_s1i (by decide)).trans h.1, q_s1s, fun j hj => by rw [q_s1k (by decide)]; exact h.2.2 j hj⟩
          exact ⟨u, u1, fun k hk => (u2 k hk).trans (q_s1k hk), fun j hj => (u3 j hj).trans (q_s1i hj), u4⟩
        · rw [if_neg w, if_neg (fun q => w q.2)]
          exact ⟨t, rfl, fun _ _ => rfl, fun _ _ => rfl, h⟩
      · rw [if_pos (nI_le (by omega) (by omega)), if_neg (fun w => e w.1)]
        exact ⟨t, rfl, fun _ _ => rfl, fun _ _ => rfl, h⟩
  exact key sf_FU i t (by unfold sf_FU; omega) hi h
theorem q_fig48 (x : Int32) : f10_in x.toInt64 48 57 = f5_isFigure x := by
  have : f10_in x.toInt64 48 57 = f9_within x 48 57 := q_in x 48 57
  rw [this]
  rfl
theorem q_isF {i : Nat} (hT : ∀ j, T j ≤ 255) : f5_isFigure (q_lh T n i) = if i < n ∧ (48 ≤ T i ∧ T i ≤ 57) then 1 else 0 := by
  unfold f5_isFigure f5_isFigure_b0 f5_isFigure_b16 q_lh
  have := hT i
  by_cases e : i < n
  · rw [if_pos e]
    have h1 : (nI (T i) < 48) = (T i < 48) := q_lt (b := 48) (by omega) (by decide)
    have h2 : ((57 : Int32) < nI (T i)) = (57 < T i) := q_lt (a := 57) (by decide) (by omega)
    simp only [h1, h2]
    by_cases a1 : T i < 48
    · rw [if_pos a1, if_neg (by omega)]
    · rw [if_neg a1]
      by_cases a2 : 57 < T i
      · rw [if_pos a2, if_neg (by omega)]
      · rw [if_neg a2, if_pos (by omega)]
  · rw [if_neg e, if_pos (by decide), if_neg (fun w => e w.1)]
theorem q_digit {v c : Nat} (hc : 48 ≤ c) : nI v * 10 + nI c - 48 = nI (10 * v + (c - 48)) := by
  have : nI c = nI (c - 48) + 48 := by
    rw [show (48 : Int32) = nI 48 from rfl, nI_add]
    exact congrArg nI (by omega)
  rw [this, show (10 : Int32) = nI 10 from rfl, q_mulI, Nat.mul_comm v 10, ← nI_add]
  grind
/-- a number is read by the class -/
theorem c_num {t : sf_Sg} {i lo hi : Nat} (hT : ∀ j, T j ≤ 255) (hn : n ≤ 240) (hi' : i ≤ n) (hlh : lo ≤ hi) (hh : hi ≤ 100000) (h : q_TC t T n i) (h4 : t 1 4 = 0) : ∃ x u, f5_readNumber t (nI lo) (nI hi) = some (x, u) ∧ (∀ k, k ≠ 1 → u k = t k) ∧ (∃ i', i' ≤ n ∧ q_TC u T n i') ∧ ((q_num T n i lo hi).1 = 0 → u 1 3 = nI (q_num T n i lo hi).2.1 ∧ u 1 4 = 0 ∧ u 1 1 = t 1 1 ∧ x = nI (q_num T n i lo hi).2.2) ∧ ((q_num T n i lo hi).1 ≠ 0 → u 1 4 = nI (q_num T n i lo hi).1 ∧ u 1 1 = nI (q_num T n i lo hi).2.1) := by
  obtain ⟨t1, e1, e2, e3, e4⟩ := c_blank hT hn hi' h
  have hb := q_B_le (T := T) hi'
  have key : ∀ (f l : Nat) (t : sf_Sg), n < f + (q_B T n i + l) → q_B T n i + l ≤ n → q_F T n (q_B T n i) = q_F T n (q_B T n i + l) → q_TC t T n (q_B T n i + l) → sf_it f5_readNumber_b21 (fun _ _ _ _ _ => none) f t (nI lo) (nI hi) (nI (q_B T n i)) (nI (q_nv T (q_B T n i) (min l 3))) = f5_readNumber_b80 (sf_s1 t 1 3 (nI (q_F T n (q_B T n i)))) (nI lo) (nI hi) (nI (q_B T n i)) (nI (q_nv T (q_B T n i) (min (q_F T n (q_B T n i) - q_B T n i) 3))) := by
    intro f
    induction f with
    | zero => intro l t g1 g2; omega
    | succ f ih =>
      intro l t g1 g2 g3 g
      rw [q_it]
      generalize sf_it f5_readNumber_b21 (fun _ _ _ _ _ => none) f = K at ih ⊢
      unfold f5_readNumber_b21 f5_readNumber_b67
      rw [c_letter hn g2 g, g.1, g.2.1]
      simp only [q_ob]
      have stop : ¬ (q_B T n i + l < n ∧ (48 ≤ T (q_B T n i + l) ∧ T (q_B T n i + l) ≤ 57)) → f5_readNumber_b80 t (nI lo) (nI hi) (nI (q_B T n i)) (nI (q_nv T (q_B T n i) (min l 3))) = f5_readNumber_b80 (sf_s1 t 1 3 (nI (q_F T n (q_B T n i)))) (nI lo) (nI hi) (nI (q_B T n i)) (nI (q_nv T (q_B T n i) (min (q_F T n (q_B T n i) - q_B T n i) 3))) := by
        intro w
        have e : q_F T n (q_B T n i) = q_B T n i + l := by rw [g3, q_F_eq, if_neg w]
        have es : sf_s1 t 1 3 (nI (q_B T n i + l)) = t := by
          funext k j
          rw [q_s1]
          by_cases hk : k = 1
          · subst hk
            by_cases hj : j = 3
            · subst hj
              simp [g.2.1]
            · simp [hj]
          · simp [hk]
        rw [e, es, Nat.add_sub_cancel_left]
      by_cases e : q_B T n i + l < n
      · rw [if_neg (nI_ge e (by omega)), q_isF hT]
        by_cases w : q_B T n i + l < n ∧ (48 ≤ T (q_B T n i + l) ∧ T (q_B T n i + l) ≤ 57)
        · rw [if_pos w, if_neg q_b1, pk_sub (by omega), Nat.add_sub_cancel_left, nI_1]
          have h3 : ((3 : Int32) ≤ nI l) = (3 ≤ l) := q_le (a := 3) (by decide) (by omega)
          simp only [h3]
          have g3' : q_F T n (q_B T n i) = q_F T n (q_B T n i + (l + 1)) := by
            rw [g3, q_F_eq (i := q_B T n i + l), if_pos w]
            rfl
          have go := ih (l + 1) (sf_s1 t 1 3 (nI (q_B T n i + l + 1))) (by omega) (by omega) g3' ⟨(q_s1i (by decide)).trans g.1, q_s1s, fun j hj => by rw [q_s1k (by decide)]; exact g.2.2 j hj⟩
          have e2 : sf_s1 (sf_s1 t 1 3 (nI (q_B T n i + l + 1))) 1 3 (nI (q_F T n (q_B T n i))) = sf_s1 t 1 3 (nI (q_F T n (q_B T n i))) := by
            funext k j
            rw [q_s1, q_s1]
            by_cases hk : k = 1
            · subst hk
              by_cases hj : j = 3
              · subst hj
                simp [q_s1s]
              · simp [hj, q_s1i hj]
            · simp [hk, q_s1k hk]
          rw [e2] at go
          by_cases hl : 3 ≤ l
          · rw [if_pos hl]
            rw [show min (l + 1) 3 = min l 3 by omega] at go
            exact go
          · rw [if_neg hl]
            have ec : q_lh T n (q_B T n i + l) = nI (T (q_B T n i + l)) := by
              unfold q_lh
              rw [if_pos e]
            rw [ec, q_digit w.2.1]
            rw [show min (l + 1) 3 = l + 1 by omega] at go
            rw [show min l 3 = l by omega]
            exact go
        · rw [if_neg w, if_pos rfl]
          exact stop w
      · rw [if_pos (nI_le (by omega) (by omega))]
        exact stop (fun w => e w.1)
  have k0 := key sf_FU 0 t1 (by unfold sf_FU; omega) (by omega) rfl e4
  have hr : f5_readNumber t (nI lo) (nI hi) = f5_readNumber_b80 (sf_s1 t1 1 3 (nI (q_F T n (q_B T n i)))) (nI lo) (nI hi) (nI (q_B T n i)) (nI (q_nv T (q_B T n i) (min (q_F T n (q_B T n i) - q_B T n i) 3))) := by
    unfold f5_readNumber f5_readNumber_b0
    rw [h4, if_pos rfl, e1]
    simp only [q_ob]
    rw [e4.2.1]
    exact k0
  rw [hr]
  have hfg := q_F_ge (T := T) hb
  have hfl := q_F_le (T := T) hb
  obtain ⟨t2, ht2⟩ : ∃ t2, t2 = sf_s1 t1 1 3 (nI (q_F T n (q_B T n i))) := ⟨_, rfl⟩
  rw [← ht2]
  have o2 : ∀ k, k ≠ 1 → t2 k = t k := fun k hk => by rw [ht2, q_s1k hk, e2 k hk]
  have o21 : ∀ j, j ≠ 3 → t2 1 j = t 1 j := fun j hj => by rw [ht2, q_s1i hj, e3 j hj]
  have p2 : t2 1 3 = nI (q_F T n (q_B T n i)) := by rw [ht2, q_s1s]
  have tc2 : q_TC t2 T n (q_F T n (q_B T n i)) := ⟨(o21 0 (by decide)).trans h.1, p2, fun j hj => by rw [o2 2 (by decide)]; exact h.2.2 j hj⟩
  have fault : ∀ c : Nat, ∀ v : Int32, ∃ u, u = f5_blame t2 (nI c) v ∧ (∀ k, k ≠ 1 → u k = t k) ∧ (∃ i', i' ≤ n ∧ q_TC u T n i') ∧ u 1 4 = nI c ∧ u 1 1 = v := by
    intro c v
    refine ⟨_, rfl, fun k hk => ?_, ⟨q_F T n (q_B T n i), hfl, ?_, ?_, fun j hj => ?_⟩, ?_, ?_⟩
    all_goals unfold f5_blame f5_blame_b0
    · rw [q_s1k hk, q_s1k hk, o2 k hk]
    · rw [q_s1i (by decide), q_s1i (by decide)]
      exact tc2.1
    · rw [q_s1i (by decide), q_s1i (by decide)]
      exact p2
    · rw [q_s1k (by decide), q_s1k (by decide)]
      exact tc2.2.2 j hj
    · rw [q_s1i (by decide), q_s1s]
    · rw [q_s1s]
  unfold f5_readNumber_b80 f5_readNumber_b117
  rw [p2]
  simp only [q_eq (show q_F T n (q_B T n i) ≤ 2000000 by omega) (show q_B T n i ≤ 2000000 by omega)]
  unfold q_num
  by_cases c1 : q_F T n (q_B T n i) = q_B T n i
  · rw [if_pos c1, if_pos c1]
    obtain ⟨u, u1, u2, u3, u4, u5⟩ := fault 1 (nI (q_B T n i))
    refine ⟨_, u, by rw [u1]; rfl, u2, u3, fun w => absurd (show (1 : Nat) = 0 from w) (by decide), fun _ => ⟨u4, u5⟩⟩
  · rw [if_neg c1, if_neg c1, pk_sub hfg]
    have h3 : ((3 : Int32) < nI (q_F T n (q_B T n i) - q_B T n i)) = (3 < q_F T n (q_B T n i) - q_B T n i) := q_lt (a := 3) (by decide) (by omega)
    simp only [h3]
    by_cases c2 : 3 < q_F T n (q_B T n i) - q_B T n i
    · rw [if_pos c2, if_pos (Or.inl c2)]
      obtain ⟨u, u1, u2, u3, u4, u5⟩ := fault 2 (nI (q_B T n i))
      refine ⟨_, u, by rw [u1]; rfl, u2, u3, fun w => absurd (show (2 : Nat) = 0 from w) (by decide), fun _ => ⟨u4, u5⟩⟩
    · rw [if_neg c2, show min (q_F T n (q_B T n i) - q_B T n i) 3 = q_F T n (q_B T n i) - q_B T n i by omega]
      have hv := q_nv_le (i := q_B T n i) hT (q_F T n (q_B T n i) - q_B T n i) (by omega)
      generalize q_nv T (q_B T n i) (q_F T n (q_B T n i) - q_B T n i) = v at *
      have hw : f9_within (nI v) (nI lo) (nI hi) = if lo ≤ v ∧ v ≤ hi then 1 else 0 := by
        unfold f9_within f9_within_b0 f9_within_b14
        simp only [q_lt (show v ≤ 2000000 by omega) (show lo ≤ 2000000 by omega), q_lt (show hi ≤ 2000000 by omega) (show v ≤ 2000000 by omega)]
        by_cases a1 : v < lo
        · rw [if_pos a1, if_neg (by omega)]
        · rw [if_neg a1]
          by_cases a2 : hi < v
          · rw [if_pos a2, if_neg (by omega)]
          · rw [if_neg a2, if_pos (by omega)]
      rw [hw]
      by_cases c3 : lo ≤ v ∧ v ≤ hi
      · rw [if_pos c3, if_neg q_b1, if_neg (show ¬ (3 < q_F T n (q_B T n i) - q_B T n i ∨ ¬ (lo ≤ v ∧ v ≤ hi)) from fun w => w.elim c2 (fun q => q c3))]
        exact ⟨nI v, t2, rfl, o2, ⟨_, hfl, tc2⟩, fun _ => ⟨p2, (o21 4 (by decide)).trans h4, o21 1 (by decide), rfl⟩, fun w => absurd rfl w⟩
      · rw [if_neg c3, if_pos rfl, if_pos (Or.inr c3)]
        obtain ⟨u, u1, u2, u3, u4, u5⟩ := fault 2 (nI (q_B T n i))
        refine ⟨_, u, by rw [u1]; rfl, u2, u3, fun w => absurd (show (2 : Nat) = 0 from w) (by decide), fun _ => ⟨u4, u5⟩⟩
/-- a number is read by the reference -/
theorem m_num {t : sf_Sg} {i lo hi : Nat} (hT : ∀ j, T j ≤ 255) (hn : n ≤ 240) (hi' : i ≤ n) (hlh : lo ≤ hi) (hh : hi ≤ 100000) (h : q_TM t T n i) : ∃ u, f10_takeNumber t (nI lo) (nI hi) = some (nI (q_num T n i lo hi).1, u) ∧ (∀ k, k ≠ 149 → u k = t k) ∧ (∀ j, j ≠ 13 → j ≠ 14 → j ≠ 15 → j ≠ 16 → u 149 j = t 149 j) ∧ ((q_num T n i lo hi).1 = 0 → u 149 14 = nI (q_num T n i lo hi).2.1 ∧ u 149 13 = t 149 13 ∧ u 149 15 = nI (q_num T n i lo hi).2.2) ∧ ((q_num T n i lo hi).1 ≠ 0 → u 149 13 = nI (q_num T n i lo hi).2.1) := by
  obtain ⟨t1, e1, e2, e3, e4⟩ := m_here hT hn hi' h
  have hb := q_B_le (T := T) hi'
  have hfg := q_F_ge (T := T) hb
  have hfl := q_F_le (T := T) hb
  unfold f10_takeNumber f10_takeNumber_b0
  rw [e1]
  simp only [q_ob]
  rw [q_fig48, q_isF hT]
  by_cases w0 : q_B T n i < n ∧ (48 ≤ T (q_B T n i) ∧ T (q_B T n i) ≤ 57)
  · rw [if_pos w0, if_neg q_b1]
    have hne : ¬ q_F T n (q_B T n i) = q_B T n i := by
      have g := q_F_ge (T := T) (n := n) (i := q_B T n i + 1) (by omega)
      rw [q_F_eq, if_pos w0]
      omega
    have key : ∀ (f l : Nat) (t : sf_Sg), n < f + (q_B T n i + l) → q_B T n i + l ≤ n → q_F T n (q_B T n i) = q_F T n (q_B T n i + l) → q_TM t T n (q_B T n i + l) → (l ≤ 3 → t 149 15 = nI (q_nv T (q_B T n i) l)) → ∃ u, sf_it f10_takeNumber_b42 (fun _ _ _ => none) f t (nI lo) (nI hi) = f10_takeNumber_b129 u (nI lo) (nI hi) ∧ (∀ k, k ≠ 149 → u k = t k) ∧ (∀ j, j ≠ 14 → j ≠ 15 → u 149 j = t 149 j) ∧ q_TM u T n (q_F T n (q_B T n i)) ∧ (q_F T n (q_B T n i) - q_B T n i ≤ 3 → u 149 15 = nI (q_nv T (q_B T n i) (q_F T n (q_B T n i) - q_B T n i))) := by
      intro f
      induction f with
      | zero => intro l t g1 g2; omega
      | succ f ih =>
        intro l t g1 g2 g3 g gv
        rw [q_it]
        generalize sf_it f10_takeNumber_b42 (fun _ _ _ => none) f = K at ih ⊢
        unfold f10_takeNumber_b42 f10_takeNumber_b113
        rw [g.1, g.2.1]
        have stop : ¬ (q_B T n i + l < n ∧ (48 ≤ T (q_B T n i + l) ∧ T (q_B T n i + l) ≤ 57)) → ∃ u, f10_takeNumber_b129 t (nI lo) (nI hi) = f10_takeNumber_b129 u (nI lo) (nI hi) ∧ (∀ k, k ≠ 149 → u k = t k) ∧ (∀ j, j ≠ 14 → j ≠ 15 → u 149 j = t 149 j) ∧ q_TM u T n (q_F T n (q_B T n i)) ∧ (q_F T n (q_B T n i) - q_B T n i ≤ 3 → u 149 15 = nI (q_nv T (q_B T n i) (q_F T n (q_B T n i) - q_B T n i))) := by
          intro w
          have e : q_F T n (q_B T n i) = q_B T n i + l := by rw [g3, q_F_eq, if_neg w]
          rw [e, Nat.add_sub_cancel_left]
          exact ⟨t, rfl, fun _ _ => rfl, fun _ _ _ => rfl, g, gv⟩
        by_cases e : q_B T n i + l < n
        · have ec : q_lh T n (q_B T n i + l) = nI (T (q_B T n i + l)) := by
            unfold q_lh
            rw [if_pos e]
          rw [if_neg (nI_ge e (by omega)), q_ld (by omega) (by decide), g.2.2 _ e]
          simp only [q_ob]
          rw [← ec, q_fig48, q_isF hT, ec]
          by_cases w : q_B T n i + l < n ∧ (48 ≤ T (q_B T n i + l) ∧ T (q_B T n i + l) ≤ 57)
          · rw [if_pos w, if_neg q_b1]
            have g3' : q_F T n (q_B T n i) = q_F T n (q_B T n i + (l + 1)) := by
              rw [g3, q_F_eq (i := q_B T n i + l), if_pos w]
              rfl
            have step : ∀ x : Int32, (l + 1 ≤ 3 → x = nI (q_nv T (q_B T n i) (l + 1))) → ∃ u, K (sf_s1 (sf_s1 t 149 15 x) 149 14 (sf_s1 t 149 15 x 149 14 + 1)) (nI lo) (nI hi) = f10_takeNumber_b129 u (nI lo) (nI hi) ∧ (∀ k, k ≠ 149 → u k = t k) ∧ (∀ j, j ≠ 14 → j ≠ 15 → u 149 j = t 149 j) ∧ q_TM u T n (q_F T n (q_B T n i)) ∧ (q_F T n (q_B T n i) - q_B T n i ≤ 3 → u 149 15 = nI (q_nv T (q_B T n i) (q_F T n (q_B T n i) - q_B T n i))) := by
              intro x hx
              rw [q_s1i (show 14 ≠ 15 by decide), g.2.1, nI_1]
              obtain ⟨u, u1, u2, u3, u4, u5⟩ := ih (l + 1) (sf_s1 (sf_s1 t 149 15 x) 149 14 (nI (q_B T n i + l + 1))) (by omega) (by omega) g3' ⟨by rw [q_s1i (by decide), q_s1i (by decide)]; exact g.1, q_s1s, fun j hj => by rw [q_s1k (by decide), q_s1k (by decide)]; exact g.2.2 j hj⟩ (fun hl => by rw [q_s1i (by decide), q_s1s]; exact hx hl)
              exact ⟨u, u1, fun k hk => by rw [u2 k hk, q_s1k hk, q_s1k hk], fun j j1 j2 => by rw [u3 j j1 j2, q_s1i j1, q_s1i j2], u4, u5⟩
            by_cases hl : l + 1 ≤ 3
            · have hv := gv (by omega)
              have hle := q_nv_le (i := q_B T n i) hT l (by omega)
              have hle2 : q_nv T (q_B T n i) l ≤ 10000 := by
                have hh0 := hT (q_B T n i + 0)
                have hh1 := hT (q_B T n i + 1)
                rcases (show l = 0 ∨ l = 1 ∨ l = 2 by omega) with rfl | rfl | rfl
                · show 0 ≤ 10000
                  omega
                · show 10 * 0 + (T (q_B T n i + 0) - 48) ≤ 10000
                  omega
                · show 10 * (10 * 0 + (T (q_B T n i + 0) - 48)) + (T (q_B T n i + 1) - 48) ≤ 10000
                  omega
              rw [hv, if_pos (show nI (q_nv T (q_B T n i) l) ≤ 10000 from nI_le (b := 10000) hle2 (by decide))]
              refine step _ (fun _ => ?_)
              have : (10 : Int32) * nI (q_nv T (q_B T n i) l) = nI (q_nv T (q_B T n i) l) * 10 := by grind
              rw [this, q_digit w.2.1]
              rfl
            · by_cases hx : t 149 15 ≤ 10000
              · rw [if_pos hx]
                exact step _ (fun q => absurd q hl)
              · rw [if_neg hx]
                exact step _ (fun q => absurd q hl)
          · rw [if_neg w, if_pos rfl]
            exact stop w
        · rw [if_pos (nI_le (by omega) (by omega))]
          exact stop (fun w => e w.1)
    obtain ⟨u, u1, u2, u3, u4, u5⟩ := key sf_FU 0 (sf_s1 (sf_s1 t1 149 16 (t1 149 14)) 149 15 0) (by unfold sf_FU; omega) (by omega) rfl ⟨by rw [q_s1i (by decide), q_s1i (by decide)]; exact e4.1, by rw [q_s1i (by decide), q_s1i (by decide)]; exact e4.2.1, fun j hj => by rw [q_s1k (by decide), q_s1k (by decide)]; exact e4.2.2 j hj⟩ (fun _ => q_s1s)
    have u1' : f10_takeNumber_L42 (sf_s1 (sf_s1 t1 149 16 (t1 149 14)) 149 15 0) (nI lo) (nI hi) = f10_takeNumber_b129 u (nI lo) (nI hi) := u1
    rw [u1']
    have u16 : u 149 16 = nI (q_B T n i) := by rw [u3 16 (by decide) (by decide), q_s1i (by decide), q_s1s, e4.2.1]
    have ok : ∀ k, k ≠ 149 → u k = t k := fun k hk => by rw [u2 k hk, q_s1k hk, q_s1k hk, e2 k hk]
    have oj : ∀ j, j ≠ 14 → j ≠ 15 → j ≠ 16 → u 149 j = t 149 j := fun j j1 j2 j3 => by rw [u3 j j1 j2, q_s1i j2, q_s1i j3, e3 j j1]
    unfold f10_takeNumber_b129 f10_takeNumber_b157 f10_fails f10_fails_b0
    rw [u4.2.1, u16, pk_sub hfg]
    have h3 : ((3 : Int32) < nI (q_F T n (q_B T n i) - q_B T n i)) = (3 < q_F T n (q_B T n i) - q_B T n i) := q_lt (a := 3) (by decide) (by omega)
    simp only [h3]
    unfold q_num
    rw [if_neg hne]
    by_cases c2 : 3 < q_F T n (q_B T n i) - q_B T n i
    · rw [if_pos c2, if_pos (Or.inl c2)]
      exact ⟨_, rfl, fun k hk => (q_s1k hk).trans (ok k hk), fun j j1 j2 j3 j4 => (q_s1i j1).trans (oj j j2 j3 j4), fun w => absurd (show (2 : Nat) = 0 from w) (by decide), fun _ => q_s1s⟩
    · rw [if_neg c2, u5 (by omega)]
      have hv := q_nv_le (i := q_B T n i) hT (q_F T n (q_B T n i) - q_B T n i) (by omega)
      have u15 := u5 (by omega)
      generalize q_nv T (q_B T n i) (q_F T n (q_B T n i) - q_B T n i) = v at *
      have hw : f10_in (nI v).toInt64 (nI lo).toInt64 (nI hi).toInt64 = if lo ≤ v ∧ v ≤ hi then 1 else 0 := by
        rw [q_in]
        unfold f9_within f9_within_b0 f9_within_b14
        simp only [q_lt (show v ≤ 2000000 by omega) (show lo ≤ 2000000 by omega), q_lt (show hi ≤ 2000000 by omega) (show v ≤ 2000000 by omega)]
        by_cases a1 : v < lo
        · rw [if_pos a1, if_neg (by omega)]
        · rw [if_neg a1]
          by_cases a2 : hi < v
          · rw [if_pos a2, if_neg (by omega)]
          · rw [if_neg a2, if_pos (by omega)]
      rw [hw]
      by_cases c3 : lo ≤ v ∧ v ≤ hi
      · rw [if_pos c3, if_neg q_b1, if_neg (show ¬ (3 < q_F T n (q_B T n i) - q_B T n i ∨ ¬ (lo ≤ v ∧ v ≤ hi)) from fun w => w.elim c2 (fun q => q c3))]
        exact ⟨u, rfl, ok, fun j j1 j2 j3 j4 => oj j j2 j3 j4, fun _ => ⟨u4.2.1, oj 13 (by decide) (by decide) (by decide), u15⟩, fun w => absurd rfl w⟩
      · rw [if_neg c3, if_pos rfl, if_pos (Or.inr c3)]
        exact ⟨_, rfl, fun k hk => (q_s1k hk).trans (ok k hk), fun j j1 j2 j3 j4 => (q_s1i j1).trans (oj j j2 j3 j4), fun w => absurd (show (2 : Nat) = 0 from w) (by decide), fun _ => q_s1s⟩
  · have hne : q_F T n (q_B T n i) = q_B T n i := by rw [q_F_eq, if_neg w0]
    rw [if_neg w0, if_pos rfl]
    unfold f10_fails f10_fails_b0 q_num
    rw [if_pos hne, e4.2.1]
    exact ⟨sf_s1 t1 149 13 (nI (q_B T n i)), rfl, fun k hk => (q_s1k hk).trans (e2 k hk), fun j j1 j2 j3 j4 => (q_s1i j1).trans (e3 j j2), fun w => absurd (show (1 : Nat) = 0 from w) (by decide), fun _ => q_s1s⟩
end TEXTT
