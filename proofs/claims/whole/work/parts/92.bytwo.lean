-- the best of many, and of the best the first by its label
def q_Best {ι : Type} (S : ι → Prop) (v l : ι → Nat) (big m : Nat) (x : Int32) : Prop :=
  (∀ i, S i → m ≤ v i) ∧ ((m = big ∧ x = -1) ∨ ∃ i, S i ∧ v i = m ∧ x = nI (l i) ∧ ∀ i', S i' → v i' = m → l i ≤ l i')
theorem q_Best.imp {ι : Type} {S S' : ι → Prop} {v l : ι → Nat} {big m : Nat} {x : Int32} (h : q_Best S v l big m x) (e : ∀ i, S i ↔ S' i) : q_Best S' v l big m x := by
  have : S = S' := funext (fun i => propext (e i))
  rw [← this]
  exact h
theorem q_Best.same {ι κ : Type} {S : ι → Prop} {S' : κ → Prop} {v l : ι → Nat} {v' l' : κ → Nat} {big big' m m' : Nat} {x x' : Int32} (h : q_Best S v l big m x) (h' : q_Best S' v' l' big' m' x') (f : ∀ i, S i → ∃ k, S' k ∧ v' k = v i ∧ l' k = l i) (g : ∀ k, S' k → ∃ i, S i ∧ v i = v' k ∧ l i = l' k) (i0 : ι) (hi0 : S i0) (hb : v i0 < big) (hb' : v i0 < big') : m = m' ∧ x = x' := by
  have m0 := h.1 i0 hi0
  obtain ⟨k0, k1, k2, k3⟩ := f i0 hi0
  have m1 := h'.1 k0 k1
  obtain ⟨a1, a2 | ⟨i, b1, b2, b3, b4⟩⟩ := h
  · omega
  · obtain ⟨c1, c2 | ⟨k, d1, d2, d3, d4⟩⟩ := h'
    · omega
    · obtain ⟨ki, e1, e2, e3⟩ := f i b1
      obtain ⟨ik, f1, f2, f3⟩ := g k d1
      have g1 := c1 ki e1
      have g2 := a1 ik f1
      have em : m = m' := by omega
      refine ⟨em, ?_⟩
      have g3 := b4 ik f1 (by omega)
      have g4 := d4 ki e1 (by omega)
      rw [b3, d3, show l i = l' k by omega]
theorem q_Best.stay {ι : Type} {S T : ι → Prop} {v l : ι → Nat} {big m e : Nat} {x : Int32} (h : q_Best S v l big m x) (hl : ∀ i, T i → l i = e) (hS : ∀ i, S i → l i ≤ e) (hT : ∀ i, T i → m ≤ v i) : q_Best (fun i => S i ∨ T i) v l big m x := by
  obtain ⟨a1, a2 | ⟨i, b1, b2, b3, b4⟩⟩ := h
  · exact ⟨fun i hi => hi.elim (a1 i) (hT i), Or.inl a2⟩
  · refine ⟨fun i hi => hi.elim (a1 i) (hT i), Or.inr ⟨i, Or.inl b1, b2, b3, fun i' hi' he => ?_⟩⟩
    rcases hi' with g | g
    · exact b4 i' g he
    · rw [hl i' g]
      exact hS i b1
theorem q_Best.less {ι : Type} {S T : ι → Prop} {v l : ι → Nat} {big m m' e : Nat} {x : Int32} (h : q_Best S v l big m x) (hl : ∀ i, T i → l i = e) (hm : m' < m) (hT : ∀ i, T i → m' ≤ v i) (i0 : ι) (hi0 : T i0) (hv : v i0 = m') : q_Best (fun i => S i ∨ T i) v l big m' (nI e) := by
  have a1 := h.1
  refine ⟨fun i hi => hi.elim (fun g => by have := a1 i g; omega) (hT i), Or.inr ⟨i0, Or.inr hi0, hv, by rw [hl i0 hi0], fun i' hi' he => ?_⟩⟩
  rcases hi' with g | g
  · have := a1 i' g
    omega
  · rw [hl i' g, hl i0 hi0]
    exact Nat.le_refl _
theorem q_Best.tie {ι : Type} {S : ι → Prop} {v l : ι → Nat} {big m : Nat} {x : Int32} (h : q_Best S v l big m x) (i0 : ι) (hv : v i0 = m) (hle : ∀ i, S i → v i = m → l i0 ≤ l i) : q_Best (fun i => S i ∨ i = i0) v l big m (nI (l i0)) := by
  have a1 := h.1
  refine ⟨fun i hi => hi.elim (a1 i) (fun g => by rw [g, hv]; exact Nat.le_refl _), Or.inr ⟨i0, Or.inr rfl, hv, rfl, fun i' hi' he => ?_⟩⟩
  rcases hi' with g | g
  · exact hle i' g he
  · rw [g]
    exact Nat.le_refl _
theorem q_fd_min {c : Nat → Nat} {lo : Nat} {st : Nat × Nat} : ∀ n j, lo ≤ j → j < lo + n → (q_fd c lo n st).1 ≤ c j
  | 0, j, h1, h2 => by omega
  | n + 1, j, h1, h2 => by
    show (q_stp c (q_fd c lo n st) (lo + n)).1 ≤ c j
    unfold q_stp
    by_cases e : j = lo + n
    · subst e
      split
      · exact Nat.le_refl _
      · omega
    · have := q_fd_min (c := c) (lo := lo) (st := st) n j h1 (by omega)
      split
      · show c (lo + n) ≤ c j
        omega
      · exact this
theorem q_fd_att {c : Nat → Nat} {lo : Nat} {st : Nat × Nat} : ∀ n, q_fd c lo n st = st ∨ ∃ j, lo ≤ j ∧ j < lo + n ∧ c j = (q_fd c lo n st).1
  | 0 => Or.inl rfl
  | n + 1 => by
    have ih := q_fd_att (c := c) (lo := lo) (st := st) n
    show q_stp c (q_fd c lo n st) (lo + n) = st ∨ ∃ j, lo ≤ j ∧ j < lo + (n + 1) ∧ c j = (q_stp c (q_fd c lo n st) (lo + n)).1
    unfold q_stp
    split
    · exact Or.inr ⟨lo + n, by omega, by omega, rfl⟩
    · rcases ih with e | ⟨j, e1, e2, e3⟩
      · exact Or.inl e
      · exact Or.inr ⟨j, e1, by omega, e3⟩
-- every choice is a way
def q_pr (P ld : Nat) : Nat → Nat
  | 0 => 1
  | k + 1 => q_pr P ld k * q_rd P ld k
theorem q_pr_N {B P ld : Nat} : ∀ k, k ≤ B → q_Nx B P ld k * q_pr P ld (B - k) = q_pr P ld B
  | 0, _ => Nat.one_mul _
  | k + 1, h => by
    have ih := q_pr_N (P := P) (ld := ld) k (show k ≤ B by omega)
    have e : q_pr P ld (B - k) = q_pr P ld (B - (k + 1)) * q_rd P ld (B - (k + 1)) := by
      rw [show B - k = (B - (k + 1)) + 1 by omega]
      rfl
    show q_rd P ld (B - (k + 1)) * q_Nx B P ld k * q_pr P ld (B - (k + 1)) = _
    rw [← ih, e, Nat.mul_comm (q_rd P ld (B - (k + 1))), Nat.mul_assoc, Nat.mul_comm (q_rd P ld (B - (k + 1)))]
theorem q_pr_B {B P ld : Nat} : q_Nx B P ld B = q_pr P ld B := by
  have := q_pr_N (P := P) (ld := ld) B (Nat.le_refl B)
  rw [Nat.sub_self] at this
  rw [← this]
  exact (Nat.mul_one _).symm
theorem q_surj {P ld : Nat} {W : Nat → Nat} : ∀ k, (∀ g, g < k → W g < q_rd P ld g) → ∃ j, j < q_pr P ld k ∧ ∀ g, g < k → q_dg P ld k j g = W g
  | 0, _ => ⟨0, Nat.zero_lt_one, fun g hg => absurd hg (by omega)⟩
  | k + 1, h => by
    obtain ⟨j, h1, h2⟩ := q_surj (W := W) k (fun g hg => h g (by omega))
    have hk := h k (by omega)
    refine ⟨j * q_rd P ld k + W k, ?_, fun g hg => ?_⟩
    · show _ < q_pr P ld k * q_rd P ld k
      have : (j + 1) * q_rd P ld k ≤ q_pr P ld k * q_rd P ld k := Nat.mul_le_mul_right _ h1
      rw [Nat.succ_mul] at this
      omega
    · show (if g = k then (j * q_rd P ld k + W k) % q_rd P ld k else q_dg P ld k ((j * q_rd P ld k + W k) / q_rd P ld k) g) = W g
      rw [q_div_at hk, q_mod_at hk]
      by_cases e : g = k
      · rw [if_pos e, e]
      · rw [if_neg e]
        exact h2 g (by omega)
theorem q_dg_rd {P ld : Nat} (hP0 : 0 < P) : ∀ k j g, g < k → q_dg P ld k j g < q_rd P ld g
  | 0, _, g, h => by omega
  | k + 1, j, g, h => by
    show (if g = k then j % q_rd P ld k else q_dg P ld k (j / q_rd P ld k) g) < q_rd P ld g
    by_cases e : g = k
    · rw [if_pos e, e]
      exact Nat.mod_lt _ (q_rd_pos hP0 k)
    · rw [if_neg e]
      exact q_dg_rd hP0 k _ g (by omega)
-- by two: the class
section TWO
variable {sh a : Nat → Nat → Nat} {B P ld : Nat} {z : Int32}
def q_ctw (sh a : Nat → Nat → Nat) (B P ld p q j : Nat) : Nat := q_pc sh a P ld (a 6 0) (q_l0 a B ld p q) (q_r0 sh a B ld (a 6 0) p q) B j
theorem q_pc00 (SG : q_SG B P sh) (hl : ld < B) {p q d R0 : Nat} (hp : p < P) (hq : q < P) (hpq : p ≠ q) : q_pc sh a P ld d (q_l0 a B ld p q) R0 0 0 = (a 0 ld - a 0 ld / 2 - sh 2 p) + (a 0 ld / 2 - sh 2 q) + R0 := by
  unfold q_pc
  show q_sm P (fun p' => q_l0 a B ld p q p' - sh 2 p') + R0 = _
  rw [q_sm_congr (g := fun p' => (if p = p' then a 0 ld - a 0 ld / 2 - sh 2 p' else 0) + (if q = p' then a 0 ld / 2 - sh 2 p' else 0)) (fun p' _ => by
    show q_l0 a B ld p q p' - sh 2 p' = _ + _
    unfold q_l0
    rw [if_pos hl]
    by_cases e1 : p = p'
    · rw [if_pos e1, if_pos e1, if_neg (show ¬ q = p' by omega)]
      rfl
    · rw [if_neg e1, if_neg e1]
      by_cases e2 : q = p'
      · rw [if_pos e2, if_pos e2, Nat.zero_add]
      · rw [if_neg e2, if_neg e2, Nat.zero_sub]), q_sm_plus, q_sm_one (r := fun p' => a 0 ld - a 0 ld / 2 - sh 2 p') hp, q_sm_one (r := fun p' => a 0 ld / 2 - sh 2 p') hq]
def q_Si (P N : Nat) (D : Nat → Nat → Prop) : Nat × Nat × Nat → Prop := fun i => i.1 < i.2.1 ∧ i.2.1 < P ∧ i.2.2 < N ∧ D i.1 i.2.1
def q_Bi (sh a : Nat → Nat → Nat) (B P ld : Nat) (D : Nat → Nat → Prop) (m : Nat) (x : Int32) : Prop := q_Best (q_Si P (q_Nx B P ld B) D) (fun i => q_ctw sh a B P ld i.1 i.2.1 i.2.2) (fun i => 10 * i.1 + i.2.1) 2147483647 m x
def q_Ti (sh a : Nat → Nat → Nat) (B P ld : Nat) (z : Int32) (s t : sf_Sg) (D : Nat → Nat → Prop) : Prop :=
  (∀ k, (k < 22 ∨ 25 < k) → t k = s k) ∧ (∀ p, p < P → t 24 p = 0) ∧ ∃ m, m ≤ 2147483647 ∧ t 22 0 = nI m ∧ q_Bi sh a B P ld D m (t 22 1)
theorem c_pair {s t : sf_Sg} (S : q_SC s B P sh) (SG : q_SG B P sh) (L : q_LC s B P 16 a z) (G : q_LT B P a) (hl : ld < B) {p q : Nat} (hp : p < q) (hq : q < P) (T : q_Ti sh a B P ld z s t (fun p' q' => p' < p ∨ (p' = p ∧ q' < q))) (K : sf_Sg → Int32 → Int32 → Int32 → Int32 → Int32 → Int32 → Option sf_Sg) (M : sf_Sg → Int32 → Int32 → Int32 → Int32 → Int32 → Int32 → Int32 → Option sf_Sg) : ∃ u, f2_layByTwo_b53 K M t (nI ld) (nI (a 0 ld)) (nI (a 6 0)) (nI P) (nI (a 0 ld / 2)) (nI p) (nI q) = M u (nI ld) (nI (a 0 ld)) (nI (a 6 0)) (nI P) (nI (a 0 ld / 2)) (nI p) (nI (q + 1)) ∧ q_Ti sh a B P ld z s u (fun p' q' => p' < p ∨ (p' = p ∧ q' < q + 1)) := by
  have hB := SG.1
  have hP5 := SG.2.1
  obtain ⟨h1, h2, m, h3, h4, h5⟩ := T
  have hw := G.1 ld hl
  have hdv : a 0 ld / 2 ≤ a 0 ld := Nat.div_le_self _ _
  unfold f2_layByTwo_b53
  rw [if_neg (nI_ge hq (by omega)), show (10 : Int32) = nI 10 from rfl, q_mulI, nI_add, pk_sub hdv]
  obtain ⟨t0, ht0⟩ : ∃ t0, t0 = sf_s1 t 22 5 (nI (10 * p + q)) := ⟨_, rfl⟩
  rw [← ht0]
  have o0 : ∀ k, k ≠ 22 → t0 k = t k := fun k hk => by rw [ht0, q_s1k hk]
  have S0 : q_SC t0 B P sh := S.of (fun k a1 a2 => (o0 k (by omega)).trans (h1 k (by omega)))
  rw [c_layOn S0 SG (show p < P by omega) (l := 0) (by rw [o0 24 (by decide)]; exact h2 p (by omega)) (by decide) (by omega)]
  simp only [q_ob]
  obtain ⟨t1, ht1⟩ : ∃ t1, t1 = sf_s1 t0 24 p (nI (0 + (a 0 ld - a 0 ld / 2))) := ⟨_, rfl⟩
  rw [← ht1]
  have o1 : ∀ k, k ≠ 22 → k ≠ 24 → t1 k = t k := fun k k1 k2 => by rw [ht1, q_s1k k2, o0 k k1]
  have S1 : q_SC t1 B P sh := S.of (fun k a1 a2 => (o1 k (by omega) (by omega)).trans (h1 k (by omega)))
  have L1 : q_LC t1 B P 16 a z := L.of (fun k a1 a2 => (o1 k (by omega) (by omega)).trans (h1 k (by omega)))
  have rub1 : f6_rubOf t1 (nI ld) (nI p) 1 (nI (a 6 0)) = some (nI (q_rub sh a ld p true (a 6 0))) := c_rubOf S1 SG L1 G true hl (by omega) G.2.2
  rw [rub1]
  simp only [q_ob]
  rw [c_layOn S1 SG hq (l := 0) (by rw [ht1, q_s1i (by omega), o0 24 (by decide)]; exact h2 q hq) (by decide) (by omega)]
  simp only [q_ob]
  obtain ⟨t2, ht2⟩ : ∃ t2, t2 = sf_s1 t1 24 q (nI (0 + a 0 ld / 2)) := ⟨_, rfl⟩
  rw [← ht2]
  have o2 : ∀ k, k ≠ 22 → k ≠ 24 → t2 k = t k := fun k k1 k2 => by rw [ht2, q_s1k k2, o1 k k1 k2]
  have S2 : q_SC t2 B P sh := S.of (fun k a1 a2 => (o2 k (by omega) (by omega)).trans (h1 k (by omega)))
  have L2 : q_LC t2 B P 16 a z := L.of (fun k a1 a2 => (o2 k (by omega) (by omega)).trans (h1 k (by omega)))
  have rub2 : f6_rubOf t2 (nI ld) (nI q) 1 (nI (a 6 0)) = some (nI (q_rub sh a ld q true (a 6 0))) := c_rubOf S2 SG L2 G true hl hq G.2.2
  rw [rub2]
  simp only [q_ob]
  have hr0 : q_r0 sh a B ld (a 6 0) p q = q_rub sh a ld p true (a 6 0) + q_rub sh a ld q true (a 6 0) := by
    unfold q_r0
    rw [if_pos hl]
  have r80 : q_r0 sh a B ld (a 6 0) p q ≤ 80 := by
    have e1 := q_rub_le (a := a) (g := ld) (p := p) (d := a 6 0) (b := true) (SG.2.2.1 ld hl).2 (SG.2.2.2 p (by omega)).2.2
    have e2 := q_rub_le (a := a) (g := ld) (p := q) (d := a 6 0) (b := true) (SG.2.2.1 ld hl).2 (SG.2.2.2 q hq).2.2
    omega
  have eg : nI (0 + (a 0 ld - a 0 ld / 2) - sh 2 p - (0 - sh 2 p)) + nI (q_rub sh a ld p true (a 6 0)) + nI (0 + a 0 ld / 2 - sh 2 q - (0 - sh 2 q)) + nI (q_rub sh a ld q true (a 6 0)) = nI (q_pc sh a P ld (a 6 0) (q_l0 a B ld p q) (q_r0 sh a B ld (a 6 0) p q) 0 0) := by
    rw [nI_add, nI_add, nI_add, q_pc00 SG hl (by omega) hq (by omega), hr0]
    exact congrArg nI (by omega)
  rw [eg]
  have l0 : ∀ p', p' < P → q_l0 a B ld p q p' ≤ 60 := by
    intro p' _
    unfold q_l0
    rw [if_pos hl]
    repeat' split
    all_goals omega
  have t22 : t2 22 = t0 22 := by rw [ht2, q_s1k (by decide), ht1, q_s1k (by decide)]
  obtain ⟨u, u1, u2, u3, u4, u5, u6, u7⟩ := c_lay (ld := ld) (d := a 6 0) (L0 := q_l0 a B ld p q) (R0 := q_r0 sh a B ld (a 6 0) p q) (z := z) (lx := nI ld) SG G rfl l0 r80 (by omega) (fun g hg => q_eq (by omega) (by omega)) B 9 0 0 t2 (m, 0) (by omega) (by omega) ⟨S2, L2, fun p' hp' => by
    show t2 24 p' = nI (q_l0 a B ld p q p')
    unfold q_l0
    rw [if_pos hl, ht2]
    by_cases e2 : p' = q
    · subst e2
      rw [q_s1s, if_neg (show ¬ p = p' by omega), if_pos rfl, Nat.zero_add]
    · rw [q_s1i e2, ht1]
      by_cases e1 : p' = p
      · subst e1
        rw [q_s1s, if_pos rfl, Nat.zero_add]
      · rw [q_s1i e1, if_neg (show ¬ p = p' by omega), if_neg (show ¬ q = p' by omega), o0 24 (by decide)]
        exact h2 p' hp', fun i hi => absurd hi (by omega), by rw [t22, ht0, q_s1i (by decide)]; exact h4, by show m < 2 ^ 31; omega⟩
  have u1' : f2_lay 9 t2 0 (nI (q_pc sh a P ld (a 6 0) (q_l0 a B ld p q) (q_r0 sh a B ld (a 6 0) p q) 0 0)) (nI ld) = some u := u1
  rw [show (0 : Int32) = nI 0 from rfl] at u1'
  rw [show f2_lay 9 t2 0 (nI (q_pc sh a P ld (a 6 0) (q_l0 a B ld p q) (q_r0 sh a B ld (a 6 0) p q) 0 0)) (nI ld) = some u from u1']
  simp only [q_ob]
  have up : u 24 p = nI (a 0 ld - a 0 ld / 2) := by rw [u3 p (by omega), ht2, q_s1i (by omega), ht1, q_s1s, Nat.zero_add]
  have uq : u 24 q = nI (a 0 ld / 2) := by rw [u3 q hq, ht2, q_s1s, Nat.zero_add]
  rw [q_ld (k := 24) (show p < 5 by omega) (by decide), up]
  simp only [q_ob]
  rw [q_st (show p < 5 by omega) (by decide)]
  simp only [q_ob]
  rw [q_ld (k := 24) (show q < 5 by omega) (by decide), q_s1i (show q ≠ p by omega), uq]
  simp only [q_ob]
  rw [q_st (show q < 5 by omega) (by decide)]
  simp only [q_ob]
  rw [nI_1]
  refine ⟨_, rfl, fun k hk => ?_, fun p' hp' => ?_, (q_fd (q_ctw sh a B P ld p q) 0 (q_Nx B P ld B) (m, 0)).1, ?_, ?_, ?_⟩
  · rw [q_s1k (by omega), q_s1k (by omega), u2 k (by omega) (by omega) (by omega) (by omega), o2 k (by omega) (by omega), h1 k hk]
  · have z1 : ∀ x : Nat, nI x - nI x = 0 := fun x => by rw [pk_sub (Nat.le_refl x), Nat.sub_self]; rfl
    by_cases e2 : p' = q
    · subst e2
      rw [q_s1s, z1]
    · rw [q_s1i e2]
      by_cases e1 : p' = p
      · subst e1
        rw [q_s1s, z1]
      · rw [q_s1i e1, u3 p' hp', ht2, q_s1i e2, ht1, q_s1i e1, o0 24 (by decide)]
        exact h2 p' hp'
  · have := q_fd_le (c := q_ctw sh a B P ld p q) (lo := 0) (st := (m, 0)) (q_Nx B P ld B)
    have e : ((m, 0) : Nat × Nat).1 = m := rfl
    omega
  · rw [q_s1k (by decide), q_s1k (by decide)]
    rw [Nat.zero_mul] at u6
    exact u6
  · rw [q_s1k (by decide), q_s1k (by decide)]
    rw [Nat.zero_mul] at u7
    have hset : ∀ i : Nat × Nat × Nat, (q_Si P (q_Nx B P ld B) (fun p' q' => p' < p ∨ (p' = p ∧ q' < q)) i ∨ (i.1 = p ∧ i.2.1 = q ∧ i.2.2 < q_Nx B P ld B)) ↔ q_Si P (q_Nx B P ld B) (fun p' q' => p' < p ∨ (p' = p ∧ q' < q + 1)) i := by
      intro i
      unfold q_Si
      constructor
      · rintro (⟨g1, g2, g3, g4⟩ | ⟨g1, g2, g3⟩)
        · exact ⟨g1, g2, g3, by omega⟩
        · exact ⟨by omega, by omega, g3, by omega⟩
      · rintro ⟨g1, g2, g3, g4⟩
        by_cases e : i.1 = p ∧ i.2.1 = q
        · exact Or.inr ⟨e.1, e.2, g3⟩
        · exact Or.inl ⟨g1, g2, g3, by omega⟩
    have hmin : ∀ i : Nat × Nat × Nat, (i.1 = p ∧ i.2.1 = q ∧ i.2.2 < q_Nx B P ld B) → (q_fd (q_ctw sh a B P ld p q) 0 (q_Nx B P ld B) (m, 0)).1 ≤ q_ctw sh a B P ld i.1 i.2.1 i.2.2 := by
      rintro i ⟨g1, g2, g3⟩
      rw [g1, g2]
      exact q_fd_min _ _ (by omega) (by omega)
    rcases u7 with ⟨w1, w2, w3⟩ | ⟨w1, w2, w3⟩
    · have e1 : (q_fd (q_ctw sh a B P ld p q) 0 (q_Nx B P ld B) (m, 0)).1 = m := congrArg Prod.fst w1
      have e2 : u 22 1 = t 22 1 := by rw [w2, t22, ht0, q_s1i (by decide)]
      rw [e1] at hmin ⊢
      rw [e2]
      exact (h5.stay (e := 10 * p + q) (T := fun i => i.1 = p ∧ i.2.1 = q ∧ i.2.2 < q_Nx B P ld B) (fun i hi => by rw [hi.1, hi.2.1]) (fun i hi => by
        obtain ⟨g1, g2, g3, g4⟩ := hi
        show 10 * i.1 + i.2.1 ≤ 10 * p + q
        omega) hmin).imp hset
    · have e2 : u 22 1 = nI (10 * p + q) := by rw [w2, t22, ht0, q_s1s]
      rw [e2]
      rcases q_fd_att (c := q_ctw sh a B P ld p q) (lo := 0) (st := (m, 0)) (q_Nx B P ld B) with w4 | ⟨j, j1, j2, j3⟩
      · exfalso
        have e1 : (q_fd (q_ctw sh a B P ld p q) 0 (q_Nx B P ld B) (m, 0)).1 = m := congrArg Prod.fst w4
        have w1' : (q_fd (q_ctw sh a B P ld p q) 0 (q_Nx B P ld B) (m, 0)).1 < m := w1
        omega
      · exact (h5.less (e := 10 * p + q) (T := fun i => i.1 = p ∧ i.2.1 = q ∧ i.2.2 < q_Nx B P ld B) (fun i hi => by rw [hi.1, hi.2.1]) w1 hmin (p, q, j) ⟨rfl, rfl, by show j < _; omega⟩ j3).imp hset
theorem c_layByTwo {s : sf_Sg} (S : q_SC s B P sh) (SG : q_SG B P sh) (L : q_LC s B P 16 a z) (G : q_LT B P a) (hl : ld < B) : ∃ u, f2_layByTwo s (nI ld) = some u ∧ q_Ti sh a B P ld z s u (fun _ _ => True) := by
  have hB := SG.1
  have hP5 := SG.2.1
  have inner : ∀ (K : sf_Sg → Int32 → Int32 → Int32 → Int32 → Int32 → Int32 → Option sf_Sg) (p : Nat), p < P → ∀ (f q : Nat) (t : sf_Sg), P < f + q → p < q → q ≤ P → q_Ti sh a B P ld z s t (fun p' q' => p' < p ∨ (p' = p ∧ q' < q)) → ∃ u, sf_it (f2_layByTwo_b53 K) (fun _ _ _ _ _ _ _ _ => none) f t (nI ld) (nI (a 0 ld)) (nI (a 6 0)) (nI P) (nI (a 0 ld / 2)) (nI p) (nI q) = K u (nI ld) (nI (a 0 ld)) (nI (a 6 0)) (nI P) (nI (a 0 ld / 2)) (nI (p + 1)) ∧ q_Ti sh a B P ld z s u (fun p' q' => p' < p + 1) := by
    intro K p hp f
    induction f with
    | zero => intro q t h1 h2 h3; omega
    | succ f ih =>
      intro q t h1 h2 h3 T
      rw [q_it]
      generalize sf_it (f2_layByTwo_b53 K) (fun _ _ _ _ _ _ _ _ => none) f = M at ih ⊢
      by_cases hq : q = P
      · subst hq
        unfold f2_layByTwo_b53 f2_layByTwo_b158
        rw [if_pos (nI_le (Nat.le_refl _) (by omega)), nI_1]
        obtain ⟨g1, g2, m, g3, g4, g5⟩ := T
        refine ⟨t, rfl, g1, g2, m, g3, g4, g5.imp (fun i => ?_)⟩
        unfold q_Si
        constructor
        · rintro ⟨e1, e2, e3, e4⟩
          exact ⟨e1, e2, e3, by omega⟩
        · rintro ⟨e1, e2, e3, e4⟩
          exact ⟨e1, e2, e3, by omega⟩
      · obtain ⟨u, u1, u2⟩ := c_pair S SG L G hl h2 (show q < P by omega) T K M
        rw [u1]
        exact ih (q + 1) u (by omega) (by omega) (by omega) u2
  have outer : ∀ (f p : Nat) (t : sf_Sg), P < f + p → p ≤ P → q_Ti sh a B P ld z s t (fun p' q' => p' < p) → ∃ u, sf_it f2_layByTwo_b40 (fun _ _ _ _ _ _ _ => none) f t (nI ld) (nI (a 0 ld)) (nI (a 6 0)) (nI P) (nI (a 0 ld / 2)) (nI p) = some u ∧ q_Ti sh a B P ld z s u (fun _ _ => True) := by
    intro f
    induction f with
    | zero => intro p t h1 h2; omega
    | succ f ih =>
      intro p t h1 h2 T
      rw [q_it]
      generalize sf_it f2_layByTwo_b40 (fun _ _ _ _ _ _ _ => none) f = K at ih ⊢
      unfold f2_layByTwo_b40
      by_cases hp : p = P
      · subst hp
        rw [if_pos (nI_le (Nat.le_refl _) (by omega))]
        obtain ⟨g1, g2, m, g3, g4, g5⟩ := T
        refine ⟨t, rfl, g1, g2, m, g3, g4, g5.imp (fun i => ?_)⟩
        unfold q_Si
        constructor
        · rintro ⟨e1, e2, e3, e4⟩
          exact ⟨e1, e2, e3, trivial⟩
        · rintro ⟨e1, e2, e3, e4⟩
          exact ⟨e1, e2, e3, by omega⟩
      · have hlt : p < P := by omega
        rw [if_neg (nI_ge hlt (by omega)), nI_1]
        obtain ⟨g1, g2, m, g3, g4, g5⟩ := T
        obtain ⟨u, u1, u2⟩ := inner K p hlt sf_FU (p + 1) t (by unfold sf_FU; omega) (by omega) (by omega) ⟨g1, g2, m, g3, g4, g5.imp (fun i => by
          unfold q_Si
          constructor
          · rintro ⟨e1, e2, e3, e4⟩
            exact ⟨e1, e2, e3, by omega⟩
          · rintro ⟨e1, e2, e3, e4⟩
            exact ⟨e1, e2, e3, by omega⟩)⟩
        have u1' : f2_layByTwo_L53 K t (nI ld) (nI (a 0 ld)) (nI (a 6 0)) (nI P) (nI (a 0 ld / 2)) (nI p) (nI (p + 1)) = _ := u1
        rw [u1']
        exact ih (p + 1) u (by omega) (by omega) u2
  obtain ⟨t, t1, t2, t3, t4, t5, t6⟩ := c_begin (s := s)
  obtain ⟨u, u1, u2⟩ := outer sf_FU 0 t (by unfold sf_FU; omega) (by omega) ⟨fun k hk => t2 k (by omega) (by omega), fun p hp => t6 p (by omega), 2147483647, Nat.le_refl _, t3, fun i hi => by
    obtain ⟨e1, e2, e3, e4⟩ := hi
    omega, Or.inl ⟨rfl, t4⟩⟩
  refine ⟨u, ?_, u2⟩
  unfold f2_layByTwo f2_layByTwo_b0
  rw [t1]
  simp only [q_ob]
  have w17 : t 17 ld = nI (a 0 ld) := by
    rw [t2 17 (by decide) (by decide)]
    exact (L.1 ld hl).1
  have w16 : t 16 0 = nI (a 6 0) := by
    rw [t2 16 (by decide) (by decide)]
    exact L.2.2.2
  have w10 : t 10 3 = nI P := by
    rw [t2 10 (by decide) (by decide)]
    exact S.2.1
  rw [q_ld (k := 17) (show ld < 6 by omega) (by decide), w17, w16, w10]
  simp only [q_ob]
  rw [q_div2 (by have := (G.1 ld hl).2.1; omega)]
  exact u1
end TWO
