-- folds: the first least
def q_stp (c : Nat → Nat) (st : Nat × Nat) (j : Nat) : Nat × Nat := if c j < st.1 then (c j, j) else st
def q_fd (c : Nat → Nat) (lo : Nat) : Nat → Nat × Nat → Nat × Nat
  | 0, st => st
  | n + 1, st => q_stp c (q_fd c lo n st) (lo + n)
theorem q_fd_add {c : Nat → Nat} {lo x : Nat} {st : Nat × Nat} : ∀ y, q_fd c lo (x + y) st = q_fd c (lo + x) y (q_fd c lo x st)
  | 0 => rfl
  | y + 1 => by
    show q_stp c (q_fd c lo (x + y) st) (lo + (x + y)) = q_stp c (q_fd c (lo + x) y (q_fd c lo x st)) (lo + x + y)
    rw [q_fd_add y, Nat.add_assoc]
theorem q_fd_or {c : Nat → Nat} {lo : Nat} {st : Nat × Nat} : ∀ n, q_fd c lo n st = st ∨ (q_fd c lo n st).1 < st.1
  | 0 => Or.inl rfl
  | n + 1 => by
    have ih := q_fd_or (c := c) (lo := lo) (st := st) n
    show q_stp c (q_fd c lo n st) (lo + n) = st ∨ (q_stp c (q_fd c lo n st) (lo + n)).1 < st.1
    unfold q_stp
    by_cases h : c (lo + n) < (q_fd c lo n st).1
    · rw [if_pos h]
      right
      show c (lo + n) < st.1
      rcases ih with e | e
      · rw [e] at h
        exact h
      · omega
    · rw [if_neg h]
      exact ih
theorem q_fd_no {c : Nat → Nat} {lo : Nat} {st : Nat × Nat} : ∀ n, (∀ j, lo ≤ j → j < lo + n → st.1 ≤ c j) → q_fd c lo n st = st
  | 0, _ => rfl
  | n + 1, h => by
    show q_stp c (q_fd c lo n st) (lo + n) = st
    rw [q_fd_no n (fun j a1 a2 => h j a1 (by omega))]
    unfold q_stp
    have := h (lo + n) (by omega) (by omega)
    rw [if_neg (by omega)]
theorem q_fd_le {c : Nat → Nat} {lo : Nat} {st : Nat × Nat} (n : Nat) : (q_fd c lo n st).1 ≤ st.1 := by
  rcases q_fd_or (c := c) (lo := lo) (st := st) n with e | e
  · rw [e]
    exact Nat.le_refl _
  · omega
theorem q_sm_bump {f f' : Nat → Nat} {p : Nat} (hf : ∀ i, i ≠ p → f' i = f i) (hp : f p ≤ f' p) : ∀ {n : Nat}, p < n → q_sm n f' = q_sm n f + (f' p - f p)
  | 0, h => absurd h (by omega)
  | n + 1, h => by
    show q_sm n f' + f' n = q_sm n f + f n + (f' p - f p)
    by_cases e : p = n
    · subst e
      rw [q_sm_congr (fun i hi => hf i (by omega))]
      omega
    · rw [q_sm_bump hf hp (show p < n by omega), hf n (by omega)]
      omega
-- laying burdens on backs
section LAY
variable (sh a : Nat → Nat → Nat) (B P ld d : Nat) (L0 : Nat → Nat) (R0 : Nat)
def q_rd (g : Nat) : Nat := if g = ld then 1 else P
def q_wt (g : Nat) : Nat := if g = ld then 0 else a 0 g
def q_rb (g p : Nat) : Nat := if g = ld then 0 else q_rub sh a g p false d
def q_Lx : Nat → Nat → Nat → Nat
  | 0, _, p => L0 p
  | g + 1, j, p => q_Lx g (j / q_rd P ld g) p + if j % q_rd P ld g = p then q_wt a ld g else 0
def q_Rx : Nat → Nat → Nat
  | 0, _ => R0
  | g + 1, j => q_Rx g (j / q_rd P ld g) + q_rb sh a ld d g (j % q_rd P ld g)
def q_pc (g j : Nat) : Nat := q_sm P (fun p => q_Lx a P ld L0 g j p - sh 2 p) + q_Rx sh a P ld d R0 g j
def q_dg : Nat → Nat → Nat → Nat
  | 0, _, _ => 0
  | g + 1, j, i => if i = g then j % q_rd P ld g else q_dg g (j / q_rd P ld g) i
def q_Nx : Nat → Nat
  | 0 => 1
  | k + 1 => q_rd P ld (B - (k + 1)) * q_Nx k
end LAY
section LAYT
variable {sh a : Nat → Nat → Nat} {B P ld d : Nat} {L0 : Nat → Nat} {R0 : Nat}
theorem q_rd_pos (hP : 0 < P) (g : Nat) : 0 < q_rd P ld g := by
  unfold q_rd
  split <;> omega
theorem q_div_at {r j p : Nat} (h : p < r) : (j * r + p) / r = j := by
  rw [Nat.mul_comm, Nat.mul_add_div (by omega), Nat.div_eq_of_lt h]
  rfl
theorem q_mod_at {r j p : Nat} (h : p < r) : (j * r + p) % r = p := by
  rw [Nat.mul_comm, Nat.mul_add_mod, Nat.mod_eq_of_lt h]
theorem q_pc_mono {g j : Nat} : q_pc sh a P ld d L0 R0 g (j / q_rd P ld g) ≤ q_pc sh a P ld d L0 R0 (g + 1) j := by
  unfold q_pc
  have h1 : ∀ {n : Nat}, q_sm n (fun p => q_Lx a P ld L0 g (j / q_rd P ld g) p - sh 2 p) ≤ q_sm n (fun p => q_Lx a P ld L0 (g + 1) j p - sh 2 p) := by
    intro n
    induction n with
    | zero => exact Nat.le_refl _
    | succ n ih =>
      show q_sm n _ + (q_Lx a P ld L0 g (j / q_rd P ld g) n - sh 2 n) ≤ q_sm n _ + (q_Lx a P ld L0 g (j / q_rd P ld g) n + (if j % q_rd P ld g = n then q_wt a ld g else 0) - sh 2 n)
      omega
  have h2 : q_Rx sh a P ld d R0 g (j / q_rd P ld g) ≤ q_Rx sh a P ld d R0 (g + 1) j := Nat.le_add_right _ _
  have := h1 (n := P)
  omega
theorem q_pc_low (hP : 0 < P) : ∀ (k g j0 j : Nat), g + k = B → j0 * q_Nx B P ld k ≤ j → j < j0 * q_Nx B P ld k + q_Nx B P ld k → q_pc sh a P ld d L0 R0 g j0 ≤ q_pc sh a P ld d L0 R0 B j
  | 0, g, j0, j, h1, h2, h3 => by
    have e1 : q_Nx B P ld 0 = 1 := rfl
    rw [e1] at h2 h3
    have : j = j0 := by omega
    subst this
    have : g = B := by omega
    subst this
    exact Nat.le_refl _
  | k + 1, g, j0, j, h1, h2, h3 => by
    have hg : B - (k + 1) = g := by omega
    have e1 : q_Nx B P ld (k + 1) = q_rd P ld g * q_Nx B P ld k := by
      show q_rd P ld (B - (k + 1)) * q_Nx B P ld k = _
      rw [hg]
    rw [e1] at h2 h3
    have hN : 0 < q_Nx B P ld k := by
      rcases Nat.eq_zero_or_pos (q_Nx B P ld k) with e | e
      · rw [e, Nat.mul_zero, Nat.mul_zero] at h3
        omega
      · exact e
    have hr := q_rd_pos (ld := ld) hP g
    obtain ⟨i, hi⟩ : ∃ i, i = j / q_Nx B P ld k := ⟨_, rfl⟩
    have hlo : i * q_Nx B P ld k ≤ j := by
      rw [hi]
      exact Nat.div_mul_le_self _ _
    have hhi : j < i * q_Nx B P ld k + q_Nx B P ld k := by
      have := Nat.lt_div_mul_add (a := j) hN
      rw [← hi] at this
      exact this
    have e2 : i / q_rd P ld g = j0 := by
      rw [hi, Nat.div_div_eq_div_mul, Nat.mul_comm (q_Nx B P ld k)]
      apply Nat.div_eq_of_lt_le
      · rw [Nat.mul_comm]
        rw [Nat.mul_comm] at h2
        exact h2
      · rw [Nat.succ_mul, Nat.mul_comm j0]
        rw [Nat.mul_comm j0] at h3
        exact h3
    have m1 := q_pc_mono (sh := sh) (a := a) (P := P) (ld := ld) (d := d) (L0 := L0) (R0 := R0) (g := g) (j := i)
    rw [e2] at m1
    exact Nat.le_trans m1 (q_pc_low hP k (g + 1) i j (by omega) hlo hhi)
theorem q_pc_step {g j p : Nat} (hg : g ≠ ld) (hp : p < P) : q_pc sh a P ld d L0 R0 (g + 1) (j * P + p) = q_pc sh a P ld d L0 R0 g j + ((q_Lx a P ld L0 g j p + a 0 g - sh 2 p) - (q_Lx a P ld L0 g j p - sh 2 p) + q_rub sh a g p false d) := by
  have hr : q_rd P ld g = P := by
    unfold q_rd
    rw [if_neg hg]
  have hw : q_wt a ld g = a 0 g := by
    unfold q_wt
    rw [if_neg hg]
  have hb : q_rb sh a ld d g p = q_rub sh a g p false d := by
    unfold q_rb
    rw [if_neg hg]
  unfold q_pc
  have e1 : q_Rx sh a P ld d R0 (g + 1) (j * P + p) = q_Rx sh a P ld d R0 g j + q_rub sh a g p false d := by
    show q_Rx sh a P ld d R0 g ((j * P + p) / q_rd P ld g) + q_rb sh a ld d g ((j * P + p) % q_rd P ld g) = _
    rw [hr, q_div_at hp, q_mod_at hp, hb]
  have e2 : ∀ p', q_Lx a P ld L0 (g + 1) (j * P + p) p' = q_Lx a P ld L0 g j p' + if p = p' then a 0 g else 0 := by
    intro p'
    show q_Lx a P ld L0 g ((j * P + p) / q_rd P ld g) p' + (if (j * P + p) % q_rd P ld g = p' then q_wt a ld g else 0) = _
    rw [hr, q_div_at hp, q_mod_at hp, hw]
  rw [e1, q_sm_bump (f := fun p' => q_Lx a P ld L0 g j p' - sh 2 p') (p := p) (fun i hi => by rw [e2, if_neg (fun w => hi w.symm)]; rfl) (by rw [e2, if_pos rfl]; omega) hp, e2, if_pos rfl]
  omega
theorem q_pc_laid {g j : Nat} (hg : g = ld) : q_pc sh a P ld d L0 R0 (g + 1) j = q_pc sh a P ld d L0 R0 g j ∧ (∀ p, q_Lx a P ld L0 (g + 1) j p = q_Lx a P ld L0 g j p) ∧ (∀ i, i ≠ g → q_dg P ld (g + 1) j i = q_dg P ld g j i) := by
  have hr : q_rd P ld g = 1 := by
    unfold q_rd
    rw [if_pos hg]
  have hw : q_wt a ld g = 0 := by
    unfold q_wt
    rw [if_pos hg]
  have hb : ∀ p, q_rb sh a ld d g p = 0 := by
    intro p
    unfold q_rb
    rw [if_pos hg]
  have e2 : ∀ p', q_Lx a P ld L0 (g + 1) j p' = q_Lx a P ld L0 g j p' := by
    intro p'
    show q_Lx a P ld L0 g (j / q_rd P ld g) p' + (if j % q_rd P ld g = p' then q_wt a ld g else 0) = _
    rw [hr, hw, Nat.div_one]
    split <;> rfl
  refine ⟨?_, e2, fun i hi => ?_⟩
  · unfold q_pc
    have e1 : q_Rx sh a P ld d R0 (g + 1) j = q_Rx sh a P ld d R0 g j := by
      show q_Rx sh a P ld d R0 g (j / q_rd P ld g) + q_rb sh a ld d g (j % q_rd P ld g) = _
      rw [hr, hb, Nat.div_one]
      rfl
    simp only [e1, e2]
  · show (if i = g then _ else q_dg P ld g (j / q_rd P ld g) i) = _
    rw [if_neg hi, hr, Nat.div_one]
theorem q_Lx_le (G : ∀ g, g < B → a 0 g ≤ 60) {p : Nat} (h0 : L0 p ≤ 60) : ∀ g j, g ≤ B → q_Lx a P ld L0 g j p ≤ 60 + 60 * g
  | 0, _, _ => h0
  | g + 1, j, h => by
    have := q_Lx_le G h0 g (j / q_rd P ld g) (by omega)
    have h1 := G g (by omega)
    show q_Lx a P ld L0 g (j / q_rd P ld g) p + (if j % q_rd P ld g = p then q_wt a ld g else 0) ≤ _
    unfold q_wt
    split
    · split <;> omega
    · omega
theorem q_Rx_le (SG : q_SG B P sh) (h0 : R0 ≤ 80) (hP : 0 < P) : ∀ g j, g ≤ B → q_Rx sh a P ld d R0 g j ≤ 80 + 40 * g
  | 0, _, _ => h0
  | g + 1, j, h => by
    have := q_Rx_le SG h0 hP g (j / q_rd P ld g) (by omega)
    show q_Rx sh a P ld d R0 g (j / q_rd P ld g) + q_rb sh a ld d g (j % q_rd P ld g) ≤ _
    unfold q_rb
    split
    · omega
    · rename_i hg
      have hr : q_rd P ld g = P := by
        unfold q_rd
        rw [if_neg hg]
      have := q_rub_le (a := a) (g := g) (p := j % q_rd P ld g) (d := d) (b := false) (SG.2.2.1 g (by omega)).2 (SG.2.2.2 _ (by rw [hr]; exact Nat.mod_lt _ hP)).2.2
      omega
theorem q_pc_le (SG : q_SG B P sh) (G : ∀ g, g < B → a 0 g ≤ 60) (h0 : ∀ p, p < P → L0 p ≤ 60) (hR : R0 ≤ 80) (hP : 0 < P) {g j : Nat} (hg : g ≤ B) : q_pc sh a P ld d L0 R0 g j ≤ 10000 := by
  have hB := SG.1
  have hP5 := SG.2.1
  have h1 := q_Rx_le (a := a) (ld := ld) (d := d) SG hR hP g j hg
  have h2 := q_sm_le (n := P) (c := 420) (f := fun p => q_Lx a P ld L0 g j p - sh 2 p) (fun p hp => by
    have := q_Lx_le (P := P) (ld := ld) G (h0 p hp) g j hg
    show q_Lx a P ld L0 g j p - sh 2 p ≤ 420
    omega)
  unfold q_pc
  omega
theorem c_layOn {t : sf_Sg} (S : q_SC t B P sh) (SG : q_SG B P sh) {p l w : Nat} (hp : p < P) (h : t 24 p = nI l) (hl : l ≤ 10000) (hw : w ≤ 10000) : f2_putOn t (nI p) (nI w) = some (nI ((l + w - sh 2 p) - (l - sh 2 p)), sf_s1 t 24 p (nI (l + w))) := by
  have hP5 := SG.2.1
  have h99 := (SG.2.2.2 p hp).2.1
  unfold f2_putOn f2_putOn_b0
  rw [q_ld (k := 14) (show p < 5 by omega) (by decide), q_ld (k := 24) (show p < 5 by omega) (by decide), (S.2.2.2 p hp).1, h]
  simp only [q_ob]
  rw [nI_add, q_st (show p < 5 by omega) (by decide)]
  simp only [q_ob]
  rw [q_ld (k := 24) (show p < 5 by omega) (by decide), q_s1s]
  simp only [q_ob]
  rw [q_max0 (by omega) (by omega), q_max0 (by omega) (by omega), pk_sub (by omega)]
def q_Li (sh a : Nat → Nat → Nat) (B P ld : Nat) (L0 : Nat → Nat) (z : Int32) (t : sf_Sg) (g j : Nat) (st : Nat × Nat) : Prop :=
  q_SC t B P sh ∧ q_LC t B P 16 a z ∧ (∀ p, p < P → t 24 p = nI (q_Lx a P ld L0 g j p)) ∧ (∀ i, i < g → i ≠ ld → t 25 i = nI (q_dg P ld g j i)) ∧ t 22 0 = nI st.1 ∧ st.1 < 2 ^ 31
def q_Lp (B P ld : Nat) (t u : sf_Sg) (g : Nat) (st st' : Nat × Nat) : Prop :=
  (∀ k, k ≠ 22 → k ≠ 23 → k ≠ 24 → k ≠ 25 → u k = t k) ∧ (∀ p, p < P → u 24 p = t 24 p) ∧ (∀ i, i < g → u 25 i = t 25 i) ∧ u 22 5 = t 22 5 ∧ u 22 0 = nI st'.1 ∧ ((st' = st ∧ u 22 1 = t 22 1 ∧ u 23 = t 23) ∨ (st'.1 < st.1 ∧ u 22 1 = t 22 5 ∧ ∀ i, i < B → i ≠ ld → u 23 i = nI (q_dg P ld B st'.2 i)))
theorem q_Lp.trans {t u v : sf_Sg} {g : Nat} {s0 s1 s2 : Nat × Nat} (h1 : q_Lp B P ld t u g s0 s1) (h2 : q_Lp B P ld u v g s1 s2) : q_Lp B P ld t v g s0 s2 := by
  obtain ⟨a1, a2, a3, a4, a5, a6⟩ := h1
  obtain ⟨b1, b2, b3, b4, b5, b6⟩ := h2
  refine ⟨fun k k1 k2 k3 k4 => (b1 k k1 k2 k3 k4).trans (a1 k k1 k2 k3 k4), fun p hp => (b2 p hp).trans (a2 p hp), fun i hi => (b3 i hi).trans (a3 i hi), b4.trans a4, b5, ?_⟩
  rcases b6 with ⟨c1, c2, c3⟩ | ⟨c1, c2, c3⟩
  · rcases a6 with ⟨e1, e2, e3⟩ | ⟨e1, e2, e3⟩
    · exact Or.inl ⟨c1.trans e1, c2.trans e2, c3.trans e3⟩
    · right
      rw [c1, c2, c3]
      exact ⟨e1, e2, e3⟩
  · right
    refine ⟨?_, c2.trans a4, c3⟩
    rcases a6 with ⟨e1, e2, e3⟩ | ⟨e1, e2, e3⟩
    · rw [← e1]
      exact c1
    · omega
theorem c_lay {z lx : Int32} (SG : q_SG B P sh) (G : q_LT B P a) (hd : d = a 6 0) (h0 : ∀ p, p < P → L0 p ≤ 60) (hR : R0 ≤ 80) (hP : 0 < P) (hlx : ∀ g, g < B → (nI g = lx) = (g = ld)) : ∀ (k f g j : Nat) (t : sf_Sg) (st : Nat × Nat), k < f → g + k = B → q_Li sh a B P ld L0 z t g j st → ∃ u, sf_it (fun self s x2 x3 x4 => f2_lay_b0 self s x2 x3 x4) (fun _ _ _ _ => none) f t (nI g) (nI (q_pc sh a P ld d L0 R0 g j)) lx = some u ∧ q_Lp B P ld t u g st (q_fd (q_pc sh a P ld d L0 R0 B) (j * q_Nx B P ld k) (q_Nx B P ld k) st) := by
  have hB := SG.1
  have hP5 := SG.2.1
  have G60 : ∀ g, g < B → a 0 g ≤ 60 := fun g hg => (G.1 g hg).2.1
  intro k
  induction k with
  | zero =>
    intro f g j t st hf hg hI
    obtain ⟨i1, i2, i3, i4, i5, i6⟩ := hI
    cases f with
    | zero => omega
    | succ f =>
      rw [q_it]
      generalize sf_it (fun self s x2 x3 x4 => f2_lay_b0 self s x2 x3 x4) (fun _ _ _ _ => none) f = K
      have hgB : g = B := by omega
      subst hgB
      have hpc := q_pc_le (ld := ld) (d := d) (j := j) SG G60 h0 hR hP (Nat.le_refl g)
      show ∃ u, f2_lay_b0 K t (nI g) (nI (q_pc sh a P ld d L0 R0 g j)) lx = some u ∧ _
      unfold f2_lay_b0
      have e1 : q_Nx g P ld 0 = 1 := rfl
      have hfold : q_fd (q_pc sh a P ld d L0 R0 g) (j * q_Nx g P ld 0) (q_Nx g P ld 0) st = if q_pc sh a P ld d L0 R0 g j < st.1 then (q_pc sh a P ld d L0 R0 g j, j) else st := by
        rw [e1, Nat.mul_one]
        rfl
      rw [hfold, i5]
      by_cases hc : st.1 ≤ q_pc sh a P ld d L0 R0 g j
      · rw [if_pos (nI_le hc (by omega)), if_neg (show ¬ q_pc sh a P ld d L0 R0 g j < st.1 by omega)]
        exact ⟨t, rfl, fun _ _ _ _ _ => rfl, fun _ _ => rfl, fun _ _ => rfl, rfl, i5, Or.inl ⟨rfl, rfl, rfl⟩⟩
      · rw [if_neg (nI_ge (by omega) i6), if_pos (show nI g ≤ 6 from nI_le (b := 6) (by omega) (by decide)), i1.1, if_neg (nI_nlt (Nat.le_refl _) (by omega)), if_pos (show q_pc sh a P ld d L0 R0 g j < st.1 by omega)]
        refine ⟨_, rfl, fun k k1 k2 k3 k4 => ?_, fun p hp => ?_, fun i hi => ?_, ?_, ?_, Or.inr ⟨by show q_pc sh a P ld d L0 R0 g j < st.1; omega, ?_, fun i hi hi2 => ?_⟩⟩
        · rw [sf_su_ne k2, q_s1k k1, q_s1k k1]
        · rw [sf_su_ne (by decide), q_s1k (by decide), q_s1k (by decide)]
        · rw [sf_su_ne (by decide), q_s1k (by decide), q_s1k (by decide)]
        · rw [sf_su_ne (by decide), q_s1i (by decide), q_s1i (by decide)]
        · rw [sf_su_ne (by decide), q_s1i (by decide), q_s1s]
        · rw [sf_su_ne (by decide), q_s1s, q_s1i (by decide)]
        · have e2 : ∀ (s : sf_Sg) (v : Nat → Int32), sf_su s 23 v 23 = v := fun s v => sf_su_same
          have e6 : (6 : Int32).toNatClampNeg = 6 := by decide
          rw [e2, e6, pk_cpy_in (by omega) (by omega), q_s1k (by decide), q_s1k (by decide)]
          show t 25 (0 + (i - 0)) = _
          rw [Nat.zero_add, Nat.sub_zero]
          exact i4 i hi hi2
  | succ k ih =>
    intro f g j t st hf hg hI
    have hgB : g < B := by omega
    have eN : q_Nx B P ld (k + 1) = q_rd P ld g * q_Nx B P ld k := by
      show q_rd P ld (B - (k + 1)) * q_Nx B P ld k = _
      rw [show B - (k + 1) = g by omega]
    obtain ⟨i1, i2, i3, i4, i5, i6⟩ := id hI
    cases f with
    | zero => omega
    | succ f =>
      rw [q_it]
      have ih' := fun g' j' t' st' => ih f g' j' t' st' (by omega)
      generalize sf_it (fun self s x2 x3 x4 => f2_lay_b0 self s x2 x3 x4) (fun _ _ _ _ => none) f = K at ih' ⊢
      have hpc := q_pc_le (ld := ld) (d := d) (j := j) SG G60 h0 hR hP (show g ≤ B by omega)
      show ∃ u, f2_lay_b0 K t (nI g) (nI (q_pc sh a P ld d L0 R0 g j)) lx = some u ∧ _
      unfold f2_lay_b0
      rw [i5]
      by_cases hc : st.1 ≤ q_pc sh a P ld d L0 R0 g j
      · rw [if_pos (nI_le hc (by omega)), q_fd_no _ (fun i a1 a2 => Nat.le_trans hc (q_pc_low hP (k + 1) g j i hg a1 a2))]
        exact ⟨t, rfl, fun _ _ _ _ _ => rfl, fun _ _ => rfl, fun _ _ => rfl, rfl, i5, Or.inl ⟨rfl, rfl, rfl⟩⟩
      · rw [if_neg (nI_ge (by omega) i6), if_pos (show nI g ≤ 6 from nI_le (b := 6) (by omega) (by decide)), i1.1, if_pos (nI_lt hgB (by omega))]
        simp only [hlx g hgB]
        by_cases hl : g = ld
        · obtain ⟨l1, l2, l3⟩ := q_pc_laid (sh := sh) (a := a) (P := P) (d := d) (L0 := L0) (R0 := R0) (j := j) hl
          have hr : q_rd P ld g = 1 := by
            unfold q_rd
            rw [if_pos hl]
          rw [if_pos hl, nI_1, ← l1, eN, hr, Nat.one_mul]
          obtain ⟨u, u1, u2, u3, u4, u5, u6, u7⟩ := ih' (g + 1) j t st (by omega) ⟨i1, i2, fun p hp => by rw [l2]; exact i3 p hp, fun i hi hi2 => by rw [l3 i (by omega)]; exact i4 i (by omega) hi2, i5, i6⟩
          rw [u1]
          exact ⟨u, rfl, u2, u3, fun i hi => u4 i (by omega), u5, u6, u7⟩
        · have hr : q_rd P ld g = P := by
            unfold q_rd
            rw [if_neg hl]
          have hw17 : t 17 g = nI (a 0 g) := (i2.1 g hgB).1
          rw [if_neg hl, q_ld (k := 17) (show g < 6 by omega) (by decide), hw17]
          simp only [q_ob]
          have loop : ∀ (f' p : Nat) (t : sf_Sg), P < f' + p → p ≤ P → q_Li sh a B P ld L0 z t g j (q_fd (q_pc sh a P ld d L0 R0 B) (j * q_Nx B P ld (k + 1)) (p * q_Nx B P ld k) st) → ∃ u, sf_it (f2_lay_b87 K) (fun _ _ _ _ _ _ => none) f' t (nI g) (nI (q_pc sh a P ld d L0 R0 g j)) lx (nI (a 0 g)) (nI p) = some u ∧ q_Lp B P ld t u g (q_fd (q_pc sh a P ld d L0 R0 B) (j * q_Nx B P ld (k + 1)) (p * q_Nx B P ld k) st) (q_fd (q_pc sh a P ld d L0 R0 B) (j * q_Nx B P ld (k + 1)) (q_Nx B P ld (k + 1)) st) := by
            intro f'
            induction f' with
            | zero => intro p t h1 h2; omega
            | succ f' ihp =>
              intro p t h1 h2 hI
              obtain ⟨i1, i2, i3, i4, i5, i6⟩ := id hI
              rw [q_it]
              generalize sf_it (f2_lay_b87 K) (fun _ _ _ _ _ _ => none) f' = M at ihp ⊢
              unfold f2_lay_b87
              rw [i1.2.1]
              by_cases hp : p = P
              · subst hp
                rw [if_pos (nI_le (Nat.le_refl _) (by omega))]
                have e : p * q_Nx B p ld k = q_Nx B p ld (k + 1) := by rw [eN, hr]
                rw [e] at i5 ⊢
                exact ⟨t, rfl, fun _ _ _ _ _ => rfl, fun _ _ => rfl, fun _ _ => rfl, rfl, i5, Or.inl ⟨rfl, rfl, rfl⟩⟩
              · have hplt : p < P := by omega
                have hLx := q_Lx_le (P := P) (ld := ld) G60 (h0 p hplt) g j (by omega)
                have hw60 := G60 g hgB
                rw [if_neg (nI_ge hplt (by omega)), q_st (show g < 6 by omega) (by decide)]
                simp only [q_ob]
                have S1 : q_SC (sf_s1 t 25 g (nI p)) B P sh := i1.of (fun k a1 a2 => q_s1k (by omega))
                rw [c_layOn S1 SG hplt (l := q_Lx a P ld L0 g j p) (by rw [q_s1k (by decide)]; exact i3 p hplt) (by omega) (by omega)]
                simp only [q_ob]
                obtain ⟨t2, ht2⟩ : ∃ t2, t2 = sf_s1 (sf_s1 t 25 g (nI p)) 24 p (nI (q_Lx a P ld L0 g j p + a 0 g)) := ⟨_, rfl⟩
                rw [← ht2]
                have o2 : ∀ k, k ≠ 24 → k ≠ 25 → t2 k = t k := fun k a1 a2 => by rw [ht2, q_s1k a1, q_s1k a2]
                have S2 : q_SC t2 B P sh := i1.of (fun k a1 a2 => o2 k (by omega) (by omega))
                have L2 : q_LC t2 B P 16 a z := i2.of (fun k a1 a2 => o2 k (by omega) (by omega))
                have d2 : t2 16 0 = nI (a 6 0) := L2.2.2.2
                have rub := c_rubOf S2 SG L2 G (d := a 6 0) false hgB hplt G.2.2
                have rub' : f6_rubOf t2 (nI g) (nI p) 0 (nI (a 6 0)) = some (nI (q_rub sh a g p false (a 6 0))) := rub
                rw [d2, rub']
                simp only [q_ob]
                have est : nI (q_pc sh a P ld d L0 R0 g j) + (nI (q_Lx a P ld L0 g j p + a 0 g - sh 2 p - (q_Lx a P ld L0 g j p - sh 2 p)) + nI (q_rub sh a g p false (a 6 0))) = nI (q_pc sh a P ld d L0 R0 (g + 1) (j * P + p)) := by
                  rw [nI_add, nI_add, q_pc_step hl hplt, hd]
                rw [est, nI_1, nI_1]
                have Lj : ∀ p', q_Lx a P ld L0 (g + 1) (j * P + p) p' = q_Lx a P ld L0 g j p' + if p = p' then a 0 g else 0 := by
                  intro p'
                  show q_Lx a P ld L0 g ((j * P + p) / q_rd P ld g) p' + (if (j * P + p) % q_rd P ld g = p' then q_wt a ld g else 0) = _
                  rw [hr, q_div_at hplt, q_mod_at hplt]
                  unfold q_wt
                  rw [if_neg hl]
                have Dj : ∀ i, q_dg P ld (g + 1) (j * P + p) i = if i = g then p else q_dg P ld g j i := by
                  intro i
                  show (if i = g then (j * P + p) % q_rd P ld g else q_dg P ld g ((j * P + p) / q_rd P ld g) i) = _
                  rw [hr, q_div_at hplt, q_mod_at hplt]
                obtain ⟨u, u1, u2⟩ := ih' (g + 1) (j * P + p) t2 _ (by omega) ⟨S2, L2, fun p' hp' => by
                  rw [ht2, Lj]
                  by_cases e : p' = p
                  · subst e
                    rw [q_s1s, if_pos rfl]
                  · rw [q_s1i e, q_s1k (by decide), if_neg (fun w => e w.symm)]
                    exact i3 p' hp', fun i hi hi2 => by
                  rw [ht2, q_s1k (by decide), Dj]
                  by_cases e : i = g
                  · subst e
                    rw [q_s1s, if_pos rfl]
                  · rw [q_s1i e, if_neg e]
                    exact i4 i (by omega) hi2, by rw [o2 22 (by decide) (by decide)]; exact i5, i6⟩
                rw [u1]
                simp only [q_ob]
                have hst : q_fd (q_pc sh a P ld d L0 R0 B) ((j * P + p) * q_Nx B P ld k) (q_Nx B P ld k) (q_fd (q_pc sh a P ld d L0 R0 B) (j * q_Nx B P ld (k + 1)) (p * q_Nx B P ld k) st) = q_fd (q_pc sh a P ld d L0 R0 B) (j * q_Nx B P ld (k + 1)) ((p + 1) * q_Nx B P ld k) st := by
                  rw [Nat.succ_mul, q_fd_add, eN, hr, Nat.add_mul, Nat.mul_assoc]
                rw [hst] at u2
                obtain ⟨v1, v2, v3, v4, v5, v6⟩ := u2
                have l24 : u 24 p = nI (q_Lx a P ld L0 g j p + a 0 g) := by rw [v2 p hplt, ht2, q_s1s]
                rw [q_ld (k := 24) (show p < 5 by omega) (by decide), l24]
                simp only [q_ob]
                rw [pk_sub (by omega), q_st (show p < 5 by omega) (by decide), Nat.add_sub_cancel]
                simp only [q_ob]
                have post : q_Lp B P ld t (sf_s1 u 24 p (nI (q_Lx a P ld L0 g j p))) g (q_fd (q_pc sh a P ld d L0 R0 B) (j * q_Nx B P ld (k + 1)) (p * q_Nx B P ld k) st) (q_fd (q_pc sh a P ld d L0 R0 B) (j * q_Nx B P ld (k + 1)) ((p + 1) * q_Nx B P ld k) st) := by
                  refine ⟨fun k k1 k2 k3 k4 => ?_, fun p' hp' => ?_, fun i hi => ?_, ?_, ?_, ?_⟩
                  · rw [q_s1k k3, v1 k k1 k2 k3 k4, o2 k k3 k4]
                  · by_cases e : p' = p
                    · subst e
                      rw [q_s1s, i3 p' hp']
                    · rw [q_s1i e, v2 p' hp', ht2, q_s1i e, q_s1k (by decide)]
                  · rw [q_s1k (by decide), v3 i (by omega), ht2, q_s1k (by decide), q_s1i (by omega)]
                  · rw [q_s1k (by decide), v4, o2 22 (by decide) (by decide)]
                  · rw [q_s1k (by decide), v5]
                  · rcases v6 with ⟨w1, w2, w3⟩ | ⟨w1, w2, w3⟩
                    · refine Or.inl ⟨w1, ?_, ?_⟩
                      · rw [q_s1k (by decide), w2, o2 22 (by decide) (by decide)]
                      · rw [q_s1k (by decide), w3, o2 23 (by decide) (by decide)]
                    · refine Or.inr ⟨w1, ?_, fun i hi hi2 => ?_⟩
                      · rw [q_s1k (by decide), w2, o2 22 (by decide) (by decide)]
                      · rw [q_s1k (by decide)]
                        exact w3 i hi hi2
                have inv2 : q_Li sh a B P ld L0 z (sf_s1 u 24 p (nI (q_Lx a P ld L0 g j p))) g j (q_fd (q_pc sh a P ld d L0 R0 B) (j * q_Nx B P ld (k + 1)) ((p + 1) * q_Nx B P ld k) st) := by
                  obtain ⟨x1, x2, x3, x4, x5, x6⟩ := id post
                  refine ⟨i1.of (fun k a1 a2 => x1 k (by omega) (by omega) (by omega) (by omega)), i2.of (fun k a1 a2 => x1 k (by omega) (by omega) (by omega) (by omega)), fun p' hp' => by rw [x2 p' hp']; exact i3 p' hp', fun i hi hi2 => by rw [x3 i hi]; exact i4 i hi hi2, x5, ?_⟩
                  have := q_fd_le (c := q_pc sh a P ld d L0 R0 B) (lo := j * q_Nx B P ld (k + 1)) (st := st) ((p + 1) * q_Nx B P ld k)
                  omega
                obtain ⟨w, w1, w2⟩ := ihp (p + 1) _ (by omega) (by omega) inv2
                exact ⟨w, w1, post.trans w2⟩
          exact (loop sf_FU 0 t (by unfold sf_FU; omega) (by omega) (by rw [Nat.zero_mul]; exact hI)).imp (fun u hu => ⟨hu.1, by have := hu.2; rw [Nat.zero_mul] at this; exact this⟩)
end LAYT
