-- sums
theorem q_sm_plus {f g : Nat → Nat} : ∀ n, q_sm n (fun i => f i + g i) = q_sm n f + q_sm n g
  | 0 => rfl
  | n + 1 => by
    show q_sm n (fun i => f i + g i) + (f n + g n) = q_sm n f + f n + (q_sm n g + g n)
    rw [q_sm_plus n]
    omega
theorem q_sm_zero : ∀ n, q_sm n (fun _ => 0) = 0
  | 0 => rfl
  | n + 1 => q_sm_zero n
theorem q_sm_swap {f : Nat → Nat → Nat} (m : Nat) : ∀ n, q_sm n (fun i => q_sm m (fun j => f i j)) = q_sm m (fun j => q_sm n (fun i => f i j))
  | 0 => (q_sm_zero m).symm
  | n + 1 => by
    show q_sm n (fun i => q_sm m (fun j => f i j)) + q_sm m (fun j => f n j) = q_sm m (fun j => q_sm n (fun i => f i j) + f n j)
    rw [q_sm_swap m n, q_sm_plus]
theorem q_sm_one {r : Nat → Nat} {w : Nat} : ∀ {n : Nat}, w < n → q_sm n (fun p => if w = p then r p else 0) = r w
  | 0, h => absurd h (by omega)
  | n + 1, h => by
    show q_sm n (fun p => if w = p then r p else 0) + (if w = n then r n else 0) = r w
    by_cases e : w = n
    · subst e
      rw [if_pos rfl, q_sm_congr (g := fun _ => 0) (fun i hi => if_neg (by omega)), q_sm_zero]
      omega
    · rw [if_neg e, q_sm_one (by omega)]
      rfl
theorem q_sm_split {f f' : Nat → Nat} {l : Nat} (h : ∀ i, i ≠ l → f i = f' i) (hl : f' l = 0) : ∀ n, q_sm n f = (if l < n then f l else 0) + q_sm n f'
  | 0 => rfl
  | n + 1 => by
    show q_sm n f + f n = _ + (q_sm n f' + f' n)
    rw [q_sm_split h hl n]
    by_cases e : n = l
    · subst e
      rw [hl, if_neg (by omega), if_pos (by omega)]
      omega
    · rw [h n e]
      by_cases g : l < n
      · rw [if_pos g, if_pos (by omega)]
        omega
      · rw [if_neg g, if_neg (by omega)]
        omega
-- the cost of a way
def q_TT (sh a : Nat → Nat → Nat) (B P ld d : Nat) (L0 : Nat → Nat) (R0 : Nat) (W : Nat → Nat) : Nat :=
  q_sm P (fun p => (L0 p + q_sm B (fun g => if W g = p then q_wt a ld g else 0)) - sh 2 p) + (R0 + q_sm B (fun g => q_rb sh a ld d g (W g)))
section WAYS
variable {sh a : Nat → Nat → Nat} {B P ld d : Nat} {L0 : Nat → Nat} {R0 : Nat}
theorem q_Lx_sum {p : Nat} : ∀ g j, q_Lx a P ld L0 g j p = L0 p + q_sm g (fun i => if q_dg P ld g j i = p then q_wt a ld i else 0)
  | 0, _ => rfl
  | g + 1, j => by
    show q_Lx a P ld L0 g (j / q_rd P ld g) p + (if j % q_rd P ld g = p then q_wt a ld g else 0) = L0 p + (q_sm g (fun i => if q_dg P ld (g + 1) j i = p then q_wt a ld i else 0) + (if q_dg P ld (g + 1) j g = p then q_wt a ld g else 0))
    have e1 : q_dg P ld (g + 1) j g = j % q_rd P ld g := if_pos rfl
    have e2 : ∀ i, i < g → q_dg P ld (g + 1) j i = q_dg P ld g (j / q_rd P ld g) i := fun i hi => if_neg (by omega)
    rw [e1, q_Lx_sum g, q_sm_congr (f := fun i => if q_dg P ld (g + 1) j i = p then q_wt a ld i else 0) (g := fun i => if q_dg P ld g (j / q_rd P ld g) i = p then q_wt a ld i else 0) (fun i hi => by
      show (if q_dg P ld (g + 1) j i = p then _ else _) = _
      rw [e2 i hi])]
    omega
theorem q_Rx_sum : ∀ g j, q_Rx sh a P ld d R0 g j = R0 + q_sm g (fun i => q_rb sh a ld d i (q_dg P ld g j i))
  | 0, _ => rfl
  | g + 1, j => by
    show q_Rx sh a P ld d R0 g (j / q_rd P ld g) + q_rb sh a ld d g (j % q_rd P ld g) = R0 + (q_sm g (fun i => q_rb sh a ld d i (q_dg P ld (g + 1) j i)) + q_rb sh a ld d g (q_dg P ld (g + 1) j g))
    have e1 : q_dg P ld (g + 1) j g = j % q_rd P ld g := if_pos rfl
    have e2 : ∀ i, i < g → q_dg P ld (g + 1) j i = q_dg P ld g (j / q_rd P ld g) i := fun i hi => if_neg (by omega)
    rw [e1, q_Rx_sum g, q_sm_congr (f := fun i => q_rb sh a ld d i (q_dg P ld (g + 1) j i)) (g := fun i => q_rb sh a ld d i (q_dg P ld g (j / q_rd P ld g) i)) (fun i hi => by
      show q_rb sh a ld d i (q_dg P ld (g + 1) j i) = _
      rw [e2 i hi])]
    omega
theorem q_pc_TT (j : Nat) : q_pc sh a P ld d L0 R0 B j = q_TT sh a B P ld d L0 R0 (q_dg P ld B j) := by
  unfold q_pc q_TT
  rw [q_Rx_sum, q_sm_congr (f := fun p => q_Lx a P ld L0 B j p - sh 2 p) (g := fun p => (L0 p + q_sm B (fun g => if q_dg P ld B j g = p then q_wt a ld g else 0)) - sh 2 p) (fun p _ => by
    show q_Lx a P ld L0 B j p - sh 2 p = _
    rw [q_Lx_sum])]
theorem q_TT_congr {W W' : Nat → Nat} (h : ∀ g, g < B → g ≠ ld → W g = W' g) : q_TT sh a B P ld d L0 R0 W = q_TT sh a B P ld d L0 R0 W' := by
  have e1 : ∀ p, q_sm B (fun g => if W g = p then q_wt a ld g else 0) = q_sm B (fun g => if W' g = p then q_wt a ld g else 0) := by
    intro p
    refine q_sm_congr (fun g hg => ?_)
    show (if W g = p then q_wt a ld g else 0) = if W' g = p then q_wt a ld g else 0
    by_cases e : g = ld
    · have : q_wt a ld g = 0 := by
        unfold q_wt
        rw [if_pos e]
      rw [this]
      split <;> split <;> rfl
    · rw [h g hg e]
  have e2 : q_sm B (fun g => q_rb sh a ld d g (W g)) = q_sm B (fun g => q_rb sh a ld d g (W' g)) := by
    refine q_sm_congr (fun g hg => ?_)
    show q_rb sh a ld d g (W g) = q_rb sh a ld d g (W' g)
    by_cases e : g = ld
    · unfold q_rb
      rw [if_pos e, if_pos e]
    · rw [h g hg e]
  unfold q_TT
  simp only [e1, e2]
end WAYS
/-- the load of a way; one burden may ride on a second back -/
def q_wl (a : Nat → Nat → Nat) (W : Nat → Nat) (ld q0 : Nat) : Nat → Nat → Nat := fun k g => if k = 2 then W g + 1 else if k = 3 then (if g = ld then q0 + 1 else 0) else a k g
def q_l0 (a : Nat → Nat → Nat) (B ld p0 q0 p : Nat) : Nat := if ld < B then (if p0 = p then a 0 ld - a 0 ld / 2 else if q0 = p then a 0 ld / 2 else 0) else 0
def q_r0 (sh a : Nat → Nat → Nat) (B ld d p0 q0 : Nat) : Nat := if ld < B then q_rub sh a ld p0 true d + q_rub sh a ld q0 true d else 0
theorem q_all_TT {sh a : Nat → Nat → Nat} {B P ld d q0 : Nat} {W : Nat → Nat} (hW : ∀ g, g < B → W g < P) (hq : ld < B → q0 < P ∧ W ld ≠ q0) : q_all sh (q_wl a W ld q0) B P d = q_TT sh a B P ld d (q_l0 a B ld (W ld) q0) (q_r0 sh a B ld d (W ld) q0) W := by
  have w2 : ∀ g, q_wl a W ld q0 2 g = W g + 1 := fun g => rfl
  have w3 : ∀ g, q_wl a W ld q0 3 g = if g = ld then q0 + 1 else 0 := fun g => rfl
  have w0 : ∀ g, q_wl a W ld q0 0 g = a 0 g := fun g => rfl
  have hrub : ∀ g p b, q_rub sh (q_wl a W ld q0) g p b d = q_rub sh a g p b d := fun g p b => rfl
  have onN : ∀ g p, g ≠ ld → q_on (q_wl a W ld q0) g p = decide (W g = p) := by
    intro g p hg
    unfold q_on
    rw [w2, w3, if_neg hg]
    simp
  have onL : ∀ p, q_on (q_wl a W ld q0) ld p = decide (W ld = p ∨ q0 = p) := by
    intro p
    unfold q_on
    rw [w2, w3, if_pos rfl]
    simp
  have shN : ∀ g, g ≠ ld → q_shd (q_wl a W ld q0) g = false := by
    intro g hg
    unfold q_shd
    rw [w3, if_neg hg]
    rfl
  have shL : q_shd (q_wl a W ld q0) ld = true := by
    unfold q_shd
    rw [w3, if_pos rfl]
    simp
  have parts : ∀ p, q_parts (q_wl a W ld q0) B p (fun g => q_on (q_wl a W ld q0) g p) = q_l0 a B ld (W ld) q0 p + q_sm B (fun g => if W g = p then q_wt a ld g else 0) := by
    intro p
    unfold q_parts
    rw [q_sm_split (f' := fun g => if W g = p then q_wt a ld g else 0) (l := ld) (fun g hg => by
      show (if q_on (q_wl a W ld q0) g p = true then q_part (q_wl a W ld q0) g p else 0) = if W g = p then q_wt a ld g else 0
      rw [onN g p hg]
      unfold q_part q_wt
      rw [w3, if_neg hg, if_pos rfl, w0, if_neg hg]
      simp) (by
      show (if W ld = p then q_wt a ld ld else 0) = 0
      unfold q_wt
      rw [if_pos rfl]
      split <;> rfl)]
    congr 1
    unfold q_l0
    by_cases hl : ld < B
    · rw [if_pos hl, if_pos hl]
      show (if q_on (q_wl a W ld q0) ld p = true then q_part (q_wl a W ld q0) ld p else 0) = _
      rw [onL]
      unfold q_part
      rw [w3, if_pos rfl, if_neg (show ¬ q0 + 1 = 0 by omega), w2, w0]
      by_cases e1 : W ld = p
      · rw [if_pos e1, if_pos (show W ld + 1 = p + 1 by omega)]
        simp [e1]
      · rw [if_neg e1, if_neg (show ¬ W ld + 1 = p + 1 by omega)]
        simp [e1]
    · rw [if_neg hl, if_neg hl]
  have rubs : q_sm P (fun p => q_rubs sh (q_wl a W ld q0) B p (fun g => q_on (q_wl a W ld q0) g p) d) = q_r0 sh a B ld d (W ld) q0 + q_sm B (fun g => q_rb sh a ld d g (W g)) := by
    unfold q_rubs
    rw [q_sm_swap]
    rw [q_sm_congr (g := fun g => if g = ld then q_rub sh a ld (W ld) true d + q_rub sh a ld q0 true d else q_rub sh a g (W g) false d) (fun g hg => by
      show q_sm P (fun p => if q_on (q_wl a W ld q0) g p = true then q_rub sh (q_wl a W ld q0) g p (q_shd (q_wl a W ld q0) g) d else 0) = if g = ld then _ else _
      by_cases e : g = ld
      · subst e
        obtain ⟨h1, h2⟩ := hq hg
        rw [if_pos rfl, shL]
        have : q_sm P (fun p => if q_on (q_wl a W g q0) g p = true then q_rub sh (q_wl a W g q0) g p true d else 0) = q_sm P (fun p => (if W g = p then q_rub sh a g p true d else 0) + (if q0 = p then q_rub sh a g p true d else 0)) := by
          refine q_sm_congr (fun p _ => ?_)
          show (if q_on (q_wl a W g q0) g p = true then q_rub sh (q_wl a W g q0) g p true d else 0) = _ + _
          rw [onL, hrub]
          by_cases e1 : W g = p
          · rw [if_pos e1, if_neg (show ¬ q0 = p by omega)]
            simp [e1]
          · rw [if_neg e1]
            by_cases e2 : q0 = p
            · rw [if_pos e2]
              simp [e2]
            · rw [if_neg e2]
              simp [e1, e2]
        rw [this, q_sm_plus, q_sm_one (r := fun p => q_rub sh a g p true d) (hW g hg), q_sm_one (r := fun p => q_rub sh a g p true d) h1]
      · rw [if_neg e, shN g e]
        have : q_sm P (fun p => if q_on (q_wl a W ld q0) g p = true then q_rub sh (q_wl a W ld q0) g p false d else 0) = q_sm P (fun p => if W g = p then q_rub sh a g p false d else 0) := by
          refine q_sm_congr (fun p _ => ?_)
          show (if q_on (q_wl a W ld q0) g p = true then q_rub sh (q_wl a W ld q0) g p false d else 0) = _
          rw [onN g p e, hrub]
          simp
        rw [this, q_sm_one (r := fun p => q_rub sh a g p false d) (hW g hg)])]
    rw [q_sm_split (f' := fun g => q_rb sh a ld d g (W g)) (l := ld) (fun g hg => by
      show (if g = ld then _ else _) = q_rb sh a ld d g (W g)
      unfold q_rb
      rw [if_neg hg, if_neg hg]) (by
      show q_rb sh a ld d ld (W ld) = 0
      unfold q_rb
      rw [if_pos rfl])]
    congr 1
    unfold q_r0
    by_cases hl : ld < B
    · rw [if_pos hl, if_pos hl, if_pos rfl]
    · rw [if_neg hl, if_neg hl]
  unfold q_all q_gal q_TT
  rw [q_sm_plus, rubs]
  simp only [parts]
-- the reference: ways
theorem q_mulI (x y : Nat) : nI x * nI y = nI (x * y) := (Int32.ofNat_mul x y).symm
theorem q_Nx_pow {B P : Nat} (hB : B ≤ 6) : ∀ k, k ≤ B → q_Nx B P 6 k = P ^ k
  | 0, _ => rfl
  | k + 1, h => by
    show q_rd P 6 (B - (k + 1)) * q_Nx B P 6 k = _
    rw [q_Nx_pow hB k (by omega), Nat.pow_succ, Nat.mul_comm]
    unfold q_rd
    rw [if_neg (by omega)]
theorem q_pw {P k : Nat} (hP : P ≤ 5) (hk : k ≤ 6) : P ^ k ≤ 15625 := by
  have h1 : P ^ k ≤ 5 ^ k := Nat.pow_le_pow_left hP k
  have h2 : 5 ^ k ≤ 5 ^ 6 := Nat.pow_le_pow_right (by decide) hk
  have : (5 : Nat) ^ 6 = 15625 := by decide
  omega
theorem m_ways {s : sf_Sg} {B P : Nat} {sh : Nat → Nat → Nat} (S : q_SM s B P sh) (hB : B ≤ 6) (hP : P ≤ 5) : f10_ways s = some (nI (P ^ B)) := by
  have key : ∀ (f i : Nat), B < f + i → i ≤ B → sf_it (f10_ways_b4 s) (fun _ _ => none) f (nI (P ^ i)) (nI i) = some (nI (P ^ B)) := by
    intro f
    induction f with
    | zero => intro i h1 h2; omega
    | succ f ih =>
      intro i h1 h2
      rw [q_it]
      generalize sf_it (f10_ways_b4 s) (fun _ _ => none) f = K at ih ⊢
      unfold f10_ways_b4
      rw [S.1, S.2.1]
      by_cases hi : i = B
      · subst hi
        rw [if_pos (nI_le (Nat.le_refl _) (by omega))]
      · rw [if_neg (nI_ge (show i < B by omega) (by omega)), q_mulI, ← Nat.pow_succ, nI_1]
        exact ih (i + 1) (by omega) (by omega)
  exact key sf_FU 0 (by unfold sf_FU; omega) (by omega)
theorem q_suben (n : Nat) : nI n - 1 = q_en n := by
  cases n with
  | zero => rfl
  | succ n => rw [q_en_s, nI_pred]
theorem q_enp (n : Nat) : nI n + (-1) = q_en n := by
  cases n with
  | zero => rfl
  | succ n => rw [q_en_s, q_pred]
theorem m_carryBy {s : sf_Sg} {B P j : Nat} {sh : Nat → Nat → Nat} (S : q_SM s B P sh) (hB : B ≤ 6) (hP : P ≤ 5) (hP0 : 0 < P) (hj : j ≤ 100000) : ∃ u, f10_carryBy s (nI j) = some u ∧ (∀ k, k ≠ 155 → u k = s k) ∧ (∀ i, i < B → u 155 (12 + i) = nI (q_dg P 6 B j i) ∧ u 155 (18 + i) = -1) ∧ (∀ m, (m < 12 ∨ 24 ≤ m) → u 155 m = s 155 m) := by
  have key : ∀ (g f j : Nat) (t : sf_Sg), g < f → g ≤ B → j ≤ 100000 → t 149 = s 149 → ∃ u, sf_it f10_carryBy_b9 (fun _ _ _ => none) f t (nI j) (q_en g) = some u ∧ (∀ k, k ≠ 155 → u k = t k) ∧ (∀ i, i < g → u 155 (12 + i) = nI (q_dg P 6 g j i) ∧ u 155 (18 + i) = -1) ∧ (∀ m, (m < 12 ∨ (12 + g ≤ m ∧ m < 18) ∨ 18 + g ≤ m) → u 155 m = t 155 m) := by
    intro g
    induction g with
    | zero =>
      intro f j t h1 h2 h3 h4
      cases f with
      | zero => omega
      | succ f =>
        rw [q_it]
        unfold f10_carryBy_b9
        rw [q_en_0, if_pos (by decide)]
        exact ⟨t, rfl, fun _ _ => rfl, fun i hi => absurd hi (by omega), fun _ _ => rfl⟩
    | succ g ih =>
      intro f j t h1 h2 h3 h4
      cases f with
      | zero => omega
      | succ f =>
        rw [q_it]
        have ih' := fun j t => ih f j t (by omega) (by omega)
        generalize sf_it f10_carryBy_b9 (fun _ _ _ => none) f = K at ih' ⊢
        unfold f10_carryBy_b9
        have e6 : t 149 6 = nI P := by rw [h4, S.2.1]
        have em : sf_mod (nI j) (nI P) = some (nI (j % P)) := by
          unfold sf_mod
          rw [if_neg (nI_ne0 hP0 (by omega))]
          exact congrArg some (pk_rem (by omega) hP0 (by omega))
        have ed : sf_div (nI j) (nI P) = some (nI (j / P)) := by
          unfold sf_div
          rw [if_neg (nI_ne0 hP0 (by omega)), pk_div (by omega) hP0 (by omega)]
        rw [q_en_s, if_neg (q_lt0 (by omega)), e6, em]
        simp only [q_ob]
        rw [show (12 : Int32) + nI g = nI (12 + g) from nI_add 12 g, q_st (show 12 + g < 31 by omega) (by decide)]
        simp only [q_ob]
        rw [show (18 : Int32) + nI g = nI (18 + g) from nI_add 18 g, q_st (show 18 + g < 31 by omega) (by decide)]
        simp only [q_ob]
        rw [q_s1k (k' := 149) (by decide), q_s1k (k' := 149) (by decide), e6, ed]
        simp only [q_ob]
        rw [q_enp]
        have hdv : j / P ≤ j := Nat.div_le_self _ _
        obtain ⟨u, u1, u2, u3, u4⟩ := ih' (j / P) (sf_s1 (sf_s1 t 155 (12 + g) (nI (j % P))) 155 (18 + g) (-1)) (by omega) (by rw [q_s1k (by decide), q_s1k (by decide)]; exact h4)
        have hr : q_rd P 6 g = P := by
          unfold q_rd
          rw [if_neg (by omega)]
        refine ⟨u, u1, fun k hk => by rw [u2 k hk, q_s1k hk, q_s1k hk], fun i hi => ?_, fun m hm => ?_⟩
        · have ed : q_dg P 6 (g + 1) j i = if i = g then j % q_rd P 6 g else q_dg P 6 g (j / q_rd P 6 g) i := rfl
          rw [ed, hr]
          by_cases e : i = g
          · subst e
            rw [if_pos rfl, u4 (12 + i) (by omega), u4 (18 + i) (by omega), q_s1s, q_s1i (by omega), q_s1s]
            exact ⟨rfl, rfl⟩
          · rw [if_neg e]
            exact u3 i (by omega)
        · rw [u4 m (by omega), q_s1i (by omega), q_s1i (by omega)]
  obtain ⟨u, u1, u2, u3, u4⟩ := key B sf_FU j s (by unfold sf_FU; omega) (Nat.le_refl _) hj rfl
  refine ⟨u, ?_, u2, u3, fun m hm => u4 m (by omega)⟩
  unfold f10_carryBy f10_carryBy_b0
  rw [S.1, q_suben]
  exact u1
theorem q_dg_lt {B P : Nat} (hB : B ≤ 6) (hP0 : 0 < P) : ∀ (g j i : Nat), g ≤ B → q_dg P 6 g j i < P
  | 0, _, _, _ => hP0
  | g + 1, j, i, h => by
    have hr : q_rd P 6 g = P := by
      unfold q_rd
      rw [if_neg (by omega)]
    show (if i = g then j % q_rd P 6 g else q_dg P 6 g (j / q_rd P 6 g) i) < P
    split
    · rw [hr]
      exact Nat.mod_lt _ hP0
    · exact q_dg_lt hB hP0 g _ i (by omega)
theorem q_wl_LT {B P ld q0 : Nat} {a : Nat → Nat → Nat} {W : Nat → Nat} (G : q_LT B P a) (hW : ∀ g, g < B → W g < P) (hq : ld < B → q0 < P ∧ W ld ≠ q0) : q_LT B P (q_wl a W ld q0) := by
  refine ⟨fun g hg => ?_, G.2.1, G.2.2⟩
  obtain ⟨w1, w2, w3, w4, w5, w6⟩ := G.1 g hg
  have h := hW g hg
  refine ⟨w1, w2, w3, ?_, ?_, ?_⟩
  · show W g + 1 ≤ P
    omega
  · show (if g = ld then q0 + 1 else 0) ≤ P
    by_cases e : g = ld
    · rw [if_pos e]
      have := (hq (by omega)).1
      omega
    · rw [if_neg e]
      omega
  · show (if g = ld then q0 + 1 else 0) = 0 ∨ (W g + 1 ≠ 0 ∧ W g + 1 ≠ if g = ld then q0 + 1 else 0)
    by_cases e : g = ld
    · rw [if_pos e]
      subst e
      have := (hq hg).2
      exact Or.inr ⟨by omega, by omega⟩
    · rw [if_neg e]
      exact Or.inl rfl
/-- the reference's load by a way -/
theorem m_byWay {s u : sf_Sg} {B P : Nat} {a : Nat → Nat → Nat} {z : Int32} {W : Nat → Nat} (hB : B ≤ 6) (hP : P ≤ 5) (L : q_LM s B P 155 0 a z) (h1 : ∀ i, i < B → u 155 (12 + i) = nI (W i) ∧ u 155 (18 + i) = -1) (h2 : ∀ m, (m < 12 ∨ 24 ≤ m) → m < 31 → u 155 m = s 155 m) : q_LM u B P 155 0 (q_wl a W 6 0) z := by
  refine ⟨fun g hg => ?_, fun p hp => ?_, ?_, ?_⟩
  · obtain ⟨e0, e1, e2, e3⟩ := L.e hg
    obtain ⟨f1, f2⟩ := h1 g hg
    rw [Nat.zero_add, Nat.zero_add, Nat.zero_add, Nat.zero_add, h2 g (by omega) (by omega), h2 (6 + g) (by omega) (by omega), f1, f2]
    refine ⟨e0, e1, ?_, ?_⟩
    · show nI (W g) = q_en (W g + 1)
      rw [q_en_s]
    · show (-1 : Int32) = q_en (if g = 6 then 0 + 1 else 0)
      rw [if_neg (by omega)]
      rfl
  · rw [Nat.zero_add, h2 (24 + p) (by omega) (by omega)]
    exact L.so hp
  · rw [Nat.zero_add, h2 29 (by omega) (by omega)]
    exact L.zt
  · rw [Nat.zero_add, h2 30 (by omega) (by omega)]
    exact L.dy
