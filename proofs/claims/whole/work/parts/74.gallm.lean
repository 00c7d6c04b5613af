-- the reference's galling
theorem q_LM.e {s : sf_Sg} {B P : Nat} {a : Nat → Nat → Nat} {z : Int32} (L : q_LM s B P 155 0 a z) {g : Nat} (hg : g < B) : s 155 g = nI (a 0 g) ∧ s 155 (6 + g) = nI (a 1 g) ∧ s 155 (12 + g) = q_en (a 2 g) ∧ s 155 (18 + g) = q_en (a 3 g) := by
  have h := L.1 g hg
  rw [Nat.zero_add, Nat.zero_add, Nat.zero_add, Nat.zero_add] at h
  exact h
theorem q_LM.so {s : sf_Sg} {B P : Nat} {a : Nat → Nat → Nat} {z : Int32} (L : q_LM s B P 155 0 a z) {p : Nat} (hp : p < P) : s 155 (24 + p) = nI (a 4 p) := by
  have h := L.2.1 p hp
  rw [Nat.zero_add] at h
  exact h
theorem q_LM.dy {s : sf_Sg} {B P : Nat} {a : Nat → Nat → Nat} {z : Int32} (L : q_LM s B P 155 0 a z) : s 155 30 = nI (a 6 0) := L.2.2.2
theorem q_LM.zt {s : sf_Sg} {B P : Nat} {a : Nat → Nat → Nat} {z : Int32} (L : q_LM s B P 155 0 a z) : s 155 29 = z := L.2.2.1
theorem q_ldn {s : sf_Sg} {k g o : Nat} (h : o + g < 31) : sf_ld s k 31 (nI o + nI g) = some (s k (o + g)) := by
  rw [nI_add, q_ld h (by decide)]
section GALM
variable {s : sf_Sg} {B P : Nat} {sh a : Nat → Nat → Nat} {z : Int32}
theorem m_bears (L : q_LM s B P 155 0 a z) (hB : B ≤ 6) (hP : P ≤ 5) (G : q_LT B P a) {g p : Nat} (hg : g < B) (hp : p < P) : f10_bears s (nI g) (nI p) = some (if q_on a g p then 1 else 0) := by
  unfold f10_bears f10_bears_b0 f10_bears_b26 q_on
  have h2 := (G.1 g hg).2.2.2.1
  have h3 := (G.1 g hg).2.2.2.2.1
  rw [show sf_ld s 155 31 ((12 : Int32) + nI g) = some (s 155 (12 + g)) from q_ldn (o := 12) (g := g) (by omega), (L.e hg).2.2.1]
  simp only [q_ob]
  rw [show sf_ld s 155 31 ((18 : Int32) + nI g) = some (s 155 (18 + g)) from q_ldn (o := 18) (g := g) (by omega), (L.e hg).2.2.2]
  simp only [q_ob, q_en_p (show a 2 g ≤ 1000 by omega) (show p ≤ 1000 by omega), q_en_p (show a 3 g ≤ 1000 by omega) (show p ≤ 1000 by omega)]
  by_cases x : a 2 g = p + 1 <;> by_cases y : a 3 g = p + 1 <;> simp [x, y]
theorem m_isShared (L : q_LM s B P 155 0 a z) (hB : B ≤ 6) (hP : P ≤ 5) (G : q_LT B P a) {g : Nat} (hg : g < B) : f10_isShared s (nI g) = some (if q_shd a g then 1 else 0) := by
  unfold f10_isShared f10_isShared_b0 q_shd
  have h3 := (G.1 g hg).2.2.2.2.1
  rw [show sf_ld s 155 31 ((18 : Int32) + nI g) = some (s 155 (18 + g)) from q_ldn (o := 18) (g := g) (by omega), (L.e hg).2.2.2]
  simp only [q_ob, q_en_m (show a 3 g ≤ 1000 by omega)]
  by_cases y : a 3 g = 0 <;> simp [y]
theorem m_partOf (L : q_LM s B P 155 0 a z) (hB : B ≤ 6) (hP : P ≤ 5) (G : q_LT B P a) {g p : Nat} (hg : g < B) (hp : p < P) : f10_partOf s (nI g) (nI p) = some (nI (if q_on a g p then q_part a g p else 0)) := by
  unfold f10_partOf f10_partOf_b0
  have h0 := (G.1 g hg).2.1
  have h2 := (G.1 g hg).2.2.2.1
  rw [m_bears L hB hP G hg hp]
  simp only [q_ob]
  by_cases w : q_on a g p = true
  · rw [if_pos w, if_neg q_b1, if_pos w, m_isShared L hB hP G hg]
    simp only [q_ob]
    rw [q_ld (by omega) (by decide), (L.e hg).1]
    simp only [q_ob]
    rw [show sf_ld s 155 31 ((12 : Int32) + nI g) = some (s 155 (12 + g)) from q_ldn (o := 12) (g := g) (by omega), (L.e hg).2.2.1]
    simp only [q_ob, q_en_p (show a 2 g ≤ 1000 by omega) (show p ≤ 1000 by omega)]
    rw [q_div2 (by omega), pk_sub (by omega)]
    unfold q_shd q_part
    by_cases y : a 3 g = 0
    · simp [y]
    · by_cases x : a 2 g = p + 1 <;> simp [x, y]
  · rw [if_neg w, if_pos rfl, if_neg w]
    rfl
theorem m_isAugust (L : q_LM s B P 155 0 a z) (G : q_LT B P a) : f10_isAugust s = some (if a 6 0 % 12 = 7 then 1 else 0) := by
  have h6 := G.2.2
  unfold f10_isAugust f10_isAugust_b0
  rw [show sf_ld s 155 31 (30 : Int32) = some (s 155 30) from q_ld (i := 30) (by decide) (by decide), L.dy]
  simp only [q_ob]
  rw [q_rem12 (by omega)]
  by_cases w : a 6 0 % 12 = 7
  · rw [if_pos w, w]; rfl
  · rw [if_neg w, if_neg (show ¬ nI (a 6 0 % 12) = 7 from fun z => w ((nI_eq (b := 7) (by omega) (by decide)).mp z))]
theorem m_restOf (S : q_SM s B P sh) (SG : q_SG B P sh) (L : q_LM s B P 155 0 a z) (G : q_LT B P a) {g : Nat} (hg : g < B) : f10_restOf s (nI g) = some (nI (sh 1 g - a 1 g)) := by
  have hB := SG.1
  have k1 := (SG.2.2.1 g hg).2
  have h1 := (G.1 g hg).2.2.1
  unfold f10_restOf f10_restOf_b0
  rw [q_ld (by omega) (by decide), (S.2.2.1 g hg).2]
  simp only [q_ob]
  rw [show sf_ld s 155 31 ((6 : Int32) + nI g) = some (s 155 (6 + g)) from q_ldn (o := 6) (g := g) (by omega), (L.e hg).2.1]
  simp only [q_ob]
  rw [q_nb (by omega) (by omega)]
theorem m_rubsOn (S : q_SM s B P sh) (SG : q_SG B P sh) (L : q_LM s B P 155 0 a z) (G : q_LT B P a) {g p : Nat} (hg : g < B) (hp : p < P) : f10_rubsOn s (nI g) (nI p) = some (nI (q_rub sh a g p (q_shd a g) (a 6 0))) := by
  have hB := SG.1
  have hP := SG.2.1
  have k0 := (SG.2.2.1 g hg).1
  have k1 := (SG.2.2.1 g hg).2
  have k3 := (SG.2.2.2 p hp).2.2
  have h6 := G.2.2
  unfold f10_rubsOn f10_rubsOn_b0 q_rub
  rw [m_restOf S SG L G hg]
  simp only [q_ob]
  rw [q_ld (by omega) (by decide), (S.2.2.1 g hg).1]
  simp only [q_ob]
  rw [q_ld (by omega) (by decide), (S.2.2.2 p hp).2]
  simp only [q_ob]
  rw [m_isShared L hB hP G hg, show sf_ld s 155 31 (30 : Int32) = some (s 155 30) from q_ld (i := 30) (by decide) (by decide), L.dy, m_isAugust L G]
  simp only [q_ob]
  rw [q_rem2 (by omega), q_div2 (by omega)]
  have c1 : (nI (sh 0 g) = 1) = (sh 0 g = 1) := q_eq (b := 1) (by omega) (by decide)
  have c2 : (nI (sh 0 g) = 2) = (sh 0 g = 2) := q_eq (b := 2) (by omega) (by decide)
  have c3 : (nI (sh 0 g) = 3) = (sh 0 g = 3) := q_eq (b := 3) (by omega) (by decide)
  have c4 : (nI (sh 0 g) = 4) = (sh 0 g = 4) := q_eq (b := 4) (by omega) (by decide)
  have c5 : (nI (sh 1 g - a 1 g) ≤ 0) = (sh 1 g - a 1 g = 0) := by
    have : (nI (sh 1 g - a 1 g) ≤ nI 0) = (sh 1 g - a 1 g ≤ 0) := q_le (by omega) (by decide)
    rw [show (0 : Int32) = nI 0 from rfl, this]
    exact propext (by omega)
  simp only [c1, c2, c3, c4, c5]
  by_cases x1 : sh 0 g = 1
  · rw [if_pos x1, if_pos x1]
    cases q_shd a g <;> rfl
  · rw [if_neg x1, if_neg x1]
    by_cases x2 : sh 0 g = 2
    · rw [if_pos x2, if_pos x2]
      by_cases y : sh 1 g - a 1 g = 0
      · rw [if_pos y, if_pos y]; rfl
      · rw [if_neg y, if_neg y, nI_add]
    · rw [if_neg x2, if_neg x2]
      by_cases x3 : sh 0 g = 3
      · rw [if_pos x3, if_pos x3]
        rw [show (2 : Int32) * nI (a 6 0 % 2) = nI (2 * (a 6 0 % 2)) from pk_mul 2 _, nI_add]
        by_cases y : a 6 0 % 2 = 0
        · rw [if_pos y, y]
          rfl
        · rw [if_neg y, show a 6 0 % 2 = 1 by omega]
      · rw [if_neg x3, if_neg x3]
        by_cases x4 : sh 0 g = 4
        · rw [if_pos x4, if_pos x4]
          by_cases y : a 6 0 % 12 = 7
          · rw [if_pos y, if_pos y, if_neg q_b1]
            exact congrArg some (pk_mul 2 _)
          · rw [if_neg y, if_neg y]
            rfl
        · rw [if_neg x4, if_neg x4]
theorem m_partsOf (S : q_SM s B P sh) (L : q_LM s B P 155 0 a z) (hB : B ≤ 6) (hP : P ≤ 5) (G : q_LT B P a) {p : Nat} (hp : p < P) : f10_partsOf s (nI p) = some (nI (q_parts a B p (fun g => q_on a g p))) := by
  have key : ∀ (f i : Nat), B < f + i → i ≤ B → sf_it (f10_partsOf_b4 s) (fun _ _ _ => none) f (nI p) (nI (q_sm i (fun g => if q_on a g p then q_part a g p else 0))) (nI i) = some (nI (q_parts a B p (fun g => q_on a g p))) := by
    intro f
    induction f with
    | zero => intro i h1 h2; omega
    | succ f ih =>
      intro i h1 h2
      rw [q_it]
      generalize sf_it (f10_partsOf_b4 s) (fun _ _ _ => none) f = K at ih ⊢
      unfold f10_partsOf_b4
      rw [S.1]
      by_cases hi : i = B
      · subst hi
        rw [if_pos (nI_le (Nat.le_refl _) (by omega))]
        rfl
      · rw [if_neg (nI_ge (show i < B by omega) (by omega)), m_partOf L hB hP G (by omega) hp]
        simp only [q_ob]
        rw [nI_add, nI_1]
        exact ih (i + 1) (by omega) (by omega)
  exact key sf_FU 0 (by unfold sf_FU; omega) (by omega)
theorem m_gallingOf (S : q_SM s B P sh) (SG : q_SG B P sh) (L : q_LM s B P 155 0 a z) (G : q_LT B P a) {p : Nat} (hp : p < P) : f10_gallingOf s (nI p) = some (nI (q_gal sh a B p (fun g => q_on a g p) (a 6 0))) := by
  have hB := SG.1
  have hP := SG.2.1
  have key : ∀ (f i : Nat), B < f + i → i ≤ B → sf_it (f10_gallingOf_b18 s) (fun _ _ _ => none) f (nI p) (nI ((q_parts a B p (fun g => q_on a g p) - sh 2 p) + q_sm i (fun g => if q_on a g p then q_rub sh a g p (q_shd a g) (a 6 0) else 0))) (nI i) = some (nI (q_gal sh a B p (fun g => q_on a g p) (a 6 0))) := by
    intro f
    induction f with
    | zero => intro i h1 h2; omega
    | succ f ih =>
      intro i h1 h2
      rw [q_it]
      generalize sf_it (f10_gallingOf_b18 s) (fun _ _ _ => none) f = K at ih ⊢
      unfold f10_gallingOf_b18 f10_gallingOf_b46
      rw [S.1]
      by_cases hi : i = B
      · subst hi
        rw [if_pos (nI_le (Nat.le_refl _) (by omega))]
        rfl
      · rw [if_neg (nI_ge (show i < B by omega) (by omega)), m_bears L hB hP G (by omega) hp]
        simp only [q_ob]
        have st := ih (i + 1) (by omega) (by omega)
        by_cases ht : q_on a i p = true
        · rw [if_pos ht, if_neg q_b1, m_rubsOn S SG L G (by omega) hp]
          simp only [q_ob]
          rw [nI_add, nI_1]
          have e1 : q_sm (i + 1) (fun g => if q_on a g p then q_rub sh a g p (q_shd a g) (a 6 0) else 0) = q_sm i (fun g => if q_on a g p then q_rub sh a g p (q_shd a g) (a 6 0) else 0) + q_rub sh a i p (q_shd a i) (a 6 0) := by
            show _ + (if q_on a i p then _ else _) = _
            rw [if_pos ht]
          rw [e1, ← Nat.add_assoc] at st
          exact st
        · rw [if_neg ht, if_pos rfl, nI_1]
          have e1 : q_sm (i + 1) (fun g => if q_on a g p then q_rub sh a g p (q_shd a g) (a 6 0) else 0) = q_sm i (fun g => if q_on a g p then q_rub sh a g p (q_shd a g) (a 6 0) else 0) := by
            show _ + (if q_on a i p then _ else _) = _
            rw [if_neg ht, Nat.add_zero]
          rw [e1] at st
          rw [show (0 : Int32) = nI 0 from rfl, nI_add, Nat.add_zero]
          exact st
  unfold f10_gallingOf f10_gallingOf_b0
  rw [m_partsOf S L hB hP G hp]
  simp only [q_ob]
  rw [q_ld (by omega) (by decide), (S.2.2.2 p hp).1]
  simp only [q_ob]
  have hpl := q_parts_le (a := a) (p := p) (on := fun g => q_on a g p) hB (fun g hg => (G.1 g hg).2.1)
  rw [q_nb (by omega) (by have := (SG.2.2.2 p hp).2.1; omega)]
  exact key sf_FU 0 (by unfold sf_FU; omega) (by omega)
theorem m_carriedBy (S : q_SM s B P sh) (L : q_LM s B P 155 0 a z) (hB : B ≤ 6) (hP : P ≤ 5) (G : q_LT B P a) {p : Nat} (hp : p < P) : f10_carriedBy s (nI p) = some (nI (q_bits B (fun g => q_on a g p))) := by
  have key : ∀ (f i : Nat), B < f + i → i ≤ B → sf_it (f10_carriedBy_b4 s) (fun _ _ _ => none) f (nI p) (nI (q_bits i (fun g => q_on a g p))) (nI i) = some (nI (q_bits B (fun g => q_on a g p))) := by
    intro f
    induction f with
    | zero => intro i h1 h2; omega
    | succ f ih =>
      intro i h1 h2
      rw [q_it]
      generalize sf_it (f10_carriedBy_b4 s) (fun _ _ _ => none) f = K at ih ⊢
      unfold f10_carriedBy_b4 f10_carriedBy_b29
      rw [S.1]
      by_cases hi : i = B
      · subst hi
        rw [if_pos (nI_le (Nat.le_refl _) (by omega))]
      · rw [if_neg (nI_ge (show i < B by omega) (by omega)), m_bears L hB hP G (by omega) hp]
        simp only [q_ob]
        have st := ih (i + 1) (by omega) (by omega)
        by_cases ht : q_on a i p = true
        · rw [if_pos ht, if_neg q_b1, q_shl i (by omega), q_or (q_bits_lt _ i) (by omega), nI_1]
          have e1 : q_bits (i + 1) (fun g => q_on a g p) = q_bits i (fun g => q_on a g p) + 2 ^ i := by
            show _ + (if q_on a i p then _ else _) = _
            rw [if_pos ht]
          rw [e1] at st
          exact st
        · rw [if_neg ht, if_pos rfl, nI_1]
          have e1 : q_bits (i + 1) (fun g => q_on a g p) = q_bits i (fun g => q_on a g p) := by
            show _ + (if q_on a i p then _ else _) = _
            rw [if_neg ht, Nat.add_zero]
          rw [e1] at st
          rw [show (0 : Int32) = nI 0 from rfl, fa_or, Nat.or_zero]
          exact st
  exact key sf_FU 0 (by unfold sf_FU; omega) (by omega)
end GALM
theorem q_gal_bits {sh a : Nat → Nat → Nat} {B p d : Nat} : q_gal sh a B p (fun g => (q_bits B (fun g => q_on a g p)).testBit g) d = q_gal sh a B p (fun g => q_on a g p) d := q_gal_congr (fun g hg => q_bits_test _ g B hg)
theorem q_bits64 {B : Nat} (hB : B ≤ 6) (f : Nat → Bool) : q_bits B f < 64 := by
  have h1 := q_bits_lt f B
  have h2 : 2 ^ B ≤ 2 ^ 6 := Nat.pow_le_pow_right (by decide) hB
  have h3 : (2 : Nat) ^ 6 = 64 := by decide
  omega
theorem c_gallingToday {s : sf_Sg} {B P : Nat} {sh a : Nat → Nat → Nat} {z : Int32} (S : q_SC s B P sh) (SG : q_SG B P sh) (L : q_LC s B P 16 a z) (G : q_LT B P a) {p : Nat} (hp : p < P) : f6_gallingToday s (nI p) = some (nI (q_gal sh a B p (fun g => q_on a g p) (a 6 0))) := by
  unfold f6_gallingToday f6_gallingToday_b0
  rw [c_carriedBy S L SG.1 SG.2.1 G hp]
  simp only [q_ob]
  rw [L.2.2.2, c_gallingOf S SG L G (q_bits64 SG.1 _) hp (by have := G.2.2; omega)]
  simp only [q_ob]
  rw [q_gal_bits]
