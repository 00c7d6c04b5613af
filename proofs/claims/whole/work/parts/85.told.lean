-- flock that is wanted
def q_need (sh a : Nat → Nat → Nat) (g : Nat) : Nat :=
  if sh 0 g = 1 then (if q_shd a g then sh 1 g - a 1 g - 1 else sh 1 g - a 1 g)
  else if sh 0 g = 3 then (if a 6 0 % 2 = 1 then 1000000 else sh 1 g - a 1 g)
  else if sh 0 g = 4 then (if a 6 0 % 12 = 7 then sh 1 g - a 1 g else 0)
  else sh 1 g - a 1 g
def q_needs (sh a : Nat → Nat → Nat) (n : Nat) (on : Nat → Bool) : Nat := q_sm n (fun g => if on g then q_need sh a g else 0)
def q_nr (n : Nat) : Int32 := if 1000000 ≤ n then -1 else nI n
theorem q_need_c {sh a : Nat → Nat → Nat} {g : Nat} (h : sh 1 g ≤ 20) : q_need sh a g = 1000000 ∨ q_need sh a g ≤ 20 := by
  unfold q_need
  repeat' split
  all_goals omega
theorem q_sm_ge {f : Nat → Nat} : ∀ {n i : Nat}, i < n → q_sm i f + f i ≤ q_sm n f
  | 0, i, h => absurd h (by omega)
  | n + 1, i, h => by
    show _ ≤ q_sm n f + f n
    by_cases e : i = n
    · subst e
      exact Nat.le_refl _
    · have := q_sm_ge (f := f) (n := n) (i := i) (by omega)
      omega
theorem q_max1 {e p : Nat} (he : e ≤ 100000) (hp : p ≤ 90000) : sf_max 0 ((nI e - nI p) - 1) = nI (e - p - 1) := by
  have e1 : (nI e - nI p) - 1 = nI e - nI (p + 1) := by
    rw [← nI_1 p]
    grind
  rw [e1, q_max0 he (by omega), Nat.sub_sub]
theorem q_max00 {e p : Nat} (he : e ≤ 100000) (hp : p ≤ 100000) : sf_max 0 ((nI e - nI p) - 0) = nI (e - p) := by
  have e1 : (nI e - nI p) - 0 = nI e - nI p := by grind
  rw [e1, q_max0 he hp]
theorem q_nb1 {e : Nat} (he : e ≤ 100000) : f10_notBelow (nI e - 1) = nI (e - 1) := q_nb (p := 1) he (by decide)
section TOLD
variable {s : sf_Sg} {B P : Nat} {sh a : Nat → Nat → Nat} {z : Int32}
theorem q_nr20 {n : Nat} (h : n ≤ 20) : nI n = q_nr n := by
  unfold q_nr
  rw [if_neg (by omega)]
theorem c_flockForBurden (S : q_SC s B P sh) (SG : q_SG B P sh) (L : q_LC s B P 16 a z) (G : q_LT B P a) {g : Nat} (hg : g < B) : f6_flockForBurden s (nI g) = some (q_nr (q_need sh a g)) := by
  have hB := SG.1
  have hP := SG.2.1
  have h4 := (SG.2.2.1 g hg).1
  have h20 := (SG.2.2.1 g hg).2
  have h30 := (G.1 g hg).2.2.1
  have d6 := G.2.2
  have l13 : sf_ld s 13 6 (nI g) = some (nI (sh 1 g)) := by rw [q_ld (by omega) (by decide), (S.2.2.1 g hg).2]
  have l18 : sf_ld s 18 6 (nI g) = some (nI (a 1 g)) := by
    rw [q_ld (by omega) (by decide)]
    exact congrArg some (L.1 g hg).2.1
  have dd : s 16 0 = nI (a 6 0) := L.2.2.2
  have r0 : f6_flockForBurden_b70 s (nI g) 0 = some (nI (sh 1 g - a 1 g)) := by
    unfold f6_flockForBurden_b70
    rw [l13, l18]
    simp only [q_ob]
    rw [q_max00 (by omega) (by omega)]
  have r1 : f6_flockForBurden_b70 s (nI g) 1 = some (nI (sh 1 g - a 1 g - 1)) := by
    unfold f6_flockForBurden_b70
    rw [l13, l18]
    simp only [q_ob]
    rw [q_max1 (by omega) (by omega)]
  unfold f6_flockForBurden f6_flockForBurden_b0 f6_flockForBurden_b29 f6_flockForBurden_b49 f6_flockForBurden_b69
  rw [q_ld (show g < 6 by omega) (by decide), (S.2.2.1 g hg).1]
  simp only [q_ob]
  rw [r0, r1, dd, q_rem2 (by omega), q_aug (by omega), c_isShared L hB hP G hg]
  simp only [q_ob]
  unfold q_need
  have hk : sh 0 g = 0 ∨ sh 0 g = 1 ∨ sh 0 g = 2 ∨ sh 0 g = 3 ∨ sh 0 g = 4 := by omega
  have n2 : ∀ m : Nat, m % 2 = 0 ∨ m % 2 = 1 := fun m => by omega
  rcases hk with k | k | k | k | k <;> rw [k]
  · exact congrArg some (q_nr20 (by omega))
  · cases hb : q_shd a g with
    | false => exact congrArg some (q_nr20 (by omega))
    | true => exact congrArg some (q_nr20 (by omega))
  · exact congrArg some (q_nr20 (by omega))
  · rcases n2 (a 6 0) with w | w <;> rw [w]
    · exact congrArg some (q_nr20 (by omega))
    · rfl
  · by_cases w : a 6 0 % 12 = 7
    · rw [if_pos w, if_pos w]
      exact congrArg some (q_nr20 (by omega))
    · rw [if_neg w, if_neg w]
      rfl
theorem m_needOf (S : q_SM s B P sh) (SG : q_SG B P sh) (L : q_LM s B P 155 0 a z) (G : q_LT B P a) {g : Nat} (hg : g < B) : f10_needOf s (nI g) = some (nI (q_need sh a g)) := by
  have hB := SG.1
  have hP := SG.2.1
  have h4 := (SG.2.2.1 g hg).1
  have h20 := (SG.2.2.1 g hg).2
  have d6 := G.2.2
  have l30 : sf_ld s 155 31 (30 : Int32) = some (nI (a 6 0)) := by
    have : sf_ld s 155 31 (30 : Int32) = some (s 155 30) := q_ld (i := 30) (by decide) (by decide)
    rw [this, L.dy]
  unfold f10_needOf f10_needOf_b0
  rw [m_restOf S SG L G hg, q_ld (show g < 6 by omega) (by decide), (S.2.2.1 g hg).1]
  simp only [q_ob]
  rw [l30, m_isShared L hB hP G hg, m_isAugust L G]
  simp only [q_ob]
  rw [q_rem2 (by omega), q_nb1 (by omega)]
  unfold q_need
  have hk : sh 0 g = 0 ∨ sh 0 g = 1 ∨ sh 0 g = 2 ∨ sh 0 g = 3 ∨ sh 0 g = 4 := by omega
  have n2 : ∀ m : Nat, m % 2 = 0 ∨ m % 2 = 1 := fun m => by omega
  rcases hk with k | k | k | k | k <;> rw [k]
  · rfl
  · cases hb : q_shd a g with
    | false => rfl
    | true => rfl
  · rfl
  · rcases n2 (a 6 0) with w | w <;> rw [w] <;> rfl
  · by_cases w : a 6 0 % 12 = 7
    · rw [if_pos w, if_pos w]
      rfl
    · rw [if_neg w, if_neg w]
      rfl
theorem q_nr_m {n : Nat} (h : n ≤ 2000000) : (q_nr n = -1) = (1000000 ≤ n) := by
  unfold q_nr
  apply propext
  by_cases w : 1000000 ≤ n
  · rw [if_pos w]
    exact ⟨fun _ => w, fun _ => rfl⟩
  · rw [if_neg w]
    exact ⟨fun e => absurd e (q_neg1 n h), fun e => absurd e w⟩
theorem c_flockForBurdens (S : q_SC s B P sh) (SG : q_SG B P sh) (L : q_LC s B P 16 a z) (G : q_LT B P a) {m : Nat} (hm : m < 64) : f6_flockForBurdens s (nI m) = some (q_nr (q_needs sh a B (fun g => m.testBit g))) := by
  have hB := SG.1
  have hP := SG.2.1
  have key : ∀ (f i : Nat), B < f + i → i ≤ B → q_needs sh a i (fun g => m.testBit g) ≤ 20 * i → sf_it (f6_flockForBurdens_b4 s) (fun _ _ _ => none) f (nI m) (nI (q_needs sh a i (fun g => m.testBit g))) (nI i) = some (q_nr (q_needs sh a B (fun g => m.testBit g))) := by
    intro f
    induction f with
    | zero => intro i h1 h2; omega
    | succ f ih =>
      intro i h1 h2 h3
      rw [q_it]
      generalize sf_it (f6_flockForBurdens_b4 s) (fun _ _ _ => none) f = K at ih ⊢
      unfold f6_flockForBurdens_b4 f6_flockForBurdens_b43
      rw [S.1]
      by_cases hi : i = B
      · subst hi
        rw [if_pos (nI_le (Nat.le_refl _) (by omega))]
        unfold q_nr
        rw [if_neg (by omega)]
      · have hlt : i < B := by omega
        have eS : q_needs sh a (i + 1) (fun g => m.testBit g) = q_needs sh a i (fun g => m.testBit g) + (if m.testBit i then q_need sh a i else 0) := rfl
        rw [if_neg (nI_ge hlt (by omega)), q_has m hm i (by omega)]
        by_cases ht : m.testBit i = true
        · rw [if_pos ht, if_neg q_b1, c_flockForBurden S SG L G hlt]
          simp only [q_ob]
          rw [if_pos ht] at eS
          rcases q_need_c (a := a) (SG.2.2.1 i hlt).2 with w | w
          · have e1 : q_nr (q_need sh a i) = -1 := by
              unfold q_nr
              rw [if_pos (by omega)]
            have e2 : q_nr (q_needs sh a B (fun g => m.testBit g)) = -1 := by
              have this : q_needs sh a i (fun g => m.testBit g) + (if m.testBit i then q_need sh a i else 0) ≤ q_needs sh a B (fun g => m.testBit g) := q_sm_ge (f := fun g => if m.testBit g then q_need sh a g else 0) hlt
              rw [if_pos ht, w] at this
              unfold q_nr
              rw [if_pos (by omega)]
            rw [if_pos e1, e2]
          · have e1 : ¬ q_nr (q_need sh a i) = -1 := by
              unfold q_nr
              rw [if_neg (by omega)]
              exact q_neg1 _ (by omega)
            rw [if_neg e1, ← q_nr20 w, nI_add, nI_1, ← eS]
            exact ih (i + 1) (by omega) (by omega) (by omega)
        · rw [if_neg ht, if_pos rfl, nI_1]
          rw [if_neg ht] at eS
          have eS' : q_needs sh a (i + 1) (fun g => m.testBit g) = q_needs sh a i (fun g => m.testBit g) := eS
          rw [← eS']
          exact ih (i + 1) (by omega) (by omega) (by omega)
  exact key sf_FU 0 (by unfold sf_FU; omega) (by omega) (by unfold q_needs q_sm; omega)
theorem q_needs_le (SG : q_SG B P sh) {on : Nat → Bool} : q_needs sh a B on ≤ 6000000 := by
  have := q_sm_le (n := B) (c := 1000000) (f := fun g => if on g then q_need sh a g else 0) (fun g hg => by
    show (if on g then q_need sh a g else 0) ≤ 1000000
    have := q_need_c (a := a) (SG.2.2.1 g hg).2
    split <;> omega)
  have := SG.1
  unfold q_needs
  omega
theorem q_big {n : Nat} (h : n ≤ 100000000) : ((1000000 : Int32) ≤ nI n) = (1000000 ≤ n) := propext (nI_leI (a := 1000000) (by decide) (by omega))
theorem c_partsOn (S : q_SC s B P sh) (L : q_LC s B P 16 a z) (hB : B ≤ 6) (hP : P ≤ 5) (G : q_LT B P a) {p : Nat} (hp : p < P) : f6_partsOn s (nI p) = some (nI (q_parts a B p (fun g => q_on a g p))) := by
  have m64 := q_bits64 hB (fun g => q_on a g p)
  have key : ∀ (f i : Nat), B < f + i → i ≤ B → sf_it (f6_partsOn_b11 s) (fun _ _ _ _ => none) f (nI p) (nI (q_bits B (fun g => q_on a g p))) (nI (q_sm i (fun g => if q_on a g p then q_part a g p else 0))) (nI i) = some (nI (q_parts a B p (fun g => q_on a g p))) := by
    intro f
    induction f with
    | zero => intro i h1 h2; omega
    | succ f ih =>
      intro i h1 h2
      rw [q_it]
      generalize sf_it (f6_partsOn_b11 s) (fun _ _ _ _ => none) f = K at ih ⊢
      unfold f6_partsOn_b11 f6_partsOn_b42
      rw [S.1]
      by_cases hi : i = B
      · subst hi
        rw [if_pos (nI_le (Nat.le_refl _) (by omega))]
        rfl
      · have hlt : i < B := by omega
        have eS : q_sm (i + 1) (fun g => if q_on a g p then q_part a g p else 0) = q_sm i (fun g => if q_on a g p then q_part a g p else 0) + (if q_on a i p then q_part a i p else 0) := rfl
        rw [if_neg (nI_ge hlt (by omega)), q_has _ m64 i (by omega), q_bits_test _ i B hlt]
        have st := ih (i + 1) (by omega) (by omega)
        by_cases ht : q_on a i p = true
        · rw [if_pos ht, if_neg q_b1, c_partOf L hB hP G hlt hp]
          simp only [q_ob]
          rw [if_pos ht] at eS
          rw [eS] at st
          rw [nI_add, nI_1]
          exact st
        · rw [if_neg ht, if_pos rfl, nI_1]
          rw [if_neg ht, Nat.add_zero] at eS
          rw [eS] at st
          exact st
  unfold f6_partsOn f6_partsOn_b0
  rw [c_carriedBy S L hB hP G hp]
  simp only [q_ob]
  exact key sf_FU 0 (by unfold sf_FU; omega) (by omega)
def q_ov (sh a : Nat → Nat → Nat) (B p : Nat) : Nat := if q_parts a B p (fun g => q_on a g p) ≤ sh 2 p then 0 else 1000000
theorem q_str (SG : q_SG B P sh) (G : q_LT B P a) {p : Nat} (hp : p < P) : (nI (q_parts a B p (fun g => q_on a g p)) ≤ nI (sh 2 p)) = (q_parts a B p (fun g => q_on a g p) ≤ sh 2 p) := by
  have h1 := q_parts_le (a := a) (p := p) (on := fun g => q_on a g p) SG.1 (fun g hg => (G.1 g hg).2.1)
  have h2 := (SG.2.2.2 p hp).2.1
  exact q_le (by omega) (by omega)
theorem c_flockForBack (S : q_SC s B P sh) (SG : q_SG B P sh) (L : q_LC s B P 16 a z) (G : q_LT B P a) {p : Nat} (hp : p < P) : f6_flockForBack s (nI p) = some (q_nr (q_ov sh a B p + q_needs sh a B (fun g => q_on a g p))) := by
  have hB := SG.1
  have hP := SG.2.1
  unfold f6_flockForBack f6_flockForBack_b0
  rw [c_partsOn S L hB hP G hp, q_ld (show p < 5 by omega) (by decide), (S.2.2.2 p hp).1, c_carriedBy S L hB hP G hp]
  simp only [q_ob]
  rw [c_flockForBurdens S SG L G (q_bits64 hB _)]
  simp only [q_ob]
  have e : q_needs sh a B (fun g => (q_bits B (fun g => q_on a g p)).testBit g) = q_needs sh a B (fun g => q_on a g p) := q_sm_congr (fun i hi => by
    show (if (q_bits B (fun g => q_on a g p)).testBit i = true then _ else _) = (if q_on a i p = true then _ else _)
    rw [q_bits_test _ i B hi])
  rw [e]
  simp only [q_str SG G hp]
  unfold q_ov
  by_cases w : q_parts a B p (fun g => q_on a g p) ≤ sh 2 p
  · rw [if_pos w, if_pos w, Nat.zero_add]
  · rw [if_neg w, if_neg w]
    unfold q_nr
    rw [if_pos (by omega)]
theorem m_stuffFor (S : q_SM s B P sh) (SG : q_SG B P sh) (L : q_LM s B P 155 0 a z) (G : q_LT B P a) {p : Nat} (hp : p < P) : f10_stuffFor s (nI p) = some (q_nr (q_ov sh a B p + q_needs sh a B (fun g => q_on a g p))) := by
  have hB := SG.1
  have hP := SG.2.1
  have hN := q_needs_le (a := a) (on := fun g => q_on a g p) SG
  have hO : q_ov sh a B p ≤ 1000000 := by
    unfold q_ov
    split <;> omega
  have key : ∀ (f i : Nat), B < f + i → i ≤ B → sf_it (f10_stuffFor_b23 s) (fun _ _ _ => none) f (nI p) (nI (q_ov sh a B p + q_needs sh a i (fun g => q_on a g p))) (nI i) = some (q_nr (q_ov sh a B p + q_needs sh a B (fun g => q_on a g p))) := by
    intro f
    induction f with
    | zero => intro i h1 h2; omega
    | succ f ih =>
      intro i h1 h2
      rw [q_it]
      generalize sf_it (f10_stuffFor_b23 s) (fun _ _ _ => none) f = K at ih ⊢
      unfold f10_stuffFor_b23 f10_stuffFor_b50 f10_stuffFor_b58
      rw [S.1]
      by_cases hi : i = B
      · subst hi
        rw [if_pos (nI_le (Nat.le_refl _) (by omega))]
        simp only [q_big (show q_ov sh a i p + q_needs sh a i (fun g => q_on a g p) ≤ 100000000 by omega)]
        unfold q_nr
        split <;> rfl
      · have hlt : i < B := by omega
        have eS : q_needs sh a (i + 1) (fun g => q_on a g p) = q_needs sh a i (fun g => q_on a g p) + (if q_on a i p then q_need sh a i else 0) := rfl
        rw [if_neg (nI_ge hlt (by omega)), m_bears L hB hP G hlt hp, m_needOf S SG L G hlt]
        simp only [q_ob]
        have st := ih (i + 1) (by omega) (by omega)
        by_cases ht : q_on a i p = true
        · rw [if_pos ht] at eS
          rw [if_pos ht, if_neg q_b1, nI_add, nI_1, Nat.add_assoc, ← eS]
          exact st
        · rw [if_neg ht] at eS
          have eS' : q_needs sh a (i + 1) (fun g => q_on a g p) = q_needs sh a i (fun g => q_on a g p) := eS
          rw [if_neg ht, if_pos rfl, show (0 : Int32) = nI 0 from rfl, nI_add, nI_1, Nat.add_zero, ← eS']
          exact st
  unfold f10_stuffFor f10_stuffFor_b0 f10_stuffFor_b20 f10_stuffFor_L23
  rw [m_partsOf S L hB hP G hp, q_ld (show p < 5 by omega) (by decide), (S.2.2.2 p hp).1]
  simp only [q_ob, q_str SG G hp]
  have k0 := key sf_FU 0 (by unfold sf_FU; omega) (by omega)
  have eo : q_ov sh a B p = if q_parts a B p (fun g => q_on a g p) ≤ sh 2 p then 0 else 1000000 := rfl
  by_cases w : q_parts a B p (fun g => q_on a g p) ≤ sh 2 p
  · rw [if_pos w] at eo ⊢
    rw [eo] at k0 ⊢
    exact k0
  · rw [if_neg w] at eo ⊢
    rw [eo] at k0 ⊢
    exact k0
-- all backs
def q_un (a : Nat → Nat → Nat) (B : Nat) : Nat → Nat
  | 0 => 0
  | i + 1 => q_un a B i ||| q_bits B (fun g => q_on a g i)
theorem q_un64 {a : Nat → Nat → Nat} {B : Nat} (hB : B ≤ 6) : ∀ i, q_un a B i < 64
  | 0 => by show 0 < 64; omega
  | i + 1 => Nat.or_lt_two_pow (n := 6) (q_un64 hB i) (q_bits64 hB _)
theorem q_un_test {a : Nat → Nat → Nat} {B g : Nat} (hg : g < B) : ∀ i, (q_un a B i).testBit g = true ↔ ∃ p, p < i ∧ q_on a g p = true
  | 0 => by
    show (0 : Nat).testBit g = true ↔ _
    rw [Nat.zero_testBit]
    exact ⟨fun h => absurd h (by decide), fun ⟨p, hp, _⟩ => absurd hp (by omega)⟩
  | i + 1 => by
    show (q_un a B i ||| q_bits B (fun g => q_on a g i)).testBit g = true ↔ _
    rw [Nat.testBit_or, Bool.or_eq_true, q_un_test hg i, q_bits_test _ g B hg]
    constructor
    · rintro (⟨p, hp, h⟩ | h)
      · exact ⟨p, by omega, h⟩
      · exact ⟨i, by omega, h⟩
    · rintro ⟨p, hp, h⟩
      by_cases e : p = i
      · subst e
        exact Or.inr h
      · exact Or.inl ⟨p, by omega, h⟩
theorem q_un_all (G : q_LT B P a) {g : Nat} (hg : g < B) : (q_un a B P).testBit g = decide (a 2 g ≠ 0) := by
  have h := q_un_test (a := a) hg P
  obtain ⟨w1, w2, w3, w4, w5, w6⟩ := G.1 g hg
  by_cases e : a 2 g = 0
  · have : ¬ (q_un a B P).testBit g = true := by
      rw [h]
      rintro ⟨p, hp, hq⟩
      unfold q_on at hq
      rw [Bool.or_eq_true, decide_eq_true_iff, decide_eq_true_iff] at hq
      omega
    rw [Bool.eq_false_iff.mpr this]
    simp [e]
  · have : (q_un a B P).testBit g = true := by
      rw [h]
      refine ⟨a 2 g - 1, by omega, ?_⟩
      unfold q_on
      rw [Bool.or_eq_true, decide_eq_true_iff]
      omega
    rw [this]
    simp [e]
theorem c_flockForAll (S : q_SC s B P sh) (SG : q_SG B P sh) (L : q_LC s B P 16 a z) (G : q_LT B P a) : f6_flockForAll s = some (q_nr (q_sm P (q_ov sh a B) + q_needs sh a B (fun g => decide (a 2 g ≠ 0)))) := by
  have hB := SG.1
  have hP := SG.2.1
  have key : ∀ (f i : Nat), P < f + i → i ≤ P → q_sm i (q_ov sh a B) = 0 → sf_it (f6_flockForAll_b4 s) (fun _ _ => none) f (nI (q_un a B i)) (nI i) = some (q_nr (q_sm P (q_ov sh a B) + q_needs sh a B (fun g => decide (a 2 g ≠ 0)))) := by
    intro f
    induction f with
    | zero => intro i h1 h2; omega
    | succ f ih =>
      intro i h1 h2 h3
      rw [q_it]
      generalize sf_it (f6_flockForAll_b4 s) (fun _ _ => none) f = K at ih ⊢
      unfold f6_flockForAll_b4 f6_flockForAll_b48
      rw [S.2.1]
      by_cases hi : i = P
      · subst hi
        rw [if_pos (nI_le (Nat.le_refl _) (by omega)), c_flockForBurdens S SG L G (q_un64 hB _), h3, Nat.zero_add]
        simp only [q_ob]
        have : q_needs sh a B (fun g => (q_un a B i).testBit g) = q_needs sh a B (fun g => decide (a 2 g ≠ 0)) := q_sm_congr (fun j hj => by
          show (if (q_un a B i).testBit j = true then _ else _) = (if decide (a 2 j ≠ 0) = true then _ else _)
          rw [q_un_all G hj])
        rw [this]
      · have hlt : i < P := by omega
        have eS : q_sm (i + 1) (q_ov sh a B) = q_sm i (q_ov sh a B) + q_ov sh a B i := rfl
        rw [if_neg (nI_ge hlt (by omega)), c_partsOn S L hB hP G hlt, q_ld (show i < 5 by omega) (by decide), (S.2.2.2 i hlt).1, c_carriedBy S L hB hP G hlt]
        simp only [q_ob, q_str SG G hlt]
        have eo : q_ov sh a B i = if q_parts a B i (fun g => q_on a g i) ≤ sh 2 i then 0 else 1000000 := rfl
        by_cases w : q_parts a B i (fun g => q_on a g i) ≤ sh 2 i
        · rw [if_pos w] at eo ⊢
          rw [nI_1]
          have : nI (q_un a B i) ||| nI (q_bits B (fun g => q_on a g i)) = nI (q_un a B (i + 1)) := fa_or _ _
          rw [this]
          exact ih (i + 1) (by omega) (by omega) (by omega)
        · rw [if_neg w] at eo ⊢
          have := q_sm_ge (f := q_ov sh a B) hlt
          unfold q_nr
          rw [if_pos (by omega)]
  exact key sf_FU 0 (by unfold sf_FU; omega) (by omega) rfl
theorem m_stuffForAll (S : q_SM s B P sh) (SG : q_SG B P sh) (L : q_LM s B P 155 0 a z) (G : q_LT B P a) : f10_stuffForAll s = some (q_nr (q_sm P (q_ov sh a B) + q_needs sh a B (fun g => decide (a 2 g ≠ 0)))) := by
  have hB := SG.1
  have hP := SG.2.1
  have hN := q_needs_le (a := a) (on := fun g => decide (a 2 g ≠ 0)) SG
  have hO : q_sm P (q_ov sh a B) ≤ 5000000 := by
    have := q_sm_le (n := P) (c := 1000000) (f := q_ov sh a B) (fun p hp => by
      unfold q_ov
      split <;> omega)
    omega
  have key2 : ∀ (f i : Nat), B < f + i → i ≤ B → sf_it (f10_stuffForAll_b43 s) (fun _ _ => none) f (nI (q_sm P (q_ov sh a B) + q_needs sh a i (fun g => decide (a 2 g ≠ 0)))) (nI i) = some (q_nr (q_sm P (q_ov sh a B) + q_needs sh a B (fun g => decide (a 2 g ≠ 0)))) := by
    intro f
    induction f with
    | zero => intro i h1 h2; omega
    | succ f ih =>
      intro i h1 h2
      rw [q_it]
      generalize sf_it (f10_stuffForAll_b43 s) (fun _ _ => none) f = K at ih ⊢
      unfold f10_stuffForAll_b43 f10_stuffForAll_b74 f10_stuffForAll_b82
      rw [S.1]
      by_cases hi : i = B
      · subst hi
        rw [if_pos (nI_le (Nat.le_refl _) (by omega))]
        simp only [q_big (show q_sm P (q_ov sh a i) + q_needs sh a i (fun g => decide (a 2 g ≠ 0)) ≤ 100000000 by omega)]
        unfold q_nr
        split <;> rfl
      · have hlt : i < B := by omega
        have eS : q_needs sh a (i + 1) (fun g => decide (a 2 g ≠ 0)) = q_needs sh a i (fun g => decide (a 2 g ≠ 0)) + (if decide (a 2 i ≠ 0) = true then q_need sh a i else 0) := rfl
        have l12 : sf_ld s 155 31 ((12 : Int32) + nI i) = some (q_en (a 2 i)) := by
          rw [← (L.e hlt).2.2.1]
          exact q_ldn (o := 12) (by omega)
        rw [if_neg (nI_ge hlt (by omega)), l12, m_needOf S SG L G hlt]
        simp only [q_ob, q_en_m (show a 2 i ≤ 1000 by have := (G.1 i hlt).2.2.2.1; omega)]
        have st := ih (i + 1) (by omega) (by omega)
        by_cases ht : a 2 i = 0
        · rw [if_neg (show ¬ decide (a 2 i ≠ 0) = true by simp [ht])] at eS
          have eS' : q_needs sh a (i + 1) (fun g => decide (a 2 g ≠ 0)) = q_needs sh a i (fun g => decide (a 2 g ≠ 0)) := eS
          rw [if_pos ht, show (0 : Int32) = nI 0 from rfl, nI_add, nI_1, Nat.add_zero, ← eS']
          exact st
        · rw [if_pos (show decide (a 2 i ≠ 0) = true by simp [ht])] at eS
          rw [if_neg ht, nI_add, nI_1, Nat.add_assoc, ← eS]
          exact st
  have key : ∀ (f i : Nat), P < f + i → i ≤ P → sf_it (f10_stuffForAll_b4 s) (fun _ _ => none) f (nI (q_sm i (q_ov sh a B))) (nI i) = some (q_nr (q_sm P (q_ov sh a B) + q_needs sh a B (fun g => decide (a 2 g ≠ 0)))) := by
    intro f
    induction f with
    | zero => intro i h1 h2; omega
    | succ f ih =>
      intro i h1 h2
      rw [q_it]
      generalize sf_it (f10_stuffForAll_b4 s) (fun _ _ => none) f = K at ih ⊢
      unfold f10_stuffForAll_b4 f10_stuffForAll_b33 f10_stuffForAll_b41
      rw [S.2.1]
      by_cases hi : i = P
      · subst hi
        rw [if_pos (nI_le (Nat.le_refl _) (by omega))]
        exact key2 sf_FU 0 (by unfold sf_FU; omega) (by omega)
      · have hlt : i < P := by omega
        have eS : q_sm (i + 1) (q_ov sh a B) = q_sm i (q_ov sh a B) + q_ov sh a B i := rfl
        rw [if_neg (nI_ge hlt (by omega)), m_partsOf S L hB hP G hlt, q_ld (show i < 5 by omega) (by decide), (S.2.2.2 i hlt).1]
        simp only [q_ob, q_str SG G hlt]
        have st := ih (i + 1) (by omega) (by omega)
        have eo : q_ov sh a B i = if q_parts a B i (fun g => q_on a g i) ≤ sh 2 i then 0 else 1000000 := rfl
        by_cases w : q_parts a B i (fun g => q_on a g i) ≤ sh 2 i
        · rw [if_pos w] at eo ⊢
          rw [eo] at eS
          rw [show (0 : Int32) = nI 0 from rfl, nI_add, nI_1, ← eS]
          exact st
        · rw [if_neg w] at eo ⊢
          rw [eo] at eS
          rw [show (1000000 : Int32) = nI 1000000 from rfl, nI_add, nI_1, ← eS]
          exact st
  exact key sf_FU 0 (by unfold sf_FU; omega) (by omega)
theorem q_freeOnes (S : q_SC s B P sh) (S' : q_SM s B P sh) (hB : B ≤ 6) (hP : P ≤ 5) (L : q_LC s B P 16 a z) (L' : q_LM s B P 155 0 a z) (G : q_LT B P a) : ∃ r, f6_carriedByNobody s = some r ∧ f10_freeOnes s = some r := by
  have key : ∀ (f i : Nat) (x : Int32), B < f + i → i ≤ B → ∃ r, sf_it (f6_carriedByNobody_b4 s) (fun _ _ => none) f x (nI i) = some r ∧ sf_it (f10_freeOnes_b4 s) (fun _ _ => none) f x (nI i) = some r := by
    intro f
    induction f with
    | zero => intro i x h1 h2; omega
    | succ f ih =>
      intro i x h1 h2
      rw [q_it, q_it]
      generalize sf_it (f6_carriedByNobody_b4 s) (fun _ _ => none) f = K at ih ⊢
      generalize sf_it (f10_freeOnes_b4 s) (fun _ _ => none) f = K' at ih ⊢
      unfold f6_carriedByNobody_b4 f6_carriedByNobody_b32 f10_freeOnes_b4 f10_freeOnes_b33
      rw [S.1, S'.1]
      by_cases hi : i = B
      · subst hi
        rw [if_pos (nI_le (Nat.le_refl _) (by omega)), if_pos (nI_le (Nat.le_refl _) (by omega))]
        exact ⟨_, rfl, rfl⟩
      · have hlt : i < B := by omega
        have l12 : sf_ld s 155 31 ((12 : Int32) + nI i) = some (q_en (a 2 i)) := by
          rw [← (L'.e hlt).2.2.1]
          exact q_ldn (o := 12) (by omega)
        rw [if_neg (nI_ge hlt (by omega)), if_neg (nI_ge hlt (by omega)), l12, c_isCarried L hB hP G hlt]
        simp only [q_ob, q_en_m (show a 2 i ≤ 1000 by have := (G.1 i hlt).2.2.2.1; omega)]
        rw [nI_1]
        by_cases e : a 2 i = 0
        · rw [if_pos e, if_pos e, if_pos rfl]
          exact ih (i + 1) _ (by omega) (by omega)
        · rw [if_neg e, if_neg e, if_neg q_b1, q_or0]
          exact ih (i + 1) _ (by omega) (by omega)
  exact key sf_FU 0 0 (by unfold sf_FU; omega) (by omega)
theorem q_sharedOnes (S : q_SC s B P sh) (S' : q_SM s B P sh) (hB : B ≤ 6) (hP : P ≤ 5) (L : q_LC s B P 16 a z) (L' : q_LM s B P 155 0 a z) (G : q_LT B P a) : ∃ r, f6_sharedOnes s = some r ∧ f10_sharedOnes s = some r := by
  have key : ∀ (f i : Nat) (x : Int32), B < f + i → i ≤ B → ∃ r, sf_it (f6_sharedOnes_b4 s) (fun _ _ => none) f x (nI i) = some r ∧ sf_it (f10_sharedOnes_b4 s) (fun _ _ => none) f x (nI i) = some r := by
    intro f
    induction f with
    | zero => intro i x h1 h2; omega
    | succ f ih =>
      intro i x h1 h2
      rw [q_it, q_it]
      generalize sf_it (f6_sharedOnes_b4 s) (fun _ _ => none) f = K at ih ⊢
      generalize sf_it (f10_sharedOnes_b4 s) (fun _ _ => none) f = K' at ih ⊢
      unfold f6_sharedOnes_b4 f6_sharedOnes_b32 f10_sharedOnes_b4 f10_sharedOnes_b28
      rw [S.1, S'.1]
      by_cases hi : i = B
      · subst hi
        rw [if_pos (nI_le (Nat.le_refl _) (by omega)), if_pos (nI_le (Nat.le_refl _) (by omega))]
        exact ⟨_, rfl, rfl⟩
      · have hlt : i < B := by omega
        rw [if_neg (nI_ge hlt (by omega)), if_neg (nI_ge hlt (by omega)), m_isShared L' hB hP G hlt, c_isShared L hB hP G hlt]
        simp only [q_ob]
        rw [nI_1]
        by_cases e : q_shd a i = true
        · rw [if_pos e, if_neg q_b1, if_neg q_b1]
          exact ih (i + 1) _ (by omega) (by omega)
        · rw [if_neg e, if_pos rfl, if_pos rfl, q_or0]
          exact ih (i + 1) _ (by omega) (by omega)
  exact key sf_FU 0 0 (by unfold sf_FU; omega) (by omega)
theorem q_most (S : q_SC s B P sh) (S' : q_SM s B P sh) (hB : B ≤ 6) (hP : P ≤ 5) (L : q_LC s B P 16 a z) (L' : q_LM s B P 155 0 a z) (G : q_LT B P a) : ∃ r, f6_mostLaden s = some r ∧ f10_most s = some r := by
  have hp360 : ∀ p, q_parts a B p (fun g => q_on a g p) ≤ 360 := fun p => q_parts_le hB (fun g hg => (G.1 g hg).2.1)
  have key : ∀ (f i : Nat) (x y : Int32), P < f + i → i ≤ P → ((x = -1 ∧ y = -1) ∨ ∃ b : Nat, b < P ∧ x = nI b ∧ y = nI (q_parts a B b (fun g => q_on a g b))) → ∃ r, sf_it (f6_mostLaden_b6 s) (fun _ _ _ => none) f x y (nI i) = some r ∧ sf_it (f10_most_b4 s) (fun _ _ => none) f x (nI i) = some r := by
    intro f
    induction f with
    | zero => intro i x y h1 h2; omega
    | succ f ih =>
      intro i x y h1 h2 h3
      rw [q_it, q_it]
      generalize sf_it (f6_mostLaden_b6 s) (fun _ _ _ => none) f = K at ih ⊢
      generalize sf_it (f10_most_b4 s) (fun _ _ => none) f = K' at ih ⊢
      unfold f6_mostLaden_b6 f6_mostLaden_b35 f10_most_b4 f10_most_b34 f10_most_b29 f10_most_b34
      rw [S.2.1, S'.2.1]
      by_cases hi : i = P
      · subst hi
        rw [if_pos (nI_le (Nat.le_refl _) (by omega)), if_pos (nI_le (Nat.le_refl _) (by omega))]
        exact ⟨_, rfl, rfl⟩
      · have hlt : i < P := by omega
        rw [if_neg (nI_ge hlt (by omega)), if_neg (nI_ge hlt (by omega)), c_partsOn S L hB hP G hlt, m_partsOf S' L' hB hP G hlt]
        simp only [q_ob]
        rw [nI_1]
        rcases h3 with ⟨rfl, rfl⟩ | ⟨b, hb, rfl, rfl⟩
        · have e1 : ¬ nI (q_parts a B i (fun g => q_on a g i)) ≤ -1 := by
            rw [Int32.le_iff_toInt_le, nI_toInt (by have := hp360 i; omega)]
            have : (-1 : Int32).toInt = -1 := by decide
            omega
          rw [if_neg e1, if_pos (show (-1 : Int32) < 0 by decide)]
          exact ih (i + 1) _ _ (by omega) (by omega) (Or.inr ⟨i, hlt, rfl, rfl⟩)
        · rw [if_neg (q_lt0 (by omega)), m_partsOf S' L' hB hP G hb]
          simp only [q_ob]
          by_cases e : nI (q_parts a B i (fun g => q_on a g i)) ≤ nI (q_parts a B b (fun g => q_on a g b))
          · rw [if_pos e, if_pos e]
            exact ih (i + 1) _ _ (by omega) (by omega) (Or.inr ⟨b, hb, rfl, rfl⟩)
          · rw [if_neg e, if_neg e]
            exact ih (i + 1) _ _ (by omega) (by omega) (Or.inr ⟨i, hlt, rfl, rfl⟩)
  exact key sf_FU 0 (-1) (-1) (by unfold sf_FU; omega) (by omega) (Or.inl ⟨rfl, rfl⟩)
theorem q_ring (S : q_SC s B P sh) (S' : q_SM s B P sh) (hB : B ≤ 6) (hP : P ≤ 5) (L : q_LC s B P 16 a z) (L' : q_LM s B P 155 0 a z) (G : q_LT B P a) (x : Int32) : ∃ r, f6_ringOf s x = some r ∧ f10_ringOf s x = some r := by
  have inner : ∀ (j : Nat) (K K' : Int32 → Int32 → Option Int32), (∀ x, ∃ r, K x (nI (j + 1)) = some r ∧ K' x (nI (j + 1)) = some r) → ∀ (f i : Nat) (x : Int32), B < f + i → i ≤ B → ∃ r, sf_it (f6_ringOf_b14 s K) (fun _ _ _ => none) f x (nI j) (nI i) = some r ∧ sf_it (f10_ringOf_b14 s K') (fun _ _ _ => none) f x (nI j) (nI i) = some r := by
    intro j K K' hK f
    induction f with
    | zero => intro i x h1 h2; omega
    | succ f ih =>
      intro i x h1 h2
      rw [q_it, q_it]
      generalize sf_it (f6_ringOf_b14 s K) (fun _ _ _ => none) f = M at ih ⊢
      generalize sf_it (f10_ringOf_b14 s K') (fun _ _ _ => none) f = M' at ih ⊢
      unfold f6_ringOf_b14 f6_ringOf_b67 f6_ringOf_b81 f6_ringOf_b87 f10_ringOf_b14 f10_ringOf_b61 f10_ringOf_b77 f10_ringOf_b85
      rw [S.1, S'.1]
      by_cases hi : i = B
      · subst hi
        rw [if_pos (nI_le (Nat.le_refl _) (by omega)), if_pos (nI_le (Nat.le_refl _) (by omega)), nI_1]
        exact hK x
      · have hlt : i < B := by omega
        have l12 : sf_ld s 155 31 ((12 : Int32) + nI i) = some (q_en (a 2 i)) := by
          rw [← (L'.e hlt).2.2.1]
          exact q_ldn (o := 12) (by omega)
        have l18 : sf_ld s 155 31 ((18 : Int32) + nI i) = some (q_en (a 3 i)) := by
          rw [← (L'.e hlt).2.2.2]
          exact q_ldn (o := 18) (by omega)
        have l19 : sf_ld s 19 6 (nI i) = some (q_en (a 2 i)) := by
          rw [q_ld (by omega) (by decide)]
          exact congrArg some (L.1 i hlt).2.2.1
        have l20 : sf_ld s 20 6 (nI i) = some (q_en (a 3 i)) := by
          rw [q_ld (by omega) (by decide)]
          exact congrArg some (L.1 i hlt).2.2.2
        rw [if_neg (nI_ge hlt (by omega)), if_neg (nI_ge hlt (by omega)), m_isShared L' hB hP G hlt, c_isShared L hB hP G hlt, l12, l18, l19, l20]
        simp only [q_ob]
        rw [nI_1]
        have fin : ∀ t : Int32, ∃ r, (if (x &&& t) = 0 then M x (nI j) (nI (i + 1)) else M (x ||| t) (nI j) (nI (i + 1))) = some r ∧ (if (x &&& t) = 0 then M' (x ||| 0) (nI j) (nI (i + 1)) else M' (x ||| t) (nI j) (nI (i + 1))) = some r := by
          intro t
          by_cases e : (x &&& t) = 0
          · rw [if_pos e, if_pos e, q_or0]
            exact ih (i + 1) _ (by omega) (by omega)
          · rw [if_neg e, if_neg e]
            exact ih (i + 1) _ (by omega) (by omega)
        by_cases e : q_shd a i = true
        · rw [if_pos e, if_neg q_b1, if_neg q_b1]
          exact fin _
        · rw [if_neg e, if_pos rfl, if_pos rfl]
          exact fin 0
  have key : ∀ (f i : Nat) (x : Int32), 5 < f + i → i ≤ 5 → ∃ r, sf_it (f6_ringOf_b6 s) (fun _ _ => none) f x (nI i) = some r ∧ sf_it (f10_ringOf_b6 s) (fun _ _ => none) f x (nI i) = some r := by
    intro f
    induction f with
    | zero => intro i x h1 h2; omega
    | succ f ih =>
      intro i x h1 h2
      rw [q_it, q_it]
      generalize sf_it (f6_ringOf_b6 s) (fun _ _ => none) f = K at ih ⊢
      generalize sf_it (f10_ringOf_b6 s) (fun _ _ => none) f = K' at ih ⊢
      unfold f6_ringOf_b6 f10_ringOf_b6
      by_cases hi : i = 5
      · subst hi
        rw [if_pos (show (5 : Int32) ≤ nI 5 by decide), if_pos (show (5 : Int32) ≤ nI 5 by decide)]
        exact ⟨_, rfl, rfl⟩
      · have hlt : ¬ (5 : Int32) ≤ nI i := nI_ge (b := 5) (show i < 5 by omega) (by omega)
        rw [if_neg hlt, if_neg hlt]
        exact inner i K K' (fun y => ih (i + 1) y (by omega) (by omega)) sf_FU 0 x (by unfold sf_FU; omega) (by omega)
  exact key sf_FU 0 _ (by unfold sf_FU; omega) (by omega)
end TOLD
theorem p_told : st_told q_Inv := by
  intro s x hI
  obtain ⟨B, P, sh, a, z, hS, ⟨hG, hC, hMd⟩, ⟨⟨n, hn, t1, t2, t3⟩, t4⟩, ⟨n2, f1, f2, f3, f4⟩, ⟨n3, b1, b2, b3, b4⟩, ⟨n4, A, u1, u2, ⟨x5, u3, u4, u5⟩, u6⟩, hR⟩ := hI
  have hB := hS.1.1
  have hP := hS.1.2.1
  have G := hG.t
  have d9 : s 16 0 = nI (a 6 0) := hC.2.2.2
  have d10 : s 16 1 = z := hC.2.2.1
  have l30 : sf_ld s 155 31 (30 : Int32) = some (s 155 30) := q_ld (i := 30) (by decide) (by decide)
  have l29 : sf_ld s 155 31 (29 : Int32) = some (s 155 29) := q_ld (i := 29) (by decide) (by decide)
  obtain ⟨r7, g7, h7⟩ := q_freeOnes hS.c hS.m hB hP hC hMd G
  obtain ⟨r8, g8, h8⟩ := q_sharedOnes hS.c hS.m hB hP hC hMd G
  obtain ⟨r9, g9, h9⟩ := q_most hS.c hS.m hB hP hC hMd G
  have h6 := hG.2.2
  unfold f9_told f9_told_b0 f10_told f10_told_b0
  rw [hS.1.2.2.1, hS.1.2.2.2.1, hS.1.2.2.2.2.1, hS.1.2.2.2.2.2.1, t1, t2, f2, f3, b2, b3, u4, u6.1, d9, d10, l30, l29, hMd.dy, hMd.zt, c_galled hS.c hP hC G, m_galled hS.m hP hMd G, c_all hS.c hS.g hC G G.2.2, m_all hS.m hS.g hMd G, g7, h7, g8, h8, g9, h9, m_isAugust hMd G, q_aug (by omega), c_flockForAll hS.c hS.g hC G, m_stuffForAll hS.m hS.g hMd G]
  simp only [q_ob]
  have e10 : (if (if a 6 0 % 12 = 7 then (1 : Int32) else 0) = 0 then some (0 : Int32) else some 1) = some (if a 6 0 % 12 = 7 then (1 : Int32) else 0) := by
    by_cases w : a 6 0 % 12 = 7
    · rw [if_pos w, if_neg q_b1]
    · rw [if_neg w, if_pos rfl]
  rw [e10]
  by_cases h0 : x = 0
  · rw [if_pos h0]
    exact ⟨_, rfl, rfl⟩
  rw [if_neg h0]
  by_cases h1 : x = 1
  · rw [if_pos h1]
    exact ⟨_, rfl, rfl⟩
  rw [if_neg h1]
  by_cases h2 : x = 2
  · rw [if_pos h2]
    exact ⟨_, rfl, rfl⟩
  rw [if_neg h2]
  by_cases h3 : x = 3
  · rw [if_pos h3]
    exact ⟨_, rfl, rfl⟩
  rw [if_neg h3]
  by_cases h4 : x = 4
  · rw [if_pos h4]
    exact ⟨_, rfl, rfl⟩
  rw [if_neg h4]
  by_cases h5 : x = 5
  · rw [if_pos h5]
    exact ⟨_, rfl, rfl⟩
  rw [if_neg h5]
  by_cases h6 : x = 6
  · rw [if_pos h6]
    exact ⟨_, rfl, rfl⟩
  rw [if_neg h6]
  by_cases h7 : x = 7
  · rw [if_pos h7]
    exact ⟨_, rfl, rfl⟩
  rw [if_neg h7]
  by_cases h8 : x = 8
  · rw [if_pos h8]
    exact ⟨_, rfl, rfl⟩
  rw [if_neg h8]
  by_cases h9 : x = 9
  · rw [if_pos h9]
    exact ⟨_, rfl, rfl⟩
  rw [if_neg h9]
  by_cases h10 : x = 10
  · rw [if_pos h10]
    exact ⟨_, rfl, rfl⟩
  rw [if_neg h10]
  by_cases h11 : x = 11
  · rw [if_pos h11]
    exact ⟨_, rfl, rfl⟩
  rw [if_neg h11]
  by_cases h12 : x = 12
  · rw [if_pos h12]
    exact ⟨_, rfl, rfl⟩
  rw [if_neg h12]
  by_cases h13 : x = 13
  · rw [if_pos h13]
    exact ⟨_, rfl, rfl⟩
  rw [if_neg h13]
  by_cases h14 : x = 14
  · rw [if_pos h14]
    exact ⟨_, rfl, rfl⟩
  rw [if_neg h14]
  exact ⟨_, rfl, rfl⟩
theorem p_back : st_back q_Inv := by
  intro s x1 x2 hI
  obtain ⟨B, P, sh, a, z, hS, ⟨hG, hC, hMd⟩, hR⟩ := hI
  have hB := hS.1.1
  have hP := hS.1.2.1
  have G := hG.t
  unfold f9_back f9_back_b0 f10_back f10_back_b0
  rcases q_hasBack hP hS.1.2.2.2.1 hS.1.2.2.2.2.2.1 x1 with ⟨p, hp, rfl, e1, e2⟩ | ⟨e1, e2⟩
  · rw [e1, e2, if_neg q_b1, if_neg q_b1]
    obtain ⟨b0, b1, b2, b3, b4, b5, b6⟩ := hS.2.2 p hp
    obtain ⟨r7, g7, h7⟩ := q_ring hS.c hS.m hB hP hC hMd G (nI p)
    have l24 : sf_ld s 155 31 ((24 : Int32) + nI p) = some (s 155 (24 + p)) := q_ldn (o := 24) (by omega)
    have so : s 21 p = nI (a 4 p) := hC.2.1 p hp
    rw [q_ld (k := 14) (show p < 5 by omega) (by decide), q_ld (k := 15) (show p < 5 by omega) (by decide), q_ld (k := 21) (show p < 5 by omega) (by decide), q_ld (k := 153) (show p < 5 by omega) (by decide), q_ld (k := 154) (show p < 5 by omega) (by decide), l24, b0, b1, b4, b5, so, hMd.so hp, c_gallingToday hS.c hS.g hC G hp, m_gallingOf hS.m hS.g hMd G hp, c_carriedBy hS.c hC hB hP G hp, m_carriedBy hS.m hMd hB hP G hp, c_partsOn hS.c hC hB hP G hp, m_partsOf hS.m hMd hB hP G hp, c_flockForBack hS.c hS.g hC G hp, m_stuffFor hS.m hS.g hMd G hp, g7, h7]
    simp only [q_ob]
    repeat' split
    all_goals exact ⟨_, rfl, rfl⟩
  · rw [e1, e2, if_pos rfl, if_pos rfl]
    exact ⟨_, rfl, rfl⟩
