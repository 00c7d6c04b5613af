-- GALLING: one mathematical value for both halves
def q_sm : Nat → (Nat → Nat) → Nat
  | 0, _ => 0
  | n + 1, f => q_sm n f + f n
theorem q_sm_congr {f g : Nat → Nat} : ∀ {n : Nat}, (∀ i, i < n → f i = g i) → q_sm n f = q_sm n g
  | 0, _ => rfl
  | n + 1, h => by
    show q_sm n f + f n = q_sm n g + g n
    rw [q_sm_congr (fun i hi => h i (by omega)), h n (by omega)]
theorem q_sm_le {f : Nat → Nat} {c : Nat} : ∀ {n : Nat}, (∀ i, i < n → f i ≤ c) → q_sm n f ≤ n * c
  | 0, _ => Nat.zero_le _
  | n + 1, h => by
    have h1 := q_sm_le (n := n) (fun i hi => h i (by omega))
    have h2 := h n (by omega)
    show q_sm n f + f n ≤ (n + 1) * c
    rw [Nat.succ_mul]
    omega
def q_bits : Nat → (Nat → Bool) → Nat
  | 0, _ => 0
  | n + 1, f => q_bits n f + if f n then 2 ^ n else 0
theorem q_bits_lt (f : Nat → Bool) : ∀ n, q_bits n f < 2 ^ n
  | 0 => by show 0 < 1; decide
  | n + 1 => by
    have h1 := q_bits_lt f n
    show q_bits n f + (if f n then 2 ^ n else 0) < 2 ^ (n + 1)
    rw [Nat.pow_succ]
    split <;> omega
theorem q_bits_test (f : Nat → Bool) (g : Nat) : ∀ n, g < n → (q_bits n f).testBit g = f g
  | 0, h => by omega
  | n + 1, h => by
    show (q_bits n f + if f n then 2 ^ n else 0).testBit g = f g
    have hl := q_bits_lt f n
    by_cases hg : g = n
    · subst hg
      by_cases hf : f g = true
      · rw [if_pos hf, hf, Nat.add_comm, Nat.testBit_two_pow_add_eq, Nat.testBit_lt_two_pow hl]
        rfl
      · rw [if_neg hf, Nat.add_zero, Nat.testBit_lt_two_pow hl]
        exact (Bool.not_eq_true _ ▸ hf : f g = false).symm
    · have ih := q_bits_test f g n (by omega)
      by_cases hf : f n = true
      · rw [if_pos hf, Nat.add_comm, Nat.testBit_two_pow_add_gt (by omega)]
        exact ih
      · rw [if_neg hf, Nat.add_zero]
        exact ih
theorem q_bits_congr {f g : Nat → Bool} : ∀ {n : Nat}, (∀ i, i < n → f i = g i) → q_bits n f = q_bits n g
  | 0, _ => rfl
  | n + 1, h => by
    show q_bits n f + _ = q_bits n g + _
    rw [q_bits_congr (fun i hi => h i (by omega)), h n (by omega)]
def q_on (a : Nat → Nat → Nat) (g p : Nat) : Bool := decide (a 2 g = p + 1) || decide (a 3 g = p + 1)
def q_part (a : Nat → Nat → Nat) (g p : Nat) : Nat := if a 3 g = 0 then a 0 g else if a 2 g = p + 1 then a 0 g - a 0 g / 2 else a 0 g / 2
def q_rub (sh a : Nat → Nat → Nat) (g p : Nat) (b : Bool) (d : Nat) : Nat :=
  if sh 0 g = 1 then (if b then (sh 1 g - a 1 g) / 2 else sh 1 g - a 1 g)
  else if sh 0 g = 2 then (if sh 1 g - a 1 g = 0 then 0 else sh 1 g - a 1 g + sh 3 p)
  else if sh 0 g = 3 then (if d % 2 = 0 then sh 1 g - a 1 g else sh 1 g - a 1 g + 2)
  else if sh 0 g = 4 then (if d % 12 = 7 then 2 * (sh 1 g - a 1 g) else 0)
  else sh 1 g - a 1 g
def q_shd (a : Nat → Nat → Nat) (g : Nat) : Bool := decide (a 3 g ≠ 0)
def q_parts (a : Nat → Nat → Nat) (B p : Nat) (on : Nat → Bool) : Nat := q_sm B (fun g => if on g then q_part a g p else 0)
def q_rubs (sh a : Nat → Nat → Nat) (B p : Nat) (on : Nat → Bool) (d : Nat) : Nat := q_sm B (fun g => if on g then q_rub sh a g p (q_shd a g) d else 0)
def q_gal (sh a : Nat → Nat → Nat) (B p : Nat) (on : Nat → Bool) (d : Nat) : Nat := (q_parts a B p on - sh 2 p) + q_rubs sh a B p on d
def q_SG (B P : Nat) (sh : Nat → Nat → Nat) : Prop := B ≤ 6 ∧ P ≤ 5 ∧ (∀ g, g < B → sh 0 g ≤ 4 ∧ sh 1 g ≤ 20) ∧ (∀ p, p < P → 1 ≤ sh 2 p ∧ sh 2 p ≤ 99 ∧ sh 3 p ≤ 9)
def q_SC (s : sf_Sg) (B P : Nat) (sh : Nat → Nat → Nat) : Prop := s 10 2 = nI B ∧ s 10 3 = nI P ∧ (∀ g, g < B → s 11 g = nI (sh 0 g) ∧ s 13 g = nI (sh 1 g)) ∧ (∀ p, p < P → s 14 p = nI (sh 2 p) ∧ s 15 p = nI (sh 3 p))
def q_SM (s : sf_Sg) (B P : Nat) (sh : Nat → Nat → Nat) : Prop := s 149 2 = nI B ∧ s 149 6 = nI P ∧ (∀ g, g < B → s 150 g = nI (sh 0 g) ∧ s 152 g = nI (sh 1 g)) ∧ (∀ p, p < P → s 153 p = nI (sh 2 p) ∧ s 154 p = nI (sh 3 p))
theorem q_IS.g {s : sf_Sg} {B P : Nat} {sh : Nat → Nat → Nat} (h : q_IS s B P sh) : q_SG B P sh := ⟨h.1.1, h.1.2.1, fun g hg => ⟨(h.2.1 g hg).2.2.1, (h.2.1 g hg).2.2.2.2.2⟩, fun p hp => ⟨(h.2.2 p hp).2.2.1, (h.2.2 p hp).2.2.2.1, (h.2.2 p hp).2.2.2.2.2.2⟩⟩
theorem q_IS.c {s : sf_Sg} {B P : Nat} {sh : Nat → Nat → Nat} (h : q_IS s B P sh) : q_SC s B P sh := ⟨h.1.2.2.1, h.1.2.2.2.1, fun g hg => ⟨(h.2.1 g hg).1, (h.2.1 g hg).2.2.2.1⟩, fun p hp => ⟨(h.2.2 p hp).1, (h.2.2 p hp).2.2.2.2.1⟩⟩
theorem q_IS.m {s : sf_Sg} {B P : Nat} {sh : Nat → Nat → Nat} (h : q_IS s B P sh) : q_SM s B P sh := ⟨h.1.2.2.2.2.1, h.1.2.2.2.2.2.1, fun g hg => ⟨(h.2.1 g hg).2.1, (h.2.1 g hg).2.2.2.2.1⟩, fun p hp => ⟨(h.2.2 p hp).2.1, (h.2.2 p hp).2.2.2.2.2.1⟩⟩
theorem q_SC.of {s t : sf_Sg} {B P : Nat} {sh : Nat → Nat → Nat} (h : q_SC s B P sh) (hc : ∀ k, 10 ≤ k → k ≤ 15 → t k = s k) : q_SC t B P sh := by
  unfold q_SC at h ⊢
  rw [hc 10 (by decide) (by decide), hc 11 (by decide) (by decide), hc 13 (by decide) (by decide), hc 14 (by decide) (by decide), hc 15 (by decide) (by decide)]
  exact h
theorem q_SM.of {s t : sf_Sg} {B P : Nat} {sh : Nat → Nat → Nat} (h : q_SM s B P sh) (hm : ∀ k, (k = 150 ∨ k = 152 ∨ k = 153 ∨ k = 154) → t k = s k) (h2 : t 149 2 = s 149 2) (h6 : t 149 6 = s 149 6) : q_SM t B P sh := by
  unfold q_SM at h ⊢
  rw [hm 150 (by decide), hm 152 (by decide), hm 153 (by decide), hm 154 (by decide), h2, h6]
  exact h
theorem q_part_le {a : Nat → Nat → Nat} {g p : Nat} (h : a 0 g ≤ 60) : q_part a g p ≤ 60 := by
  unfold q_part
  split
  · exact h
  · split <;> omega
theorem q_rub_le {sh a : Nat → Nat → Nat} {g p d : Nat} {b : Bool} (h1 : sh 1 g ≤ 20) (h3 : sh 3 p ≤ 9) : q_rub sh a g p b d ≤ 40 := by
  unfold q_rub
  repeat' split
  all_goals omega
theorem q_parts_le {a : Nat → Nat → Nat} {B p : Nat} {on : Nat → Bool} (hB : B ≤ 6) (h : ∀ g, g < B → a 0 g ≤ 60) : q_parts a B p on ≤ 360 := by
  have := q_sm_le (n := B) (c := 60) (f := fun g => if on g then q_part a g p else 0) (fun g hg => by
    show (if on g then q_part a g p else 0) ≤ 60
    split
    · exact q_part_le (h g hg)
    · omega)
  unfold q_parts
  omega
theorem q_rubs_le {sh a : Nat → Nat → Nat} {B P p d : Nat} {on : Nat → Bool} (G : q_SG B P sh) (hp : p < P) : q_rubs sh a B p on d ≤ 240 := by
  have := q_sm_le (n := B) (c := 40) (f := fun g => if on g then q_rub sh a g p (q_shd a g) d else 0) (fun g hg => by
    show (if on g then q_rub sh a g p (q_shd a g) d else 0) ≤ 40
    split
    · exact q_rub_le (G.2.2.1 g hg).2 (G.2.2.2 p hp).2.2
    · omega)
  have := G.1
  unfold q_rubs
  omega
theorem q_gal_le {sh a : Nat → Nat → Nat} {B P p d : Nat} {on : Nat → Bool} (G : q_SG B P sh) (hp : p < P) (h : ∀ g, g < B → a 0 g ≤ 60) : q_gal sh a B p on d ≤ 600 := by
  have h1 := q_parts_le (p := p) (on := on) G.1 h
  have h2 := q_rubs_le (a := a) (d := d) (on := on) G hp
  unfold q_gal
  omega
theorem q_gal_congr {sh a : Nat → Nat → Nat} {B p d : Nat} {on on' : Nat → Bool} (h : ∀ g, g < B → on g = on' g) : q_gal sh a B p on d = q_gal sh a B p on' d := by
  unfold q_gal q_parts q_rubs
  rw [q_sm_congr (g := fun g => if on' g then q_part a g p else 0) (fun i hi => by rw [h i hi]), q_sm_congr (f := fun g => if on g then q_rub sh a g p (q_shd a g) d else 0) (g := fun g => if on' g then q_rub sh a g p (q_shd a g) d else 0) (fun i hi => by rw [h i hi])]
/-- a load as it may be while days are tried -/
def q_LT (B P : Nat) (a : Nat → Nat → Nat) : Prop :=
  (∀ g, g < B → 1 ≤ a 0 g ∧ a 0 g ≤ 60 ∧ a 1 g ≤ 30 ∧ a 2 g ≤ P ∧ a 3 g ≤ P ∧ (a 3 g = 0 ∨ (a 2 g ≠ 0 ∧ a 2 g ≠ a 3 g))) ∧ (∀ p, p < P → a 4 p ≤ 9999) ∧ a 6 0 ≤ 20000
theorem q_LG.t {B P : Nat} {a : Nat → Nat → Nat} (h : q_LG B P a) : q_LT B P a := ⟨h.1, h.2.1, by have := h.2.2; omega⟩
-- numbers of the machine
theorem q_en_p {n p : Nat} (hn : n ≤ 1000) (hp : p ≤ 1000) : (q_en n = nI p) = (n = p + 1) := by
  unfold q_en
  by_cases h : n = 0
  · rw [if_pos h]
    exact propext ⟨fun w => absurd w (q_neg1' p (by omega)), fun w => by omega⟩
  · rw [if_neg h]
    exact propext ⟨fun w => by have := (nI_eq (by omega) (by omega)).mp w; omega, fun w => by rw [w]; rfl⟩
theorem q_en_m {n : Nat} (hn : n ≤ 1000) : (q_en n = -1) = (n = 0) := by
  unfold q_en
  by_cases h : n = 0
  · rw [if_pos h]
    exact propext ⟨fun _ => h, fun _ => rfl⟩
  · rw [if_neg h]
    exact propext ⟨fun w => absurd w (q_neg1 _ (by omega)), fun w => absurd w h⟩
theorem q_max0 {e p : Nat} (he : e ≤ 100000) (hp : p ≤ 100000) : sf_max 0 (nI e - nI p) = nI (e - p) := by
  unfold sf_max
  have h1 : (nI e - nI p).toInt = (e : Int) - p := pk_sub_toInt (by omega) (by omega)
  by_cases h : p < e
  · rw [if_pos (by rw [Int32.lt_iff_toInt_lt, h1]; show (0 : Int) < _; omega)]
    exact pk_sub (by omega)
  · rw [if_neg (by rw [Int32.lt_iff_toInt_lt, h1]; show ¬ (0 : Int) < _; omega), show e - p = 0 by omega]
    rfl
theorem q_nb {e p : Nat} (he : e ≤ 100000) (hp : p ≤ 100000) : f10_notBelow (nI e - nI p) = nI (e - p) := by
  unfold f10_notBelow f10_notBelow_b0
  have h1 : (nI e - nI p).toInt = (e : Int) - p := pk_sub_toInt (by omega) (by omega)
  by_cases h : p < e
  · rw [if_neg (by rw [Int32.le_iff_toInt_le, h1]; show ¬ _ ≤ (0 : Int); omega)]
    exact pk_sub (by omega)
  · rw [if_pos (by rw [Int32.le_iff_toInt_le, h1]; show _ ≤ (0 : Int); omega), show e - p = 0 by omega]
    rfl
theorem q_div2 {v : Nat} (h : v ≤ 100000) : nI v / 2 = nI (v / 2) := pk_div (d := 2) (by omega) (by decide) (by decide)
theorem q_rem2 {v : Nat} (h : v ≤ 100000) : sf_rem (nI v) 2 = nI (v % 2) := pk_rem (d := 2) (by omega) (by decide) (by decide)
theorem q_rem12 {v : Nat} (h : v ≤ 100000) : sf_rem (nI v) 12 = nI (v % 12) := pk_rem (d := 12) (by omega) (by decide) (by decide)
theorem q_aug {v : Nat} (h : v ≤ 100000) : f9_isAugust (nI v) = if v % 12 = 7 then 1 else 0 := by
  unfold f9_isAugust f9_isAugust_b0
  rw [q_rem12 h]
  by_cases w : v % 12 = 7
  · rw [if_pos w, w]; rfl
  · rw [if_neg w, if_neg (show ¬ nI (v % 12) = 7 from fun z => w ((nI_eq (b := 7) (by omega) (by decide)).mp z))]
theorem q_shl : ∀ g, g < 7 → (1 : Int32) <<< (nI g &&& 31) = nI (2 ^ g) := by decide
theorem q_has : ∀ m, m < 64 → ∀ g, g < 6 → f9_has (nI m) (nI g) = if m.testBit g then 1 else 0 := by decide +kernel
theorem q_or {x g : Nat} (hx : x < 2 ^ g) (hg : g < 7) : nI x ||| nI (2 ^ g) = nI (x + 2 ^ g) := by
  have e : x + 2 ^ g = 2 ^ g ||| x := by
    have := Nat.two_pow_add_eq_or_of_lt hx 1
    rw [Nat.mul_one] at this
    omega
  rw [e, Nat.or_comm]
  exact fa_or x (2 ^ g)
section GAL
variable {s : sf_Sg} {B P : Nat} {sh a : Nat → Nat → Nat} {z : Int32}
theorem c_isOn (L : q_LC s B P 16 a z) (hB : B ≤ 6) (hP : P ≤ 5) (G : q_LT B P a) {g p : Nat} (hg : g < B) (hp : p < P) : f3_isOn 16 s (nI g) (nI p) = some (if q_on a g p then 1 else 0) := by
  unfold f3_isOn f3_isOn_b0 f3_isOn_b20 q_on
  have h2 := (G.1 g hg).2.2.2.1
  have h3 := (G.1 g hg).2.2.2.2.1
  rw [q_ld (by omega) (by decide), (L.1 g hg).2.2.1]
  simp only [q_ob]
  rw [q_ld (by omega) (by decide), (L.1 g hg).2.2.2]
  simp only [q_ob, q_en_p (show a 2 g ≤ 1000 by omega) (show p ≤ 1000 by omega), q_en_p (show a 3 g ≤ 1000 by omega) (show p ≤ 1000 by omega)]
  by_cases x : a 2 g = p + 1 <;> by_cases y : a 3 g = p + 1 <;> simp [x, y]
theorem c_isShared (L : q_LC s B P 16 a z) (hB : B ≤ 6) (hP : P ≤ 5) (G : q_LT B P a) {g : Nat} (hg : g < B) : f3_isShared 16 s (nI g) = some (if q_shd a g then 1 else 0) := by
  unfold f3_isShared f3_isShared_b0 q_shd
  have h3 := (G.1 g hg).2.2.2.2.1
  rw [q_ld (by omega) (by decide), (L.1 g hg).2.2.2]
  simp only [q_ob, q_en_m (show a 3 g ≤ 1000 by omega)]
  by_cases y : a 3 g = 0 <;> simp [y]
theorem c_isCarried (L : q_LC s B P 16 a z) (hB : B ≤ 6) (hP : P ≤ 5) (G : q_LT B P a) {g : Nat} (hg : g < B) : f3_isCarried 16 s (nI g) = some (if a 2 g = 0 then 0 else 1) := by
  unfold f3_isCarried f3_isCarried_b0
  have h3 := (G.1 g hg).2.2.2.1
  rw [q_ld (by omega) (by decide), (L.1 g hg).2.2.1]
  simp only [q_ob, q_en_m (show a 2 g ≤ 1000 by omega)]
  by_cases y : a 2 g = 0 <;> simp [y]
theorem c_partOf (L : q_LC s B P 16 a z) (hB : B ≤ 6) (hP : P ≤ 5) (G : q_LT B P a) {g p : Nat} (hg : g < B) (hp : p < P) : f6_partOf s (nI g) (nI p) = some (nI (q_part a g p)) := by
  unfold f6_partOf f6_partOf_b0 q_part
  have h0 := (G.1 g hg).2.1
  have h2 := (G.1 g hg).2.2.2.1
  rw [q_ld (by omega) (by decide), (L.1 g hg).1, c_isShared L hB hP G hg]
  simp only [q_ob]
  unfold q_shd
  by_cases y : a 3 g = 0
  · simp [y]
  · simp only [y, ne_eq, not_false_eq_true, decide_true, if_true, if_false, if_neg q_b1]
    rw [q_ld (by omega) (by decide), (L.1 g hg).2.2.1]
    simp only [q_ob, q_en_p (show a 2 g ≤ 1000 by omega) (show p ≤ 1000 by omega)]
    rw [q_div2 (by omega), pk_sub (by omega)]
    by_cases x : a 2 g = p + 1 <;> simp [x]
theorem c_rubOf (S : q_SC s B P sh) (SG : q_SG B P sh) (L : q_LC s B P 16 a z) (G : q_LT B P a) {g p d : Nat} (b : Bool) (hg : g < B) (hp : p < P) (hd : d ≤ 20000) : f6_rubOf s (nI g) (nI p) (if b then 1 else 0) (nI d) = some (nI (q_rub sh a g p b d)) := by
  have hB := SG.1
  have hP := SG.2.1
  have k0 := (SG.2.2.1 g hg).1
  have k1 := (SG.2.2.1 g hg).2
  have k3 := (SG.2.2.2 p hp).2.2
  have h1 := (G.1 g hg).2.2.1
  unfold f6_rubOf f6_rubOf_b0 q_rub
  rw [q_ld (by omega) (by decide), (S.2.2.1 g hg).2]
  simp only [q_ob]
  rw [q_ld (by omega) (by decide), show s 18 (g) = nI (a 1 g) from (L.1 g hg).2.1]
  simp only [q_ob]
  rw [q_ld (by omega) (by decide), (S.2.2.1 g hg).1]
  simp only [q_ob]
  rw [q_ld (by omega) (by decide), (S.2.2.2 p hp).2]
  simp only [q_ob]
  rw [q_max0 (by omega) (by omega), q_rem2 (by omega), q_aug (by omega), q_div2 (by omega)]
  have c1 : (nI (sh 0 g) = 1) = (sh 0 g = 1) := q_eq (b := 1) (by omega) (by decide)
  have c2 : (nI (sh 0 g) = 2) = (sh 0 g = 2) := q_eq (b := 2) (by omega) (by decide)
  have c3 : (nI (sh 0 g) = 3) = (sh 0 g = 3) := q_eq (b := 3) (by omega) (by decide)
  have c4 : (nI (sh 0 g) = 4) = (sh 0 g = 4) := q_eq (b := 4) (by omega) (by decide)
  have c5 : (nI (sh 1 g - a 1 g) ≤ 0) = (sh 1 g - a 1 g = 0) := by
    have : (nI (sh 1 g - a 1 g) ≤ nI 0) = (sh 1 g - a 1 g ≤ 0) := q_le (by omega) (by decide)
    rw [show (0 : Int32) = nI 0 from rfl, this]
    exact propext (by omega)
  have c6 : (nI (d % 2) = 0) = (d % 2 = 0) := q_eq (b := 0) (by omega) (by decide)
  simp only [c1, c2, c3, c4, c5, c6]
  by_cases x1 : sh 0 g = 1
  · rw [if_pos x1, if_pos x1]
    cases b <;> rfl
  · rw [if_neg x1, if_neg x1]
    by_cases x2 : sh 0 g = 2
    · rw [if_pos x2, if_pos x2]
      by_cases y : sh 1 g - a 1 g = 0
      · rw [if_pos y, if_pos y]; rfl
      · rw [if_neg y, if_neg y, nI_add]
    · rw [if_neg x2, if_neg x2]
      by_cases x3 : sh 0 g = 3
      · rw [if_pos x3, if_pos x3]
        by_cases y : d % 2 = 0
        · rw [if_pos y, if_pos y]
        · rw [if_neg y, if_neg y]
          exact congrArg some (nI_add _ 2)
      · rw [if_neg x3, if_neg x3]
        by_cases x4 : sh 0 g = 4
        · rw [if_pos x4, if_pos x4]
          by_cases y : d % 12 = 7
          · rw [if_pos y, if_pos y, if_neg q_b1]
            exact congrArg some (pk_mul 2 _)
          · rw [if_neg y, if_neg y]
            rfl
        · rw [if_neg x4, if_neg x4]
theorem c_gallingOf (S : q_SC s B P sh) (SG : q_SG B P sh) (L : q_LC s B P 16 a z) (G : q_LT B P a) {p d m : Nat} (hm : m < 64) (hp : p < P) (hd : d ≤ 20000) : f6_gallingOf s (nI p) (nI m) (nI d) = some (nI (q_gal sh a B p (fun g => m.testBit g) d)) := by
  have hB := SG.1
  have hP := SG.2.1
  have key : ∀ (f i : Nat), B < f + i → i ≤ B → sf_it (f6_gallingOf_b9 s) (fun _ _ _ _ _ _ => none) f (nI p) (nI m) (nI d) (nI (q_sm i (fun g => if m.testBit g then q_part a g p else 0))) (nI (q_sm i (fun g => if m.testBit g then q_rub sh a g p (q_shd a g) d else 0))) (nI i) = f6_gallingOf_b70 s (nI p) (nI (q_parts a B p (fun g => m.testBit g))) (nI (q_rubs sh a B p (fun g => m.testBit g) d)) := by
    intro f
    induction f with
    | zero => intro i h1 h2; omega
    | succ f ih =>
      intro i h1 h2
      rw [q_it]
      generalize sf_it (f6_gallingOf_b9 s) (fun _ _ _ _ _ _ => none) f = K at ih ⊢
      unfold f6_gallingOf_b9 f6_gallingOf_b64
      rw [S.1]
      by_cases hi : i = B
      · subst hi
        rw [if_pos (nI_le (Nat.le_refl _) (by omega))]
        rfl
      · rw [if_neg (nI_ge (show i < B by omega) (by omega)), q_has m hm i (by omega)]
        have st := ih (i + 1) (by omega) (by omega)
        by_cases ht : m.testBit i = true
        · rw [if_pos ht, if_neg q_b1, c_partOf L hB hP G (by omega) hp, c_isShared L hB hP G (by omega)]
          simp only [q_ob]
          rw [c_rubOf S SG L G _ (by omega) hp hd]
          simp only [q_ob]
          rw [nI_add, nI_add, nI_1]
          have e1 : q_sm (i + 1) (fun g => if m.testBit g then q_part a g p else 0) = q_sm i (fun g => if m.testBit g then q_part a g p else 0) + q_part a i p := by
            show _ + (if m.testBit i then _ else _) = _
            rw [if_pos ht]
          have e2 : q_sm (i + 1) (fun g => if m.testBit g then q_rub sh a g p (q_shd a g) d else 0) = q_sm i (fun g => if m.testBit g then q_rub sh a g p (q_shd a g) d else 0) + q_rub sh a i p (q_shd a i) d := by
            show _ + (if m.testBit i then _ else _) = _
            rw [if_pos ht]
          rw [e1, e2] at st
          exact st
        · rw [if_neg ht, if_pos rfl, nI_1]
          have e1 : q_sm (i + 1) (fun g => if m.testBit g then q_part a g p else 0) = q_sm i (fun g => if m.testBit g then q_part a g p else 0) := by
            show _ + (if m.testBit i then _ else _) = _
            rw [if_neg ht, Nat.add_zero]
          have e2 : q_sm (i + 1) (fun g => if m.testBit g then q_rub sh a g p (q_shd a g) d else 0) = q_sm i (fun g => if m.testBit g then q_rub sh a g p (q_shd a g) d else 0) := by
            show _ + (if m.testBit i then _ else _) = _
            rw [if_neg ht, Nat.add_zero]
          rw [e1, e2] at st
          exact st
  unfold f6_gallingOf f6_gallingOf_b0 f6_gallingOf_L9
  have k0 := key sf_FU 0 (by unfold sf_FU; omega) (by omega)
  have k0' : sf_it (f6_gallingOf_b9 s) (fun _ _ _ _ _ _ => none) sf_FU (nI p) (nI m) (nI d) 0 0 0 = _ := k0
  rw [k0']
  unfold f6_gallingOf_b70
  rw [q_ld (by omega) (by decide), (S.2.2.2 p hp).1]
  simp only [q_ob]
  have hpl := q_parts_le (a := a) (p := p) (on := fun g => m.testBit g) hB (fun g hg => (G.1 g hg).2.1)
  rw [q_max0 (by omega) (by have := (SG.2.2.2 p hp).2.1; omega), nI_add]
  rfl
theorem c_carriedBy (S : q_SC s B P sh) (L : q_LC s B P 16 a z) (hB : B ≤ 6) (hP : P ≤ 5) (G : q_LT B P a) {p : Nat} (hp : p < P) : f6_carriedBy s (nI p) = some (nI (q_bits B (fun g => q_on a g p))) := by
  have key : ∀ (f i : Nat), B < f + i → i ≤ B → sf_it (f6_carriedBy_b4 s) (fun _ _ _ => none) f (nI p) (nI (q_bits i (fun g => q_on a g p))) (nI i) = some (nI (q_bits B (fun g => q_on a g p))) := by
    intro f
    induction f with
    | zero => intro i h1 h2; omega
    | succ f ih =>
      intro i h1 h2
      rw [q_it]
      generalize sf_it (f6_carriedBy_b4 s) (fun _ _ _ => none) f = K at ih ⊢
      unfold f6_carriedBy_b4 f6_carriedBy_b33
      rw [S.1]
      by_cases hi : i = B
      · subst hi
        rw [if_pos (nI_le (Nat.le_refl _) (by omega))]
      · rw [if_neg (nI_ge (show i < B by omega) (by omega)), c_isOn L hB hP G (by omega) hp]
        simp only [q_ob]
        have st := ih (i + 1) (by omega) (by omega)
        by_cases ht : q_on a i p = true
        · rw [if_pos ht, if_neg q_b1, q_shl i (by omega), q_or (q_bits_lt _ i) (by omega), nI_1]
          have e1 : q_bits (i + 1) (fun g => q_on a g p) = q_bits i (fun g => q_on a g p) + 2 ^ i := by
            show _ + (if q_on a i p then _ else _) = _
            rw [if_pos ht]
          rw [e1] at st
          exact st
        · rw [if_neg ht, if_pos rfl, nI_1]
          have e1 : q_bits (i + 1) (fun g => q_on a g p) = q_bits i (fun g => q_on a g p) := by
            show _ + (if q_on a i p then _ else _) = _
            rw [if_neg ht, Nat.add_zero]
          rw [e1] at st
          exact st
  exact key sf_FU 0 (by unfold sf_FU; omega) (by omega)
end GAL
