-- PURE PART: numbers, rows, what the two halves have in common
theorem q_ld {s : sf_Sg} {k n i : Nat} (h : i < n) (hn : n ≤ 1000) : sf_ld s k n (nI i) = some (s k i) := by
  have h1 : ¬ (nI i < 0 ∨ n ≤ (nI i).toNatClampNeg) := nI_in h (by omega)
  unfold sf_ld
  rw [if_neg h1, nI_clamp (by omega)]
theorem q_st {s : sf_Sg} {k n i : Nat} {v : Int32} (h : i < n) (hn : n ≤ 1000) : sf_st s k n (nI i) v = some (sf_s1 s k i v) := by
  have h1 : ¬ (nI i < 0 ∨ n ≤ (nI i).toNatClampNeg) := nI_in h (by omega)
  unfold sf_st
  rw [if_neg h1, nI_clamp (by omega)]
theorem q_ix {n i : Nat} (h : i < n) (hn : n ≤ 1000) : sf_ix n (nI i) = some i := by
  have h1 : ¬ (nI i < 0 ∨ n ≤ (nI i).toNatClampNeg) := nI_in h (by omega)
  unfold sf_ix
  rw [if_neg h1, nI_clamp (by omega)]
theorem q_ob {α β : Type} (v : α) (f : α → Option β) : (some v).bind f = f v := rfl
theorem q_s1 (s : sf_Sg) (k i : Nat) (v : Int32) (k' i' : Nat) : sf_s1 s k i v k' i' = if k' = k then (if i' = i then v else s k i') else s k' i' := by
  unfold sf_s1 sf_su
  by_cases h : k' = k
  · rw [if_pos h, if_pos h]; rfl
  · rw [if_neg h, if_neg h]
theorem q_s1k {s : sf_Sg} {k i : Nat} {v : Int32} {k' : Nat} (h : k' ≠ k) : sf_s1 s k i v k' = s k' := by
  unfold sf_s1
  exact sf_su_ne h
theorem q_s1s {s : sf_Sg} {k i : Nat} {v : Int32} : sf_s1 s k i v k i = v := by rw [q_s1, if_pos rfl, if_pos rfl]
theorem q_s1i {s : sf_Sg} {k i i' : Nat} {v : Int32} (h : i' ≠ i) : sf_s1 s k i v k i' = s k i' := by rw [q_s1, if_pos rfl, if_neg h]
theorem q_it {α : Type} (F : α → α) (z : α) (n : Nat) : sf_it F z (n + 1) = F (sf_it F z n) := rfl
-- numbers
theorem q_lt {a b : Nat} (ha : a ≤ 2000000) (hb : b ≤ 2000000) : (nI a < nI b) = (a < b) := propext (nI_ltI (by omega) (by omega))
theorem q_le {a b : Nat} (ha : a ≤ 2000000) (hb : b ≤ 2000000) : (nI a ≤ nI b) = (a ≤ b) := propext (nI_leI (by omega) (by omega))
theorem q_eq {a b : Nat} (ha : a ≤ 2000000) (hb : b ≤ 2000000) : (nI a = nI b) = (a = b) := propext (nI_eq (by omega) (by omega))
theorem q_n {n : Nat} : (OfNat.ofNat n : Int32) = nI n := rfl
theorem q_neg1 (n : Nat) (h : n ≤ 2000000) : ¬ nI n = -1 := by
  intro e
  have h1 : (nI n).toInt = (-1 : Int32).toInt := by rw [e]
  rw [nI_toInt (by omega)] at h1
  have h2 : (-1 : Int32).toInt = -1 := by decide
  omega
theorem q_neg1' (n : Nat) (h : n ≤ 2000000) : ¬ -1 = nI n := fun e => q_neg1 n h e.symm
theorem q_lt0 {n : Nat} (h : n ≤ 2000000) : ¬ nI n < 0 := nI_pos (by omega)
theorem q_split (x : Int32) : (∃ n : Nat, n < 2 ^ 31 ∧ x = nI n) ∨ x < 0 := by
  by_cases h : x < 0
  · exact Or.inr h
  · obtain ⟨j, h1, h2⟩ := nI_of h
    exact Or.inl ⟨j, h1, h2⟩
theorem q_cmpL {x y : Int32} : (lg_cmp x.toInt64 y.toInt64 < 0) = (x < y) := by
  have h1 : (x.toInt64 < y.toInt64) ↔ x < y := by
    rw [Int64.lt_iff_toInt_lt, Int32.lt_iff_toInt_lt, Int32.toInt_toInt64, Int32.toInt_toInt64]
  have h2 : (x.toInt64 = y.toInt64) ↔ x = y := by
    rw [← Int64.toInt_inj, ← Int32.toInt_inj, Int32.toInt_toInt64, Int32.toInt_toInt64]
  have h3 : (y.toInt64 < x.toInt64) ↔ y < x := by
    rw [Int64.lt_iff_toInt_lt, Int32.lt_iff_toInt_lt, Int32.toInt_toInt64, Int32.toInt_toInt64]
  apply propext
  unfold lg_cmp
  by_cases a : y < x
  · rw [if_pos (h3.mpr a)]
    refine ⟨fun h => absurd h (by decide), fun h => ?_⟩
    rw [Int32.lt_iff_toInt_lt] at a h
    omega
  · rw [if_neg (fun h => a (h3.mp h))]
    by_cases b : x = y
    · rw [if_pos (h2.mpr b)]
      refine ⟨fun h => absurd h (by decide), fun h => ?_⟩
      subst b
      exact absurd h a
    · rw [if_neg (fun h => b (h2.mp h))]
      refine ⟨fun _ => ?_, fun _ => by decide⟩
      rw [← Int32.toInt_inj] at b
      rw [Int32.lt_iff_toInt_lt] at a ⊢
      omega
theorem q_cmpG {x y : Int32} : (0 < lg_cmp x.toInt64 y.toInt64) = (y < x) := by
  have h2 : (x.toInt64 = y.toInt64) ↔ x = y := by
    rw [← Int64.toInt_inj, ← Int32.toInt_inj, Int32.toInt_toInt64, Int32.toInt_toInt64]
  have h3 : (y.toInt64 < x.toInt64) ↔ y < x := by
    rw [Int64.lt_iff_toInt_lt, Int32.lt_iff_toInt_lt, Int32.toInt_toInt64, Int32.toInt_toInt64]
  apply propext
  unfold lg_cmp
  by_cases a : y < x
  · rw [if_pos (h3.mpr a)]
    exact ⟨fun _ => a, fun _ => by decide⟩
  · rw [if_neg (fun h => a (h3.mp h))]
    refine ⟨fun h => ?_, fun h => absurd h a⟩
    by_cases b : x = y
    · rw [if_pos (h2.mpr b)] at h
      exact absurd h (by decide)
    · rw [if_neg (fun h => b (h2.mp h))] at h
      exact absurd h (by decide)
/-- the reference's range test is the class's -/
theorem q_in (x a b : Int32) : f10_in x.toInt64 a.toInt64 b.toInt64 = f9_within x a b := by
  unfold f10_in f10_in_b0 f9_within f9_within_b0 f10_in_b17 f9_within_b14
  simp only [q_cmpL, q_cmpG]
theorem q_within (x : Int32) {a b : Nat} (hab : a ≤ b) (hb : b ≤ 100000) : (∃ n : Nat, a ≤ n ∧ n ≤ b ∧ x = nI n ∧ f9_within x (nI a) (nI b) = 1) ∨ f9_within x (nI a) (nI b) = 0 := by
  unfold f9_within f9_within_b0 f9_within_b14
  rcases q_split x with ⟨n, hn, rfl⟩ | h
  · by_cases h1 : n < a
    · right
      rw [if_pos ((nI_ltI hn (by omega)).mpr h1)]
    · rw [if_neg (fun h => h1 ((nI_ltI hn (by omega)).mp h))]
      by_cases h2 : b < n
      · right
        rw [if_pos ((nI_ltI (by omega) hn).mpr h2)]
      · left
        rw [if_neg (fun h => h2 ((nI_ltI (by omega) hn).mp h))]
        exact ⟨n, by omega, by omega, rfl, rfl⟩
  · right
    have : x < nI a := by
      rw [Int32.lt_iff_toInt_lt] at h ⊢
      rw [nI_toInt (by omega)]
      have h0 : (0 : Int32).toInt = 0 := by decide
      omega
    rw [if_pos this]
theorem q_hasBurden {s : sf_Sg} {B : Nat} (hB : B ≤ 6) (h1 : s 10 2 = nI B) (h2 : s 149 2 = nI B) (x : Int32) : (∃ g : Nat, g < B ∧ x = nI g ∧ f7_hasBurden 10 s x = 1 ∧ f10_isBurden s x = 1) ∨ (f7_hasBurden 10 s x = 0 ∧ f10_isBurden s x = 0) := by
  have e10 : f10_isBurden s x = f9_within x 0 (nI B - 1) := by
    unfold f10_isBurden f10_isBurden_b0
    rw [h2]
    exact q_in x 0 (nI B - 1)
  rw [e10]
  unfold f7_hasBurden f7_hasBurden_b0 f7_hasBurden_b22 f9_within f9_within_b0 f9_within_b14
  rw [h1]
  rcases q_split x with ⟨n, hn, rfl⟩ | h
  · have n0 : ¬ nI n < 0 := nI_pos hn
    rw [if_neg n0, if_neg n0]
    have hb1 : (nI B - 1).toInt = (B : Int) - 1 := pk_sub_toInt (a := B) (b := 1) (by omega) (by omega)
    have hc : (nI B - 1 < nI n) ↔ B ≤ n := by
      rw [Int32.lt_iff_toInt_lt, hb1, nI_toInt hn]
      omega
    by_cases hg : n < B
    · left
      refine ⟨n, hg, rfl, ?_, ?_⟩
      · rw [if_neg (fun h => by have := (nI_leI (by omega) hn).mp h; omega), if_neg (fun h => by have := (nI_leI (a := 6) (by omega) hn).mp h; omega)]
      · rw [if_neg (fun h => by have := hc.mp h; omega)]
    · right
      refine ⟨?_, ?_⟩
      · rw [if_pos ((nI_leI (by omega) hn).mpr (by omega))]
      · rw [if_pos (hc.mpr (by omega))]
  · right
    rw [if_pos h, if_pos h]
    exact ⟨rfl, rfl⟩
theorem q_hasBack {s : sf_Sg} {P : Nat} (hP : P ≤ 5) (h1 : s 10 3 = nI P) (h2 : s 149 6 = nI P) (x : Int32) : (∃ g : Nat, g < P ∧ x = nI g ∧ f7_hasBack 10 s x = 1 ∧ f10_isBack s x = 1) ∨ (f7_hasBack 10 s x = 0 ∧ f10_isBack s x = 0) := by
  have e10 : f10_isBack s x = f9_within x 0 (nI P - 1) := by
    unfold f10_isBack f10_isBack_b0
    rw [h2]
    exact q_in x 0 (nI P - 1)
  rw [e10]
  unfold f7_hasBack f7_hasBack_b0 f7_hasBack_b21 f9_within f9_within_b0 f9_within_b14
  rw [h1]
  rcases q_split x with ⟨n, hn, rfl⟩ | h
  · have n0 : ¬ nI n < 0 := nI_pos hn
    rw [if_neg n0, if_neg n0]
    have hb1 : (nI P - 1).toInt = (P : Int) - 1 := pk_sub_toInt (a := P) (b := 1) (by omega) (by omega)
    have hc : (nI P - 1 < nI n) ↔ P ≤ n := by
      rw [Int32.lt_iff_toInt_lt, hb1, nI_toInt hn]
      omega
    by_cases hg : n < P
    · left
      refine ⟨n, hg, rfl, ?_, ?_⟩
      · rw [if_neg (fun h => by have := (nI_leI (by omega) hn).mp h; omega), if_neg (fun h => by have := (nI_leI (a := 5) (by omega) hn).mp h; omega)]
      · rw [if_neg (fun h => by have := hc.mp h; omega)]
    · right
      refine ⟨?_, ?_⟩
      · rw [if_pos ((nI_leI (by omega) hn).mpr (by omega))]
      · rw [if_pos (hc.mpr (by omega))]
  · right
    rw [if_pos h, if_pos h]
    exact ⟨rfl, rfl⟩
-- THE INVARIANT
def q_en (n : Nat) : Int32 := if n = 0 then -1 else nI (n - 1)
def q_IS (s : sf_Sg) (B P : Nat) (sh : Nat → Nat → Nat) : Prop :=
  (B ≤ 6 ∧ P ≤ 5 ∧ s 10 2 = nI B ∧ s 10 3 = nI P ∧ s 149 2 = nI B ∧ s 149 6 = nI P ∧ (s 10 0 = 0 ∨ s 10 0 = 1) ∧ s 149 0 = s 10 0) ∧
  (∀ g, g < B → s 11 g = nI (sh 0 g) ∧ s 150 g = nI (sh 0 g) ∧ sh 0 g ≤ 4 ∧ s 13 g = nI (sh 1 g) ∧ s 152 g = nI (sh 1 g) ∧ sh 1 g ≤ 20) ∧
  (∀ p, p < P → s 14 p = nI (sh 2 p) ∧ s 153 p = nI (sh 2 p) ∧ 1 ≤ sh 2 p ∧ sh 2 p ≤ 99 ∧ s 15 p = nI (sh 3 p) ∧ s 154 p = nI (sh 3 p) ∧ sh 3 p ≤ 9)
def q_LG (B P : Nat) (a : Nat → Nat → Nat) : Prop :=
  (∀ g, g < B → 1 ≤ a 0 g ∧ a 0 g ≤ 60 ∧ a 1 g ≤ 30 ∧ a 2 g ≤ P ∧ a 3 g ≤ P ∧ (a 3 g = 0 ∨ (a 2 g ≠ 0 ∧ a 2 g ≠ a 3 g))) ∧ (∀ p, p < P → a 4 p ≤ 9999) ∧ a 6 0 ≤ 9060
def q_LC (s : sf_Sg) (B P c : Nat) (a : Nat → Nat → Nat) (z : Int32) : Prop :=
  (∀ g, g < B → s (c + 1) g = nI (a 0 g) ∧ s (c + 2) g = nI (a 1 g) ∧ s (c + 3) g = q_en (a 2 g) ∧ s (c + 4) g = q_en (a 3 g)) ∧ (∀ p, p < P → s (c + 5) p = nI (a 4 p)) ∧ s c 1 = z ∧ s c 0 = nI (a 6 0)
def q_LM (s : sf_Sg) (B P m o : Nat) (a : Nat → Nat → Nat) (z : Int32) : Prop :=
  (∀ g, g < B → s m (o + g) = nI (a 0 g) ∧ s m (o + (6 + g)) = nI (a 1 g) ∧ s m (o + (12 + g)) = q_en (a 2 g) ∧ s m (o + (18 + g)) = q_en (a 3 g)) ∧ (∀ p, p < P → s m (o + (24 + p)) = nI (a 4 p)) ∧ s m (o + 29) = z ∧ s m (o + 30) = nI (a 6 0)
def q_IT (s : sf_Sg) : Prop := (∃ n : Nat, n ≤ 240 ∧ s 1 0 = nI n ∧ s 149 12 = nI n ∧ ∀ i, i < n → s 156 i = s 2 i ∧ ∃ c : Nat, c ≤ 255 ∧ s 2 i = nI c) ∧ s 1 1 = s 149 13
def q_IF (s : sf_Sg) : Prop := ∃ n : Nat, n ≤ 6 ∧ s 125 0 = nI n ∧ s 149 32 = nI n ∧ ∀ i, i < n → (s 165 i = s 127 i ∧ ∃ x : Nat, 1 ≤ x ∧ x ≤ 99 ∧ s 127 i = nI x) ∧ (s 166 i = s 128 i ∧ ∃ x : Nat, x ≤ 30 ∧ s 128 i = nI x) ∧ (s 167 i = s 129 i ∧ ∃ x : Nat, x ≤ 99 ∧ s 129 i = nI x)
def q_IB (s : sf_Sg) (P : Nat) : Prop := ∃ n : Nat, n ≤ 15 ∧ s 131 0 = nI n ∧ s 149 37 = nI n ∧ ∀ i, i < n → (s 169 i = s 132 i ∧ ∃ p : Nat, p < P ∧ s 132 i = nI p) ∧ s 170 i = s 133 i
def q_UC (s : sf_Sg) (B P n : Nat) (A : Nat → (Nat → Nat → Nat) × Int32) : Prop := ∃ x : Nat, x < 16 ∧ s 27 0 = nI n ∧ s 27 1 = nI x ∧ ∀ u, u < n → q_LC s B P (29 + 6 * ((x + 16 - n + u) % 16)) (A u).1 (A u).2
def q_UM (s : sf_Sg) (B P n : Nat) (A : Nat → (Nat → Nat → Nat) × Int32) : Prop := s 149 26 = nI n ∧ ∀ u, u < n → q_LM s B P 162 (31 * u) (A u).1 (A u).2
def q_IU (s : sf_Sg) (B P : Nat) : Prop := ∃ (n : Nat) (A : Nat → (Nat → Nat → Nat) × Int32), n ≤ 16 ∧ (∀ u, u < n → q_LG B P (A u).1) ∧ q_UC s B P n A ∧ q_UM s B P n A
def q_IM (s : sf_Sg) (B P : Nat) : Prop := ∀ i, i < 2 → s 172 i = s 136 i ∧ (s 136 i = 0 ∨ (s 136 i = 1 ∧ (s 171 (32 * i + 31) = s 135 i ∧ 0 ≤ s 135 i) ∧ ∃ (a : Nat → Nat → Nat) (z : Int32), q_LG B P a ∧ q_LC s B P (137 + 6 * i) a z ∧ q_LM s B P 171 (32 * i) a z))
def q_IO (s : sf_Sg) : Prop := s 149 10 = s 0 13 ∧ 0 ≤ s 0 13
def q_Inv (s : sf_Sg) : Prop := ∃ (B P : Nat) (sh a : Nat → Nat → Nat) (z : Int32), q_IS s B P sh ∧ (q_LG B P a ∧ q_LC s B P 16 a z ∧ q_LM s B P 155 0 a z) ∧ q_IT s ∧ q_IF s ∧ q_IB s P ∧ q_IU s B P ∧ q_IM s B P ∧ q_IO s
theorem q_inv0 : q_Inv sf_s0 := by
  refine ⟨0, 0, fun _ _ => 0, fun _ _ => 0, 0, ⟨⟨by decide, by decide, rfl, rfl, rfl, rfl, Or.inl rfl, rfl⟩, fun g h => absurd h (by omega), fun g h => absurd h (by omega)⟩, ⟨⟨fun g h => absurd h (by omega), fun g h => absurd h (by omega), by decide⟩, ⟨fun g h => absurd h (by omega), fun g h => absurd h (by omega), rfl, rfl⟩, ⟨fun g h => absurd h (by omega), fun g h => absurd h (by omega), rfl, rfl⟩⟩, ⟨⟨0, by decide, rfl, rfl, fun g h => absurd h (by omega)⟩, rfl⟩, ⟨0, by decide, rfl, rfl, fun g h => absurd h (by omega)⟩, ⟨0, by decide, rfl, rfl, fun g h => absurd h (by omega)⟩, ⟨0, fun _ => (fun _ _ => 0, 0), by decide, fun g h => absurd h (by omega), ⟨0, by decide, rfl, rfl, fun g h => absurd h (by omega)⟩, ⟨rfl, fun g h => absurd h (by omega)⟩⟩, ?_, ⟨rfl, by decide⟩⟩
  intro i hi
  rcases (show i = 0 ∨ i = 1 by omega) with rfl | rfl
  · exact ⟨rfl, Or.inl rfl⟩
  · exact ⟨rfl, Or.inl rfl⟩
-- what leaves a part of it as it was
theorem q_IS.of {s t : sf_Sg} {B P : Nat} {sh : Nat → Nat → Nat} (h : q_IS s B P sh) (hc : ∀ k, 10 ≤ k → k ≤ 15 → t k = s k) (hm : ∀ k, (k = 150 ∨ k = 152 ∨ k = 153 ∨ k = 154) → t k = s k) (h0 : t 149 0 = s 149 0) (h2 : t 149 2 = s 149 2) (h6 : t 149 6 = s 149 6) : q_IS t B P sh := by
  unfold q_IS at h ⊢
  rw [hc 10 (by decide) (by decide), hc 11 (by decide) (by decide), hc 13 (by decide) (by decide), hc 14 (by decide) (by decide), hc 15 (by decide) (by decide), hm 150 (by decide), hm 152 (by decide), hm 153 (by decide), hm 154 (by decide), h0, h2, h6]
  exact h
theorem q_LC.of {s t : sf_Sg} {B P c : Nat} {a : Nat → Nat → Nat} {z : Int32} (h : q_LC s B P c a z) (hc : ∀ k, c ≤ k → k ≤ c + 5 → t k = s k) : q_LC t B P c a z := by
  unfold q_LC at h ⊢
  rw [hc c (by omega) (by omega), hc (c + 1) (by omega) (by omega), hc (c + 2) (by omega) (by omega), hc (c + 3) (by omega) (by omega), hc (c + 4) (by omega) (by omega), hc (c + 5) (by omega) (by omega)]
  exact h
theorem q_LM.of {s t : sf_Sg} {B P m o : Nat} {a : Nat → Nat → Nat} {z : Int32} (h : q_LM s B P m o a z) (hc : t m = s m) : q_LM t B P m o a z := by
  unfold q_LM at h ⊢
  rw [hc]
  exact h
theorem q_IT.of {s t : sf_Sg} (h : q_IT s) (h1 : t 1 = s 1) (h2 : t 2 = s 2) (h3 : t 156 = s 156) (h4 : t 149 12 = s 149 12) (h5 : t 149 13 = s 149 13) : q_IT t := by
  unfold q_IT at h ⊢
  rw [h1, h2, h3, h4, h5]
  exact h
theorem q_IF.of {s t : sf_Sg} (h : q_IF s) (h1 : t 125 0 = s 125 0) (hc : ∀ k, (k = 127 ∨ k = 128 ∨ k = 129 ∨ k = 165 ∨ k = 166 ∨ k = 167) → t k = s k) (h2 : t 149 32 = s 149 32) : q_IF t := by
  unfold q_IF at h ⊢
  rw [h1, h2, hc 127 (by decide), hc 128 (by decide), hc 129 (by decide), hc 165 (by decide), hc 166 (by decide), hc 167 (by decide)]
  exact h
theorem q_IB.of {s t : sf_Sg} {P : Nat} (h : q_IB s P) (h1 : t 131 0 = s 131 0) (hc : ∀ k, (k = 132 ∨ k = 133 ∨ k = 169 ∨ k = 170) → t k = s k) (h2 : t 149 37 = s 149 37) : q_IB t P := by
  unfold q_IB at h ⊢
  rw [h1, h2, hc 132 (by decide), hc 133 (by decide), hc 169 (by decide), hc 170 (by decide)]
  exact h
theorem q_UC.of {s t : sf_Sg} {B P n : Nat} {A : Nat → (Nat → Nat → Nat) × Int32} (h : q_UC s B P n A) (h1 : t 27 = s 27) (hc : ∀ k, 29 ≤ k → k ≤ 124 → t k = s k) : q_UC t B P n A := by
  obtain ⟨x, a2, a3, a4, a6⟩ := h
  refine ⟨x, a2, by rw [h1]; exact a3, by rw [h1]; exact a4, fun u hu => ?_⟩
  exact (a6 u hu).of (fun k hk1 hk2 => hc k (by omega) (by have := Nat.mod_lt (x + 16 - n + u) (show 16 > 0 by decide); omega))
theorem q_UM.of {s t : sf_Sg} {B P n : Nat} {A : Nat → (Nat → Nat → Nat) × Int32} (h : q_UM s B P n A) (h2 : t 162 = s 162) (h3 : t 149 26 = s 149 26) : q_UM t B P n A :=
  ⟨by rw [h3]; exact h.1, fun u hu => (h.2 u hu).of h2⟩
theorem q_IU.of {s t : sf_Sg} {B P : Nat} (h : q_IU s B P) (h1 : t 27 = s 27) (hc : ∀ k, 29 ≤ k → k ≤ 124 → t k = s k) (h2 : t 162 = s 162) (h3 : t 149 26 = s 149 26) : q_IU t B P := by
  obtain ⟨n, A, b1, b2, b3, b4⟩ := h
  exact ⟨n, A, b1, b2, b3.of h1 hc, b4.of h2 h3⟩
theorem q_IM.of {s t : sf_Sg} {B P : Nat} (h : q_IM s B P) (hc : ∀ k, 135 ≤ k → k ≤ 148 → t k = s k) (h1 : t 171 = s 171) (h2 : t 172 = s 172) : q_IM t B P := by
  intro i hi
  obtain ⟨a1, a2⟩ := h i hi
  rw [hc 136 (by decide) (by decide), hc 135 (by decide) (by decide), h1, h2]
  refine ⟨a1, ?_⟩
  rcases a2 with a2 | ⟨a2, a3, a, z, a4, a5, a6⟩
  · exact Or.inl a2
  · exact Or.inr ⟨a2, a3, a, z, a4, a5.of (fun k hk1 hk2 => hc k (by omega) (by omega)), a6.of h1⟩
theorem q_IO.of {s t : sf_Sg} (h : q_IO s) (h1 : t 0 13 = s 0 13) (h2 : t 149 10 = s 149 10) : q_IO t := by
  unfold q_IO at h ⊢
  rw [h1, h2]
  exact h
