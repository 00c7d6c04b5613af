-- DAYS
def q_nx (sh a : Nat → Nat → Nat) (B p d x : Nat) : Nat := if q_bits B (fun g => q_on a g p) = 0 then x - 3 else min 9999 (x + q_gal sh a B p (fun g => q_on a g p) d)
def q_so (a : Nat → Nat → Nat) (f : Nat → Nat) (i : Nat) : Nat → Nat → Nat := fun k j => if k = 4 then (if j < i then f j else a 4 j) else a k j
def q_d1 (a : Nat → Nat → Nat) : Nat → Nat → Nat := fun k j => if k = 6 then a 6 j + 1 else a k j
def q_day (sh : Nat → Nat → Nat) (B P : Nat) (a : Nat → Nat → Nat) : Nat → Nat → Nat := q_d1 (q_so a (fun p => q_nx sh a B p (a 6 0) (a 4 p)) P)
theorem q_nx_le {sh a : Nat → Nat → Nat} {B p d x : Nat} (h : x ≤ 9999) : q_nx sh a B p d x ≤ 9999 := by
  unfold q_nx
  split <;> omega
theorem q_so_LT {B P : Nat} {a : Nat → Nat → Nat} (h : q_LT B P a) (f : Nat → Nat) (hf : ∀ p, p < P → f p ≤ 9999) (i : Nat) : q_LT B P (q_so a f i) := by
  refine ⟨h.1, fun p hp => ?_, h.2.2⟩
  show (if p < i then f p else a 4 p) ≤ 9999
  split
  · exact hf p hp
  · exact h.2.1 p hp
theorem q_so_0 {a : Nat → Nat → Nat} {f : Nat → Nat} {p : Nat} : q_so a f 0 4 p = a 4 p := by
  unfold q_so
  rw [if_pos rfl, if_neg (by omega)]
theorem c_soreDay {s : sf_Sg} {B P : Nat} {sh a : Nat → Nat → Nat} {z : Int32} (S : q_SC s B P sh) (SG : q_SG B P sh) (L : q_LC s B P 16 a z) (G : q_LT B P a) {p d m x : Nat} (hm : m < 64) (hp : p < P) (hd : d ≤ 20000) (hx : x ≤ 9999) : f6_soreBehindDay s (nI p) (nI x) (nI m) (nI d) = some (nI (if m = 0 then x - 3 else min 9999 (x + q_gal sh a B p (fun g => m.testBit g) d))) := by
  unfold f6_soreBehindDay f6_soreBehindDay_b0
  have e : (nI m = 0) = (m = 0) := q_eq (b := 0) (by omega) (by decide)
  simp only [e]
  by_cases h : m = 0
  · rw [if_pos h, if_pos h]
    exact congrArg some (q_max0 (p := 3) (by omega) (by decide))
  · rw [if_neg h, if_neg h, c_gallingOf S SG L G hm hp hd]
    simp only [q_ob]
    have hgl := q_gal_le (a := a) (d := d) (on := fun g => m.testBit g) SG hp (fun g hg => (G.1 g hg).2.1)
    rw [nI_add]
    unfold sf_min
    generalize q_gal sh a B p (fun g => m.testBit g) d = G0 at hgl ⊢
    have c : (nI (x + G0) < 9999) = (x + G0 < 9999) := q_lt (b := 9999) (by omega) (by decide)
    simp only [c]
    by_cases w : x + G0 < 9999
    · rw [if_pos w, Nat.min_eq_right (by omega)]
    · rw [if_neg w, Nat.min_eq_left (by omega)]
      rfl
theorem c_nx {s : sf_Sg} {B P : Nat} {sh a : Nat → Nat → Nat} {z : Int32} (S : q_SC s B P sh) (SG : q_SG B P sh) (L : q_LC s B P 16 a z) (G : q_LT B P a) {p d x : Nat} (hp : p < P) (hd : d ≤ 20000) (hx : x ≤ 9999) : f6_soreBehindDay s (nI p) (nI x) (nI (q_bits B (fun g => q_on a g p))) (nI d) = some (nI (q_nx sh a B p d x)) := by
  rw [c_soreDay S SG L G (q_bits64 SG.1 _) hp hd hx]
  unfold q_nx
  rw [q_gal_bits]
theorem c_passDay {s : sf_Sg} {B P : Nat} {sh a : Nat → Nat → Nat} {z : Int32} (S : q_SC s B P sh) (SG : q_SG B P sh) (L : q_LC s B P 16 a z) (G : q_LT B P a) : ∃ u, f6_passDay s = some u ∧ (∀ k, k ≠ 16 → k ≠ 21 → u k = s k) ∧ q_LC u B P 16 (q_day sh B P a) z := by
  have hP := SG.2.1
  have hf : ∀ p, p < P → q_nx sh a B p (a 6 0) (a 4 p) ≤ 9999 := fun p hp => q_nx_le (G.2.1 p hp)
  have key : ∀ (f i : Nat) (t : sf_Sg), P < f + i → i ≤ P → (∀ k, k ≠ 21 → t k = s k) → q_LC t B P 16 (q_so a (fun p => q_nx sh a B p (a 6 0) (a 4 p)) i) z → ∃ u, sf_it f6_passDay_b2 (fun _ _ => none) f t (nI i) = f6_passDay_b54 u ∧ (∀ k, k ≠ 21 → u k = s k) ∧ q_LC u B P 16 (q_so a (fun p => q_nx sh a B p (a 6 0) (a 4 p)) P) z := by
    intro f
    induction f with
    | zero => intro i t h1 h2; omega
    | succ f ih =>
      intro i t h1 h2 h3 h4
      rw [q_it]
      generalize sf_it f6_passDay_b2 (fun _ _ => none) f = K at ih ⊢
      unfold f6_passDay_b2
      have S' : q_SC t B P sh := S.of (fun k a1 a2 => h3 k (by omega))
      rw [S'.2.1]
      by_cases hi : i = P
      · subst hi
        rw [if_pos (nI_le (Nat.le_refl _) (by omega))]
        exact ⟨t, rfl, h3, h4⟩
      · have hiP : i < P := by omega
        have G' : q_LT B P (q_so a (fun p => q_nx sh a B p (a 6 0) (a 4 p)) i) := q_so_LT G _ hf i
        rw [if_neg (nI_ge hiP (by omega)), q_ld (by omega) (by decide), show t 21 i = nI (q_so a (fun p => q_nx sh a B p (a 6 0) (a 4 p)) i 4 i) from h4.2.1 i hiP]
        simp only [q_ob]
        have e4 : q_so a (fun p => q_nx sh a B p (a 6 0) (a 4 p)) i 4 i = a 4 i := by
          show (if i < i then _ else a 4 i) = _
          rw [if_neg (by omega)]
        rw [e4, c_carriedBy S' h4 SG.1 hP G' hiP]
        simp only [q_ob]
        rw [h4.2.2.2]
        have e5 := c_nx S' SG h4 G' (d := a 6 0) hiP G.2.2 (G.2.1 i hiP)
        have e6 : f6_soreBehindDay t (nI i) (nI (a 4 i)) (nI (q_bits B fun g => q_on (q_so a (fun p => q_nx sh a B p (a 6 0) (a 4 p)) i) g i)) (nI (q_so a (fun p => q_nx sh a B p (a 6 0) (a 4 p)) i 6 0)) = some (nI (q_nx sh a B i (a 6 0) (a 4 i))) := e5
        rw [e6]
        simp only [q_ob]
        rw [q_st (by omega) (by decide)]
        simp only [q_ob]
        rw [nI_1]
        refine ih (i + 1) _ (by omega) (by omega) (fun k hk => by rw [q_s1k hk, h3 k hk]) ?_
        refine ⟨fun g hg => ?_, fun p hp => ?_, ?_, ?_⟩
        · rw [q_s1k (by decide), q_s1k (by decide), q_s1k (by decide), q_s1k (by decide)]
          exact h4.1 g hg
        · show sf_s1 t 21 i (nI (q_nx sh a B i (a 6 0) (a 4 i))) 21 p = nI (if p < i + 1 then _ else a 4 p)
          by_cases hpi : p = i
          · subst hpi
            rw [q_s1s, if_pos (by omega)]
          · rw [q_s1i hpi]
            have := h4.2.1 p hp
            have e7 : t 21 p = nI (if p < i then q_nx sh a B p (a 6 0) (a 4 p) else a 4 p) := this
            rw [e7]
            by_cases hl : p < i
            · rw [if_pos hl, if_pos (by omega)]
            · rw [if_neg hl, if_neg (by omega)]
        · rw [q_s1k (by decide)]
          exact h4.2.2.1
        · rw [q_s1k (by decide)]
          exact h4.2.2.2
  have L0 : q_LC s B P 16 (q_so a (fun p => q_nx sh a B p (a 6 0) (a 4 p)) 0) z := by
    refine ⟨L.1, fun p hp => ?_, L.2.2.1, L.2.2.2⟩
    rw [q_so_0]
    exact L.2.1 p hp
  obtain ⟨u, e1, e2, e3⟩ := key sf_FU 0 s (by unfold sf_FU; omega) (by omega) (fun _ _ => rfl) L0
  have e1' : f6_passDay s = f6_passDay_b54 u := e1
  rw [e1']
  unfold f6_passDay_b54
  refine ⟨_, rfl, fun k h1 h2 => by rw [q_s1k h1, e2 k h2], ?_⟩
  have hd : u 16 0 = nI (a 6 0) := e3.2.2.2
  rw [hd, nI_1]
  refine ⟨fun g hg => ?_, fun p hp => ?_, ?_, ?_⟩
  · rw [q_s1k (by decide), q_s1k (by decide), q_s1k (by decide), q_s1k (by decide)]
    exact e3.1 g hg
  · rw [q_s1k (by decide)]
    exact e3.2.1 p hp
  · rw [q_s1i (by decide)]
    exact e3.2.2.1
  · rw [q_s1s]
    rfl
theorem q_addneg3 {x : Nat} : nI x + (-3) = nI x - nI 3 := by
  rw [Int32.sub_eq_add_neg]
  rfl
theorem m_pass {s : sf_Sg} {B P : Nat} {sh a : Nat → Nat → Nat} {z : Int32} (S : q_SM s B P sh) (SG : q_SG B P sh) (L : q_LM s B P 155 0 a z) (G : q_LT B P a) : ∃ u, f10_pass s = some u ∧ (∀ k, k ≠ 155 → u k = s k) ∧ q_LM u B P 155 0 (q_day sh B P a) z := by
  have hP := SG.2.1
  have hB := SG.1
  have hf : ∀ p, p < P → q_nx sh a B p (a 6 0) (a 4 p) ≤ 9999 := fun p hp => q_nx_le (G.2.1 p hp)
  have key : ∀ (f i : Nat) (t : sf_Sg), P < f + i → i ≤ P → (∀ k, k ≠ 155 → t k = s k) → q_LM t B P 155 0 (q_so a (fun p => q_nx sh a B p (a 6 0) (a 4 p)) i) z → ∃ u, sf_it f10_pass_b2 (fun _ _ => none) f t (nI i) = f10_pass_b71 u ∧ (∀ k, k ≠ 155 → u k = s k) ∧ q_LM u B P 155 0 (q_so a (fun p => q_nx sh a B p (a 6 0) (a 4 p)) P) z := by
    intro f
    induction f with
    | zero => intro i t h1 h2; omega
    | succ f ih =>
      intro i t h1 h2 h3 h4
      rw [q_it]
      generalize sf_it f10_pass_b2 (fun _ _ => none) f = K at ih ⊢
      unfold f10_pass_b2
      have S' : q_SM t B P sh := S.of (fun k a1 => h3 k (by omega)) (congrFun (h3 149 (by decide)) 2) (congrFun (h3 149 (by decide)) 6)
      rw [S'.2.1]
      by_cases hi : i = P
      · subst hi
        rw [if_pos (nI_le (Nat.le_refl _) (by omega))]
        exact ⟨t, rfl, h3, h4⟩
      · have hiP : i < P := by omega
        have G' : q_LT B P (q_so a (fun p => q_nx sh a B p (a 6 0) (a 4 p)) i) := q_so_LT G _ hf i
        have e4 : q_so a (fun p => q_nx sh a B p (a 6 0) (a 4 p)) i 4 i = a 4 i := by
          show (if i < i then _ else a 4 i) = _
          rw [if_neg (by omega)]
        rw [if_neg (nI_ge hiP (by omega)), show sf_ld t 155 31 ((24 : Int32) + nI i) = some (t 155 (24 + i)) from q_ldn (o := 24) (g := i) (by omega), h4.so hiP, e4]
        simp only [q_ob]
        rw [m_carriedBy S' h4 hB hP G' hiP]
        simp only [q_ob]
        have ec : (q_bits B fun g => q_on (q_so a (fun p => q_nx sh a B p (a 6 0) (a 4 p)) i) g i) = q_bits B fun g => q_on a g i := rfl
        rw [ec]
        have hb64 := q_bits64 hB (fun g => q_on a g i)
        have x4 := G.2.1 i hiP
        have hgl := q_gal_le (a := a) (d := a 6 0) (on := fun g => q_on a g i) SG hiP (fun g hg => (G.1 g hg).2.1)
        have goal : ∀ v : Int32, v = nI (q_nx sh a B i (a 6 0) (a 4 i)) → ∃ u, f10_pass_b64 K t (nI i) v ((24 : Int32) + nI i) = f10_pass_b71 u ∧ (∀ k, k ≠ 155 → u k = s k) ∧ q_LM u B P 155 0 (q_so a (fun p => q_nx sh a B p (a 6 0) (a 4 p)) P) z := by
          intro v hv
          subst hv
          unfold f10_pass_b64
          rw [show (24 : Int32) + nI i = nI (24 + i) from nI_add 24 i, q_st (by omega) (by decide)]
          simp only [q_ob]
          rw [nI_1]
          refine ih (i + 1) _ (by omega) (by omega) (fun k hk => by rw [q_s1k hk, h3 k hk]) ?_
          refine ⟨fun g hg => ?_, fun p hp => ?_, ?_, ?_⟩
          · rw [q_s1i (by omega), q_s1i (by omega), q_s1i (by omega), q_s1i (by omega)]
            exact h4.1 g hg
          · show sf_s1 t 155 (24 + i) (nI (q_nx sh a B i (a 6 0) (a 4 i))) 155 (0 + (24 + p)) = nI (if p < i + 1 then _ else a 4 p)
            rw [Nat.zero_add]
            by_cases hpi : p = i
            · subst hpi
              rw [q_s1s, if_pos (by omega)]
            · rw [q_s1i (by omega)]
              have e7 : t 155 (24 + p) = nI (if p < i then q_nx sh a B p (a 6 0) (a 4 p) else a 4 p) := h4.so hp
              rw [e7]
              by_cases hl : p < i
              · rw [if_pos hl, if_pos (by omega)]
              · rw [if_neg hl, if_neg (by omega)]
          · rw [q_s1i (by omega)]
            exact h4.2.2.1
          · rw [q_s1i (by omega)]
            exact h4.2.2.2
        have e : (nI (q_bits B fun g => q_on a g i) = 0) = ((q_bits B fun g => q_on a g i) = 0) := q_eq (b := 0) (by omega) (by decide)
        simp only [e]
        unfold f10_pass_b37
        by_cases hz : (q_bits B fun g => q_on a g i) = 0
        · rw [if_pos hz, q_addneg3]
          have h1 : (nI (a 4 i) - nI 3).toInt = (a 4 i : Int) - 3 := pk_sub_toInt (by omega) (by decide)
          rw [if_pos (by rw [Int32.le_iff_toInt_le, h1]; show _ ≤ (9999 : Int); omega)]
          refine goal _ ?_
          rw [q_nb (by omega) (by decide)]
          unfold q_nx
          rw [if_pos hz]
        · rw [if_neg hz, show f10_gallingOf t (nI i) = some (nI (q_gal sh a B i (fun g => q_on a g i) (a 6 0))) from m_gallingOf S' SG h4 G' hiP]
          simp only [q_ob]
          rw [nI_add]
          generalize hG0 : q_gal sh a B i (fun g => q_on a g i) (a 6 0) = G0 at hgl
          have c : (nI (a 4 i + G0) ≤ 9999) = (a 4 i + G0 ≤ 9999) := q_le (b := 9999) (by omega) (by decide)
          simp only [c]
          by_cases w : a 4 i + G0 ≤ 9999
          · rw [if_pos w]
            refine goal _ ?_
            unfold q_nx
            rw [if_neg hz, hG0, Nat.min_eq_right (by omega)]
            have := q_nb (e := a 4 i + G0) (p := 0) (by omega) (by decide)
            have e0 : nI (a 4 i + G0) - nI 0 = nI (a 4 i + G0) := pk_sub (Nat.zero_le _)
            rw [e0] at this
            exact this
          · rw [if_neg w]
            refine goal _ ?_
            unfold q_nx
            rw [if_neg hz, hG0, Nat.min_eq_left (by omega)]
            rfl
  have L0 : q_LM s B P 155 0 (q_so a (fun p => q_nx sh a B p (a 6 0) (a 4 p)) 0) z := by
    refine ⟨L.1, fun p hp => ?_, L.2.2.1, L.2.2.2⟩
    rw [q_so_0]
    exact L.2.1 p hp
  obtain ⟨u, e1, e2, e3⟩ := key sf_FU 0 s (by unfold sf_FU; omega) (by omega) (fun _ _ => rfl) L0
  have e1' : f10_pass s = f10_pass_b71 u := e1
  rw [e1']
  unfold f10_pass_b71
  have hd : u 155 30 = nI (a 6 0) := e3.dy
  rw [show sf_ld u 155 31 (30 : Int32) = some (u 155 30) from q_ld (i := 30) (by decide) (by decide), hd]
  simp only [q_ob]
  rw [nI_1, show sf_st u 155 31 (30 : Int32) (nI (a 6 0 + 1)) = some (sf_s1 u 155 30 (nI (a 6 0 + 1))) from q_st (i := 30) (by decide) (by decide)]
  simp only [q_ob]
  refine ⟨_, rfl, fun k h1 => by rw [q_s1k h1, e2 k h1], ?_⟩
  refine ⟨fun g hg => ?_, fun p hp => ?_, ?_, ?_⟩
  · rw [q_s1i (by omega), q_s1i (by omega), q_s1i (by omega), q_s1i (by omega)]
    exact e3.1 g hg
  · rw [q_s1i (by omega)]
    exact e3.2.1 p hp
  · rw [q_s1i (by decide)]
    exact e3.2.2.1
  · show sf_s1 u 155 30 (nI (a 6 0 + 1)) 155 30 = _
    rw [q_s1s]
    rfl
theorem q_day_LT {sh a : Nat → Nat → Nat} {B P : Nat} (h : q_LT B P a) (h6 : a 6 0 < 20000) : q_LT B P (q_day sh B P a) := by
  have := q_so_LT h (fun p => q_nx sh a B p (a 6 0) (a 4 p)) (fun p hp => q_nx_le (h.2.1 p hp)) P
  refine ⟨this.1, this.2.1, ?_⟩
  show a 6 0 + 1 ≤ 20000
  omega
def q_days (sh : Nat → Nat → Nat) (B P : Nat) : Nat → (Nat → Nat → Nat) → Nat → Nat → Nat
  | 0, a => a
  | n + 1, a => q_days sh B P n (q_day sh B P a)
theorem q_days_6 {sh : Nat → Nat → Nat} {B P : Nat} : ∀ (n : Nat) (a : Nat → Nat → Nat), q_days sh B P n a 6 0 = a 6 0 + n
  | 0, _ => rfl
  | n + 1, a => by
    show q_days sh B P n (q_day sh B P a) 6 0 = _
    rw [q_days_6 n]
    show a 6 0 + 1 + n = _
    omega
theorem q_days_LT {sh : Nat → Nat → Nat} {B P : Nat} : ∀ (n : Nat) (a : Nat → Nat → Nat), q_LT B P a → a 6 0 + n ≤ 20000 → q_LT B P (q_days sh B P n a)
  | 0, _, h, _ => h
  | n + 1, a, h, h6 => q_days_LT n _ (q_day_LT h (by omega)) (by show a 6 0 + 1 + n ≤ 20000; omega)
theorem q_days_s {sh : Nat → Nat → Nat} {B P : Nat} : ∀ (n : Nat) (a : Nat → Nat → Nat), q_days sh B P (n + 1) a = q_day sh B P (q_days sh B P n a)
  | 0, _ => rfl
  | n + 1, a => by
    show q_days sh B P (n + 1) (q_day sh B P a) = _
    rw [q_days_s n]
    rfl
def q_gd (a : Nat → Nat → Nat) (p : Nat) : Bool := decide (20 ≤ a 4 p)
theorem q_shl5 {g : Nat} (h : g < 5) : (1 : Int32) <<< (nI g &&& 31) = nI (2 ^ g) := q_shl g (by omega)
theorem c_galled {s : sf_Sg} {B P : Nat} {sh a : Nat → Nat → Nat} {z : Int32} (S : q_SC s B P sh) (hP : P ≤ 5) (L : q_LC s B P 16 a z) (G : q_LT B P a) : f6_galled s = some (nI (q_bits P (q_gd a))) := by
  have key : ∀ (f i : Nat), P < f + i → i ≤ P → sf_it (f6_galled_b4 s) (fun _ _ => none) f (nI (q_bits i (q_gd a))) (nI i) = some (nI (q_bits P (q_gd a))) := by
    intro f
    induction f with
    | zero => intro i h1 h2; omega
    | succ f ih =>
      intro i h1 h2
      rw [q_it]
      generalize sf_it (f6_galled_b4 s) (fun _ _ => none) f = K at ih ⊢
      unfold f6_galled_b4 f6_galled_b35
      rw [S.2.1]
      by_cases hi : i = P
      · subst hi
        rw [if_pos (nI_le (Nat.le_refl _) (by omega))]
      · have hiP : i < P := by omega
        have x4 := G.2.1 i hiP
        rw [if_neg (nI_ge hiP (by omega)), q_ld (by omega) (by decide), show s 21 i = nI (a 4 i) from L.2.1 i hiP]
        have c : (nI (a 4 i) < 20) = (a 4 i < 20) := q_lt (b := 20) (by omega) (by decide)
        simp only [q_ob, c]
        have st := ih (i + 1) (by omega) (by omega)
        by_cases ht : a 4 i < 20
        · rw [if_pos ht, nI_1]
          have e1 : q_bits (i + 1) (q_gd a) = q_bits i (q_gd a) := by
            show _ + (if q_gd a i then _ else _) = _
            unfold q_gd
            rw [if_neg (by simp; omega), Nat.add_zero]
          rw [e1] at st
          exact st
        · rw [if_neg ht, q_shl i (by omega), q_or (q_bits_lt _ i) (by omega), nI_1]
          have e1 : q_bits (i + 1) (q_gd a) = q_bits i (q_gd a) + 2 ^ i := by
            show _ + (if q_gd a i then _ else _) = _
            unfold q_gd
            rw [if_pos (by simp; omega)]
          rw [e1] at st
          exact st
  exact key sf_FU 0 (by unfold sf_FU; omega) (by omega)
theorem m_galled {s : sf_Sg} {B P : Nat} {sh a : Nat → Nat → Nat} {z : Int32} (S : q_SM s B P sh) (hP : P ≤ 5) (L : q_LM s B P 155 0 a z) (G : q_LT B P a) : f10_galledOnes s = some (nI (q_bits P (q_gd a))) := by
  have key : ∀ (f i : Nat), P < f + i → i ≤ P → sf_it (f10_galledOnes_b4 s) (fun _ _ => none) f (nI (q_bits i (q_gd a))) (nI i) = some (nI (q_bits P (q_gd a))) := by
    intro f
    induction f with
    | zero => intro i h1 h2; omega
    | succ f ih =>
      intro i h1 h2
      rw [q_it]
      generalize sf_it (f10_galledOnes_b4 s) (fun _ _ => none) f = K at ih ⊢
      unfold f10_galledOnes_b4 f10_galledOnes_b34
      rw [S.2.1]
      by_cases hi : i = P
      · subst hi
        rw [if_pos (nI_le (Nat.le_refl _) (by omega))]
      · have hiP : i < P := by omega
        have x4 := G.2.1 i hiP
        rw [if_neg (nI_ge hiP (by omega)), show sf_ld s 155 31 ((24 : Int32) + nI i) = some (s 155 (24 + i)) from q_ldn (o := 24) (g := i) (by omega), L.so hiP]
        have c : (nI (a 4 i) < 20) = (a 4 i < 20) := q_lt (b := 20) (by omega) (by decide)
        simp only [q_ob, c]
        have st := ih (i + 1) (by omega) (by omega)
        by_cases ht : a 4 i < 20
        · rw [if_pos ht, nI_1]
          have e1 : q_bits (i + 1) (q_gd a) = q_bits i (q_gd a) := by
            show _ + (if q_gd a i then _ else _) = _
            unfold q_gd
            rw [if_neg (by simp; omega), Nat.add_zero]
          rw [e1] at st
          rw [show (0 : Int32) = nI 0 from rfl, fa_or, Nat.or_zero]
          exact st
        · rw [if_neg ht, q_shl i (by omega), q_or (q_bits_lt _ i) (by omega), nI_1]
          have e1 : q_bits (i + 1) (q_gd a) = q_bits i (q_gd a) + 2 ^ i := by
            show _ + (if q_gd a i then _ else _) = _
            unfold q_gd
            rw [if_pos (by simp; omega)]
          rw [e1] at st
          exact st
  exact key sf_FU 0 (by unfold sf_FU; omega) (by omega)
