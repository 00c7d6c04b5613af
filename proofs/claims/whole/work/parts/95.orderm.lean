theorem q_dn_LT {B P : Nat} {a : Nat → Nat → Nat} (h : q_LT B P a) {g p : Nat} (hg : g < B) : q_LT B P (q_dn a g p) := by
  refine ⟨fun i hi => ?_, fun p hp => ?_, ?_⟩
  · have hh := h.1 i hi
    unfold q_dn q_up
    by_cases e : i = g
    · subst e
      simp
      split <;> omega
    · simp only [e, and_false, if_false]
      exact hh
  · unfold q_dn
    rw [q_up_k (by decide), q_up_k (by decide)]
    exact h.2.1 p hp
  · unfold q_dn
    rw [q_up_k (by decide), q_up_k (by decide)]
    exact h.2.2
theorem m_isB {s : sf_Sg} {B e : Nat} (h : s 149 2 = nI B) (hB : B ≤ 6) (he : e ≤ 1000) : f10_isBurden s (q_en e) = if 1 ≤ e ∧ e ≤ B then 1 else 0 := by
  have e10 : f10_isBurden s (q_en e) = f9_within (q_en e) 0 (nI B - 1) := by
    unfold f10_isBurden f10_isBurden_b0
    rw [h]
    exact q_in (q_en e) 0 (nI B - 1)
  rw [e10]
  unfold f9_within f9_within_b0 f9_within_b14
  cases e with
  | zero =>
    rw [q_en_0, if_pos (by decide), if_neg (by omega)]
  | succ e =>
    rw [q_en_s, if_neg (q_lt0 (by omega))]
    have hb1 : (nI B - 1).toInt = (B : Int) - 1 := pk_sub_toInt (a := B) (b := 1) (by omega) (by omega)
    have hc : (nI B - 1 < nI e) ↔ B ≤ e := by
      rw [Int32.lt_iff_toInt_lt, hb1, nI_toInt (by omega)]
      omega
    by_cases w : B ≤ e
    · rw [if_pos (hc.mpr w), if_neg (by omega)]
    · rw [if_neg (fun q => w (hc.mp q)), if_pos (by omega)]
/-- what is left of a load while one sets down -/
def q_Re (a a' : Nat → Nat → Nat) (B p m : Nat) : Prop := (∀ g, g < B → q_on a' g p = m.testBit g) ∧ (∀ g, g < B → m.testBit g = true → a' 0 g = a 0 g ∧ a' 1 g = a 1 g ∧ a' 2 g = a 2 g ∧ a' 3 g = a 3 g)
theorem q_Re.gal {sh a a' : Nat → Nat → Nat} {B p m d : Nat} (h : q_Re a a' B p m) : q_gal sh a' B p (fun g => q_on a' g p) d = q_gal sh a B p (fun g => m.testBit g) d := by
  rw [q_gal_congr (on' := fun g => m.testBit g) h.1]
  unfold q_gal q_parts q_rubs
  have e1 : q_sm B (fun g => if m.testBit g = true then q_part a' g p else 0) = q_sm B (fun g => if m.testBit g = true then q_part a g p else 0) := by
    refine q_sm_congr (fun g hg => ?_)
    show (if m.testBit g = true then q_part a' g p else 0) = if m.testBit g = true then q_part a g p else 0
    by_cases e : m.testBit g = true
    · obtain ⟨h0, h1, h2, h3⟩ := h.2 g hg e
      rw [if_pos e, if_pos e]
      unfold q_part
      rw [h0, h2, h3]
    · rw [if_neg e, if_neg e]
  have e2 : q_sm B (fun g => if m.testBit g = true then q_rub sh a' g p (q_shd a' g) d else 0) = q_sm B (fun g => if m.testBit g = true then q_rub sh a g p (q_shd a g) d else 0) := by
    refine q_sm_congr (fun g hg => ?_)
    show (if m.testBit g = true then q_rub sh a' g p (q_shd a' g) d else 0) = if m.testBit g = true then q_rub sh a g p (q_shd a g) d else 0
    by_cases e : m.testBit g = true
    · obtain ⟨h0, h1, h2, h3⟩ := h.2 g hg e
      rw [if_pos e, if_pos e]
      unfold q_rub q_shd
      rw [h1, h3]
    · rw [if_neg e, if_neg e]
  rw [e1, e2]
theorem q_Re.dn {a a' : Nat → Nat → Nat} {B P p m g : Nat} (hB : B ≤ 6) (G : q_LT B P a') (h : q_Re a a' B p m) (hm : m < 64) (hg : g < B) : q_Re a (q_dn a' g p) B p (q_clr m g) := by
  have rows : ∀ i, i ≠ g → ∀ k, q_dn a' g p k i = a' k i := by
    intro i hi k
    unfold q_dn q_up
    rw [if_neg (fun w => hi w.2), if_neg (fun w => hi w.2)]
  refine ⟨fun i hi => ?_, fun i hi ht => ?_⟩
  · rw [q_clr_t m hm g (by omega) i (by omega)]
    by_cases e : i = g
    · subst e
      have w := (G.1 i hi).2.2.2.2.2
      have e3 : q_dn a' i p 3 i = 0 := by
        unfold q_dn
        rw [q_up_s]
      have e2 : q_dn a' i p 2 i = if a' 2 i = p + 1 then a' 3 i else a' 2 i := by
        unfold q_dn
        rw [q_up_k (by decide), q_up_s]
      unfold q_on
      rw [e2, e3]
      have : ¬ (if a' 2 i = p + 1 then a' 3 i else a' 2 i) = p + 1 := by
        split <;> omega
      simp [this]
    · unfold q_on
      rw [rows i e 2, rows i e 3]
      have := h.1 i hi
      unfold q_on at this
      rw [this]
      simp [e]
  · rw [q_clr_t m hm g (by omega) i (by omega), Bool.and_eq_true, decide_eq_true_iff] at ht
    rw [rows i ht.2 0, rows i ht.2 1, rows i ht.2 2, rows i ht.2 3]
    exact h.2 i hi ht.1
theorem q_day_4 {sh a : Nat → Nat → Nat} {B P p : Nat} (hp : p < P) : q_day sh B P a 4 p = q_nx sh a B p (a 6 0) (a 4 p) := by
  unfold q_day q_d1 q_so
  rw [if_neg (by decide), if_pos rfl, if_pos hp]
theorem q_day_r {sh a : Nat → Nat → Nat} {B P k i : Nat} (h4 : k ≠ 4) (h6 : k ≠ 6) : q_day sh B P a k i = a k i := by
  unfold q_day q_d1 q_so
  rw [if_neg h6, if_neg h4]
theorem q_Re.day {sh a a' : Nat → Nat → Nat} {B P p m : Nat} (h : q_Re a a' B p m) : q_Re a (q_day sh B P a') B p m := by
  refine ⟨fun g hg => ?_, fun g hg ht => ?_⟩
  · unfold q_on
    rw [q_day_r (by decide) (by decide), q_day_r (by decide) (by decide)]
    exact h.1 g hg
  · rw [q_day_r (by decide) (by decide), q_day_r (by decide) (by decide), q_day_r (by decide) (by decide), q_day_r (by decide) (by decide)]
    exact h.2 g hg ht
theorem q_p10 {k : Nat} (h : k ≤ 6) : 10 ^ k ≤ 1000000 := by
  have h2 : 10 ^ k ≤ 10 ^ 6 := Nat.pow_le_pow_right (by decide) h
  have : (10 : Nat) ^ 6 = 1000000 := by decide
  omega
theorem m_soreLoop {s : sf_Sg} {B P p F c : Nat} {sh a : Nat → Nat → Nat} {z : Int32} (S : q_SM s B P sh) (SG : q_SG B P sh) (hp : p < P) (hc : c ≤ 6) (hF : F < 2000000) : ∀ (k f m x d i : Nat) (x4 : Int32) (a' : Nat → Nat → Nat) (t : sf_Sg), k < f → (1 ≤ k → x4 = nI (10 ^ (k - 1))) → i + k = c → m < 64 → q_bits B (fun i => m.testBit i) = m → q_LT B P a' → q_Re a a' B p m → a' 4 p = x → a' 6 0 = d → d + k ≤ 20000 → (∀ j, j ≠ 155 → t j = s j) → q_LM t B P 155 0 a' z → ∃ u, sf_it f10_soreBy_b31 (fun _ _ _ _ _ _ _ => none) f t (nI p) (nI F) (nI c) x4 1 (nI i) = some (nI (q_run sh a B p k F m x d), u) ∧ (∀ j, j ≠ 155 → u j = s j) := by
  have hB := SG.1
  have hP5 := SG.2.1
  intro k
  induction k with
  | zero =>
    intro f m x d i x4 a' t hf hx4 hik hm hmb G hR h4 h6 hd ho L
    cases f with
    | zero => omega
    | succ f =>
      rw [q_it]
      unfold f10_soreBy_b31 f10_soreBy_b108
      have l24 : sf_ld t 155 31 ((24 : Int32) + nI p) = some (t 155 (24 + p)) := q_ldn (o := 24) (by omega)
      rw [if_pos (nI_le (show c ≤ i by omega) (by omega)), if_neg q_b1, l24, L.so hp, h4]
      exact ⟨t, rfl, ho⟩
  | succ k ih =>
    intro f m x d i x4 a' t hf hx4 hik hm hmb G hR h4 h6 hd ho L
    cases f with
    | zero => omega
    | succ f =>
      rw [q_it]
      have ih' := fun m x d i x4 a' t => ih f m x d i x4 a' t (by omega)
      have hx4' := hx4 (by omega)
      rw [show k + 1 - 1 = k by omega] at hx4'
      rw [hx4']
      have stop : ∀ t' x4, 0 < f → (∀ j, j ≠ 155 → t' j = s j) → sf_it f10_soreBy_b31 (fun _ _ _ _ _ _ _ => none) f t' (nI p) (nI F) (nI c) x4 0 (nI (i + 1)) = some (nI 1000000, t') := by
        intro t' x4 hf0 _
        cases f with
        | zero => omega
        | succ f =>
          rw [q_it]
          unfold f10_soreBy_b31 f10_soreBy_b108
          rw [if_pos (show (0 : Int32) = 0 from rfl), if_pos (show (0 : Int32) = 0 from rfl)]
          split <;> rfl
      generalize sf_it f10_soreBy_b31 (fun _ _ _ _ _ _ _ => none) f = K at ih' stop ⊢
      have St : q_SM t B P sh := S.of (fun j hj => ho j (by omega)) (congrFun (ho 149 (by decide)) 2) (congrFun (ho 149 (by decide)) 6)
      have h10 := q_p10 (show k ≤ 6 by omega)
      have h10' : 0 < 10 ^ k := Nat.pow_pos (by decide)
      have hdv : F / 10 ^ k ≤ F := Nat.div_le_self _ _
      unfold f10_soreBy_b31
      rw [if_neg (nI_ge (show i < c by omega) (by omega)), if_neg q_b1]
      have ed : sf_div (nI F) (nI (10 ^ k)) = some (nI (F / 10 ^ k)) := by
        unfold sf_div
        rw [if_neg (nI_ne0 h10' (by omega)), pk_div (by omega) h10' (by omega)]
      have er : sf_rem (nI (F / 10 ^ k)) (10 : Int32) - (1 : Int32) = q_en (F / 10 ^ k % 10) := by
        have : sf_rem (nI (F / 10 ^ k)) (10 : Int32) = nI (F / 10 ^ k % 10) := pk_rem (d := 10) (by omega) (by decide) (by decide)
        rw [this, q_suben]
      have ex : nI (10 ^ k) / (10 : Int32) = nI (10 ^ k / 10) := pk_div (d := 10) (by omega) (by decide) (by decide)
      have ek : 1 ≤ k → 10 ^ k / 10 = 10 ^ (k - 1) := by
        intro hk1
        obtain ⟨k', rfl⟩ : ∃ k', k = k' + 1 := ⟨k - 1, by omega⟩
        rw [Nat.pow_succ, Nat.mul_div_cancel _ (by decide)]
        rfl
      rw [ed]
      simp only [q_ob]
      rw [er, ex, m_isB St.1 hB (by omega)]
      have erun : q_run sh a B p (k + 1) F m x d = if 1 ≤ F / 10 ^ k % 10 ∧ F / 10 ^ k % 10 ≤ B ∧ m.testBit (F / 10 ^ k % 10 - 1) = true then q_run sh a B p k F (q_clr m (F / 10 ^ k % 10 - 1)) (q_xs sh a B p (q_clr m (F / 10 ^ k % 10 - 1)) x d) (d + 1) else 1000000 := rfl
      rw [erun]
      generalize F / 10 ^ k % 10 = e at *
      unfold f10_soreBy_b83 f10_soreBy_b84 f10_soreBy_b102
      rw [if_pos (show (0 : Int32) = 0 from rfl), if_neg q_b1, nI_1]
      by_cases hv : 1 ≤ e ∧ e ≤ B
      · obtain ⟨g, rfl⟩ : ∃ g, e = g + 1 := ⟨e - 1, by omega⟩
        have hgB : g < B := by omega
        rw [if_pos hv, if_neg q_b1, q_en_s, m_bears L hB hP5 G hgB hp, hR.1 g hgB, show g + 1 - 1 = g by omega]
        simp only [q_ob]
        by_cases hb : m.testBit g = true
        · rw [if_pos hb, if_neg q_b1, if_pos ⟨hv.1, hv.2, hb⟩]
          obtain ⟨u, u1, u2, u3⟩ := m_downNow L hB hP5 G hgB hp
          rw [u1]
          simp only [q_ob]
          have Su : q_SM u B P sh := St.of (fun j hj => u2 j (by omega)) (congrFun (u2 149 (by decide)) 2) (congrFun (u2 149 (by decide)) 6)
          have Gu := q_dn_LT (p := p) G hgB
          have Ru := hR.dn hB G hm hgB
          obtain ⟨v, v1, v2, v3⟩ := m_pass Su SG u3 Gu
          rw [v1]
          simp only [q_ob]
          have d6 : q_dn a' g p 6 0 = d := by
            unfold q_dn
            rw [q_up_k (by decide), q_up_k (by decide), h6]
          have d4 : q_dn a' g p 4 p = x := by
            unfold q_dn
            rw [q_up_k (by decide), q_up_k (by decide), h4]
          have hbz : q_bits B (fun i => q_on (q_dn a' g p) i p) = q_clr m g := by
            rw [q_bits_congr (g := fun i => (q_clr m g).testBit i) Ru.1]
            exact q_clr_b B (by omega) m hm g (by omega) hmb
          have hxx : q_day sh B P (q_dn a' g p) 4 p = q_xs sh a B p (q_clr m g) x d := by
            rw [q_day_4 hp, d6, d4]
            unfold q_nx q_xs
            rw [hbz, Ru.gal]
          have hx6 : q_day sh B P (q_dn a' g p) 6 0 = d + 1 := by
            show q_dn a' g p 6 0 + 1 = d + 1
            rw [d6]
          exact ih' (q_clr m g) (q_xs sh a B p (q_clr m g) x d) (d + 1) (i + 1) _ (q_day sh B P (q_dn a' g p)) v (fun hk1 => by rw [ek hk1]) (by omega) (q_clr_lt hm) (q_clr_b B (by omega) m hm g (by omega) hmb) (q_day_LT Gu (by omega)) Ru.day hxx hx6 (by omega) (fun j hj => (v2 j hj).trans ((u2 j hj).trans (ho j hj))) v3
        · rw [if_neg hb, if_pos (show (0 : Int32) = 0 from rfl), if_neg (show ¬ (1 ≤ g + 1 ∧ g + 1 ≤ B ∧ m.testBit g = true) from fun w => hb w.2.2)]
          exact ⟨t, stop t _ (by omega) ho, ho⟩
      · rw [if_neg hv, if_pos (show (0 : Int32) = 0 from rfl), if_neg (show ¬ (1 ≤ e ∧ e ≤ B ∧ m.testBit (e - 1) = true) from fun w => hv ⟨w.1, w.2.1⟩)]
        exact ⟨t, stop t _ (by omega) ho, ho⟩
theorem m_soreBy {s : sf_Sg} {B P p F c m : Nat} {sh a : Nat → Nat → Nat} {z : Int32} (S : q_SM s B P sh) (SG : q_SG B P sh) (hp : p < P) (hc : c ≤ 6) (hF : F < 2000000) (L : q_LM s B P 155 0 a z) (G : q_LT B P a) (h6 : a 6 0 ≤ 9900) (hm : m = q_bits B (fun g => q_on a g p)) : ∃ u, f10_soreBy s (nI p) (nI F) (nI c) = some (nI (q_run sh a B p c F m (a 4 p) (a 6 0)), u) ∧ (∀ j, j ≠ 155 → u j = s j) := by
  have hB := SG.1
  have key : ∀ (f i : Nat), c + 1 < f + i → 1 ≤ i → (i ≤ c ∨ i = 1) → sf_it f10_soreBy_b6 (fun _ _ _ _ _ _ => none) f s (nI p) (nI F) (nI c) (nI (10 ^ (i - 1))) (nI i) = f10_soreBy_b25 s (nI p) (nI F) (nI c) (nI (10 ^ (c - 1))) := by
    intro f
    induction f with
    | zero => intro i h1 h2 h3; omega
    | succ f ih =>
      intro i h1 h2 h3
      rw [q_it]
      generalize sf_it f10_soreBy_b6 (fun _ _ _ _ _ _ => none) f = K at ih ⊢
      unfold f10_soreBy_b6
      by_cases hi : c ≤ i
      · rw [if_pos (nI_le hi (by omega)), show i - 1 = c - 1 by omega]
      · rw [if_neg (nI_ge (show i < c by omega) (by omega)), show (10 : Int32) = nI 10 from rfl, q_mulI, ← Nat.pow_succ, nI_1, show (i - 1).succ = i + 1 - 1 by omega]
        exact ih (i + 1) (by omega) (by omega) (Or.inl (by omega))
  have k0 := key sf_FU 1 (by unfold sf_FU; omega) (by omega) (Or.inr rfl)
  have k0' : f10_soreBy s (nI p) (nI F) (nI c) = f10_soreBy_b25 s (nI p) (nI F) (nI c) (nI (10 ^ (c - 1))) := k0
  rw [k0']
  have m64 : m < 64 := by
    rw [hm]
    exact q_bits64 hB _
  have ht : ∀ g, g < B → q_on a g p = m.testBit g := fun g hg => by rw [hm, q_bits_test _ g B hg]
  exact m_soreLoop S SG hp hc hF c sf_FU m (a 4 p) (a 6 0) 0 _ a s (by unfold sf_FU; omega) (fun _ => rfl) (by omega) m64 (by
    conv => rhs; rw [hm]
    exact q_bits_congr (fun g hg => (ht g hg).symm)) G ⟨ht, fun g hg _ => ⟨rfl, rfl, rfl, rfl⟩⟩ rfl rfl (by omega) (fun _ _ => rfl) L
theorem m_orderLoop {s t : sf_Sg} {B P p c m : Nat} {sh a : Nat → Nat → Nat} {z x2 : Int32} (S : q_SM s B P sh) (SG : q_SG B P sh) (hp : p < P) (hc : c ≤ 6) (L : q_LM s B P 155 0 a z) (G : q_LT B P a) (h6 : a 6 0 ≤ 9900) (hm : m = q_bits B (fun g => q_on a g p)) (ht : ∀ k, k ≠ 163 → t k = s k) (ht3 : ∀ j, j < 31 → t 163 j = s 155 j) : ∀ (f j : Nat) (v : sf_Sg), 10 ^ c < f + j → j ≤ 10 ^ c → (∀ k, k ≠ 155 → v k = t k) → (∀ i, i < 31 → v 155 i = s 155 i) → ∃ u, sf_it f10_order_b109 (fun _ _ _ _ _ _ _ _ => none) f v (nI p) x2 (nI c) (nI (10 ^ c)) (nI (q_fd (fun F => q_run sh a B p c F m (a 4 p) (a 6 0)) 0 j (1000000, 0)).2) (nI (q_fd (fun F => q_run sh a B p c F m (a 4 p) (a 6 0)) 0 j (1000000, 0)).1) (nI j) = f10_order_b178 u x2 (nI (q_fd (fun F => q_run sh a B p c F m (a 4 p) (a 6 0)) 0 (10 ^ c) (1000000, 0)).2) (nI (q_fd (fun F => q_run sh a B p c F m (a 4 p) (a 6 0)) 0 (10 ^ c) (1000000, 0)).1) ∧ (∀ k, k ≠ 155 → u k = t k) ∧ (∀ i, i < 31 → u 155 i = s 155 i) := by
  have hB := SG.1
  have hP5 := SG.2.1
  have h10 := q_p10 hc
  obtain ⟨C, hC⟩ : ∃ C, C = fun F => q_run sh a B p c F m (a 4 p) (a 6 0) := ⟨_, rfl⟩
  have hCl : ∀ F, C F ≤ 1000000 := fun F => by
    rw [hC]
    exact q_run_le c F m _ _ (G.2.1 p hp)
  rw [← hC]
  intro f
  induction f with
  | zero => intro j v h1 h2; omega
  | succ f ih =>
    intro j v h1 h2 h3 h4
    rw [q_it]
    generalize sf_it f10_order_b109 (fun _ _ _ _ _ _ _ _ => none) f = K at ih ⊢
    unfold f10_order_b109
    by_cases hj : j = 10 ^ c
    · rw [← hj, if_pos (nI_le (Nat.le_refl _) (by omega))]
      exact ⟨v, rfl, h3, h4⟩
    · have hlt : j < 10 ^ c := by omega
      rw [if_neg (nI_ge hlt (by omega))]
      have Sv : q_SM v B P sh := S.of (fun k hk => (h3 k (by omega)).trans (ht k (by omega))) ((congrFun (h3 149 (by decide)) 2).trans (congrFun (ht 149 (by decide)) 2)) ((congrFun (h3 149 (by decide)) 6).trans (congrFun (ht 149 (by decide)) 6))
      have Lv : q_LM v B P 155 0 a z := q_LMcopy hB hP5 L (fun i hi => by rw [Nat.zero_add]; exact h4 i hi)
      obtain ⟨w, w1, w2⟩ := m_soreBy Sv SG hp hc (show j < 2000000 by omega) Lv G h6 hm
      rw [w1]
      simp only [q_ob]
      have hCj : q_run sh a B p c j m (a 4 p) (a 6 0) = C j := by rw [hC]
      rw [hCj]
      obtain ⟨y, y1, y2, y3, y4⟩ := m_copyRow (s := w) 163 31 155 31 31 (by decide) (by decide) (by decide) (by decide) (by decide)
      have y1' : f10_copyRow 163 31 155 31 w 31 = some y := y1
      have oy : ∀ k, k ≠ 155 → y k = t k := fun k hk => (y2 k hk).trans ((w2 k hk).trans (h3 k hk))
      have oy2 : ∀ i, i < 31 → y 155 i = s 155 i := fun i hi => by rw [y3 i hi, w2 163 (by decide), h3 163 (by decide), ht3 i hi]
      unfold f10_order_b141 f10_order_b157
      rw [y1']
      simp only [q_ob]
      have hm1 := q_fd_le (c := C) (lo := 0) (st := (1000000, 0)) j
      have hm1' : (q_fd C 0 j (1000000, 0)).1 ≤ 1000000 := hm1
      have hcj := hCl j
      have eS : q_fd C 0 (j + 1) (1000000, 0) = if C j < (q_fd C 0 j (1000000, 0)).1 then (C j, j) else q_fd C 0 j (1000000, 0) := by
        show q_stp C (q_fd C 0 j (1000000, 0)) (0 + j) = _
        rw [Nat.zero_add]
        rfl
      rw [nI_1]
      simp only [q_le (show (q_fd C 0 j (1000000, 0)).1 ≤ 2000000 by omega) (show C j ≤ 2000000 by omega)]
      have go := ih (j + 1) y (by omega) (by omega) oy oy2
      by_cases hle : (q_fd C 0 j (1000000, 0)).1 ≤ C j
      · rw [if_neg (show ¬ C j < (q_fd C 0 j (1000000, 0)).1 by omega)] at eS
        rw [if_pos hle, if_pos hle]
        rw [eS] at go
        exact go
      · rw [if_pos (show C j < (q_fd C 0 j (1000000, 0)).1 by omega)] at eS
        rw [if_neg hle, if_neg hle]
        rw [eS] at go
        exact go
theorem p_order : st_order q_Inv := by
  intro s x1 x2 hI
  have hI' := hI
  obtain ⟨B, P, sh, a, z, hS, ⟨hG, hC, hMd⟩, hR⟩ := hI
  have hB := hS.1.1
  have hP := hS.1.2.1
  have G := hG.t
  have h6 : a 6 0 ≤ 9900 := by have := hG.2.2; omega
  have E : f10_in x2.toInt64 0 1 = f9_within x2 0 1 := q_in x2 0 1
  rcases q_hasBack hP hS.1.2.2.2.1 hS.1.2.2.2.2.2.1 x1 with ⟨p, hp, rfl, e1, e2⟩ | ⟨e1, e2⟩
  · by_cases hx : f9_within x2 0 1 = 0
    · refine ⟨-1000000002, s, s, ?_, ?_, hI'⟩
      · unfold f9_order f9_order_b0
        rw [e1, if_neg q_b1, if_pos hx]
      · unfold f10_order f10_order_b0
        rw [e2, if_neg q_b1, E, if_pos hx]
    · obtain ⟨m, hm⟩ : ∃ m, m = q_bits B (fun g => q_on a g p) := ⟨_, rfl⟩
      have m64 : m < 64 := by
        rw [hm]
        exact q_bits64 hB _
      have hmt : ∀ g, g < B → q_on a g p = m.testBit g := fun g hg => by rw [hm, q_bits_test _ g B hg]
      have hmb : q_bits B (fun g => m.testBit g) = m := by
        conv => rhs; rw [hm]
        exact q_bits_congr (fun g hg => (hmt g hg).symm)
      have hcb : q_cb m B ≤ B := q_cb_le
      obtain ⟨t, htd⟩ : ∃ t, t = sf_s1 (sf_s1 s 26 0 (2147483647 : Int32)) 26 1 (0 : Int32) := ⟨_, rfl⟩
      have ot : ∀ k, k ≠ 26 → t k = s k := fun k hk => by rw [htd, q_s1k hk, q_s1k hk]
      obtain ⟨u, u1, u2, u3, u4⟩ := c_pdn hS.c hS.g hC G h6 hp (q_cb m B) 9 m (a 4 p) 0 0 t (1000000, 0) (by omega) rfl m64 hmb (by omega) (G.2.1 p hp) (Nat.le_refl _) ot (Or.inl ⟨rfl, by rw [htd, q_s1i (by decide), q_s1s]; rfl, by rw [htd, q_s1s]⟩)
      rw [Nat.zero_mul, Nat.add_zero] at u3 u4
      have cc : f9_order s (nI p) x2 = if x2 = 0 then some (u 26 0, u) else some (u 26 1, u) := by
        unfold f9_order f9_order_b0
        rw [e1, if_neg q_b1, if_neg hx]
        have hs : f8_search s (nI p) = some u := by
          unfold f8_search f8_search_b0
          rw [← htd, c_carriedBy (hS.c.of (fun k a1 a2 => ot k (by omega))) (hC.of (fun k a1 a2 => ot k (by omega))) hB hP G hp, q_ld (k := 21) (show p < 5 by omega) (by decide), ot 21 (by decide), ← hm]
          simp only [q_ob]
          have so : s 21 p = nI (a 4 p) := hC.2.1 p hp
          rw [so]
          have u1' : f8_putDownNext 9 t (nI p) (nI m) (nI (a 4 p)) 0 0 = some u := u1
          rw [u1']
          rfl
        rw [hs]
        rfl
      have Su : q_SM u B P sh := hS.m.of (fun k hk => u2 k (by omega)) (congrFun (u2 149 (by decide)) 2) (congrFun (u2 149 (by decide)) 6)
      have Lu : q_LM u B P 155 0 a z := hMd.of (u2 155 (by decide))
      obtain ⟨y, y1, y2, y3, y4⟩ := m_copyRow (s := u) 155 31 163 31 31 (by decide) (by decide) (by decide) (by decide) (by decide)
      have y1' : f10_copyRow 155 31 163 31 u 31 = some y := y1
      have h10 := q_p10 (show q_cb m B ≤ 6 by omega)
      obtain ⟨v, v1, v2, v3⟩ := m_orderLoop (x2 := x2) Su hS.g hp (show q_cb m B ≤ 6 by omega) Lu G h6 hm y2 y3 sf_FU 0 y (by unfold sf_FU; omega) (Nat.zero_le _) (fun _ _ => rfl) (fun i hi => congrFun (y2 155 (by decide)) i)
      have cnt : ∀ (f i : Nat), B < f + i → i ≤ B → sf_it f10_order_b39 (fun _ _ _ _ _ _ _ => none) f u (nI p) x2 (nI m) (nI (q_cb m i)) (nI (10 ^ (q_cb m i))) (nI i) = f10_order_b86 u (nI p) x2 (nI (q_cb m B)) (nI (10 ^ (q_cb m B))) := by
        intro f
        induction f with
        | zero => intro i h1 h2; omega
        | succ f ih =>
          intro i h1 h2
          rw [q_it]
          generalize sf_it f10_order_b39 (fun _ _ _ _ _ _ _ => none) f = K at ih ⊢
          unfold f10_order_b39 f10_order_b77
          rw [Su.1]
          by_cases hi : i = B
          · rw [hi, if_pos (nI_le (Nat.le_refl _) (by omega))]
          · rw [if_neg (nI_ge (show i < B by omega) (by omega)), q_shr (by omega) (by omega)]
            have h1b : nI (m / 2 ^ i) &&& 1 = nI (m / 2 ^ i % 2) := fa_mask (m / 2 ^ i) 1
            have ec : q_cb m (i + 1) = q_cb m i + (if m.testBit i then 1 else 0) := rfl
            have eb : m.testBit i = decide (m / 2 ^ i % 2 = 1) := Nat.testBit_eq_decide_div_mod_eq
            rw [h1b, nI_1]
            have st := ih (i + 1) (by omega) (by omega)
            rcases (show m / 2 ^ i % 2 = 0 ∨ m / 2 ^ i % 2 = 1 by omega) with h | h
            · rw [h] at eb
              rw [eb] at ec
              have ec' : q_cb m (i + 1) = q_cb m i := ec
              rw [h, if_neg (show ¬ nI 0 = 1 by decide), nI_add, Nat.add_zero, show (1 : Int32) = nI 1 from rfl, q_mulI, Nat.mul_one]
              rw [ec'] at st
              exact st
            · rw [h] at eb
              rw [eb] at ec
              have ec' : q_cb m (i + 1) = q_cb m i + 1 := ec
              rw [h, if_pos (show nI 1 = 1 from rfl), nI_add, show (10 : Int32) = nI 10 from rfl, q_mulI, ← Nat.pow_succ]
              rw [ec'] at st
              exact st
      have mm : f10_order u (nI p) x2 = if x2 = 0 then some (u 26 0, v) else some (u 26 1, v) := by
        unfold f10_order f10_order_b0
        rw [q_isBa (u2 149 (by decide)), e2, if_neg q_b1, E, if_neg hx, m_carriedBy Su Lu hB hP G hp, ← hm]
        simp only [q_ob]
        have cnt0 := cnt sf_FU 0 (by unfold sf_FU; omega) (by omega)
        have cnt0' : f10_order_L39 u (nI p) x2 (nI m) 0 1 0 = f10_order_b86 u (nI p) x2 (nI (q_cb m B)) (nI (10 ^ (q_cb m B))) := cnt0
        rw [cnt0']
        unfold f10_order_b86
        rw [y1']
        simp only [q_ob]
        have v1' : f10_order_L109 y (nI p) x2 (nI (q_cb m B)) (nI (10 ^ (q_cb m B))) 0 1000000 0 = _ := v1
        rw [v1']
        unfold f10_order_b178
        rcases u3 with ⟨w1, w2, w3⟩ | ⟨w1, w2, w3⟩
        · rw [w1] at u4
          exact absurd u4 (by decide)
        · rw [w2, w3]
      have hIv : q_Inv v := q_stay hI' (fun k hk => (v2 k (by omega)).trans ((y2 k (by omega)).trans (u2 k (by omega)))) ((congrFun (v2 125 (by decide)) 0).trans ((congrFun (y2 125 (by decide)) 0).trans (congrFun (u2 125 (by decide)) 0))) (fun j _ => (congrFun (v2 149 (by decide)) j).trans ((congrFun (y2 149 (by decide)) j).trans (congrFun (u2 149 (by decide)) j))) (fun j hj => (v3 j hj).trans (congrFun (u2 155 (by decide)) j))
      by_cases hx0 : x2 = 0
      · exact ⟨u 26 0, u, v, by rw [cc, if_pos hx0], by rw [mm, if_pos hx0], hIv⟩
      · exact ⟨u 26 1, u, v, by rw [cc, if_neg hx0], by rw [mm, if_neg hx0], hIv⟩
  · refine ⟨-1000000001, s, s, ?_, ?_, hI'⟩
    · unfold f9_order f9_order_b0
      rw [e1, if_pos rfl]
    · unfold f10_order f10_order_b0
      rw [e2, if_pos rfl]
