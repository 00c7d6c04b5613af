theorem m_byWay2 {s u : sf_Sg} {B P ld q0 : Nat} {a : Nat → Nat → Nat} {z : Int32} {W : Nat → Nat} (hB : B ≤ 6) (hP : P ≤ 5) (L : q_LM s B P 155 0 a z) (h1 : ∀ i, i < B → u 155 (12 + i) = nI (W i) ∧ u 155 (18 + i) = q_en (if i = ld then q0 + 1 else 0)) (h2 : ∀ m, (m < 12 ∨ 24 ≤ m) → m < 31 → u 155 m = s 155 m) : q_LM u B P 155 0 (q_wl a W ld q0) z := by
  refine ⟨fun g hg => ?_, fun p hp => ?_, ?_, ?_⟩
  · obtain ⟨e0, e1, e2, e3⟩ := L.e hg
    obtain ⟨f1, f2⟩ := h1 g hg
    rw [Nat.zero_add, Nat.zero_add, Nat.zero_add, Nat.zero_add, h2 g (by omega) (by omega), h2 (6 + g) (by omega) (by omega), f1, f2]
    refine ⟨e0, e1, ?_, rfl⟩
    show nI (W g) = q_en (W g + 1)
    rw [q_en_s]
  · rw [Nat.zero_add, h2 (24 + p) (by omega) (by omega)]
    exact L.so hp
  · rw [Nat.zero_add, h2 29 (by omega) (by omega)]
    exact L.zt
  · rw [Nat.zero_add, h2 30 (by omega) (by omega)]
    exact L.dy
section TWOM
variable {sh a : Nat → Nat → Nat} {B P ld : Nat} {z : Int32}
def q_cw (sh a : Nat → Nat → Nat) (B P ld y q : Nat) : Nat := q_TT sh a B P ld (a 6 0) (q_l0 a B ld (q_dg P 6 B y ld) q) (q_r0 sh a B ld (a 6 0) (q_dg P 6 B y ld) q) (q_dg P 6 B y)
def q_Sm (B P ld : Nat) (D : Nat → Nat → Prop) : Nat × Nat → Prop := fun i => i.1 < q_Nx B P 6 B ∧ q_dg P 6 B i.1 ld < i.2 ∧ i.2 < P ∧ D i.1 i.2
def q_Bm (sh a : Nat → Nat → Nat) (B P ld : Nat) (D : Nat → Nat → Prop) (m : Nat) (x : Int32) : Prop := q_Best (q_Sm B P ld D) (fun i => q_cw sh a B P ld i.1 i.2) (fun i => 10 * q_dg P 6 B i.1 ld + i.2) 1000000 m x
theorem m_pair {s t v : sf_Sg} (S : q_SM s B P sh) (SG : q_SG B P sh) (L : q_LM s B P 155 0 a z) (G : q_LT B P a) (hl : ld < B) (hP0 : 0 < P) {y q m : Nat} {x x2 : Int32} (hy : y < q_Nx B P 6 B) (hq : q_dg P 6 B y ld < q) (hqP : q < P) (hm : m ≤ 1000000) (hst : ∀ k, k ≠ 155 → k ≠ 163 → t k = s k) (hs155 : t 155 = s 155)
    (h1 : ∀ k, k ≠ 155 → v k = t k) (h2 : ∀ i, (i < 12 ∨ 24 ≤ i) → v 155 i = t 155 i) (h3 : ∀ i, i < B → v 155 (12 + i) = nI (q_dg P 6 B y i)) (h4 : ∀ i, i < B → i ≠ ld → v 155 (18 + i) = -1) (hb : q_Bm sh a B P ld (fun y' q' => y' < y ∨ (y' = y ∧ q' < q)) m x)
    (K : sf_Sg → Int32 → Int32 → Int32 → Int32 → Int32 → Option (Int32 × sf_Sg)) (M : sf_Sg → Int32 → Int32 → Int32 → Int32 → Int32 → Int32 → Int32 → Option (Int32 × sf_Sg)) :
    ∃ u x' m', f10_byTwo_b86 K M v (nI ld) x2 x (nI m) (nI y) (nI (q_dg P 6 B y ld)) (nI q) = M u (nI ld) x2 x' (nI m') (nI y) (nI (q_dg P 6 B y ld)) (nI (q + 1)) ∧ m' ≤ 1000000 ∧ (∀ k, k ≠ 155 → u k = t k) ∧ (∀ i, (i < 12 ∨ 24 ≤ i) → u 155 i = t 155 i) ∧ (∀ i, i < B → u 155 (12 + i) = nI (q_dg P 6 B y i)) ∧ (∀ i, i < B → i ≠ ld → u 155 (18 + i) = -1) ∧ q_Bm sh a B P ld (fun y' q' => y' < y ∨ (y' = y ∧ q' < q + 1)) m' x' := by
  have hB := SG.1
  have hP5 := SG.2.1
  obtain ⟨w, hw⟩ : ∃ w, w = sf_s1 v 155 (18 + ld) (nI q) := ⟨_, rfl⟩
  have w1 : ∀ k, k ≠ 155 → w k = t k := fun k hk => by rw [hw, q_s1k hk, h1 k hk]
  have w2 : ∀ i, (i < 12 ∨ 24 ≤ i) → w 155 i = t 155 i := fun i hi => by rw [hw, q_s1i (by omega), h2 i hi]
  have w3 : ∀ i, i < B → w 155 (12 + i) = nI (q_dg P 6 B y i) := fun i hi => by rw [hw, q_s1i (by omega), h3 i hi]
  have w4 : ∀ i, i < B → i ≠ ld → w 155 (18 + i) = -1 := fun i hi hi2 => by rw [hw, q_s1i (by omega), h4 i hi hi2]
  have w5 : w 155 (18 + ld) = nI q := by rw [hw, q_s1s]
  have Sw : q_SM w B P sh := S.of (fun k hk => (w1 k (by omega)).trans (hst k (by omega) (by omega))) ((congrFun (w1 149 (by decide)) 2).trans (congrFun (hst 149 (by decide) (by decide)) 2)) ((congrFun (w1 149 (by decide)) 6).trans (congrFun (hst 149 (by decide) (by decide)) 6))
  have Lw : q_LM w B P 155 0 (q_wl a (q_dg P 6 B y) ld q) z := m_byWay2 (s := s) hB hP5 L (fun i hi => ⟨w3 i hi, by
    by_cases e : i = ld
    · subst e
      rw [w5, if_pos rfl, q_en_s]
    · rw [w4 i hi e, if_neg e]
      rfl⟩) (fun i a1 a2 => (w2 i a1).trans (congrFun hs155 i))
  have hW : ∀ g, g < B → q_dg P 6 B y g < P := fun g _ => q_dg_lt hB hP0 B y g (Nat.le_refl _)
  have hqq : ld < B → q < P ∧ q_dg P 6 B y ld ≠ q := fun _ => ⟨hqP, by omega⟩
  have G' := q_wl_LT G hW hqq
  have hall : f10_allGalling w = some (nI (q_cw sh a B P ld y q)) := by
    rw [m_all Sw SG Lw G']
    have e := q_all_TT (sh := sh) (a := a) (d := a 6 0) hW hqq
    exact congrArg (fun n => some (nI n)) e
  have hcw : q_cw sh a B P ld y q ≤ 3000 := by
    have e := q_all_TT (sh := sh) (a := a) (d := a 6 0) hW hqq
    have e2 := q_all_le (d := a 6 0) SG (fun g hg => (G'.1 g hg).2.1)
    unfold q_cw
    omega
  have hset : ∀ i : Nat × Nat, (q_Sm B P ld (fun y' q' => y' < y ∨ (y' = y ∧ q' < q)) i ∨ i = (y, q)) ↔ q_Sm B P ld (fun y' q' => y' < y ∨ (y' = y ∧ q' < q + 1)) i := by
    intro i
    unfold q_Sm
    constructor
    · rintro (⟨g1, g2, g3, g4⟩ | rfl)
      · exact ⟨g1, g2, g3, by omega⟩
      · exact ⟨hy, hq, hqP, by show y < y ∨ (y = y ∧ q < q + 1); omega⟩
    · rintro ⟨g1, g2, g3, g4⟩
      by_cases e : i.1 = y ∧ i.2 = q
      · exact Or.inr (Prod.ext e.1 e.2)
      · exact Or.inl ⟨g1, g2, g3, by omega⟩
  have hb' : q_Best (q_Sm B P ld (fun y' q' => y' < y ∨ (y' = y ∧ q' < q))) (fun i => q_cw sh a B P ld i.1 i.2) (fun i => 10 * q_dg P 6 B i.1 ld + i.2) 1000000 m x := hb
  have hdl : q_dg P 6 B y ld < P := hW ld hl
  have l6 : w 149 6 = nI P := Sw.2.1
  have v6 : v 149 6 = nI P := by rw [h1 149 (by decide), ← w1 149 (by decide)]; exact l6
  have epair : (10 : Int32) * nI (q_dg P 6 B y ld) + nI q = nI (10 * q_dg P 6 B y ld + q) := by
    rw [show (10 : Int32) = nI 10 from rfl, q_mulI, nI_add]
  unfold f10_byTwo_b86
  rw [v6, if_neg (nI_ge hqP (by omega)), show (18 : Int32) + nI ld = nI (18 + ld) from nI_add 18 ld, q_st (show 18 + ld < 31 by omega) (by decide), ← hw]
  simp only [q_ob]
  rw [hall]
  simp only [q_ob]
  unfold f10_byTwo_b138 f10_byTwo_b142 f10_byTwo_b143 f10_byTwo_b162 f10_byTwo_b175
  rw [epair, if_neg q_b1, if_pos (show (0 : Int32) = 0 from rfl), if_neg q_b1, nI_1]
  simp only [q_lt (show q_cw sh a B P ld y q ≤ 2000000 by omega) (show m ≤ 2000000 by omega), q_eq (show q_cw sh a B P ld y q ≤ 2000000 by omega) (show m ≤ 2000000 by omega)]
  by_cases c1 : q_cw sh a B P ld y q < m
  · rw [if_pos c1]
    refine ⟨w, nI (10 * q_dg P 6 B y ld + q), q_cw sh a B P ld y q, rfl, by omega, w1, w2, w3, w4, ?_⟩
    exact (hb'.less (e := 10 * q_dg P 6 B y ld + q) (T := fun i => i = (y, q)) (fun i hi => by rw [hi]) c1 (fun i hi => by rw [hi]; exact Nat.le_refl _) (y, q) rfl rfl).imp hset
  · rw [if_neg c1]
    by_cases c2 : q_cw sh a B P ld y q = m
    · rw [if_pos c2]
      obtain ⟨a1, a2 | ⟨i, b1, b2, b3, b4⟩⟩ := id hb'
      · omega
      · have hli : 10 * q_dg P 6 B i.1 ld + i.2 ≤ 1000 := by
          obtain ⟨g1, g2, g3, g4⟩ := b1
          have h9 := q_dg_lt (P := P) hB hP0 B i.1 ld (Nat.le_refl _)
          show 10 * q_dg P 6 B i.1 ld + i.2 ≤ 1000
          omega
        rw [b3]
        simp only [q_le (show 10 * q_dg P 6 B i.1 ld + i.2 ≤ 2000000 by omega) (show 10 * q_dg P 6 B y ld + q ≤ 2000000 by omega)]
        by_cases c3 : 10 * q_dg P 6 B i.1 ld + i.2 ≤ 10 * q_dg P 6 B y ld + q
        · rw [if_pos c3]
          refine ⟨w, nI (10 * q_dg P 6 B i.1 ld + i.2), m, rfl, hm, w1, w2, w3, w4, ?_⟩
          refine q_Best.imp (S := fun i => q_Sm B P ld (fun y' q' => y' < y ∨ (y' = y ∧ q' < q)) i ∨ i = (y, q)) ⟨fun i' hi' => hi'.elim (a1 i') (fun e => by rw [e]; show m ≤ q_cw sh a B P ld y q; omega), Or.inr ⟨i, Or.inl b1, b2, rfl, fun i' hi' he => ?_⟩⟩ hset
          rcases hi' with g | g
          · exact b4 i' g he
          · rw [g]
            exact c3
        · rw [if_neg c3, c2]
          refine ⟨w, nI (10 * q_dg P 6 B y ld + q), m, rfl, hm, w1, w2, w3, w4, ?_⟩
          exact (hb'.tie (y, q) c2 (fun i' g1 g2 => by
            have h9 : 10 * q_dg P 6 B i.1 ld + i.2 ≤ 10 * q_dg P 6 B i'.1 ld + i'.2 := b4 i' g1 g2
            show 10 * q_dg P 6 B y ld + q ≤ 10 * q_dg P 6 B i'.1 ld + i'.2
            omega)).imp hset
    · rw [if_neg c2]
      refine ⟨w, x, m, rfl, hm, w1, w2, w3, w4, ?_⟩
      refine q_Best.imp (S := fun i => q_Sm B P ld (fun y' q' => y' < y ∨ (y' = y ∧ q' < q)) i ∨ i = (y, q)) ?_ hset
      obtain ⟨a1, a2 | ⟨i, b1, b2, b3, b4⟩⟩ := hb'
      · exact ⟨fun i' hi' => hi'.elim (a1 i') (fun e => by rw [e]; show m ≤ q_cw sh a B P ld y q; omega), Or.inl a2⟩
      · refine ⟨fun i' hi' => hi'.elim (a1 i') (fun e => by rw [e]; show m ≤ q_cw sh a B P ld y q; omega), Or.inr ⟨i, Or.inl b1, b2, b3, fun i' hi' he => ?_⟩⟩
        rcases hi' with g | g
        · exact b4 i' g he
        · rw [g] at he
          exact absurd he c2
theorem m_byTwoLoop {s t : sf_Sg} (S : q_SM s B P sh) (SG : q_SG B P sh) (L : q_LM s B P 155 0 a z) (G : q_LT B P a) (hl : ld < B) (hP2 : 2 ≤ P) {x2 : Int32} (hst : ∀ k, k ≠ 155 → k ≠ 163 → t k = s k) (hs155 : t 155 = s 155) : ∀ (f y m : Nat) (v : sf_Sg) (x : Int32), q_Nx B P 6 B < f + y → y ≤ q_Nx B P 6 B → m ≤ 1000000 → (∀ k, k ≠ 155 → v k = t k) → (∀ i, (i < 12 ∨ 24 ≤ i) → v 155 i = t 155 i) → q_Bm sh a B P ld (fun y' q' => y' < y) m x → ∃ u x' m', sf_it f10_byTwo_b46 (fun _ _ _ _ _ _ => none) f v (nI ld) x2 x (nI m) (nI y) = f10_byTwo_b189 u x2 x' (nI m') ∧ (∀ k, k ≠ 155 → u k = t k) ∧ (∀ i, (i < 12 ∨ 24 ≤ i) → u 155 i = t 155 i) ∧ q_Bm sh a B P ld (fun _ _ => True) m' x' := by
  have hB := SG.1
  have hP5 := SG.2.1
  have hNp := q_Nx_pow (P := P) hB B (Nat.le_refl _)
  have hpw := q_pw (P := P) hP5 hB
  have inner : ∀ (K : sf_Sg → Int32 → Int32 → Int32 → Int32 → Int32 → Option (Int32 × sf_Sg)) (y : Nat), y < q_Nx B P 6 B → ∀ (f q m : Nat) (v : sf_Sg) (x : Int32), P < f + q → q_dg P 6 B y ld < q → q ≤ P → m ≤ 1000000 → (∀ k, k ≠ 155 → v k = t k) → (∀ i, (i < 12 ∨ 24 ≤ i) → v 155 i = t 155 i) → (∀ i, i < B → v 155 (12 + i) = nI (q_dg P 6 B y i)) → (∀ i, i < B → i ≠ ld → v 155 (18 + i) = -1) → q_Bm sh a B P ld (fun y' q' => y' < y ∨ (y' = y ∧ q' < q)) m x → ∃ u x' m', sf_it (f10_byTwo_b86 K) (fun _ _ _ _ _ _ _ _ => none) f v (nI ld) x2 x (nI m) (nI y) (nI (q_dg P 6 B y ld)) (nI q) = K u (nI ld) x2 x' (nI m') (nI (y + 1)) ∧ m' ≤ 1000000 ∧ (∀ k, k ≠ 155 → u k = t k) ∧ (∀ i, (i < 12 ∨ 24 ≤ i) → u 155 i = t 155 i) ∧ q_Bm sh a B P ld (fun y' q' => y' < y + 1) m' x' := by
    intro K y hy f
    induction f with
    | zero => intro q m v x h1 h2 h3; omega
    | succ f ih =>
      intro q m v x h1 h2 h3 hm g1 g2 g3 g4 hb
      rw [q_it]
      generalize sf_it (f10_byTwo_b86 K) (fun _ _ _ _ _ _ _ _ => none) f = M at ih ⊢
      by_cases hq : q = P
      · subst hq
        have v6 : v 149 6 = nI q := by rw [g1 149 (by decide), hst 149 (by decide) (by decide), S.2.1]
        unfold f10_byTwo_b86 f10_byTwo_b183
        rw [v6, if_pos (nI_le (Nat.le_refl _) (by omega)), nI_1]
        refine ⟨v, x, m, rfl, hm, g1, g2, hb.imp (fun i => ?_)⟩
        unfold q_Sm
        constructor
        · rintro ⟨e1, e2, e3, e4⟩
          exact ⟨e1, e2, e3, by omega⟩
        · rintro ⟨e1, e2, e3, e4⟩
          exact ⟨e1, e2, e3, by omega⟩
      · obtain ⟨u, x', m', u1, u2, u3, u4, u5, u6, u7⟩ := m_pair S SG L G hl (by omega) hy h2 (show q < P by omega) hm hst hs155 g1 g2 g3 g4 hb K M (x2 := x2)
        rw [u1]
        exact ih (q + 1) m' u x' (by omega) (by omega) (by omega) u2 u3 u4 u5 u6 u7
  intro f
  induction f with
  | zero => intro y m v x h1 h2; omega
  | succ f ih =>
    intro y m v x h1 h2 hm g1 g2 hb
    rw [q_it]
    generalize sf_it f10_byTwo_b46 (fun _ _ _ _ _ _ => none) f = K at ih ⊢
    have Sv : q_SM v B P sh := S.of (fun k hk => (g1 k (by omega)).trans (hst k (by omega) (by omega))) ((congrFun (g1 149 (by decide)) 2).trans (congrFun (hst 149 (by decide) (by decide)) 2)) ((congrFun (g1 149 (by decide)) 6).trans (congrFun (hst 149 (by decide) (by decide)) 6))
    unfold f10_byTwo_b46
    rw [m_ways Sv hB hP5, ← hNp]
    simp only [q_ob]
    by_cases hy : y = q_Nx B P 6 B
    · rw [← hy, if_pos (nI_le (Nat.le_refl _) (by omega))]
      refine ⟨v, x, m, rfl, g1, g2, hb.imp (fun i => ?_)⟩
      unfold q_Sm
      constructor
      · rintro ⟨e1, e2, e3, e4⟩
        exact ⟨e1, e2, e3, trivial⟩
      · rintro ⟨e1, e2, e3, e4⟩
        exact ⟨e1, e2, e3, by omega⟩
    · have hlt : y < q_Nx B P 6 B := by omega
      rw [if_neg (nI_ge hlt (by omega)), Sv.2.1, if_neg (show ¬ nI P ≤ 1 from nI_ge (a := 1) (by omega) (by omega))]
      obtain ⟨w, w1, w2, w3, w4⟩ := m_carryBy Sv hB hP5 (show 0 < P by omega) (show y ≤ 100000 by omega)
      rw [w1]
      simp only [q_ob]
      have l12 : sf_ld w 155 31 ((12 : Int32) + nI ld) = some (w 155 (12 + ld)) := q_ldn (o := 12) (by omega)
      rw [l12, (w3 ld hl).1]
      simp only [q_ob]
      rw [nI_1]
      have hdl := q_dg_lt (P := P) hB (by omega) B y ld (Nat.le_refl _)
      obtain ⟨u, x', m', u1, u2, u3, u4, u5⟩ := inner K y hlt sf_FU (q_dg P 6 B y ld + 1) m w x (by unfold sf_FU; omega) (by omega) (by omega) hm (fun k hk => (w2 k hk).trans (g1 k hk)) (fun i hi => (w4 i hi).trans (g2 i hi)) (fun i hi => (w3 i hi).1) (fun i hi _ => (w3 i hi).2) (hb.imp (fun i => by
        unfold q_Sm
        constructor
        · rintro ⟨e1, e2, e3, e4⟩
          exact ⟨e1, e2, e3, Or.inl e4⟩
        · rintro ⟨e1, e2, e3, e4⟩
          refine ⟨e1, e2, e3, ?_⟩
          rcases e4 with e4 | ⟨e4, e5⟩
          · exact e4
          · rw [e4] at e2
            omega))
      have u1' : f10_byTwo_L86 K w (nI ld) x2 x (nI m) (nI y) (nI (q_dg P 6 B y ld)) (nI (q_dg P 6 B y ld + 1)) = _ := u1
      rw [u1']
      exact ih (y + 1) m' u x' (by omega) (by omega) u2 u3 u4 u5
end TWOM
theorem q_link {sh a : Nat → Nat → Nat} {B P ld : Nat} (hB : B ≤ 6) (hP0 : 0 < P) (hl : ld < B) : (∀ i, q_Si P (q_Nx B P ld B) (fun _ _ => True) i → ∃ k, q_Sm B P ld (fun _ _ => True) k ∧ q_cw sh a B P ld k.1 k.2 = q_ctw sh a B P ld i.1 i.2.1 i.2.2 ∧ 10 * q_dg P 6 B k.1 ld + k.2 = 10 * i.1 + i.2.1) ∧ (∀ k, q_Sm B P ld (fun _ _ => True) k → ∃ i, q_Si P (q_Nx B P ld B) (fun _ _ => True) i ∧ q_ctw sh a B P ld i.1 i.2.1 i.2.2 = q_cw sh a B P ld k.1 k.2 ∧ 10 * i.1 + i.2.1 = 10 * q_dg P 6 B k.1 ld + k.2) := by
  have rd6 : ∀ g, g < B → q_rd P 6 g = P := fun g hg => by
    unfold q_rd
    rw [if_neg (by omega)]
  have rdl : ∀ g, g ≠ ld → q_rd P ld g = P := fun g hg => by
    unfold q_rd
    rw [if_neg hg]
  have rdl1 : q_rd P ld ld = 1 := by
    unfold q_rd
    rw [if_pos rfl]
  constructor
  · rintro ⟨p, q, j⟩ ⟨h1, h2, h3, _⟩
    have h1' : p < q := h1
    have h2' : q < P := h2
    obtain ⟨y, y1, y2⟩ := q_surj (P := P) (ld := 6) (W := fun g => if g = ld then p else q_dg P ld B j g) B (fun g hg => by
      show (if g = ld then p else q_dg P ld B j g) < q_rd P 6 g
      rw [rd6 g hg]
      by_cases e : g = ld
      · rw [if_pos e]
        omega
      · rw [if_neg e]
        have h := q_dg_rd (ld := ld) hP0 B j g hg
        rw [rdl g e] at h
        exact h)
    have yl : q_dg P 6 B y ld = p := by
      rw [y2 ld hl]
      show (if ld = ld then p else _) = p
      rw [if_pos rfl]
    refine ⟨(y, q), ⟨by rw [q_pr_B]; exact y1, by show q_dg P 6 B y ld < q; omega, h2', trivial⟩, ?_, by show 10 * q_dg P 6 B y ld + q = 10 * p + q; rw [yl]⟩
    show q_cw sh a B P ld y q = q_ctw sh a B P ld p q j
    unfold q_cw q_ctw
    rw [q_pc_TT, yl]
    refine q_TT_congr (fun g hg hg2 => ?_)
    rw [y2 g hg]
    show (if g = ld then p else _) = _
    rw [if_neg hg2]
  · rintro ⟨y, q⟩ ⟨h1, h2, h3, _⟩
    have h2' : q_dg P 6 B y ld < q := h2
    have h3' : q < P := h3
    obtain ⟨j, j1, j2⟩ := q_surj (P := P) (ld := ld) (W := fun g => if g = ld then 0 else q_dg P 6 B y g) B (fun g hg => by
      show (if g = ld then 0 else q_dg P 6 B y g) < q_rd P ld g
      by_cases e : g = ld
      · rw [if_pos e, e, rdl1]
        decide
      · rw [if_neg e, rdl g e]
        exact q_dg_lt hB hP0 B y g (Nat.le_refl _))
    refine ⟨(q_dg P 6 B y ld, q, j), ⟨h2', h3', by rw [q_pr_B]; exact j1, trivial⟩, ?_, rfl⟩
    show q_ctw sh a B P ld (q_dg P 6 B y ld) q j = q_cw sh a B P ld y q
    unfold q_cw q_ctw
    rw [q_pc_TT]
    refine q_TT_congr (fun g hg hg2 => ?_)
    rw [j2 g hg]
    show (if g = ld then 0 else _) = _
    rw [if_neg hg2]
theorem p_byTwo : st_byTwo q_Inv := by
  intro s x1 x2 hI
  have hI' := hI
  obtain ⟨B, P, sh, a, z, hS, ⟨hG, hC, hMd⟩, hR⟩ := hI
  have hB := hS.1.1
  have hP := hS.1.2.1
  have G := hG.t
  have E : f10_in x2.toInt64 0 1 = f9_within x2 0 1 := q_in x2 0 1
  rcases q_hasBurden hB hS.1.2.2.1 hS.1.2.2.2.2.1 x1 with ⟨g, hg, rfl, e1, e2⟩ | ⟨e1, e2⟩
  · by_cases hx : f9_within x2 0 1 = 0
    · refine ⟨-1000000002, s, s, ?_, ?_, hI'⟩
      · unfold f9_byTwo f9_byTwo_b0
        rw [e1, if_neg q_b1, if_pos hx]
      · unfold f10_byTwo f10_byTwo_b0
        rw [e2, if_neg q_b1, E, if_pos hx]
    · -- the reference copies its load first
      have copyS : ∀ u : sf_Sg, ∃ t, f10_copyRow 155 31 163 31 u 31 = some t ∧ (∀ k, k ≠ 163 → t k = u k) ∧ (∀ j, j < 31 → t 163 j = u 155 j) := by
        intro u
        obtain ⟨t, t1, t2, t3, t4⟩ := m_copyRow (s := u) 155 31 163 31 31 (by decide) (by decide) (by decide) (by decide) (by decide)
        exact ⟨t, t1, t2, t3⟩
      have copyB : ∀ u : sf_Sg, ∃ t, f10_copyRow 163 31 155 31 u 31 = some t ∧ (∀ k, k ≠ 155 → t k = u k) ∧ (∀ j, j < 31 → t 155 j = u 163 j) := by
        intro u
        obtain ⟨t, t1, t2, t3, t4⟩ := m_copyRow (s := u) 163 31 155 31 31 (by decide) (by decide) (by decide) (by decide) (by decide)
        exact ⟨t, t1, t2, t3⟩
      by_cases hP2 : 2 ≤ P
      · obtain ⟨u, u1, u2, u3, m, u4, u5, u6⟩ := c_layByTwo hS.c hS.g hC G hg
        have Su : q_SM u B P sh := hS.m.of (fun k hk => u2 k (by omega)) (congrFun (u2 149 (by omega)) 2) (congrFun (u2 149 (by omega)) 6)
        have Lu : q_LM u B P 155 0 a z := hMd.of (u2 155 (by omega))
        obtain ⟨t, t1, t2, t3⟩ := copyS u
        obtain ⟨w, x', m', w1, w2, w3, w4⟩ := m_byTwoLoop (x2 := x2) Su hS.g Lu G hg hP2 (fun k k1 k2 => t2 k k2) (t2 155 (by decide)) sf_FU 0 1000000 t (-1) (by
          have := q_Nx_pow (P := P) hB B (Nat.le_refl _)
          have := q_pw (P := P) hP hB
          unfold sf_FU
          omega) (by omega) (Nat.le_refl _) (fun _ _ => rfl) (fun _ _ => rfl) ⟨fun i hi => by
            obtain ⟨f1, f2, f3, f4⟩ := hi
            omega, Or.inl ⟨rfl, rfl⟩⟩
        obtain ⟨v, v1, v2, v3⟩ := copyB w
        have hIv : q_Inv v := by
          refine q_stay hI' (fun k hk => ?_) ?_ (fun j _ => ?_) (fun j hj => ?_)
          · rw [v2 k (by omega), w2 k (by omega), t2 k (by omega), u2 k (by omega)]
          · rw [v2 125 (by decide), w2 125 (by decide), t2 125 (by decide), u2 125 (by omega)]
          · rw [v2 149 (by decide), w2 149 (by decide), t2 149 (by decide), u2 149 (by omega)]
          · rw [v3 j hj, w2 163 (by decide), t3 j hj, u2 155 (by omega)]
        obtain ⟨lk1, lk2⟩ := q_link (sh := sh) (a := a) hB (show 0 < P by omega) hg
        have hN : 0 < q_Nx B P g B := by
          rw [q_pr_B]
          have : ∀ k, 0 < q_pr P g k := by
            intro k
            induction k with
            | zero => exact Nat.zero_lt_one
            | succ k ih => exact Nat.mul_pos ih (q_rd_pos (by omega) k)
          exact this B
        have hcb : q_ctw sh a B P g 0 1 0 ≤ 10000 := by
          unfold q_ctw
          refine q_pc_le hS.g (fun i hi => (G.1 i hi).2.1) (fun p _ => ?_) ?_ (by omega) (Nat.le_refl B)
          · have := (G.1 g hg).2.1
            unfold q_l0
            rw [if_pos hg]
            repeat' split
            all_goals omega
          · have e1 := q_rub_le (a := a) (g := g) (p := 0) (d := a 6 0) (b := true) (hS.g.2.2.1 g hg).2 (hS.g.2.2.2 0 (by omega)).2.2
            have e2 := q_rub_le (a := a) (g := g) (p := 1) (d := a 6 0) (b := true) (hS.g.2.2.1 g hg).2 (hS.g.2.2.2 1 (by omega)).2.2
            unfold q_r0
            rw [if_pos hg]
            omega
        have hi0 : q_Si P (q_Nx B P g B) (fun _ _ => True) (0, 1, 0) := ⟨Nat.zero_lt_one, by show 1 < P; omega, hN, trivial⟩
        obtain ⟨em, ex⟩ := q_Best.same u6 w4 lk1 lk2 (0, 1, 0) hi0 (by show q_ctw sh a B P g 0 1 0 < 2147483647; omega) (by show q_ctw sh a B P g 0 1 0 < 1000000; omega)
        have hpos : ∃ e : Nat, e ≤ 1000 ∧ u 22 1 = nI e := by
          obtain ⟨b1, ⟨b2, b3⟩ | ⟨i, c1, c2, c3, c4⟩⟩ := u6
          · have : m ≤ q_ctw sh a B P g 0 1 0 := b1 (0, 1, 0) hi0
            omega
          · obtain ⟨f1, f2, f3, f4⟩ := c1
            exact ⟨10 * i.1 + i.2.1, by omega, c3⟩
        obtain ⟨ee, he, hee⟩ := hpos
        have cc : f9_byTwo s (nI g) x2 = if x2 = 0 then some (u 22 0, u) else some (u 22 1, u) := by
          unfold f9_byTwo f9_byTwo_b0
          rw [e1, if_neg q_b1, if_neg hx, hS.1.2.2.2.1, if_pos (show 2 ≤ nI P from nI_le (a := 2) hP2 (by omega)), u1]
          rfl
        have mm : f10_byTwo u (nI g) x2 = if x2 = 1 then some (u 22 1, v) else some (u 22 0, v) := by
          unfold f10_byTwo f10_byTwo_b0
          rw [q_isBu (u2 149 (by omega)), e2, if_neg q_b1, E, if_neg hx, t1]
          simp only [q_ob]
          have w1' : f10_byTwo_L46 t (nI g) x2 (-1) 1000000 0 = f10_byTwo_b189 w x2 x' (nI m') := w1
          rw [w1']
          unfold f10_byTwo_b189 f10_byTwo_b211
          rw [v1]
          simp only [q_ob]
          rw [← ex, ← em, ← u5, hee, if_neg (q_lt0 (by omega))]
        have hx01 : x2 = 0 ∨ x2 = 1 := by
          rcases q_within x2 (a := 0) (b := 1) (by decide) (by decide) with ⟨n, n1, n2, n3, n4⟩ | n3
          · rcases (show n = 0 ∨ n = 1 by omega) with rfl | rfl
            · exact Or.inl n3
            · exact Or.inr n3
          · exact absurd n3 hx
        rcases hx01 with rfl | rfl
        · exact ⟨u 22 0, u, v, by rw [cc, if_pos rfl], by rw [mm, if_neg (by decide)], hIv⟩
        · exact ⟨u 22 1, u, v, by rw [cc, if_neg (by decide)], by rw [mm, if_pos rfl], hIv⟩
      · obtain ⟨t, t1, t2, t3⟩ := copyS s
        obtain ⟨v, v1, v2, v3⟩ := copyB t
        have hIv : q_Inv v := by
          refine q_stay hI' (fun k hk => ?_) ?_ (fun j _ => ?_) (fun j hj => ?_)
          · rw [v2 k (by omega), t2 k (by omega)]
          · rw [v2 125 (by decide), t2 125 (by decide)]
          · rw [v2 149 (by decide), t2 149 (by decide)]
          · rw [v3 j hj, t3 j hj]
        refine ⟨-1, s, v, ?_, ?_, hIv⟩
        · unfold f9_byTwo f9_byTwo_b0
          rw [e1, if_neg q_b1, if_neg hx, hS.1.2.2.2.1, if_neg (show ¬ 2 ≤ nI P from nI_ge (b := 2) (by omega) (by decide))]
        · unfold f10_byTwo f10_byTwo_b0
          rw [e2, if_neg q_b1, E, if_neg hx, t1]
          simp only [q_ob]
          have St : q_SM t B P sh := hS.m.of (fun k hk => t2 k (by omega)) (congrFun (t2 149 (by decide)) 2) (congrFun (t2 149 (by decide)) 6)
          unfold f10_byTwo_L46
          rw [show sf_FU = 1999999 + 1 from rfl, q_it]
          generalize sf_it f10_byTwo_b46 (fun _ _ _ _ _ _ => none) 1999999 = K
          unfold f10_byTwo_b46
          rw [m_ways St hB hP, St.2.1]
          simp only [q_ob]
          rw [if_pos (show nI P ≤ 1 from nI_le (b := 1) (by omega) (by decide))]
          have hb : f10_byTwo_b189 t x2 (-1) 1000000 = some (-1, v) := by
            unfold f10_byTwo_b189 f10_byTwo_b211
            rw [v1]
            simp only [q_ob]
            rw [if_pos (by decide)]
          rw [hb]
          split <;> rfl
  · refine ⟨-1000000001, s, s, ?_, ?_, hI'⟩
    · unfold f9_byTwo f9_byTwo_b0
      rw [e1, if_pos rfl]
    · unfold f10_byTwo f10_byTwo_b0
      rw [e2, if_pos rfl]
