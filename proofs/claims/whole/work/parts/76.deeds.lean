theorem q_en_s (p : Nat) : q_en (p + 1) = nI p := by
  unfold q_en
  rw [if_neg (by omega), Nat.add_sub_cancel]
theorem q_en_0 : q_en 0 = -1 := by
  unfold q_en
  rw [if_pos rfl]
theorem q_LG.up {B P : Nat} {a : Nat → Nat → Nat} (h : q_LG B P a) {k g w : Nat} (hk : k < 4) (h0 : k = 0 → 1 ≤ w ∧ w ≤ 60) (h1 : k = 1 → w ≤ 30) (h2 : k = 2 → w ≤ P ∧ (a 3 g = 0 ∨ (w ≠ 0 ∧ w ≠ a 3 g))) (h3 : k = 3 → w ≤ P ∧ (w = 0 ∨ (a 2 g ≠ 0 ∧ a 2 g ≠ w))) : q_LG B P (q_up a k g w) := by
  refine ⟨fun i hi => ?_, fun p hp => ?_, ?_⟩
  · have hh := h.1 i hi
    unfold q_up
    by_cases e : i = g
    · subst e
      rcases (show k = 0 ∨ k = 1 ∨ k = 2 ∨ k = 3 by omega) with rfl | rfl | rfl | rfl
      · have := h0 rfl
        simp
        omega
      · have := h1 rfl
        simp
        omega
      · have := h2 rfl
        simp
        omega
      · have := h3 rfl
        simp
        omega
    · simp only [e, and_false, if_false]
      exact hh
  · rw [q_up_k (by omega)]
    exact h.2.1 p hp
  · rw [q_up_k (by omega)]
    exact h.2.2
theorem q_isBu {s u : sf_Sg} (h : u 149 = s 149) (x : Int32) : f10_isBurden u x = f10_isBurden s x := by
  unfold f10_isBurden f10_isBurden_b0
  rw [h]
theorem q_isBa {s u : sf_Sg} (h : u 149 = s 149) (x : Int32) : f10_isBack u x = f10_isBack s x := by
  unfold f10_isBack f10_isBack_b0
  rw [h]
theorem q_up_self (a : Nat → Nat → Nat) (k g : Nat) : q_up a k g (a k g) = a := by
  funext k' i'
  unfold q_up
  split
  · rename_i h
    rw [h.1, h.2]
  · rfl
def q_dn (a : Nat → Nat → Nat) (g p : Nat) : Nat → Nat → Nat := q_up (q_up a 2 g (if a 2 g = p + 1 then a 3 g else a 2 g)) 3 g 0
def q_hd (a : Nat → Nat → Nat) (g p q : Nat) : Nat → Nat → Nat := if a 2 g = p + 1 then q_up a 2 g (q + 1) else q_up a 3 g (q + 1)
theorem q_dn_LG {B P : Nat} {a : Nat → Nat → Nat} (h : q_LG B P a) {g p : Nat} (hg : g < B) : q_LG B P (q_dn a g p) := by
  refine ⟨fun i hi => ?_, fun p hp => ?_, ?_⟩
  · have hh := h.1 i hi
    unfold q_dn q_up
    by_cases e : i = g
    · subst e
      simp
      split <;> omega
    · simp only [e, and_false, if_false]
      exact hh
  · unfold q_dn
    rw [q_up_k (by decide), q_up_k (by decide)]
    exact h.2.1 p hp
  · unfold q_dn
    rw [q_up_k (by decide), q_up_k (by decide)]
    exact h.2.2
section DEEDOPS
variable {t : sf_Sg} {B P : Nat} {a : Nat → Nat → Nat} {z : Int32}
theorem c_putDown (L : q_LC t B P 16 a z) (hB : B ≤ 6) (hP : P ≤ 5) (G : q_LT B P a) {g p : Nat} (hg : g < B) (hp : p < P) : ∃ u, f3_putDown 16 t (nI g) (nI p) = some u ∧ (∀ k, k ≠ 19 → k ≠ 20 → u k = t k) ∧ q_LC u B P 16 (q_dn a g p) z := by
  have h := G.1 g hg
  unfold f3_putDown f3_putDown_b0 f3_putDown_b22 q_dn
  rw [q_ld (by omega) (by decide), (L.1 g hg).2.2.1]
  simp only [q_ob, q_en_p (show a 2 g ≤ 1000 by omega) (show p ≤ 1000 by omega)]
  by_cases e : a 2 g = p + 1
  · rw [if_pos e, if_pos e, q_ld (by omega) (by decide), (L.1 g hg).2.2.2]
    simp only [q_ob]
    rw [q_st (by omega) (by decide)]
    simp only [q_ob]
    rw [q_st (by omega) (by decide)]
    simp only [q_ob]
    refine ⟨_, rfl, fun k h1 h2 => by rw [q_s1k h2, q_s1k h1], ?_⟩
    have := (L.u2 g (a 3 g)).u3 g 0
    rw [q_en_0] at this
    exact this
  · rw [if_neg e, if_neg e, q_st (by omega) (by decide)]
    simp only [q_ob]
    refine ⟨_, rfl, fun k h1 h2 => by rw [q_s1k h2], ?_⟩
    rw [q_up_self]
    have := L.u3 g 0
    rw [q_en_0] at this
    exact this
theorem m_downNow (L : q_LM t B P 155 0 a z) (hB : B ≤ 6) (hP : P ≤ 5) (G : q_LT B P a) {g p : Nat} (hg : g < B) (hp : p < P) : ∃ u, f10_downNow t (nI g) (nI p) = some u ∧ (∀ k, k ≠ 155 → u k = t k) ∧ q_LM u B P 155 0 (q_dn a g p) z := by
  have h := G.1 g hg
  unfold f10_downNow f10_downNow_b0 f10_downNow_b42 q_dn
  rw [show sf_ld t 155 31 ((12 : Int32) + nI g) = some (t 155 (12 + g)) from q_ldn (o := 12) (g := g) (by omega), (L.e hg).2.2.1]
  simp only [q_ob, q_en_p (show a 2 g ≤ 1000 by omega) (show p ≤ 1000 by omega)]
  rw [show (12 : Int32) + nI g = nI (12 + g) from nI_add 12 g, show (18 : Int32) + nI g = nI (18 + g) from nI_add 18 g]
  by_cases e : a 2 g = p + 1
  · rw [if_pos e, if_pos e, q_ld (by omega) (by decide), (L.e hg).2.2.2]
    simp only [q_ob]
    rw [q_st (by omega) (by decide)]
    simp only [q_ob]
    rw [q_st (by omega) (by decide)]
    simp only [q_ob]
    refine ⟨_, rfl, fun k h1 => by rw [q_s1k h1, q_s1k h1], ?_⟩
    have := (L.u2 hB hg (a 3 g)).u3 hB hg 0
    rw [q_en_0] at this
    exact this
  · rw [if_neg e, if_neg e]
    rw [q_st (by omega) (by decide)]
    simp only [q_ob]
    rw [q_st (by omega) (by decide)]
    simp only [q_ob]
    refine ⟨_, rfl, fun k h1 => by rw [q_s1k h1, q_s1k h1], ?_⟩
    have := (L.u2 hB hg (a 2 g)).u3 hB hg 0
    rw [q_en_0] at this
    exact this
theorem c_putOn (L : q_LC t B P 16 a z) (hB : B ≤ 6) {g p : Nat} (hg : g < B) : ∃ u, f3_putOn 16 t (nI g) (nI p) = some u ∧ (∀ k, k ≠ 19 → u k = t k) ∧ q_LC u B P 16 (q_up a 2 g (p + 1)) z := by
  unfold f3_putOn f3_putOn_b0
  rw [q_st (by omega) (by decide)]
  simp only [q_ob]
  refine ⟨_, rfl, fun k h1 => q_s1k h1, ?_⟩
  rw [← q_en_s p]
  exact L.u2 g (p + 1)
theorem c_join (L : q_LC t B P 16 a z) (hB : B ≤ 6) {g p : Nat} (hg : g < B) : ∃ u, f3_join 16 t (nI g) (nI p) = some u ∧ (∀ k, k ≠ 20 → u k = t k) ∧ q_LC u B P 16 (q_up a 3 g (p + 1)) z := by
  unfold f3_join f3_join_b0
  rw [q_st (by omega) (by decide)]
  simp only [q_ob]
  refine ⟨_, rfl, fun k h1 => q_s1k h1, ?_⟩
  rw [← q_en_s p]
  exact L.u3 g (p + 1)
theorem m_st2 (L : q_LM t B P 155 0 a z) (hB : B ≤ 6) {g p : Nat} (hg : g < B) : ∃ u, sf_st t 155 31 ((12 : Int32) + nI g) (nI p) = some u ∧ (∀ k, k ≠ 155 → u k = t k) ∧ q_LM u B P 155 0 (q_up a 2 g (p + 1)) z := by
  rw [show (12 : Int32) + nI g = nI (12 + g) from nI_add 12 g, q_st (by omega) (by decide)]
  refine ⟨_, rfl, fun k h1 => q_s1k h1, ?_⟩
  rw [← q_en_s p]
  exact L.u2 hB hg (p + 1)
theorem m_st3 (L : q_LM t B P 155 0 a z) (hB : B ≤ 6) {g p : Nat} (hg : g < B) : ∃ u, sf_st t 155 31 ((18 : Int32) + nI g) (nI p) = some u ∧ (∀ k, k ≠ 155 → u k = t k) ∧ q_LM u B P 155 0 (q_up a 3 g (p + 1)) z := by
  rw [show (18 : Int32) + nI g = nI (18 + g) from nI_add 18 g, q_st (by omega) (by decide)]
  refine ⟨_, rfl, fun k h1 => q_s1k h1, ?_⟩
  rw [← q_en_s p]
  exact L.u3 hB hg (p + 1)
theorem c_handOn (L : q_LC t B P 16 a z) (hB : B ≤ 6) (hP : P ≤ 5) (G : q_LT B P a) {g p q : Nat} (hg : g < B) (hp : p < P) : ∃ u, f3_handOn 16 t (nI g) (nI p) (nI q) = some u ∧ (∀ k, k ≠ 19 → k ≠ 20 → u k = t k) ∧ q_LC u B P 16 (q_hd a g p q) z := by
  have h := G.1 g hg
  unfold f3_handOn f3_handOn_b0 q_hd
  rw [q_ld (by omega) (by decide), (L.1 g hg).2.2.1]
  simp only [q_ob, q_en_p (show a 2 g ≤ 1000 by omega) (show p ≤ 1000 by omega)]
  by_cases e : a 2 g = p + 1
  · rw [if_pos e, if_pos e, q_st (by omega) (by decide)]
    simp only [q_ob]
    refine ⟨_, rfl, fun k h1 h2 => q_s1k h1, ?_⟩
    rw [← q_en_s q]
    exact L.u2 g (q + 1)
  · rw [if_neg e, if_neg e, q_st (by omega) (by decide)]
    simp only [q_ob]
    refine ⟨_, rfl, fun k h1 h2 => q_s1k h2, ?_⟩
    rw [← q_en_s q]
    exact L.u3 g (q + 1)
end DEEDOPS
theorem q_deedG {s : sf_Sg} {B P : Nat} {sh a a' : Nat → Nat → Nat} {z z' : Int32} (fc fm : sf_Sg → Option sf_Sg) (hS : q_IS s B P sh) (hL : q_LG B P a ∧ q_LC s B P 16 a z ∧ q_LM s B P 155 0 a z) (hT : q_IT s) (hF : q_IF s) (hB : q_IB s P) (hU : q_IU s B P) (hM : q_IM s B P) (hO : q_IO s) (hG' : q_LG B P a')
    (hc : ∀ t, q_LC t B P 16 a z → ∃ u, fc t = some u ∧ (∀ k, (k < 16 ∨ 21 < k) → u k = t k) ∧ q_LC u B P 16 a' z')
    (hm : ∀ t, q_LM t B P 155 0 a z → ∃ u, fm t = some u ∧ (∀ k, k ≠ 155 → u k = t k) ∧ q_LM u B P 155 0 a' z') :
    ∃ t u v w, f4_add 16 s = some t ∧ fc t = some u ∧ f10_remember u = some v ∧ fm v = some w ∧ q_SC u B P sh ∧ q_LC u B P 16 a' z' ∧ q_SM w B P sh ∧ q_LM w B P 155 0 a' z' ∧ q_Inv w ∧ u 149 = s 149 ∧ u 155 = s 155 ∧ q_LM v B P 155 0 a z := by
  obtain ⟨t, t1, t2, t3, t4, t5⟩ := q_deed hS hL hT hF hB hU hM hO
  obtain ⟨u, u1, u2, u3⟩ := hc t t3
  obtain ⟨v, v1, v2, v3, v4, v5, v6⟩ := t5 u u2
  obtain ⟨w, w1, w2, w3⟩ := hm v v3
  exact ⟨t, u, v, w, t1, u1, v1, w1, t2.of (fun k h1 h2 => u2 k (by omega)), u3, v2.of (fun k hk => w2 k (by omega)) (congrFun (w2 149 (by decide)) 2) (congrFun (w2 149 (by decide)) 6), w3, v6 w a' z' w2 hG' u3 w3, (u2 149 (by omega)).trans (t4 149 (by decide) (by omega)), (u2 155 (by omega)).trans (t4 155 (by decide) (by omega)), v3⟩
theorem p_take : st_take q_Inv := by
  intro s x1 x2 hI
  obtain ⟨B, P, sh, a, z, hS, hL, hT, hF, hB, hU, hM, hO⟩ := id hI
  have hB6 := hS.1.1
  have hP5 := hS.1.2.1
  rcases q_hasBurden hB6 hS.1.2.2.1 hS.1.2.2.2.2.1 x1 with ⟨g, hg, rfl, b1, b2⟩ | ⟨b1, b2⟩
  · rcases q_hasBack hP5 hS.1.2.2.2.1 hS.1.2.2.2.2.2.1 x2 with ⟨p, hp, rfl, c1, c2⟩ | ⟨c1, c2⟩
    · have G := hL.1.1 g hg
      by_cases hc : a 2 g = 0
      · have hG' : q_LG B P (q_up a 2 g (p + 1)) := hL.1.up (by decide) (by omega) (by omega) (by omega) (by omega)
        obtain ⟨t, u, v, w, t1, u1, v1, w1, i1, i2, i3, i4, i5, i6, i7, i8⟩ := q_deedG (fun t => f3_putOn 16 t (nI g) (nI p)) (fun t => sf_st t 155 31 ((12 : Int32) + nI g) (nI p)) hS hL hT hF hB hU hM hO hG' (fun t ht => by
          obtain ⟨u, e1, e2, e3⟩ := c_putOn (p := p) ht hB6 hg
          exact ⟨u, e1, fun k hk => e2 k (by omega), e3⟩) (fun t ht => m_st2 ht hB6 hg)
        refine ⟨nI (q_gal sh (q_up a 2 g (p + 1)) B p (fun i => q_on (q_up a 2 g (p + 1)) i p) (q_up a 2 g (p + 1) 6 0)), u, w, ?_, ?_, i5⟩
        · unfold f9_take f9_take_b0
          rw [b1, if_neg q_b1, c1, if_neg q_b1, c_isCarried hL.2.1 hB6 hP5 hL.1.t hg, if_pos hc]
          simp only [q_ob]
          rw [if_pos trivial, t1]
          simp only [q_ob]
          rw [u1]
          simp only [q_ob]
          rw [c_gallingToday i1 hS.g i2 hG'.t hp]
          rfl
        · unfold f10_take f10_take_b0
          rw [q_isBu i6, b2, if_neg q_b1, q_isBa i6, c2, if_neg q_b1, show sf_ld u 155 31 ((12 : Int32) + nI g) = some (u 155 (12 + g)) from q_ldn (o := 12) (g := g) (by omega), i7, (hL.2.2.e hg).2.2.1]
          simp only [q_ob]
          rw [if_pos (by rw [hc]; exact q_en_0), v1]
          simp only [q_ob]
          rw [w1]
          simp only [q_ob]
          rw [m_gallingOf i3 hS.g i4 hG'.t hp]
          rfl
      · refine ⟨-1000000003, s, s, ?_, ?_, hI⟩
        · unfold f9_take f9_take_b0
          rw [b1, if_neg q_b1, c1, if_neg q_b1, c_isCarried hL.2.1 hB6 hP5 hL.1.t hg, if_neg hc]
          rfl
        · unfold f10_take f10_take_b0
          rw [b2, if_neg q_b1, c2, if_neg q_b1, show sf_ld s 155 31 ((12 : Int32) + nI g) = some (s 155 (12 + g)) from q_ldn (o := 12) (g := g) (by omega), (hL.2.2.e hg).2.2.1]
          simp only [q_ob, q_en_m (show a 2 g ≤ 1000 by omega)]
          rw [if_neg hc]
    · refine ⟨-1000000001, s, s, ?_, ?_, hI⟩
      · unfold f9_take f9_take_b0
        rw [b1, if_neg q_b1, c1, if_pos rfl]
      · unfold f10_take f10_take_b0
        rw [b2, if_neg q_b1, c2, if_pos rfl]
  · refine ⟨-1000000001, s, s, ?_, ?_, hI⟩
    · unfold f9_take f9_take_b0
      rw [b1, if_pos rfl]
    · unfold f10_take f10_take_b0
      rw [b2, if_pos rfl]
def q_cj (a : Nat → Nat → Nat) (g p : Nat) : Bool := decide (a 2 g ≠ 0) && decide (a 3 g = 0) && decide (a 2 g ≠ p + 1)
theorem c_canJoin {s : sf_Sg} {B P : Nat} {a : Nat → Nat → Nat} {z : Int32} (L : q_LC s B P 16 a z) (hB : B ≤ 6) (hP : P ≤ 5) (G : q_LT B P a) {g p : Nat} (hg : g < B) (hp : p < P) : f3_canJoin 16 s (nI g) (nI p) = some (if q_cj a g p then 1 else 0) := by
  have h := G.1 g hg
  unfold f3_canJoin f3_canJoin_b0 f3_canJoin_b30 q_cj
  rw [c_isCarried L hB hP G hg, c_isShared L hB hP G hg]
  simp only [q_ob]
  rw [q_ld (by omega) (by decide), (L.1 g hg).2.2.1]
  simp only [q_ob, q_en_p (show a 2 g ≤ 1000 by omega) (show p ≤ 1000 by omega)]
  unfold q_shd
  by_cases x : a 2 g = 0 <;> by_cases y : a 3 g = 0 <;> by_cases w : a 2 g = p + 1 <;> simp [x, y, w]
theorem m_canShare {s : sf_Sg} {B P : Nat} {a : Nat → Nat → Nat} {z : Int32} (L : q_LM s B P 155 0 a z) (hB : B ≤ 6) (hP : P ≤ 5) (G : q_LT B P a) {g p : Nat} (hg : g < B) (hp : p < P) : f10_canShare s (nI g) (nI p) = some (if q_cj a g p then 1 else 0) := by
  have h := G.1 g hg
  unfold f10_canShare f10_canShare_b0 f10_canShare_b38 q_cj
  rw [m_isShared L hB hP G hg, show sf_ld s 155 31 ((12 : Int32) + nI g) = some (s 155 (12 + g)) from q_ldn (o := 12) (g := g) (by omega), (L.e hg).2.2.1]
  simp only [q_ob, q_en_p (show a 2 g ≤ 1000 by omega) (show p ≤ 1000 by omega), q_en_m (show a 2 g ≤ 1000 by omega)]
  unfold q_shd
  by_cases x : a 2 g = 0 <;> by_cases y : a 3 g = 0 <;> by_cases w : a 2 g = p + 1 <;> simp [x, y, w]
theorem p_share : st_share q_Inv := by
  intro s x1 x2 hI
  obtain ⟨B, P, sh, a, z, hS, hL, hT, hF, hB, hU, hM, hO⟩ := id hI
  have hB6 := hS.1.1
  have hP5 := hS.1.2.1
  rcases q_hasBurden hB6 hS.1.2.2.1 hS.1.2.2.2.2.1 x1 with ⟨g, hg, rfl, b1, b2⟩ | ⟨b1, b2⟩
  · rcases q_hasBack hP5 hS.1.2.2.2.1 hS.1.2.2.2.2.2.1 x2 with ⟨p, hp, rfl, c1, c2⟩ | ⟨c1, c2⟩
    · have G := hL.1.1 g hg
      by_cases hc : q_cj a g p = true
      · have hc' := hc
        unfold q_cj at hc'
        simp only [Bool.and_eq_true, decide_eq_true_eq] at hc'
        have hG' : q_LG B P (q_up a 3 g (p + 1)) := hL.1.up (by decide) (by omega) (by omega) (by omega) (by omega)
        obtain ⟨t, u, v, w, t1, u1, v1, w1, i1, i2, i3, i4, i5, i6, i7, i8⟩ := q_deedG (fun t => f3_join 16 t (nI g) (nI p)) (fun t => sf_st t 155 31 ((18 : Int32) + nI g) (nI p)) hS hL hT hF hB hU hM hO hG' (fun t ht => by
          obtain ⟨u, e1, e2, e3⟩ := c_join (p := p) ht hB6 hg
          exact ⟨u, e1, fun k hk => e2 k (by omega), e3⟩) (fun t ht => m_st3 ht hB6 hg)
        refine ⟨nI (q_gal sh (q_up a 3 g (p + 1)) B p (fun i => q_on (q_up a 3 g (p + 1)) i p) (q_up a 3 g (p + 1) 6 0)), u, w, ?_, ?_, i5⟩
        · unfold f9_share f9_share_b0
          rw [b1, if_neg q_b1, c1, if_neg q_b1, c_canJoin hL.2.1 hB6 hP5 hL.1.t hg hp, if_pos hc]
          simp only [q_ob]
          rw [if_neg q_b1, t1]
          simp only [q_ob]
          rw [u1]
          simp only [q_ob]
          rw [c_gallingToday i1 hS.g i2 hG'.t hp]
          rfl
        · unfold f10_share f10_share_b0
          rw [q_isBu i6, b2, if_neg q_b1, q_isBa i6, c2, if_neg q_b1, m_canShare (hL.2.2.of i7) hB6 hP5 hL.1.t hg hp, if_pos hc]
          simp only [q_ob]
          rw [if_neg q_b1, v1]
          simp only [q_ob]
          rw [w1]
          simp only [q_ob]
          rw [m_gallingOf i3 hS.g i4 hG'.t hp]
          rfl
      · refine ⟨-1000000003, s, s, ?_, ?_, hI⟩
        · unfold f9_share f9_share_b0
          rw [b1, if_neg q_b1, c1, if_neg q_b1, c_canJoin hL.2.1 hB6 hP5 hL.1.t hg hp, if_neg hc]
          rfl
        · unfold f10_share f10_share_b0
          rw [b2, if_neg q_b1, c2, if_neg q_b1, m_canShare hL.2.2 hB6 hP5 hL.1.t hg hp, if_neg hc]
          rfl
    · refine ⟨-1000000001, s, s, ?_, ?_, hI⟩
      · unfold f9_share f9_share_b0
        rw [b1, if_neg q_b1, c1, if_pos rfl]
      · unfold f10_share f10_share_b0
        rw [b2, if_neg q_b1, c2, if_pos rfl]
  · refine ⟨-1000000001, s, s, ?_, ?_, hI⟩
    · unfold f9_share f9_share_b0
      rw [b1, if_pos rfl]
    · unfold f10_share f10_share_b0
      rw [b2, if_pos rfl]
theorem p_down : st_down q_Inv := by
  intro s x1 x2 hI
  obtain ⟨B, P, sh, a, z, hS, hL, hT, hF, hB, hU, hM, hO⟩ := id hI
  have hB6 := hS.1.1
  have hP5 := hS.1.2.1
  rcases q_hasBurden hB6 hS.1.2.2.1 hS.1.2.2.2.2.1 x1 with ⟨g, hg, rfl, b1, b2⟩ | ⟨b1, b2⟩
  · rcases q_hasBack hP5 hS.1.2.2.2.1 hS.1.2.2.2.2.2.1 x2 with ⟨p, hp, rfl, c1, c2⟩ | ⟨c1, c2⟩
    · have G := hL.1.1 g hg
      by_cases hc : q_on a g p = true
      · have hG' : q_LG B P (q_dn a g p) := q_dn_LG hL.1 hg
        obtain ⟨t, u, v, w, t1, u1, v1, w1, i1, i2, i3, i4, i5, i6, i7, i8⟩ := q_deedG (fun t => f3_putDown 16 t (nI g) (nI p)) (fun t => f10_downNow t (nI g) (nI p)) hS hL hT hF hB hU hM hO hG' (fun t ht => by
          obtain ⟨u, e1, e2, e3⟩ := c_putDown ht hB6 hP5 hL.1.t hg hp
          exact ⟨u, e1, fun k hk => e2 k (by omega) (by omega), e3⟩) (fun t ht => m_downNow ht hB6 hP5 hL.1.t hg hp)
        refine ⟨nI (q_gal sh (q_dn a g p) B p (fun i => q_on (q_dn a g p) i p) (q_dn a g p 6 0)), u, w, ?_, ?_, i5⟩
        · unfold f9_down f9_down_b0
          rw [b1, if_neg q_b1, c1, if_neg q_b1, c_isOn hL.2.1 hB6 hP5 hL.1.t hg hp, if_pos hc]
          simp only [q_ob]
          rw [if_neg q_b1, t1]
          simp only [q_ob]
          rw [u1]
          simp only [q_ob]
          rw [c_gallingToday i1 hS.g i2 hG'.t hp]
          rfl
        · unfold f10_down f10_down_b0
          rw [q_isBu i6, b2, if_neg q_b1, q_isBa i6, c2, if_neg q_b1, m_bears (hL.2.2.of i7) hB6 hP5 hL.1.t hg hp, if_pos hc]
          simp only [q_ob]
          rw [if_neg q_b1, v1]
          simp only [q_ob]
          rw [w1]
          simp only [q_ob]
          rw [m_gallingOf i3 hS.g i4 hG'.t hp]
          rfl
      · refine ⟨-1000000003, s, s, ?_, ?_, hI⟩
        · unfold f9_down f9_down_b0
          rw [b1, if_neg q_b1, c1, if_neg q_b1, c_isOn hL.2.1 hB6 hP5 hL.1.t hg hp, if_neg hc]
          rfl
        · unfold f10_down f10_down_b0
          rw [b2, if_neg q_b1, c2, if_neg q_b1, m_bears hL.2.2 hB6 hP5 hL.1.t hg hp, if_neg hc]
          rfl
    · refine ⟨-1000000001, s, s, ?_, ?_, hI⟩
      · unfold f9_down f9_down_b0
        rw [b1, if_neg q_b1, c1, if_pos rfl]
      · unfold f10_down f10_down_b0
        rw [b2, if_neg q_b1, c2, if_pos rfl]
  · refine ⟨-1000000001, s, s, ?_, ?_, hI⟩
    · unfold f9_down f9_down_b0
      rw [b1, if_pos rfl]
    · unfold f10_down f10_down_b0
      rw [b2, if_pos rfl]
