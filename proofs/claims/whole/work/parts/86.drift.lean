-- draws
theorem q_land (a b : Nat) : lN a &&& lN b = lN (a &&& b) := by
  apply Int64.toBitVec_inj.1
  show BitVec.ofNat 64 a &&& BitVec.ofNat 64 b = BitVec.ofNat 64 (a &&& b)
  apply BitVec.eq_of_getLsbD_eq
  intro i hi
  simp [hi]
def q_sd (n : Nat) : Nat := (n * 1103515245 + 12345) % 2147483648
def q_dw (n c : Nat) : Nat := q_sd n / 65536 % c
theorem q_sd_lt (n : Nat) : q_sd n < 2 ^ 31 := Nat.mod_lt _ (by decide)
theorem q_sdL {n : Nat} (h : n < 2 ^ 31) : (nI n).toInt64 * (1103515245 : Int64) + (12345 : Int64) = lN (n * 1103515245 + 12345) := by
  rw [nI_l h, show (1103515245 : Int64) = lN 1103515245 from rfl, show (12345 : Int64) = lN 12345 from rfl, lN_mul, lN_add]
theorem q_sdC {n : Nat} (h : n < 2 ^ 31) : (((nI n).toInt64 * (1103515245 : Int64) + (12345 : Int64)) &&& (2147483647 : Int64)).toInt32 = nI (q_sd n) := by
  rw [q_sdL h, show (2147483647 : Int64) = lN 2147483647 from rfl, q_land, lN_i]
  have h1 := Nat.and_two_pow_sub_one_eq_mod (n * 1103515245 + 12345) 31
  rw [show (2 : Nat) ^ 31 - 1 = 2147483647 by decide, show (2 : Nat) ^ 31 = 2147483648 by decide] at h1
  rw [h1]
  unfold q_sd
  rfl
theorem q_sdM {n : Nat} (h : n < 2 ^ 31) : (sf_lmod ((nI n).toInt64 * (1103515245 : Int64) + (12345 : Int64)) (2147483648 : Int64)).toInt32 = nI (q_sd n) := by
  rw [q_sdL h, show (2147483648 : Int64) = lN 2147483648 from rfl]
  have : sf_lmod (lN (n * 1103515245 + 12345)) (lN 2147483648) = lN (q_sd n) := pk_lRem (by omega) (by decide) (by decide)
  rw [this, lN_i]
theorem q_dwv {n c : Nat} (hc : 1 ≤ c) (hc2 : c ≤ 1000) : sf_mod (nI (q_sd n) / (65536 : Int32)) (nI c) = some (nI (q_dw n c)) := by
  have h := q_sd_lt n
  rw [show (65536 : Int32) = nI 65536 from rfl, pk_div h (by decide) (by decide)]
  unfold sf_mod
  rw [if_neg (nI_ne0 hc (by omega))]
  exact congrArg some (pk_rem (by omega) hc (by omega))
theorem c_draw {s : sf_Sg} {n c : Nat} (h : s 0 13 = nI n) (hn : n < 2 ^ 31) (hc : 1 ≤ c) (hc2 : c ≤ 1000) : f9_draw s (nI c) = some (nI (q_dw n c), sf_s1 s 0 13 (nI (q_sd n))) := by
  unfold f9_draw f9_draw_b0
  rw [if_pos (show (1 : Int32) ≤ nI c from nI_le (a := 1) hc (by omega)), h, q_sdC hn, q_s1s, q_dwv hc hc2]
  rfl
theorem m_draw {s : sf_Sg} {n c : Nat} (h : s 149 10 = nI n) (hn : n < 2 ^ 31) (hc : 1 ≤ c) (hc2 : c ≤ 1000) : f10_draw s (nI c) = some (nI (q_dw n c), sf_s1 s 149 10 (nI (q_sd n))) := by
  unfold f10_draw f10_draw_b0
  rw [h, q_sdM hn, q_s1s, q_dwv hc hc2]
  rfl
-- what the draws do
def q_ac (k g p : Nat) (a : Nat → Nat → Nat) : Nat → Nat → Nat :=
  if k = 0 ∧ a 2 g = 0 then q_up a 2 g (p + 1) else if k = 1 ∧ q_cj a g p = true then q_up a 3 g (p + 1) else if k = 2 ∧ q_on a g p = true then q_dn a g p else a
def q_ch (B P n : Nat) (a : Nat → Nat → Nat) : Nat → Nat → Nat := if B = 0 ∨ P = 0 then a else q_ac (q_dw n 4) (q_dw (q_sd n) B) (q_dw (q_sd (q_sd n)) P) a
def q_sn (B P n : Nat) : Nat := if B = 0 ∨ P = 0 then n else q_sd (q_sd (q_sd n))
theorem q_sn_lt {B P n : Nat} (h : n < 2 ^ 31) : q_sn B P n < 2 ^ 31 := by
  unfold q_sn
  split
  · exact h
  · exact q_sd_lt _
theorem q_ac0 {g p : Nat} {a : Nat → Nat → Nat} (h : a 2 g = 0) : q_ac 0 g p a = q_up a 2 g (p + 1) := by
  unfold q_ac
  rw [if_pos ⟨rfl, h⟩]
theorem q_ac0n {g p : Nat} {a : Nat → Nat → Nat} (h : ¬ a 2 g = 0) : q_ac 0 g p a = a := by
  unfold q_ac
  rw [if_neg (show ¬ (0 = 0 ∧ a 2 g = 0) from fun w => h w.2), if_neg (show ¬ (0 = 1 ∧ q_cj a g p = true) from fun w => absurd w.1 (by decide)), if_neg (show ¬ (0 = 2 ∧ q_on a g p = true) from fun w => absurd w.1 (by decide))]
theorem q_ac1 {g p : Nat} {a : Nat → Nat → Nat} (h : q_cj a g p = true) : q_ac 1 g p a = q_up a 3 g (p + 1) := by
  unfold q_ac
  rw [if_neg (show ¬ (1 = 0 ∧ a 2 g = 0) from fun w => absurd w.1 (by decide)), if_pos ⟨rfl, h⟩]
theorem q_ac1n {g p : Nat} {a : Nat → Nat → Nat} (h : ¬ q_cj a g p = true) : q_ac 1 g p a = a := by
  unfold q_ac
  rw [if_neg (show ¬ (1 = 0 ∧ a 2 g = 0) from fun w => absurd w.1 (by decide)), if_neg (show ¬ (1 = 1 ∧ q_cj a g p = true) from fun w => h w.2), if_neg (show ¬ (1 = 2 ∧ q_on a g p = true) from fun w => absurd w.1 (by decide))]
theorem q_ac2 {g p : Nat} {a : Nat → Nat → Nat} (h : q_on a g p = true) : q_ac 2 g p a = q_dn a g p := by
  unfold q_ac
  rw [if_neg (show ¬ (2 = 0 ∧ a 2 g = 0) from fun w => absurd w.1 (by decide)), if_neg (show ¬ (2 = 1 ∧ q_cj a g p = true) from fun w => absurd w.1 (by decide)), if_pos ⟨rfl, h⟩]
theorem q_ac2n {g p : Nat} {a : Nat → Nat → Nat} (h : ¬ q_on a g p = true) : q_ac 2 g p a = a := by
  unfold q_ac
  rw [if_neg (show ¬ (2 = 0 ∧ a 2 g = 0) from fun w => absurd w.1 (by decide)), if_neg (show ¬ (2 = 1 ∧ q_cj a g p = true) from fun w => absurd w.1 (by decide)), if_neg (show ¬ (2 = 2 ∧ q_on a g p = true) from fun w => h w.2)]
theorem q_ac3 {g p : Nat} {a : Nat → Nat → Nat} : q_ac 3 g p a = a := by
  unfold q_ac
  rw [if_neg (show ¬ (3 = 0 ∧ a 2 g = 0) from fun w => absurd w.1 (by decide)), if_neg (show ¬ (3 = 1 ∧ q_cj a g p = true) from fun w => absurd w.1 (by decide)), if_neg (show ¬ (3 = 2 ∧ q_on a g p = true) from fun w => absurd w.1 (by decide))]
theorem q_ac_6 {k g p : Nat} {a : Nat → Nat → Nat} : q_ac k g p a 6 0 = a 6 0 := by
  unfold q_ac q_dn
  repeat' split
  all_goals first | rfl | rw [q_up_k (by decide)] | rw [q_up_k (by decide), q_up_k (by decide)]
theorem q_ac_LG {B P k g p : Nat} {a : Nat → Nat → Nat} (G : q_LG B P a) (hg : g < B) (hp : p < P) : q_LG B P (q_ac k g p a) := by
  unfold q_ac
  split
  · rename_i h
    refine G.up (by decide) (fun h => absurd h (by decide)) (fun h => absurd h (by decide)) (fun _ => ⟨by omega, ?_⟩) (fun h => absurd h (by decide))
    rcases (G.1 g hg).2.2.2.2.2 with w | w
    · exact Or.inl w
    · exact absurd h.2 w.1
  · split
    · rename_i h
      have h2 := h.2
      unfold q_cj at h2
      rw [Bool.and_eq_true, Bool.and_eq_true, decide_eq_true_iff, decide_eq_true_iff, decide_eq_true_iff] at h2
      exact G.up (by decide) (fun h => absurd h (by decide)) (fun h => absurd h (by decide)) (fun h => absurd h (by decide)) (fun _ => ⟨by omega, Or.inr ⟨h2.1.1, h2.2⟩⟩)
    · split
      · exact q_dn_LG G hg
      · exact G
theorem q_ch_6 {B P n : Nat} {a : Nat → Nat → Nat} : q_ch B P n a 6 0 = a 6 0 := by
  unfold q_ch
  split
  · rfl
  · exact q_ac_6
theorem q_dw_lt {n c : Nat} (h : 0 < c) : q_dw n c < c := Nat.mod_lt _ h
theorem q_ch_LG {B P n : Nat} {a : Nat → Nat → Nat} (G : q_LG B P a) : q_LG B P (q_ch B P n a) := by
  unfold q_ch
  split
  · exact G
  · exact q_ac_LG G (q_dw_lt (by omega)) (q_dw_lt (by omega))
theorem c_ac {t : sf_Sg} {B P k g p : Nat} {a : Nat → Nat → Nat} {z : Int32} (L : q_LC t B P 16 a z) (hB : B ≤ 6) (hP : P ≤ 5) (G : q_LT B P a) (hg : g < B) (hp : p < P) (hk : k < 4) : ∃ u, (if nI k = 0 then (f3_isCarried 16 t (nI g)).bind fun v62 => if v62 = 0 then (f3_putOn 16 t (nI g) (nI p)).bind fun s74 => some s74 else f9_doByDraws_b80 t (nI k) (nI g) (nI p) else f9_doByDraws_b80 t (nI k) (nI g) (nI p)) = some u ∧ (∀ k, k ≠ 19 → k ≠ 20 → u k = t k) ∧ q_LC u B P 16 (q_ac k g p a) z := by
  rw [c_isCarried L hB hP G hg]
  simp only [q_ob]
  unfold f9_doByDraws_b80 f9_doByDraws_b109
  rw [c_canJoin L hB hP G hg hp, c_isOn L hB hP G hg hp]
  simp only [q_ob]
  rcases (show k = 0 ∨ k = 1 ∨ k = 2 ∨ k = 3 by omega) with rfl | rfl | rfl | rfl
  · rw [if_pos (show nI 0 = 0 from rfl)]
    by_cases h : a 2 g = 0
    · rw [if_pos h, if_pos rfl, q_ac0 h]
      obtain ⟨u, e1, e2, e3⟩ := c_putOn (p := p) L hB hg
      rw [e1]
      exact ⟨u, rfl, fun k a1 _ => e2 k a1, e3⟩
    · rw [if_neg h, if_neg q_b1, if_neg (show ¬ nI 0 = 1 by decide), if_neg (show ¬ nI 0 = 2 by decide), q_ac0n h]
      exact ⟨t, rfl, fun _ _ _ => rfl, L⟩
  · rw [if_neg (show ¬ nI 1 = 0 by decide), if_pos (show nI 1 = 1 from rfl)]
    by_cases h : q_cj a g p = true
    · rw [if_pos h, if_neg q_b1, q_ac1 h]
      obtain ⟨u, e1, e2, e3⟩ := c_join (p := p) L hB hg
      rw [e1]
      exact ⟨u, rfl, fun k _ a1 => e2 k a1, e3⟩
    · rw [if_neg h, if_pos rfl, if_neg (show ¬ nI 1 = 2 by decide), q_ac1n h]
      exact ⟨t, rfl, fun _ _ _ => rfl, L⟩
  · rw [if_neg (show ¬ nI 2 = 0 by decide), if_neg (show ¬ nI 2 = 1 by decide), if_pos (show nI 2 = 2 from rfl)]
    by_cases h : q_on a g p = true
    · rw [if_pos h, if_neg q_b1, q_ac2 h]
      obtain ⟨u, e1, e2, e3⟩ := c_putDown L hB hP G hg hp
      rw [e1]
      exact ⟨u, rfl, e2, e3⟩
    · rw [if_neg h, if_pos rfl, q_ac2n h]
      exact ⟨t, rfl, fun _ _ _ => rfl, L⟩
  · rw [if_neg (show ¬ nI 3 = 0 by decide), if_neg (show ¬ nI 3 = 1 by decide), if_neg (show ¬ nI 3 = 2 by decide), q_ac3]
    exact ⟨t, rfl, fun _ _ _ => rfl, L⟩
theorem m_ac {t : sf_Sg} {B P k g p : Nat} {a : Nat → Nat → Nat} {z : Int32} (L : q_LM t B P 155 0 a z) (hB : B ≤ 6) (hP : P ≤ 5) (G : q_LT B P a) (hg : g < B) (hp : p < P) (hk : k < 4) : ∃ u, (if nI k = 0 then (sf_ld t 155 31 ((12 : Int32) + nI g)).bind fun v36 => if v36 = (-1 : Int32) then (sf_st t 155 31 ((12 : Int32) + nI g) (nI p)).bind fun s50 => some s50 else f10_chance_b54 t (nI k) (nI g) (nI p) else f10_chance_b54 t (nI k) (nI g) (nI p)) = some u ∧ (∀ k, k ≠ 155 → u k = t k) ∧ q_LM u B P 155 0 (q_ac k g p a) z := by
  have l12 : sf_ld t 155 31 ((12 : Int32) + nI g) = some (q_en (a 2 g)) := by
    rw [← (L.e hg).2.2.1]
    exact q_ldn (o := 12) (by omega)
  rw [l12]
  simp only [q_ob, q_en_m (show a 2 g ≤ 1000 by have := (G.1 g hg).2.2.2.1; omega)]
  unfold f10_chance_b54 f10_chance_b81
  rw [m_canShare L hB hP G hg hp, m_bears L hB hP G hg hp]
  simp only [q_ob]
  rcases (show k = 0 ∨ k = 1 ∨ k = 2 ∨ k = 3 by omega) with rfl | rfl | rfl | rfl
  · rw [if_pos (show nI 0 = 0 from rfl)]
    by_cases h : a 2 g = 0
    · rw [if_pos h, q_ac0 h]
      obtain ⟨u, e1, e2, e3⟩ := m_st2 (p := p) L hB hg
      rw [e1]
      exact ⟨u, rfl, e2, e3⟩
    · rw [if_neg h, if_neg (show ¬ nI 0 = 1 by decide), if_neg (show ¬ nI 0 = 2 by decide), q_ac0n h]
      exact ⟨t, rfl, fun _ _ => rfl, L⟩
  · rw [if_neg (show ¬ nI 1 = 0 by decide), if_pos (show nI 1 = 1 from rfl)]
    by_cases h : q_cj a g p = true
    · rw [if_pos h, if_neg q_b1, q_ac1 h]
      obtain ⟨u, e1, e2, e3⟩ := m_st3 (p := p) L hB hg
      rw [e1]
      exact ⟨u, rfl, e2, e3⟩
    · rw [if_neg h, if_pos rfl, if_neg (show ¬ nI 1 = 2 by decide), q_ac1n h]
      exact ⟨t, rfl, fun _ _ => rfl, L⟩
  · rw [if_neg (show ¬ nI 2 = 0 by decide), if_neg (show ¬ nI 2 = 1 by decide), if_pos (show nI 2 = 2 from rfl)]
    by_cases h : q_on a g p = true
    · rw [if_pos h, if_neg q_b1, q_ac2 h]
      obtain ⟨u, e1, e2, e3⟩ := m_downNow L hB hP G hg hp
      rw [e1]
      exact ⟨u, rfl, e2, e3⟩
    · rw [if_neg h, if_pos rfl, q_ac2n h]
      exact ⟨t, rfl, fun _ _ => rfl, L⟩
  · rw [if_neg (show ¬ nI 3 = 0 by decide), if_neg (show ¬ nI 3 = 1 by decide), if_neg (show ¬ nI 3 = 2 by decide), q_ac3]
    exact ⟨t, rfl, fun _ _ => rfl, L⟩
theorem c_byDraws0 {t t1 t2 t3 : sf_Sg} {B P k g p : Nat} {sh a : Nat → Nat → Nat} {z : Int32} (S : q_SC t B P sh) (hB : B ≤ 6) (hP : P ≤ 5) (hb : 0 < B) (hp0 : 0 < P) (L : q_LC t B P 16 a z) (G : q_LT B P a) (d1 : f9_draw t 4 = some (nI k, t1)) (d2 : f9_draw t1 (nI B) = some (nI g, t2)) (d3 : f9_draw t2 (nI P) = some (nI p, t3)) (o1 : t1 10 = t 10) (o2 : t2 10 = t 10) (o3 : ∀ k, k ≠ 0 → t3 k = t k) (hk : k < 4) (hg : g < B) (hp : p < P) : ∃ u, f9_doByDraws t = some u ∧ (∀ k, k ≠ 19 → k ≠ 20 → u k = t3 k) ∧ q_LC u B P 16 (q_ac k g p a) z := by
  unfold f9_doByDraws f9_doByDraws_b0
  rw [S.1, S.2.1, if_neg (show ¬ nI B < 1 from nI_nlt (b := 1) (by omega) (by omega)), if_pos (show 1 ≤ nI P from nI_le (a := 1) (by omega) (by omega)), d1]
  simp only [q_ob]
  rw [o1, S.1, d2]
  simp only [q_ob]
  rw [o2, S.2.1, d3]
  simp only [q_ob]
  exact c_ac (k := k) (L.of (fun k a1 a2 => o3 k (by omega))) hB hP G hg hp hk
theorem c_byDraws {t : sf_Sg} {B P n : Nat} {sh a : Nat → Nat → Nat} {z : Int32} (S : q_SC t B P sh) (hB : B ≤ 6) (hP : P ≤ 5) (L : q_LC t B P 16 a z) (G : q_LT B P a) (h0 : t 0 13 = nI n) (hn : n < 2 ^ 31) : ∃ u, f9_doByDraws t = some u ∧ (∀ k, k ≠ 0 → k ≠ 19 → k ≠ 20 → u k = t k) ∧ u 0 13 = nI (q_sn B P n) ∧ q_LC u B P 16 (q_ch B P n a) z := by
  by_cases hbp : B = 0 ∨ P = 0
  · have e1 : q_sn B P n = n := by
      unfold q_sn
      rw [if_pos hbp]
    have e2 : q_ch B P n a = a := by
      unfold q_ch
      rw [if_pos hbp]
    rw [e1, e2]
    refine ⟨t, ?_, fun _ _ _ _ => rfl, h0, L⟩
    unfold f9_doByDraws f9_doByDraws_b0
    rw [S.1, S.2.1]
    by_cases hb : B = 0
    · rw [if_pos (show nI B < 1 from nI_lt (b := 1) (by omega) (by decide))]
    · rw [if_neg (show ¬ nI B < 1 from nI_nlt (b := 1) (by omega) (by omega)), if_neg (show ¬ 1 ≤ nI P from nI_ge (b := 1) (by omega) (by decide))]
  · have e1 : q_sn B P n = q_sd (q_sd (q_sd n)) := by
      unfold q_sn
      rw [if_neg hbp]
    have e2 : q_ch B P n a = q_ac (q_dw n 4) (q_dw (q_sd n) B) (q_dw (q_sd (q_sd n)) P) a := by
      unfold q_ch
      rw [if_neg hbp]
    rw [e1, e2]
    have c1 := c_draw (c := 4) h0 hn (by decide) (by decide)
    have c2 := c_draw (s := sf_s1 t 0 13 (nI (q_sd n))) (n := q_sd n) (c := B) q_s1s (q_sd_lt n) (by omega) (by omega)
    have c3 := c_draw (s := sf_s1 (sf_s1 t 0 13 (nI (q_sd n))) 0 13 (nI (q_sd (q_sd n)))) (n := q_sd (q_sd n)) (c := P) q_s1s (q_sd_lt (q_sd n)) (by omega) (by omega)
    have l1 : q_dw n 4 < 4 := q_dw_lt (by decide)
    have l2 : q_dw (q_sd n) B < B := q_dw_lt (by omega)
    have l3 : q_dw (q_sd (q_sd n)) P < P := q_dw_lt (by omega)
    generalize q_dw n 4 = k at *
    generalize q_dw (q_sd n) B = g at *
    generalize q_dw (q_sd (q_sd n)) P = p at *
    generalize q_sd (q_sd (q_sd n)) = n3 at *
    generalize q_sd (q_sd n) = n2 at *
    generalize q_sd n = n1 at *
    obtain ⟨u, f1, f2, f3⟩ := c_byDraws0 S hB hP (by omega) (by omega) L G c1 c2 c3 (q_s1k (by decide)) (by rw [q_s1k (by decide), q_s1k (by decide)]) (fun k hk => by rw [q_s1k hk, q_s1k hk, q_s1k hk]) l1 l2 l3
    refine ⟨u, f1, fun k a1 a2 a3 => (f2 k a2 a3).trans (by rw [q_s1k a1, q_s1k a1, q_s1k a1]), ?_, f3⟩
    rw [f2 0 (by decide) (by decide), q_s1s]
theorem m_chance0 {t t1 t2 t3 : sf_Sg} {B P k g p : Nat} {sh a : Nat → Nat → Nat} {z : Int32} (S : q_SM t B P sh) (hB : B ≤ 6) (hP : P ≤ 5) (L : q_LM t B P 155 0 a z) (G : q_LT B P a) (d1 : f10_draw t 4 = some (nI k, t1)) (d2 : f10_draw t1 (nI B) = some (nI g, t2)) (d3 : f10_draw t2 (nI P) = some (nI p, t3)) (o1 : t1 149 2 = t 149 2) (o2 : t2 149 6 = t 149 6) (o3 : t3 155 = t 155) (hk : k < 4) (hg : g < B) (hp : p < P) : ∃ u, f10_chance t = some u ∧ (∀ k, k ≠ 155 → u k = t3 k) ∧ q_LM u B P 155 0 (q_ac k g p a) z := by
  unfold f10_chance f10_chance_b0
  rw [d1]
  simp only [q_ob]
  rw [o1, S.1, d2]
  simp only [q_ob]
  rw [o2, S.2.1, d3]
  simp only [q_ob]
  exact m_ac (k := k) (L.of o3) hB hP G hg hp hk
theorem m_chance {t : sf_Sg} {B P n : Nat} {sh a : Nat → Nat → Nat} {z : Int32} (S : q_SM t B P sh) (hB : B ≤ 6) (hP : P ≤ 5) (hb : 0 < B) (hp : 0 < P) (L : q_LM t B P 155 0 a z) (G : q_LT B P a) (h0 : t 149 10 = nI n) (hn : n < 2 ^ 31) : ∃ u, f10_chance t = some u ∧ (∀ k, k ≠ 149 → k ≠ 155 → u k = t k) ∧ (∀ j, j ≠ 10 → u 149 j = t 149 j) ∧ u 149 10 = nI (q_sn B P n) ∧ q_LM u B P 155 0 (q_ch B P n a) z := by
  have hbp : ¬ (B = 0 ∨ P = 0) := by omega
  have e1 : q_sn B P n = q_sd (q_sd (q_sd n)) := by
    unfold q_sn
    rw [if_neg hbp]
  have e2 : q_ch B P n a = q_ac (q_dw n 4) (q_dw (q_sd n) B) (q_dw (q_sd (q_sd n)) P) a := by
    unfold q_ch
    rw [if_neg hbp]
  rw [e1, e2]
  have c1 := m_draw (c := 4) h0 hn (by decide) (by decide)
  have c2 := m_draw (s := sf_s1 t 149 10 (nI (q_sd n))) (n := q_sd n) (c := B) q_s1s (q_sd_lt n) (by omega) (by omega)
  have c3 := m_draw (s := sf_s1 (sf_s1 t 149 10 (nI (q_sd n))) 149 10 (nI (q_sd (q_sd n)))) (n := q_sd (q_sd n)) (c := P) q_s1s (q_sd_lt (q_sd n)) (by omega) (by omega)
  have l1 : q_dw n 4 < 4 := q_dw_lt (by decide)
  have l2 : q_dw (q_sd n) B < B := q_dw_lt (by omega)
  have l3 : q_dw (q_sd (q_sd n)) P < P := q_dw_lt (by omega)
  generalize q_dw n 4 = k at *
  generalize q_dw (q_sd n) B = g at *
  generalize q_dw (q_sd (q_sd n)) P = p at *
  generalize q_sd (q_sd (q_sd n)) = n3 at *
  generalize q_sd (q_sd n) = n2 at *
  generalize q_sd n = n1 at *
  obtain ⟨u, f1, f2, f3⟩ := m_chance0 S hB hP L G c1 c2 c3 (q_s1i (by decide)) (by rw [q_s1i (by decide), q_s1i (by decide)]) (by rw [q_s1k (by decide), q_s1k (by decide), q_s1k (by decide)]) l1 l2 l3
  refine ⟨u, f1, fun k a1 a2 => (f2 k a2).trans (by rw [q_s1k a1, q_s1k a1, q_s1k a1]), fun j hj => ?_, ?_, f3⟩
  · rw [f2 149 (by decide), q_s1i hj, q_s1i hj, q_s1i hj]
  · rw [f2 149 (by decide), q_s1s]
-- years by draws
def q_dr (sh : Nat → Nat → Nat) (B P : Nat) : Nat → Nat → (Nat → Nat → Nat) → Nat × (Nat → Nat → Nat)
  | 0, n, a => (n, a)
  | k + 1, n, a => q_dr sh B P k (q_sn B P n) (q_day sh B P (q_ch B P n a))
theorem q_dayg {sh a : Nat → Nat → Nat} {B P n : Nat} (G : q_LG B P a) (h6 : a 6 0 + 1 ≤ 9060) : q_LG B P (q_day sh B P (q_ch B P n a)) := by
  have h := q_ch_LG (n := n) G
  have e : q_ch B P n a 6 0 = a 6 0 := q_ch_6
  refine (q_day_LT (sh := sh) h.t (by omega)).g ?_
  show q_ch B P n a 6 0 + 1 ≤ 9060
  omega
theorem q_dr_ok {sh : Nat → Nat → Nat} {B P : Nat} : ∀ (k n : Nat) (a : Nat → Nat → Nat), q_LG B P a → a 6 0 + k ≤ 9060 → n < 2 ^ 31 → q_LG B P (q_dr sh B P k n a).2 ∧ (q_dr sh B P k n a).1 < 2 ^ 31
  | 0, n, a, G, _, hn => ⟨G, hn⟩
  | k + 1, n, a, G, h6, hn => q_dr_ok k _ _ (q_dayg G (by omega)) (by
      show q_ch B P n a 6 0 + 1 + k ≤ 9060
      rw [q_ch_6]
      omega) (q_sn_lt hn)
theorem c_driftLoop {B P N : Nat} {sh : Nat → Nat → Nat} {z : Int32} (SG : q_SG B P sh) (hN : N ≤ 200) : ∀ (f i n : Nat) (t : sf_Sg) (a : Nat → Nat → Nat), N < f + i → i ≤ N → q_SC t B P sh → q_LC t B P 16 a z → q_LG B P a → a 6 0 + (N - i) ≤ 9060 → t 0 13 = nI n → n < 2 ^ 31 → ∃ u, sf_it f9_drift_b25 (fun _ _ _ => none) f t (nI N) (nI i) = f9_drift_b47 u ∧ (∀ k, k ≠ 0 → (k < 16 ∨ 21 < k) → u k = t k) ∧ u 0 13 = nI (q_dr sh B P (N - i) n a).1 ∧ q_LC u B P 16 (q_dr sh B P (N - i) n a).2 z := by
  intro f
  induction f with
  | zero => intro i n t a h1 h2; omega
  | succ f ih =>
    intro i n t a h1 h2 S L G h6 h0 hn
    rw [q_it]
    generalize sf_it f9_drift_b25 (fun _ _ _ => none) f = K at ih ⊢
    unfold f9_drift_b25
    by_cases hi : i = N
    · subst hi
      rw [if_pos (nI_le (Nat.le_refl _) (by omega)), Nat.sub_self]
      exact ⟨t, rfl, fun _ _ _ => rfl, h0, L⟩
    · rw [if_neg (nI_ge (show i < N by omega) (by omega))]
      obtain ⟨u, e1, e2, e3, e4⟩ := c_byDraws S SG.1 SG.2.1 L G.t h0 hn
      rw [e1]
      simp only [q_ob]
      have S2 := S.of (t := u) (fun k a1 a2 => e2 k (by omega) (by omega) (by omega))
      have G2 := q_ch_LG (n := n) G
      obtain ⟨v, d1, d2, d3⟩ := c_passDay S2 SG e4 G2.t
      rw [d1]
      simp only [q_ob]
      rw [nI_1]
      have e6 : q_ch B P n a 6 0 = a 6 0 := q_ch_6
      obtain ⟨w, g1, g2, g3, g4⟩ := ih (i + 1) (q_sn B P n) v (q_day sh B P (q_ch B P n a)) (by omega) (by omega) (S2.of (fun k a1 a2 => d2 k (by omega) (by omega))) d3 (q_dayg G (by omega)) (by show q_ch B P n a 6 0 + 1 + (N - (i + 1)) ≤ 9060; omega) (by rw [d2 0 (by decide) (by decide)]; exact e3) (q_sn_lt hn)
      refine ⟨w, g1, fun k a1 a2 => (g2 k a1 a2).trans ((d2 k (by omega) (by omega)).trans (e2 k a1 (by omega) (by omega))), ?_, ?_⟩
      · rw [show N - i = (N - (i + 1)) + 1 by omega]
        exact g3
      · rw [show N - i = (N - (i + 1)) + 1 by omega]
        exact g4
theorem m_driftLoop {B P N : Nat} {sh : Nat → Nat → Nat} {z : Int32} (SG : q_SG B P sh) (hN : N ≤ 200) : ∀ (f i n : Nat) (t : sf_Sg) (a : Nat → Nat → Nat), N < f + i → i ≤ N → q_SM t B P sh → q_LM t B P 155 0 a z → q_LG B P a → a 6 0 + (N - i) ≤ 9060 → t 149 10 = nI n → n < 2 ^ 31 → ∃ u, sf_it f10_drift_b18 (fun _ _ _ => none) f t (nI N) (nI i) = f10_drift_b51 u ∧ (∀ k, k ≠ 155 → k ≠ 149 → u k = t k) ∧ (∀ j, j ≠ 10 → u 149 j = t 149 j) ∧ u 149 10 = nI (q_dr sh B P (N - i) n a).1 ∧ q_LM u B P 155 0 (q_dr sh B P (N - i) n a).2 z := by
  intro f
  induction f with
  | zero => intro i n t a h1 h2; omega
  | succ f ih =>
    intro i n t a h1 h2 S L G h6 h0 hn
    rw [q_it]
    generalize sf_it f10_drift_b18 (fun _ _ _ => none) f = K at ih ⊢
    have hB := SG.1
    have hP := SG.2.1
    by_cases hi : i = N
    · subst hi
      unfold f10_drift_b18
      rw [if_pos (nI_le (Nat.le_refl _) (by omega)), Nat.sub_self]
      exact ⟨t, rfl, fun _ _ _ => rfl, fun _ _ => rfl, h0, L⟩
    · have step : ∃ u, f10_drift_b18 K t (nI N) (nI i) = f10_drift_b41 K u (nI N) (nI i) ∧ (∀ k, k ≠ 149 → k ≠ 155 → u k = t k) ∧ (∀ j, j ≠ 10 → u 149 j = t 149 j) ∧ u 149 10 = nI (q_sn B P n) ∧ q_LM u B P 155 0 (q_ch B P n a) z := by
        unfold f10_drift_b18
        rw [if_neg (nI_ge (show i < N by omega) (by omega)), S.1, S.2.1]
        by_cases hb : B = 0
        · rw [if_pos (show nI B ≤ 0 by rw [hb]; decide)]
          refine ⟨t, rfl, fun _ _ _ => rfl, fun _ _ => rfl, ?_, ?_⟩
          · unfold q_sn
            rw [if_pos (Or.inl hb)]
            exact h0
          · unfold q_ch
            rw [if_pos (Or.inl hb)]
            exact L
        · rw [if_neg (nI_nle (by omega) (by omega))]
          by_cases hp : P = 0
          · rw [if_pos (show nI P ≤ 0 by rw [hp]; decide)]
            refine ⟨t, rfl, fun _ _ _ => rfl, fun _ _ => rfl, ?_, ?_⟩
            · unfold q_sn
              rw [if_pos (Or.inr hp)]
              exact h0
            · unfold q_ch
              rw [if_pos (Or.inr hp)]
              exact L
          · rw [if_neg (nI_nle (by omega) (by omega))]
            obtain ⟨u, e1, e2, e3, e4, e5⟩ := m_chance S hB hP (by omega) (by omega) L G.t h0 hn
            rw [e1]
            exact ⟨u, rfl, e2, e3, e4, e5⟩
      obtain ⟨u, e1, e2, e3, e4, e5⟩ := step
      rw [e1]
      unfold f10_drift_b41
      have S2 := S.of (t := u) (fun k a1 => e2 k (by omega) (by omega)) (e3 2 (by decide)) (e3 6 (by decide))
      have G2 := q_ch_LG (n := n) G
      obtain ⟨v, d1, d2, d3⟩ := m_pass S2 SG e5 G2.t
      rw [d1]
      simp only [q_ob]
      rw [nI_1]
      have e6 : q_ch B P n a 6 0 = a 6 0 := q_ch_6
      obtain ⟨w, g1, g2, g3, g4, g5⟩ := ih (i + 1) (q_sn B P n) v (q_day sh B P (q_ch B P n a)) (by omega) (by omega) (S2.of (fun k a1 => d2 k (by omega)) (congrFun (d2 149 (by decide)) 2) (congrFun (d2 149 (by decide)) 6)) d3 (q_dayg G (by omega)) (by show q_ch B P n a 6 0 + 1 + (N - (i + 1)) ≤ 9060; omega) (by rw [d2 149 (by decide)]; exact e4) (q_sn_lt hn)
      refine ⟨w, g1, fun k a1 a2 => (g2 k a1 a2).trans ((d2 k a1).trans (e2 k a2 a1)), fun j hj => (g3 j hj).trans ((congrFun (d2 149 (by decide)) j).trans (e3 j hj)), ?_, ?_⟩
      · rw [show N - i = (N - (i + 1)) + 1 by omega]
        exact g4
      · rw [show N - i = (N - (i + 1)) + 1 by omega]
        exact g5
theorem q_deed2 {s : sf_Sg} {B P : Nat} {sh a : Nat → Nat → Nat} {z : Int32} (hS : q_IS s B P sh) (hL : q_LG B P a ∧ q_LC s B P 16 a z ∧ q_LM s B P 155 0 a z) (hT : q_IT s) (hF : q_IF s) (hB : q_IB s P) (hU : q_IU s B P) (hM : q_IM s B P) :
    ∃ t, f4_add 16 s = some t ∧ q_SC t B P sh ∧ q_LC t B P 16 a z ∧ (∀ k, k ≠ 27 → (k < 29 ∨ 124 < k) → t k = s k) ∧
      ∀ u : sf_Sg, (∀ k, k ≠ 0 → (k < 16 ∨ 21 < k) → u k = t k) → ∃ v, f10_remember u = some v ∧ q_SM v B P sh ∧ q_LM v B P 155 0 a z ∧
        (∀ k, k ≠ 149 → k ≠ 162 → v k = u k) ∧ (∀ j, j ≠ 26 → v 149 j = u 149 j) ∧
        ∀ (w : sf_Sg) (a' : Nat → Nat → Nat) (z' : Int32), (∀ k, k ≠ 155 → k ≠ 149 → w k = v k) → (∀ j, j ≠ 10 → w 149 j = v 149 j) → q_IO w → q_LG B P a' → q_LC u B P 16 a' z' → q_LM w B P 155 0 a' z' → q_Inv w := by
  obtain ⟨n, A, u1, u2, u3, u4⟩ := hU
  have hB6 := hS.1.1
  have hP5 := hS.1.2.1
  obtain ⟨t, e1, e2, e3⟩ := q_add hB6 hP5 u1 u3 hL.2.1
  refine ⟨t, e1, hS.c.of (fun k a1 a2 => e2 k (by omega) (by omega)), hL.2.1.of (fun k a1 a2 => e2 k (by omega) (by omega)), e2, fun u hu => ?_⟩
  have hus : ∀ k, k ≠ 0 → k ≠ 27 → (k < 16 ∨ (21 < k ∧ k < 29) ∨ 124 < k) → u k = s k := fun k a0 a1 a2 => (hu k a0 (by omega)).trans (e2 k a1 (by omega))
  obtain ⟨v, f1, f2, f3, f4⟩ := q_remember hB6 hP5 u1 (u4.of (hus 162 (by decide) (by decide) (by omega)) (congrFun (hus 149 (by decide) (by decide) (by omega)) 26)) (hL.2.2.of (hus 155 (by decide) (by decide) (by omega)))
  have hvs : ∀ k, k ≠ 0 → k ≠ 27 → k ≠ 149 → k ≠ 162 → (k < 16 ∨ (21 < k ∧ k < 29) ∨ 124 < k) → v k = s k := fun k a0 a1 a2 a3 a4 => (f2 k a2 a3).trans (hus k a0 a1 a4)
  refine ⟨v, f1, hS.m.of (fun k hk => hvs k (by omega) (by omega) (by omega) (by omega) (by omega)) ((f3 2 (by decide)).trans (congrFun (hus 149 (by decide) (by decide) (by omega)) 2)) ((f3 6 (by decide)).trans (congrFun (hus 149 (by decide) (by decide) (by omega)) 6)), hL.2.2.of (hvs 155 (by decide) (by decide) (by decide) (by decide) (by omega)), f2, f3, fun w a' z' hw hw2 hO hG' hC' hM' => ?_⟩
  exact q_fin hS hT hF hB hM hO hus (fun k a1 a2 a3 => (hw k a2 a1).trans (f2 k a1 a3)) (fun j a1 a2 => (hw2 j a2).trans (f3 j a1)) (q_psn_le n) (q_psh_LG u1 u2 hL.1) (e3.of (hu 27 (by decide) (by omega)) (fun k a1 a2 => hu k (by omega) (by omega))) (f4.of (hw 162 (by decide) (by decide)) (hw2 26 (by decide))) hG' hC' hM'
theorem p_drift : st_drift q_Inv := by
  intro s x hI
  obtain ⟨B, P, sh, a, z, hS, hL, hT, hF, hB, hU, hM, hO⟩ := id hI
  have hB6 := hS.1.1
  have hP5 := hS.1.2.1
  rcases q_refuse hS hL x with ⟨n, n1, n2, rfl, h6, r1, r2⟩ | ⟨r, r0, r1, r2⟩
  · obtain ⟨m, hm, em⟩ : ∃ m : Nat, m < 2 ^ 31 ∧ s 0 13 = nI m := by
      rcases q_split (s 0 13) with w | w
      · exact w
      · have h0 := hO.2
        rw [Int32.lt_iff_toInt_lt] at w
        rw [Int32.le_iff_toInt_le] at h0
        omega
    obtain ⟨t, t1, t2, t3, t4, t5⟩ := q_deed2 hS hL hT hF hB hU hM
    obtain ⟨u, u1, u2, u3, u4⟩ := c_driftLoop hS.g (N := n) (by omega) sf_FU 0 m t a (by unfold sf_FU; omega) (by omega) t2 t3 hL.1 (by omega) (by rw [t4 0 (by decide) (by omega)]; exact em) hm
    obtain ⟨v, v1, v2, v3, v4, v5, v6⟩ := t5 u u2
    have em2 : v 149 10 = nI m := by
      rw [v5 10 (by decide), u2 149 (by decide) (by omega), t4 149 (by decide) (by omega), hO.1]
      exact em
    obtain ⟨w, w1, w2, w3, w4, w5⟩ := m_driftLoop hS.g (N := n) (by omega) sf_FU 0 m v a (by unfold sf_FU; omega) (by omega) v2 v3 hL.1 (by omega) em2 hm
    rw [Nat.sub_zero] at u3 u4 w4 w5
    obtain ⟨hG', hlt⟩ := q_dr_ok (sh := sh) n m a hL.1 (by omega) hm
    have hIO : q_IO w := by
      have e0 : w 0 13 = nI (q_dr sh B P n m a).1 := by
        rw [w2 0 (by decide) (by decide), v4 0 (by decide) (by decide)]
        exact u3
      exact ⟨by rw [w4, e0], by rw [e0]; exact nI_pos' hlt⟩
    refine ⟨nI (q_bits P (q_gd (q_dr sh B P n m a).2)), u, w, ?_, ?_, v6 w _ _ w2 w3 hIO hG' u4 w5⟩
    · unfold f9_drift f9_drift_b0
      rw [r1, if_pos rfl, t1]
      simp only [q_ob]
      have u1' : f9_drift_L25 t (nI n) 0 = f9_drift_b47 u := u1
      rw [u1']
      unfold f9_drift_b47
      rw [c_galled (t2.of (fun k a1 a2 => u2 k (by omega) (by omega))) hP5 u4 hG'.t]
      rfl
    · unfold f10_drift f10_drift_b0
      rw [r2 u (by rw [u2 149 (by decide) (by omega), t4 149 (by decide) (by omega)]) (by rw [u2 155 (by decide) (by omega), t4 155 (by decide) (by omega)])]
      simp only [q_ob]
      rw [if_pos trivial, v1]
      simp only [q_ob]
      have w1' : f10_drift_L18 v (nI n) 0 = f10_drift_b51 w := w1
      rw [w1']
      unfold f10_drift_b51
      rw [m_galled (v2.of (fun k a1 => w2 k (by omega) (by omega)) (w3 2 (by decide)) (w3 6 (by decide))) hP5 w5 hG'.t]
      rfl
  · refine ⟨r, s, s, ?_, ?_, hI⟩
    · unfold f9_drift f9_drift_b0
      rw [r1, if_neg r0]
    · unfold f10_drift f10_drift_b0
      rw [r2]
      simp only [q_ob]
      rw [if_neg r0]
