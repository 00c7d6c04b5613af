def q_ws (v : Nat → Nat) : Nat → Nat
  | 0 => 0
  | i + 1 => if i = 0 then 0 else if v (q_ws v i) < v i then i else q_ws v i
theorem q_ws_1 (v : Nat → Nat) : q_ws v 1 = 0 := rfl
theorem q_ws_s (v : Nat → Nat) {i : Nat} (h : 1 ≤ i) : q_ws v (i + 1) = if v (q_ws v i) < v i then i else q_ws v i := by
  show (if i = 0 then 0 else _) = _
  rw [if_neg (by omega)]
theorem q_ws_lt (v : Nat → Nat) : ∀ i, 1 ≤ i → q_ws v i < i
  | 0, h => by omega
  | i + 1, _ => by
    by_cases h : i = 0
    · subst h
      exact Nat.zero_lt_one
    · rw [q_ws_s v (by omega)]
      have := q_ws_lt v i (by omega)
      split <;> omega
theorem q_nm1 (n : Nat) (h : n ≤ 2000000) : ¬ nI n ≤ -1 := by
  rw [Int32.le_iff_toInt_le, nI_toInt (by omega)]
  have : (-1 : Int32).toInt = -1 := by decide
  omega
theorem p_worst : st_worst q_Inv := by
  intro s x1 x2 hI
  obtain ⟨B, P, sh, a, z, hS, hL, hT, hF, hB, hU, hM, hO⟩ := id hI
  have hB6 := hS.1.1
  have hP5 := hS.1.2.1
  have h6 := hL.1.2.2
  have e1 : f10_in x1.toInt64 1 60 = f9_within x1 1 60 := q_in x1 1 60
  have e2 : f10_in x2.toInt64 0 1 = f9_within x2 0 1 := q_in x2 0 1
  rcases q_within x1 (a := 1) (b := 60) (by decide) (by decide) with ⟨n, n1, n2, rfl, n3⟩ | n3
  · have n3' : ¬ f9_within (nI n) 1 60 = 0 := by
      have : f9_within (nI n) 1 60 = 1 := n3
      rw [this]
      exact q_b1
    by_cases m3 : f9_within x2 0 1 = 0
    · refine ⟨-1000000002, s, ?_, ?_, hI⟩
      · unfold f9_worst f9_worst_b0
        rw [if_neg n3', if_pos m3]
      · unfold f10_worst f10_worst_b0
        rw [e1, if_neg n3', e2, if_pos m3]
    · by_cases ho : s 10 0 = 0
      · refine ⟨-1000000003, s, ?_, ?_, hI⟩
        · unfold f9_worst f9_worst_b0
          rw [if_neg n3', if_neg m3, if_pos ho]
        · unfold f10_worst f10_worst_b0
          rw [e1, if_neg n3', e2, if_neg m3, hS.1.2.2.2.2.2.2.2, if_pos ho]
      · obtain ⟨t, t1, t2, t3, t4⟩ := m_copyRow (s := s) 155 31 163 31 31 (by decide) (by decide) (by decide) (by decide) (by decide)
        have vle : ∀ i, q_all sh a B P (a 6 0 + i) ≤ 3000 := fun i => q_all_le hS.g (fun g hg => (hL.1.1 g hg).2.1)
        have cv : ∀ i, i ≤ 60 → f6_gallingOfAll s (s 16 0 + nI i) = some (nI (q_all sh a B P (a 6 0 + i))) := by
          intro i hi
          rw [show s 16 0 = nI (a 6 0) from hL.2.1.2.2.2, nI_add]
          exact c_all hS.c hS.g hL.2.1 hL.1.t (by omega)
        have ck : ∀ (f i : Nat), n < f + i → 1 ≤ i → i ≤ n → sf_it (f6_worstBehind_b7 s) (fun _ _ _ _ => none) f (nI n) (nI (q_ws (fun i => q_all sh a B P (a 6 0 + i)) i)) (nI (q_all sh a B P (a 6 0 + q_ws (fun i => q_all sh a B P (a 6 0 + i)) i))) (nI i) = some (nI (q_ws (fun i => q_all sh a B P (a 6 0 + i)) n)) := by
          intro f
          induction f with
          | zero => intro i h1 h2; omega
          | succ f ih =>
            intro i h1 h2 h3
            rw [q_it]
            generalize sf_it (f6_worstBehind_b7 s) (fun _ _ _ _ => none) f = K at ih ⊢
            unfold f6_worstBehind_b7 f6_worstBehind_b41
            by_cases hi : i = n
            · subst hi
              rw [if_pos (nI_le (Nat.le_refl _) (by omega))]
            · rw [if_neg (nI_ge (show i < n by omega) (by omega)), cv i (by omega)]
              have st := ih (i + 1) (by omega) (by omega) (by omega)
              rw [q_ws_s _ h2] at st
              have b1 := vle i
              have b2 := vle (q_ws (fun i => q_all sh a B P (a 6 0 + i)) i)
              generalize hw : q_ws (fun i => q_all sh a B P (a 6 0 + i)) i = W at st b2 ⊢
              have c : (nI (q_all sh a B P (a 6 0 + i)) ≤ nI (q_all sh a B P (a 6 0 + W))) = (q_all sh a B P (a 6 0 + i) ≤ q_all sh a B P (a 6 0 + W)) := q_le (by omega) (by omega)
              simp only [q_ob, c]
              rw [nI_1]
              by_cases hv : q_all sh a B P (a 6 0 + i) ≤ q_all sh a B P (a 6 0 + W)
              · rw [if_neg (show ¬ q_all sh a B P (a 6 0 + W) < q_all sh a B P (a 6 0 + i) by omega)] at st
                rw [if_pos hv]
                exact st
              · rw [if_pos (show q_all sh a B P (a 6 0 + W) < q_all sh a B P (a 6 0 + i) by omega)] at st
                rw [if_neg hv]
                exact st
        have c0 : f6_worstBehind s (nI n) = some (nI (q_ws (fun i => q_all sh a B P (a 6 0 + i)) n)) := by
          have := ck 1999999 1 (by omega) (by omega) (by omega)
          show sf_it (f6_worstBehind_b7 s) (fun _ _ _ _ => none) (1999999 + 1) (nI n) 0 (-1) 0 = _
          rw [q_it]
          generalize sf_it (f6_worstBehind_b7 s) (fun _ _ _ _ => none) 1999999 = K at this ⊢
          unfold f6_worstBehind_b7 f6_worstBehind_b41
          have cv0 := cv 0 (by omega)
          rw [show nI 0 = 0 from rfl] at cv0
          rw [if_neg (show ¬ nI n ≤ 0 from nI_nle (by omega) (by omega)), cv0]
          simp only [q_ob]
          rw [if_neg (q_nm1 _ (by have := vle 0; omega))]
          exact this
        have mk : ∀ (f i : Nat) (u : sf_Sg), n < f + i → 1 ≤ i → i ≤ n → (∀ k, k ≠ 155 → u k = t k) → q_LM u B P 155 0 (q_days sh B P i a) z → ∃ w, sf_it f10_worst_b56 (fun _ _ _ _ _ _ => none) f u (nI n) x2 (nI (q_ws (fun i => q_all sh a B P (a 6 0 + i)) i)) (nI (q_all sh a B P (a 6 0 + q_ws (fun i => q_all sh a B P (a 6 0 + i)) i))) (nI i) = f10_worst_b108 w x2 (nI (q_ws (fun i => q_all sh a B P (a 6 0 + i)) n)) (nI (q_all sh a B P (a 6 0 + q_ws (fun i => q_all sh a B P (a 6 0 + i)) n))) ∧ (∀ k, k ≠ 155 → w k = t k) := by
          intro f
          induction f with
          | zero => intro i u h1 h2; omega
          | succ f ih =>
            intro i u h1 h2 h3 h4 h5
            rw [q_it]
            generalize sf_it f10_worst_b56 (fun _ _ _ _ _ _ => none) f = K at ih ⊢
            unfold f10_worst_b56 f10_worst_b81 f10_worst_b96
            by_cases hi : i = n
            · subst hi
              rw [if_pos (nI_le (Nat.le_refl _) (by omega))]
              exact ⟨u, rfl, h4⟩
            · have S' : q_SM u B P sh := hS.m.of (fun k a1 => by rw [h4 k (by omega), t2 k (by omega)]) (by rw [h4 149 (by decide), t2 149 (by decide)]) (by rw [h4 149 (by decide), t2 149 (by decide)])
              have LT := q_days_LT (sh := sh) i a hL.1.t (by omega)
              have ea : f10_allGalling u = some (nI (q_all sh a B P (a 6 0 + i))) := by
                rw [m_all S' hS.g h5 LT, q_days_6, q_all_a (q_days_c i a)]
              obtain ⟨v, d1, d2, d3⟩ := m_pass S' hS.g h5 LT
              rw [if_neg (nI_ge (show i < n by omega) (by omega)), ea, d1]
              have st := ih (i + 1) v (by omega) (by omega) (by omega) (fun k hk => (d2 k hk).trans (h4 k hk)) (by rw [q_days_s]; exact d3)
              rw [q_ws_s _ h2] at st
              have b1 := vle i
              have b2 := vle (q_ws (fun i => q_all sh a B P (a 6 0 + i)) i)
              generalize hw : q_ws (fun i => q_all sh a B P (a 6 0 + i)) i = W at st b2 ⊢
              have c : (nI (q_all sh a B P (a 6 0 + i)) ≤ nI (q_all sh a B P (a 6 0 + W))) = (q_all sh a B P (a 6 0 + i) ≤ q_all sh a B P (a 6 0 + W)) := q_le (by omega) (by omega)
              simp only [q_ob, c]
              rw [nI_1]
              by_cases hv : q_all sh a B P (a 6 0 + i) ≤ q_all sh a B P (a 6 0 + W)
              · simp only [if_neg (show ¬ q_all sh a B P (a 6 0 + W) < q_all sh a B P (a 6 0 + i) by omega)] at st
                simp only [if_pos hv]
                exact st
              · simp only [if_pos (show q_all sh a B P (a 6 0 + W) < q_all sh a B P (a 6 0 + i) by omega)] at st
                simp only [if_neg hv]
                exact st
        have m0 : ∃ w, f10_worst_L56 t (nI n) x2 (-1) (-1) 0 = f10_worst_b108 w x2 (nI (q_ws (fun i => q_all sh a B P (a 6 0 + i)) n)) (nI (q_all sh a B P (a 6 0 + q_ws (fun i => q_all sh a B P (a 6 0 + i)) n))) ∧ (∀ k, k ≠ 155 → w k = t k) := by
          show ∃ w, sf_it f10_worst_b56 (fun _ _ _ _ _ _ => none) (1999999 + 1) t (nI n) x2 (-1) (-1) 0 = _ ∧ _
          rw [q_it]
          have L0 : q_LM t B P 155 0 a z := hL.2.2.of (t2 155 (by decide))
          have S' : q_SM t B P sh := hS.m.of (fun k a1 => t2 k (by omega)) (by rw [t2 149 (by decide)]) (by rw [t2 149 (by decide)])
          have ea : f10_allGalling t = some (nI (q_all sh a B P (a 6 0))) := m_all S' hS.g L0 hL.1.t
          obtain ⟨v, d1, d2, d3⟩ := m_pass S' hS.g L0 hL.1.t
          have := mk 1999999 1 v (by omega) (by omega) (by omega) d2 d3
          generalize sf_it f10_worst_b56 (fun _ _ _ _ _ _ => none) 1999999 = K at this ⊢
          unfold f10_worst_b56 f10_worst_b81 f10_worst_b96
          rw [if_neg (show ¬ nI n ≤ 0 from nI_nle (by omega) (by omega)), ea, d1]
          simp only [q_ob]
          have nn : ¬ nI (q_all sh a B P (a 6 0)) ≤ -1 := q_nm1 _ (by have := vle 0; rw [Nat.add_zero] at this; omega)
          simp only [if_neg nn]
          exact this
        obtain ⟨w, w1, w2⟩ := m0
        obtain ⟨y, y1, y2, y3, y4⟩ := m_copyRow (s := w) 163 31 155 31 31 (by decide) (by decide) (by decide) (by decide) (by decide)
        have y1' : f10_copyRow 163 31 155 31 w 31 = some y := y1
        have t1' : f10_copyRow 155 31 163 31 s 31 = some t := t1
        have hy : q_Inv y := by
          refine q_stay hI (fun k hk => ?_) ?_ (fun j hj => ?_) (fun j hj => ?_)
          · rw [y2 k (by omega), w2 k (by omega), t2 k (by omega)]
          · rw [y2 125 (by decide), w2 125 (by decide), t2 125 (by decide)]
          · rw [y2 149 (by decide), w2 149 (by decide), t2 149 (by decide)]
          · rw [y3 j hj, w2 163 (by decide), t3 j hj]
        have wl := q_ws_lt (fun i => q_all sh a B P (a 6 0 + i)) n n1
        refine ⟨if x2 = 0 then nI (q_ws (fun i => q_all sh a B P (a 6 0 + i)) n) else nI (q_all sh a B P (a 6 0 + q_ws (fun i => q_all sh a B P (a 6 0 + i)) n)), y, ?_, ?_, hy⟩
        · unfold f9_worst f9_worst_b0
          rw [if_neg n3', if_neg m3, if_neg ho, c0]
          simp only [q_ob]
          by_cases hx : x2 = 0
          · rw [if_pos hx, if_pos hx]
          · rw [if_neg hx, if_neg hx, cv _ (by omega)]
            rfl
        · unfold f10_worst f10_worst_b0
          rw [e1, if_neg n3', e2, if_neg m3, hS.1.2.2.2.2.2.2.2, if_neg ho, t1']
          simp only [q_ob]
          rw [w1]
          unfold f10_worst_b108
          rw [y1']
          simp only [q_ob]
          by_cases hx : x2 = 0
          · rw [if_pos hx, if_pos hx]
          · rw [if_neg hx, if_neg hx]
  · have n3' : f9_within x1 1 60 = 0 := n3
    refine ⟨-1000000002, s, ?_, ?_, hI⟩
    · unfold f9_worst f9_worst_b0
      rw [if_pos n3']
    · unfold f10_worst f10_worst_b0
      rw [e1, if_pos n3']
