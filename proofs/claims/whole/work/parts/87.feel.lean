-- bits beyond six
theorem q_shr {m e : Nat} (hm : m < 2 ^ 31) (he : e < 31) : nI m >>> (nI e &&& 31) = nI (m / 2 ^ e) := by
  have h3 : ∀ e, e < 31 → ((nI e &&& 31).toBitVec.smod 32).toNat = e := by decide +kernel
  have h4 : m / 2 ^ e ≤ m := Nat.div_le_self _ _
  apply Int32.toInt_inj.mp
  show ((nI m).toBitVec.sshiftRight' ((nI e &&& 31).toBitVec.smod 32)).toInt = _
  rw [BitVec.toInt_sshiftRight', h3 e he, Int.shiftRight_eq_div_pow, nI_toInt (by omega)]
  have h5 : (nI m).toBitVec.toInt = (m : Int) := nI_toInt hm
  rw [h5]
  exact (Int.natCast_ediv m (2 ^ e)).symm
theorem q_hasL {m e : Nat} (hm : m < 2 ^ 31) (he : e < 31) : f9_has (nI m) (nI e) = if m.testBit e then 1 else 0 := by
  unfold f9_has f9_has_b0
  have h1 : nI (m / 2 ^ e) &&& 1 = nI (m / 2 ^ e % 2) := fa_mask (m / 2 ^ e) 1
  rw [q_shr hm he, h1, Nat.testBit_eq_decide_div_mod_eq]
  rcases (show m / 2 ^ e % 2 = 0 ∨ m / 2 ^ e % 2 = 1 by omega) with h | h <;> rw [h] <;> rfl
theorem q_shlL : ∀ g, g < 30 → (1 : Int32) <<< (nI g &&& 31) = nI (2 ^ g) := by decide +kernel
theorem q_orL {x g : Nat} (hx : x < 2 ^ g) : nI x ||| nI (2 ^ g) = nI (x + 2 ^ g) := by
  have e : x + 2 ^ g = 2 ^ g ||| x := by
    have := Nat.two_pow_add_eq_or_of_lt hx 1
    rw [Nat.mul_one] at this
    omega
  rw [e, Nat.or_comm]
  exact fa_or x (2 ^ g)
theorem q_bits_z {f : Nat → Bool} : ∀ {n : Nat}, (∀ i, i < n → f i = false) → q_bits n f = 0
  | 0, _ => rfl
  | n + 1, h => by
    show q_bits n f + (if f n then 2 ^ n else 0) = 0
    rw [q_bits_z (fun i hi => h i (by omega)), h n (by omega)]
    rfl
-- what one feels
def q_FC (s : sf_Sg) (n : Nat) (X Y V : Nat → Nat) : Prop := s 125 0 = nI n ∧ ∀ i, i < n → s 127 i = nI (X i) ∧ s 128 i = nI (Y i) ∧ s 129 i = nI (V i)
def q_FM (s : sf_Sg) (n : Nat) (X Y V : Nat → Nat) : Prop := s 149 32 = nI n ∧ ∀ i, i < n → s 165 i = nI (X i) ∧ s 166 i = nI (Y i) ∧ s 167 i = nI (V i)
def q_FG (n : Nat) (X Y V : Nat → Nat) : Prop := n ≤ 6 ∧ ∀ i, i < n → X i ≤ 99 ∧ Y i ≤ 30 ∧ V i ≤ 99
theorem q_IF.f {s : sf_Sg} (h : q_IF s) : ∃ n X Y V, q_FG n X Y V ∧ q_FC s n X Y V ∧ q_FM s n X Y V := by
  obtain ⟨n, h1, h2, h3, h4⟩ := h
  refine ⟨n, fun i => (s 127 i).toNatClampNeg, fun i => (s 128 i).toNatClampNeg, fun i => (s 129 i).toNatClampNeg, ⟨h1, fun i hi => ?_⟩, ⟨h2, fun i hi => ?_⟩, ⟨h3, fun i hi => ?_⟩⟩
  · obtain ⟨⟨g1, x, x1, x2, x3⟩, ⟨g2, y, y1, y2⟩, g3, v, v1, v2⟩ := h4 i hi
    show (s 127 i).toNatClampNeg ≤ 99 ∧ (s 128 i).toNatClampNeg ≤ 30 ∧ (s 129 i).toNatClampNeg ≤ 99
    rw [x3, y2, v2, nI_clamp (by omega), nI_clamp (by omega), nI_clamp (by omega)]
    exact ⟨x2, y1, v1⟩
  · obtain ⟨⟨g1, x, x1, x2, x3⟩, ⟨g2, y, y1, y2⟩, g3, v, v1, v2⟩ := h4 i hi
    show s 127 i = nI (s 127 i).toNatClampNeg ∧ s 128 i = nI (s 128 i).toNatClampNeg ∧ s 129 i = nI (s 129 i).toNatClampNeg
    rw [x3, y2, v2, nI_clamp (by omega), nI_clamp (by omega), nI_clamp (by omega)]
    exact ⟨rfl, rfl, rfl⟩
  · obtain ⟨⟨g1, x, x1, x2, x3⟩, ⟨g2, y, y1, y2⟩, g3, v, v1, v2⟩ := h4 i hi
    show s 165 i = nI (s 127 i).toNatClampNeg ∧ s 166 i = nI (s 128 i).toNatClampNeg ∧ s 167 i = nI (s 129 i).toNatClampNeg
    rw [g1, g2, g3, x3, y2, v2, nI_clamp (by omega), nI_clamp (by omega), nI_clamp (by omega)]
    exact ⟨rfl, rfl, rfl⟩
def q_ag (n : Nat) (X Y V : Nat → Nat) (w e : Nat) : Bool := decide (∀ i, i < n → (w - X i) + (e - Y i) = V i)
theorem q_FC.of {s t : sf_Sg} {n : Nat} {X Y V : Nat → Nat} (h : q_FC s n X Y V) (h1 : t 125 0 = s 125 0) (h2 : t 127 = s 127) (h3 : t 128 = s 128) (h4 : t 129 = s 129) : q_FC t n X Y V := by
  unfold q_FC at h ⊢
  rw [h1, h2, h3, h4]
  exact h
theorem q_FM.of {s t : sf_Sg} {n : Nat} {X Y V : Nat → Nat} (h : q_FM s n X Y V) (h1 : t 149 32 = s 149 32) (h2 : t 165 = s 165) (h3 : t 166 = s 166) (h4 : t 167 = s 167) : q_FM t n X Y V := by
  unfold q_FM at h ⊢
  rw [h1, h2, h3, h4]
  exact h
theorem c_agrees {s : sf_Sg} {n : Nat} {X Y V : Nat → Nat} (G : q_FG n X Y V) (H : q_FC s n X Y V) {w e : Nat} (hw : w ≤ 100) (he : e ≤ 100) : f1_agrees s (nI w) (nI e) = some (if q_ag n X Y V w e then 1 else 0) := by
  have hn := G.1
  have key : ∀ (f i : Nat), n < f + i → i ≤ n → (∀ j, j < i → (w - X j) + (e - Y j) = V j) → sf_it (f1_agrees_b2 s) (fun _ _ _ => none) f (nI w) (nI e) (nI i) = some (if q_ag n X Y V w e then 1 else 0) := by
    intro f
    induction f with
    | zero => intro i h1 h2; omega
    | succ f ih =>
      intro i h1 h2 h3
      rw [q_it]
      generalize sf_it (f1_agrees_b2 s) (fun _ _ _ => none) f = K at ih ⊢
      unfold f1_agrees_b2
      rw [H.1]
      by_cases hi : i = n
      · subst hi
        have : q_ag i X Y V w e = true := decide_eq_true h3
        rw [if_pos (nI_le (Nat.le_refl _) (by omega)), this]
        rfl
      · have hlt : i < n := by omega
        obtain ⟨a1, a2, a3⟩ := H.2 i hlt
        obtain ⟨b1, b2, b3⟩ := G.2 i hlt
        rw [if_neg (nI_ge hlt (by omega)), q_ld (k := 127) (show i < 6 by omega) (by decide), q_ld (k := 128) (show i < 6 by omega) (by decide), q_ld (k := 129) (show i < 6 by omega) (by decide), a1, a2, a3]
        simp only [q_ob]
        rw [q_max0 (by omega) (by omega), q_max0 (by omega) (by omega), nI_add, nI_1]
        simp only [q_eq (show w - X i + (e - Y i) ≤ 2000000 by omega) (show V i ≤ 2000000 by omega)]
        by_cases h4 : w - X i + (e - Y i) = V i
        · rw [if_pos h4]
          refine ih (i + 1) (by omega) (by omega) (fun j hj => ?_)
          by_cases hj2 : j = i
          · subst hj2
            exact h4
          · exact h3 j (by omega)
        · have : q_ag n X Y V w e = false := decide_eq_false (fun h => h4 (h i hlt))
          rw [if_neg h4, this]
          rfl
  exact key sf_FU 0 (by unfold sf_FU; omega) (by omega) (fun j hj => absurd hj (by omega))
def q_aj (n : Nat) (X Y V : Nat → Nat) (j : Nat) : Bool := q_ag n X Y V (j / 21 + 1) (j % 21)
theorem q_aj_at {n : Nat} {X Y V : Nat → Nat} {w e : Nat} (he : e < 21) : q_aj n X Y V (21 * w + e) = q_ag n X Y V (w + 1) e := by
  unfold q_aj
  rw [show (21 * w + e) / 21 = w by omega, show (21 * w + e) % 21 = e by omega]
theorem m_gallsBy {j x y : Nat} (hj : j ≤ 10000) (hx : x ≤ 1000) (hy : y ≤ 1000) : f10_gallsBy (nI j) (nI x) (nI y) = nI ((j / 21 + 1 - x) + (j % 21 - y)) := by
  unfold f10_gallsBy f10_gallsBy_b0
  rw [show (21 : Int32) = nI 21 from rfl, pk_div (by omega) (by decide) (by decide), nI_1, q_nb (by omega) (by omega)]
  have : sf_rem (nI j) (nI 21) = nI (j % 21) := pk_rem (by omega) (by decide) (by decide)
  rw [this, q_nb (by omega) (by omega), nI_add]
theorem q_bo1 : sf_bo 1 = some 1 := by unfold sf_bo; rw [if_pos (Or.inr rfl)]
theorem q_bo0 : sf_bo 0 = some 0 := by unfold sf_bo; rw [if_pos (Or.inl rfl)]
theorem m_couldBe {s : sf_Sg} {n : Nat} {X Y V : Nat → Nat} (G : q_FG n X Y V) (H : q_FM s n X Y V) {j : Nat} (hj : j ≤ 10000) : f10_couldBe s (nI j) = some (if q_aj n X Y V j then 1 else 0) := by
  have hn := G.1
  have key : ∀ (f i : Nat) (x : Int32), n < f + i → i ≤ n → ((x = 1 ∧ ∀ i', i' < i → (j / 21 + 1 - X i') + (j % 21 - Y i') = V i') ∨ (x = 0 ∧ q_aj n X Y V j = false)) → sf_it (f10_couldBe_b4 s) (fun _ _ _ => none) f (nI j) x (nI i) = some (if q_aj n X Y V j then 1 else 0) := by
    intro f
    induction f with
    | zero => intro i x h1 h2; omega
    | succ f ih =>
      intro i x h1 h2 h3
      rw [q_it]
      generalize sf_it (f10_couldBe_b4 s) (fun _ _ _ => none) f = K at ih ⊢
      unfold f10_couldBe_b4 f10_couldBe_b46
      rw [H.1]
      rcases h3 with ⟨rfl, h3⟩ | ⟨rfl, h3⟩
      · rw [q_bo1, if_neg q_b1]
        by_cases hi : i = n
        · subst hi
          have : q_aj i X Y V j = true := decide_eq_true h3
          rw [if_pos (nI_le (Nat.le_refl _) (by omega)), this]
          rfl
        · have hlt : i < n := by omega
          obtain ⟨a1, a2, a3⟩ := H.2 i hlt
          obtain ⟨b1, b2, b3⟩ := G.2 i hlt
          rw [if_neg (nI_ge hlt (by omega)), q_ld (k := 165) (show i < 6 by omega) (by decide), q_ld (k := 166) (show i < 6 by omega) (by decide), q_ld (k := 167) (show i < 6 by omega) (by decide), a1, a2, a3]
          simp only [q_ob]
          rw [m_gallsBy hj (by omega) (by omega), nI_1]
          simp only [q_eq (show j / 21 + 1 - X i + (j % 21 - Y i) ≤ 2000000 by omega) (show V i ≤ 2000000 by omega)]
          by_cases h4 : j / 21 + 1 - X i + (j % 21 - Y i) = V i
          · rw [if_pos h4]
            refine ih (i + 1) 1 (by omega) (by omega) (Or.inl ⟨rfl, fun i' hi' => ?_⟩)
            by_cases e : i' = i
            · subst e
              exact h4
            · exact h3 i' (by omega)
          · have : q_aj n X Y V j = false := decide_eq_false (fun h => h4 (h i hlt))
            rw [if_neg h4]
            exact ih (i + 1) 0 (by omega) (by omega) (Or.inr ⟨rfl, this⟩)
      · rw [q_bo0, if_pos rfl, h3]
        split <;> rfl
  exact key sf_FU 0 1 (by unfold sf_FU; omega) (by omega) (Or.inl ⟨rfl, fun j hj => absurd hj (by omega)⟩)
def q_cn (n : Nat) (X Y V : Nat → Nat) (J : Nat) : Nat := q_sm J (fun j => if q_aj n X Y V j then 1 else 0)
theorem q_cn_le {n : Nat} {X Y V : Nat → Nat} (J : Nat) : q_cn n X Y V J ≤ J := by
  have := q_sm_le (n := J) (c := 1) (f := fun j => if q_aj n X Y V j then 1 else 0) (fun j _ => by
    show (if q_aj n X Y V j then 1 else 0) ≤ 1
    split <;> omega)
  unfold q_cn
  omega
theorem q_60 {w : Nat} (h : w ≤ 1000) : ((60 : Int32) < nI w) = (60 < w) := q_lt (a := 60) (by decide) (by omega)
theorem q_20 {w : Nat} (h : w ≤ 1000) : ((20 : Int32) < nI w) = (20 < w) := q_lt (a := 20) (by decide) (by omega)
def q_mw (n : Nat) (X Y V : Nat → Nat) (w : Nat) : Nat := q_bits 21 (fun e => q_ag n X Y V w e)
theorem q_mw_lt {n : Nat} {X Y V : Nat → Nat} {w : Nat} : q_mw n X Y V w < 2 ^ 21 := q_bits_lt _ 21
theorem c_findPairs {s : sf_Sg} {n : Nat} {X Y V : Nat → Nat} (G : q_FG n X Y V) (H : q_FC s n X Y V) : ∃ t, f1_findPairs s = some t ∧ (∀ k, k ≠ 125 → k ≠ 126 → t k = s k) ∧ t 125 0 = s 125 0 ∧ t 125 1 = nI (q_cn n X Y V 1260) ∧ ∀ w, 1 ≤ w → w ≤ 60 → t 126 w = nI (q_mw n X Y V w) := by
  have inner : ∀ (K : sf_Sg → Int32 → Option sf_Sg) (w : Nat), w < 60 → ∀ (f e : Nat) (t : sf_Sg), 21 < f + e → e ≤ 21 → q_FC t n X Y V → t 125 1 = nI (q_cn n X Y V (21 * w + e)) → ∃ t', sf_it (f1_findPairs_b17 K) (fun _ _ _ _ => none) f t (nI (w + 1)) (nI (q_bits e (fun e => q_ag n X Y V (w + 1) e))) (nI e) = K (sf_s1 t' 126 (w + 1) (nI (q_mw n X Y V (w + 1)))) (nI (w + 2)) ∧ (∀ k, k ≠ 125 → t' k = t k) ∧ t' 125 0 = t 125 0 ∧ t' 125 1 = nI (q_cn n X Y V (21 * w + 21)) := by
    intro K w hw f
    induction f with
    | zero => intro e t h1 h2; omega
    | succ f ih =>
      intro e t h1 h2 H h3
      rw [q_it]
      generalize sf_it (f1_findPairs_b17 K) (fun _ _ _ _ => none) f = M at ih ⊢
      unfold f1_findPairs_b17 f1_findPairs_b54 f1_findPairs_b48
      simp only [q_20 (show e ≤ 1000 by omega)]
      by_cases he : e = 21
      · subst he
        rw [if_pos (by decide), q_st (show w + 1 < 61 by omega) (by decide)]
        simp only [q_ob]
        rw [nI_1]
        exact ⟨t, rfl, fun _ _ => rfl, rfl, h3⟩
      · have hlt : e < 21 := by omega
        rw [if_neg (by omega), c_agrees G H (by omega) (by omega)]
        simp only [q_ob]
        have eb : q_bits (e + 1) (fun e => q_ag n X Y V (w + 1) e) = q_bits e (fun e => q_ag n X Y V (w + 1) e) + (if q_ag n X Y V (w + 1) e then 2 ^ e else 0) := rfl
        have ec : q_cn n X Y V (21 * w + (e + 1)) = q_cn n X Y V (21 * w + e) + (if q_ag n X Y V (w + 1) e then 1 else 0) := by
          rw [← q_aj_at hlt]
          rfl
        rw [nI_1]
        by_cases ha : q_ag n X Y V (w + 1) e = true
        · rw [if_pos ha] at eb ec
          rw [if_pos ha, if_neg q_b1, q_shlL e (by omega), q_orL (q_bits_lt _ e), ← eb, h3, nI_1, ← ec]
          obtain ⟨t', e1, e2, e3, e4⟩ := ih (e + 1) (sf_s1 t 125 1 (nI (q_cn n X Y V (21 * w + (e + 1))))) (by omega) (by omega) (H.of (q_s1i (by decide)) (q_s1k (by decide)) (q_s1k (by decide)) (q_s1k (by decide))) q_s1s
          exact ⟨t', e1, fun k hk => (e2 k hk).trans (q_s1k hk), e3.trans (q_s1i (by decide)), e4⟩
        · rw [if_neg ha] at eb ec
          rw [if_neg ha, if_pos rfl]
          have eb' : q_bits (e + 1) (fun e => q_ag n X Y V (w + 1) e) = q_bits e (fun e => q_ag n X Y V (w + 1) e) := eb
          have ec' : q_cn n X Y V (21 * w + (e + 1)) = q_cn n X Y V (21 * w + e) := ec
          rw [← eb']
          exact ih (e + 1) t (by omega) (by omega) H (by rw [h3, ec'])
  have outer : ∀ (f w : Nat) (t : sf_Sg), 60 < f + w → w ≤ 60 → q_FC t n X Y V → t 125 1 = nI (q_cn n X Y V (21 * w)) → (∀ w', 1 ≤ w' → w' ≤ w → t 126 w' = nI (q_mw n X Y V w')) → ∃ t', sf_it f1_findPairs_b7 (fun _ _ => none) f t (nI (w + 1)) = some t' ∧ (∀ k, k ≠ 125 → k ≠ 126 → t' k = t k) ∧ t' 125 0 = t 125 0 ∧ t' 125 1 = nI (q_cn n X Y V 1260) ∧ ∀ w, 1 ≤ w → w ≤ 60 → t' 126 w = nI (q_mw n X Y V w) := by
    intro f
    induction f with
    | zero => intro w t h1 h2; omega
    | succ f ih =>
      intro w t h1 h2 H h3 h4
      rw [q_it]
      generalize sf_it f1_findPairs_b7 (fun _ _ => none) f = K at ih ⊢
      unfold f1_findPairs_b7
      simp only [q_60 (show w + 1 ≤ 1000 by omega)]
      by_cases hw : w = 60
      · subst hw
        rw [if_pos (by decide)]
        exact ⟨t, rfl, fun _ _ _ => rfl, rfl, h3, h4⟩
      · rw [if_neg (by omega)]
        obtain ⟨t', e1, e2, e3, e4⟩ := inner K w (by omega) sf_FU 0 t (by unfold sf_FU; omega) (by omega) H (by rw [Nat.add_zero]; exact h3)
        have e1' : f1_findPairs_L17 K t (nI (w + 1)) 0 0 = _ := e1
        rw [e1']
        obtain ⟨u, g1, g2, g3, g4, g5⟩ := ih (w + 1) (sf_s1 t' 126 (w + 1) (nI (q_mw n X Y V (w + 1)))) (by omega) (by omega) (H.of ((congrFun (q_s1k (by decide)) 0).trans e3) ((q_s1k (by decide)).trans (e2 127 (by decide))) ((q_s1k (by decide)).trans (e2 128 (by decide))) ((q_s1k (by decide)).trans (e2 129 (by decide)))) (by rw [q_s1k (by decide), e4]; rfl) (fun w' a1 a2 => by
          by_cases hh : w' = w + 1
          · subst hh
            rw [q_s1s]
          · rw [q_s1i hh, e2 126 (by decide)]
            exact h4 w' a1 (by omega))
        exact ⟨u, g1, fun k a1 a2 => (g2 k a1 a2).trans ((q_s1k a2).trans (e2 k a1)), g3.trans ((congrFun (q_s1k (by decide)) 0).trans e3), g4, g5⟩
  obtain ⟨t, e1, e2, e3, e4, e5⟩ := outer sf_FU 0 (sf_s1 s 125 1 0) (by unfold sf_FU; omega) (by omega) (H.of (q_s1i (by decide)) (q_s1k (by decide)) (q_s1k (by decide)) (q_s1k (by decide))) q_s1s (fun w' a1 a2 => absurd a1 (by omega))
  exact ⟨t, e1, fun k a1 a2 => (e2 k a1 a2).trans (q_s1k a1), e3.trans (q_s1i (by decide)), e4, e5⟩
-- the first that fits
def q_ff (n : Nat) (X Y V : Nat → Nat) : Nat := fa_first (q_aj n X Y V) 1260
theorem c_leastWeight {t : sf_Sg} {n : Nat} {X Y V : Nat → Nat} (h : ∀ w, 1 ≤ w → w ≤ 60 → t 126 w = nI (q_mw n X Y V w)) : f1_leastWeight t = some (if q_ff n X Y V = 1260 then -1 else nI (q_ff n X Y V / 21 + 1)) := by
  have hle : q_ff n X Y V ≤ 1260 := fa_first_le _ _
  have hno : ∀ k, k < q_ff n X Y V → q_aj n X Y V k = false := fa_first_no _ _
  have hyes : q_ff n X Y V < 1260 → q_aj n X Y V (q_ff n X Y V) = true := fa_first_yes _ _
  have key : ∀ (f w : Nat), 60 < f + w → w ≤ 60 → 21 * w ≤ q_ff n X Y V → sf_it (f1_leastWeight_b2 t) (fun _ => none) f (nI (w + 1)) = some (if q_ff n X Y V = 1260 then -1 else nI (q_ff n X Y V / 21 + 1)) := by
    intro f
    induction f with
    | zero => intro w h1 h2; omega
    | succ f ih =>
      intro w h1 h2 h3
      rw [q_it]
      generalize sf_it (f1_leastWeight_b2 t) (fun _ => none) f = K at ih ⊢
      unfold f1_leastWeight_b2
      simp only [q_60 (show w + 1 ≤ 1000 by omega)]
      by_cases hw : w = 60
      · subst hw
        rw [if_pos (by decide), if_pos (by omega)]
      · have hlt : w < 60 := by omega
        rw [if_neg (by omega), q_ld (show w + 1 < 61 by omega) (by decide), h (w + 1) (by omega) (by omega)]
        simp only [q_ob]
        have hm := q_mw_lt (n := n) (X := X) (Y := Y) (V := V) (w := w + 1)
        by_cases hz : q_mw n X Y V (w + 1) = 0
        · rw [hz, if_pos (show nI 0 = 0 from rfl), nI_1]
          refine ih (w + 1) (by omega) (by omega) ?_
          by_cases hh : 21 * (w + 1) ≤ q_ff n X Y V
          · exact hh
          · exfalso
            have h1 := hyes (by omega)
            have e1 : q_ff n X Y V = 21 * w + (q_ff n X Y V - 21 * w) := by omega
            rw [e1, q_aj_at (by omega)] at h1
            have h2 := q_bits_test (fun e => q_ag n X Y V (w + 1) e) (q_ff n X Y V - 21 * w) 21 (by omega)
            have h3 : q_bits 21 (fun e => q_ag n X Y V (w + 1) e) = 0 := hz
            rw [h3, Nat.zero_testBit] at h2
            have h4 : q_ag n X Y V (w + 1) (q_ff n X Y V - 21 * w) = false := h2.symm
            rw [h4] at h1
            exact absurd h1 (by decide)
        · rw [if_neg (nI_ne0 (by omega) (by omega))]
          have hh : q_ff n X Y V < 21 * (w + 1) := by
            rcases Nat.lt_or_ge (q_ff n X Y V) (21 * (w + 1)) with g | g
            · exact g
            · exfalso
              refine hz (q_bits_z (fun e he => ?_))
              rw [← q_aj_at he]
              exact hno _ (by omega)
          rw [if_neg (by omega), show q_ff n X Y V / 21 = w by omega]
  exact key sf_FU 0 (by unfold sf_FU; omega) (by omega) (by omega)
theorem c_leastEdge {t : sf_Sg} {n : Nat} {X Y V : Nat → Nat} (h : ∀ w, 1 ≤ w → w ≤ 60 → t 126 w = nI (q_mw n X Y V w)) : f1_leastEdge t = some (if q_ff n X Y V = 1260 then -1 else nI (q_ff n X Y V % 21)) := by
  have hle : q_ff n X Y V ≤ 1260 := fa_first_le _ _
  have hno : ∀ k, k < q_ff n X Y V → q_aj n X Y V k = false := fa_first_no _ _
  have hyes : q_ff n X Y V < 1260 → q_aj n X Y V (q_ff n X Y V) = true := fa_first_yes _ _
  unfold f1_leastEdge f1_leastEdge_b0
  rw [c_leastWeight h]
  simp only [q_ob]
  by_cases hF : q_ff n X Y V = 1260
  · rw [if_pos hF, if_pos hF]
    unfold f1_leastEdge_L7
    rw [show sf_FU = 1999999 + 1 from rfl, q_it]
    unfold f1_leastEdge_b7
    rw [if_pos rfl]
  · rw [if_neg hF, if_neg hF]
    obtain ⟨w, hw⟩ : ∃ w, w = q_ff n X Y V / 21 := ⟨_, rfl⟩
    rw [← hw]
    have key : ∀ (f e : Nat), 21 < f + e → e ≤ q_ff n X Y V % 21 → sf_it (f1_leastEdge_b7 t) (fun _ _ => none) f (nI (w + 1)) (nI e) = some (nI (q_ff n X Y V % 21)) := by
      intro f
      induction f with
      | zero => intro e h1 h2; omega
      | succ f ih =>
        intro e h1 h2
        rw [q_it]
        generalize sf_it (f1_leastEdge_b7 t) (fun _ _ => none) f = K at ih ⊢
        unfold f1_leastEdge_b7
        simp only [q_20 (show e ≤ 1000 by omega)]
        have hm := q_mw_lt (n := n) (X := X) (Y := Y) (V := V) (w := w + 1)
        have hb : (q_mw n X Y V (w + 1)).testBit e = q_ag n X Y V (w + 1) e := q_bits_test _ e 21 (by omega)
        rw [if_neg (q_neg1 _ (by omega)), if_neg (by omega), q_ld (show w + 1 < 61 by omega) (by decide), h (w + 1) (by omega) (by omega)]
        simp only [q_ob]
        rw [q_hasL (by omega) (by omega), hb, nI_1]
        by_cases he : e = q_ff n X Y V % 21
        · have h3 := hyes (by omega)
          rw [show q_ff n X Y V = 21 * w + e by omega, q_aj_at (by omega)] at h3
          rw [h3, if_pos rfl, if_neg q_b1, he]
        · have h3 := hno (21 * w + e) (by omega)
          rw [q_aj_at (by omega)] at h3
          rw [h3]
          exact ih (e + 1) (by omega) (by omega)
    exact key sf_FU 0 (by unfold sf_FU; omega) (by omega)
theorem q_pred (n : Nat) : nI (n + 1) + (-1) = nI n := by
  rw [nI_succ]
  grind
theorem m_carries {s : sf_Sg} {n : Nat} {X Y V : Nat → Nat} (G : q_FG n X Y V) (H : q_FM s n X Y V) (x : Int32) : f10_carries_L24 s x 0 (-1) 1259 = f10_carries_b50 s x (nI (q_cn n X Y V 1260)) (if q_ff n X Y V = 1260 then -1 else nI (q_ff n X Y V)) := by
  have hle : q_ff n X Y V ≤ 1260 := fa_first_le _ _
  have hno : ∀ k, k < q_ff n X Y V → q_aj n X Y V k = false := fa_first_no _ _
  have hyes : q_ff n X Y V < 1260 → q_aj n X Y V (q_ff n X Y V) = true := fa_first_yes _ _
  have key : ∀ (f J c F : Nat), J < f → J ≤ 1260 → c + q_cn n X Y V J = q_cn n X Y V 1260 → (∀ j, J ≤ j → j < F → q_aj n X Y V j = false) → J ≤ F → F ≤ 1260 → (F < 1260 → q_aj n X Y V F = true) → sf_it (f10_carries_b24 s) (fun _ _ _ _ => none) f x (nI c) (if F = 1260 then -1 else nI F) (q_en J) = f10_carries_b50 s x (nI (q_cn n X Y V 1260)) (if q_ff n X Y V = 1260 then -1 else nI (q_ff n X Y V)) := by
    intro f
    induction f with
    | zero => intro J c F h1; omega
    | succ f ih =>
      intro J c F h1 h2 h3 h4 h5 h6 h7
      rw [q_it]
      generalize sf_it (f10_carries_b24 s) (fun _ _ _ _ => none) f = K at ih ⊢
      cases J with
      | zero =>
        have hF : F = q_ff n X Y V := by
          rcases Nat.lt_trichotomy F (q_ff n X Y V) with g | g | g
          · have g1 := h7 (by omega)
            rw [hno F g] at g1
            exact absurd g1 (by decide)
          · exact g
          · have g1 := hyes (by omega)
            rw [h4 _ (by omega) g] at g1
            exact absurd g1 (by decide)
        have hc : c = q_cn n X Y V 1260 := h3
        unfold f10_carries_b24
        rw [q_en_0, if_pos (by decide), hF, hc]
      | succ J =>
        unfold f10_carries_b24 f10_carries_b44
        have hp : nI J + -1 = q_en J := by
          cases J with
          | zero => rfl
          | succ J => rw [q_pred, q_en_s]
        rw [q_en_s, if_neg (q_lt0 (by omega)), m_couldBe G H (by omega), hp]
        simp only [q_ob]
        have ec : q_cn n X Y V (J + 1) = q_cn n X Y V J + (if q_aj n X Y V J then 1 else 0) := rfl
        by_cases ha : q_aj n X Y V J = true
        · rw [if_pos ha] at ec
          rw [if_pos ha, if_neg q_b1, nI_1]
          have := ih J (c + 1) J (by omega) (by omega) (by omega) (fun j a1 a2 => absurd a1 (by omega)) (Nat.le_refl _) (by omega) (fun _ => ha)
          rw [if_neg (show ¬ J = 1260 by omega)] at this
          exact this
        · rw [if_neg ha] at ec
          rw [if_neg ha, if_pos rfl]
          refine ih J c F (by omega) (by omega) (by omega) (fun j a1 a2 => ?_) (by omega) h6 h7
          by_cases e : j = J
          · subst e
            exact Bool.eq_false_iff.mpr ha
          · exact h4 j (by omega) a2
  exact key sf_FU 1260 0 1260 (by unfold sf_FU; omega) (by omega) (Nat.zero_add _) (fun j a1 a2 => absurd a1 (by omega)) (Nat.le_refl _) (Nat.le_refl _) (fun h => absurd h (by omega))
theorem p_carries : st_carries q_Inv := by
  intro s x hI
  have hI' := hI
  obtain ⟨B, P, sh, a, z, hS, hL, hT, hF, hR⟩ := hI
  obtain ⟨n, X, Y, V, G, HC, HM⟩ := hF.f
  have E : f10_in x.toInt64 0 2 = f9_within x 0 2 := q_in x 0 2
  rcases q_within x (a := 0) (b := 2) (by decide) (by decide) with ⟨w, w1, w2, rfl, w3⟩ | w3
  · have w4 : ¬ f9_within (nI w) 0 2 = 0 := q_wy w3
    obtain ⟨t, t1, t2, t3, t4, t5⟩ := c_findPairs G HC
    have hI2 : q_Inv t := q_stay hI' (fun k hk => t2 k (by omega) (by omega)) t3 (fun j _ => congrFun (t2 149 (by decide) (by decide)) j) (fun j _ => congrFun (t2 155 (by decide) (by decide)) j)
    have HM2 : q_FM t n X Y V := HM.of (congrFun (t2 149 (by decide) (by decide)) 32) (t2 165 (by decide) (by decide)) (t2 166 (by decide) (by decide)) (t2 167 (by decide) (by decide))
    have hle : q_ff n X Y V ≤ 1260 := fa_first_le _ _
    have m1 : f10_carries t (nI w) = f10_carries_b50 t (nI w) (nI (q_cn n X Y V 1260)) (if q_ff n X Y V = 1260 then -1 else nI (q_ff n X Y V)) := by
      unfold f10_carries f10_carries_b0
      rw [E, if_neg w4]
      exact m_carries G HM2 _
    have c1 : f9_carries s (nI w) = if nI w = 0 then some (nI (q_cn n X Y V 1260), t) else if nI w = 1 then some ((if q_ff n X Y V = 1260 then -1 else nI (q_ff n X Y V / 21 + 1)), t) else some ((if q_ff n X Y V = 1260 then -1 else nI (q_ff n X Y V % 21)), t) := by
      unfold f9_carries f9_carries_b0
      rw [if_neg w4, t1]
      simp only [q_ob]
      rw [t4, c_leastWeight t5, c_leastEdge t5]
      rfl
    suffices hh : ∃ r, f9_carries s (nI w) = some (r, t) ∧ f10_carries t (nI w) = some r by
      obtain ⟨r, h1, h2⟩ := hh
      exact ⟨r, t, h1, h2, hI2⟩
    rw [c1, m1]
    unfold f10_carries_b50
    by_cases e0 : nI w = 0
    · rw [if_pos e0, if_pos e0]
      exact ⟨_, rfl, rfl⟩
    · rw [if_neg e0, if_neg e0]
      by_cases hf : q_ff n X Y V = 1260
      · rw [if_pos hf, if_pos hf, if_pos hf, if_neg (show ¬ (0 : Int32) ≤ -1 by decide)]
        by_cases e1 : nI w = 1
        · rw [if_pos e1]
          exact ⟨_, rfl, rfl⟩
        · rw [if_neg e1]
          exact ⟨_, rfl, rfl⟩
      · rw [if_neg hf, if_neg hf, if_neg hf, if_pos (nI_pos' (by omega))]
        have d1 : nI (q_ff n X Y V) / 21 + 1 = nI (q_ff n X Y V / 21 + 1) := by
          rw [show (21 : Int32) = nI 21 from rfl, pk_div (by omega) (by decide) (by decide), nI_1]
        have d2 : sf_rem (nI (q_ff n X Y V)) 21 = nI (q_ff n X Y V % 21) := pk_rem (d := 21) (by omega) (by decide) (by decide)
        rw [d1, d2]
        by_cases e1 : nI w = 1
        · rw [if_pos e1, if_pos e1]
          exact ⟨_, rfl, rfl⟩
        · rw [if_neg e1, if_neg e1]
          exact ⟨_, rfl, rfl⟩
  · have w4 : f9_within x 0 2 = 0 := w3
    refine ⟨-1000000002, s, ?_, ?_, hI'⟩
    · unfold f9_carries f9_carries_b0
      rw [if_pos w4]
    · unfold f10_carries f10_carries_b0
      rw [E, if_pos w4]
