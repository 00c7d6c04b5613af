-- in which order one sets down
def q_clr (m g : Nat) : Nat := m - (if m.testBit g then 2 ^ g else 0)
theorem q_clrI : ∀ m, m < 64 → ∀ g, g < 6 → nI m &&& (((1 : Int32) <<< (nI g &&& 31)) ^^^ (-1)) = nI (q_clr m g) := by decide +kernel
theorem q_clr_t : ∀ m, m < 64 → ∀ g, g < 6 → ∀ i, i < 6 → (q_clr m g).testBit i = (m.testBit i && decide (i ≠ g)) := by decide +kernel
theorem q_clr_lt {m g : Nat} (h : m < 64) : q_clr m g < 64 := by
  unfold q_clr
  omega
theorem q_clr_b : ∀ B, B < 7 → ∀ m, m < 64 → ∀ g, g < 6 → q_bits B (fun i => m.testBit i) = m → q_bits B (fun i => (q_clr m g).testBit i) = q_clr m g := by decide +kernel
def q_cb (m n : Nat) : Nat := q_sm n (fun g => if m.testBit g then 1 else 0)
theorem q_cb_le {m n : Nat} : q_cb m n ≤ n := by
  have := q_sm_le (n := n) (c := 1) (f := fun g => if m.testBit g then 1 else 0) (fun g _ => by
    show (if m.testBit g then 1 else 0) ≤ 1
    split <;> omega)
  unfold q_cb
  omega
theorem q_cb_clr {B m g : Nat} (hB : B ≤ 6) (hm : m < 64) (hg : g < B) (hb : m.testBit g = true) : q_cb m B = q_cb (q_clr m g) B + 1 := by
  unfold q_cb
  rw [q_sm_split (f' := fun i => if i = g then 0 else if m.testBit i then 1 else 0) (l := g) (fun i hi => by
    show (if m.testBit i then 1 else 0) = if i = g then 0 else if m.testBit i then 1 else 0
    rw [if_neg hi]) (by
    show (if g = g then 0 else if m.testBit g then 1 else 0) = 0
    rw [if_pos rfl])]
  rw [if_pos hg, if_pos hb, Nat.add_comm]
  congr 1
  refine q_sm_congr (fun i hi => ?_)
  show (if i = g then 0 else if m.testBit i then 1 else 0) = if (q_clr m g).testBit i then 1 else 0
  rw [q_clr_t m hm g (by omega) i (by omega)]
  by_cases e : i = g
  · rw [if_pos e]
    simp [e]
  · rw [if_neg e]
    simp [e]
theorem q_cb_0 {B m : Nat} (hb : q_bits B (fun i => m.testBit i) = m) (h : m ≠ 0) : ∃ g, g < B ∧ m.testBit g = true := by
  rcases Classical.em (∃ g, g < B ∧ m.testBit g = true) with w | w
  · exact w
  · exfalso
    apply h
    rw [← hb]
    refine q_bits_z (fun i hi => ?_)
    rcases Bool.eq_false_or_eq_true (m.testBit i) with e | e
    · exact absurd ⟨i, hi, e⟩ w
    · exact e
theorem q_cb_z {B : Nat} : q_cb 0 B = 0 := by
  unfold q_cb
  rw [q_sm_congr (g := fun _ => 0) (fun i _ => by
    show (if (0 : Nat).testBit i then 1 else 0) = 0
    rw [Nat.zero_testBit]
    rfl), q_sm_zero]
def q_xs (sh a : Nat → Nat → Nat) (B p m x d : Nat) : Nat := if m = 0 then x - 3 else min 9999 (x + q_gal sh a B p (fun g => m.testBit g) d)
def q_run (sh a : Nat → Nat → Nat) (B p : Nat) : Nat → Nat → Nat → Nat → Nat → Nat
  | 0, _, _, x, _ => x
  | k + 1, F, m, x, d => if 1 ≤ F / 10 ^ k % 10 ∧ F / 10 ^ k % 10 ≤ B ∧ m.testBit (F / 10 ^ k % 10 - 1) = true then q_run sh a B p k F (q_clr m (F / 10 ^ k % 10 - 1)) (q_xs sh a B p (q_clr m (F / 10 ^ k % 10 - 1)) x d) (d + 1) else 1000000
theorem q_xs_le {sh a : Nat → Nat → Nat} {B p m x d : Nat} (h : x ≤ 9999) : q_xs sh a B p m x d ≤ 9999 := by
  unfold q_xs
  split <;> omega
theorem q_run_le {sh a : Nat → Nat → Nat} {B p : Nat} : ∀ k F m x d, x ≤ 9999 → q_run sh a B p k F m x d ≤ 1000000
  | 0, F, m, x, d, h => by show x ≤ 1000000; omega
  | k + 1, F, m, x, d, h => by
    show (if _ then q_run sh a B p k F _ _ (d + 1) else 1000000) ≤ 1000000
    split
    · exact q_run_le k F _ _ _ (q_xs_le h)
    · exact Nat.le_refl _
theorem q_fd_congr {c c' : Nat → Nat} {lo : Nat} {st : Nat × Nat} : ∀ n, (∀ j, lo ≤ j → j < lo + n → c j = c' j) → q_fd c lo n st = q_fd c' lo n st
  | 0, _ => rfl
  | n + 1, h => by
    show q_stp c (q_fd c lo n st) (lo + n) = q_stp c' (q_fd c' lo n st) (lo + n)
    rw [q_fd_congr n (fun j a1 a2 => h j a1 (by omega))]
    unfold q_stp
    rw [h (lo + n) (by omega) (by omega)]
theorem q_fig {F b e n : Nat} (he : e < 10) (h1 : (b * 10 + e) * n ≤ F) (h2 : F < (b * 10 + e) * n + n) : F / n % 10 = e := by
  have hn : 0 < n := by omega
  have : F / n = b * 10 + e := by
    apply Nat.div_eq_of_lt_le
    · exact h1
    · rw [Nat.succ_mul]
      exact h2
  rw [this]
  omega
def q_Rc (t : sf_Sg) (st : Nat × Nat) : Prop := (st = (1000000, 0) ∧ t 26 0 = nI 2147483647 ∧ t 26 1 = 0) ∨ (st.1 < 1000000 ∧ t 26 0 = nI st.1 ∧ t 26 1 = nI st.2)
theorem c_pdn {s : sf_Sg} {B P p : Nat} {sh a : Nat → Nat → Nat} {z : Int32} (S : q_SC s B P sh) (SG : q_SG B P sh) (L : q_LC s B P 16 a z) (G : q_LT B P a) (hd6 : a 6 0 ≤ 9900) (hp : p < P) : ∀ (k f m x i b : Nat) (t : sf_Sg) (st : Nat × Nat), k < f → q_cb m B = k → m < 64 → q_bits B (fun i => m.testBit i) = m → i + k ≤ 6 → x ≤ 9999 → st.1 ≤ 1000000 → (∀ j, j ≠ 26 → t j = s j) → q_Rc t st → ∃ u, sf_it (fun self s x2 x3 x4 x5 x6 => f8_putDownNext_b0 self s x2 x3 x4 x5 x6) (fun _ _ _ _ _ _ => none) f t (nI p) (nI m) (nI x) (nI b) (nI i) = some u ∧ (∀ j, j ≠ 26 → u j = s j) ∧ q_Rc u (q_fd (fun F => q_run sh a B p k F m x (a 6 0 + i)) (b * 10 ^ k) (10 ^ k) st) ∧ (q_fd (fun F => q_run sh a B p k F m x (a 6 0 + i)) (b * 10 ^ k) (10 ^ k) st).1 < 1000000 := by
  have hB := SG.1
  have hP5 := SG.2.1
  intro k
  induction k with
  | zero =>
    intro f m x i b t st hf hk hm hmb hik hx hst ho hr
    cases f with
    | zero => omega
    | succ f =>
      rw [q_it]
      generalize sf_it (fun self s x2 x3 x4 x5 x6 => f8_putDownNext_b0 self s x2 x3 x4 x5 x6) (fun _ _ _ _ _ _ => none) f = K
      have hm0 : m = 0 := by
        rcases Nat.eq_zero_or_pos m with e | e
        · exact e
        · obtain ⟨g, g1, g2⟩ := q_cb_0 hmb (by omega)
          have := q_cb_clr hB hm g1 g2
          omega
      show ∃ u, f8_putDownNext_b0 K t (nI p) (nI m) (nI x) (nI b) (nI i) = some u ∧ _
      unfold f8_putDownNext_b0 f8_putDownNext_b11
      rw [hm0, if_pos (show nI 0 = 0 from rfl)]
      have hfold : q_fd (fun F => q_run sh a B p 0 F 0 x (a 6 0 + i)) (b * 10 ^ 0) (10 ^ 0) st = if x < st.1 then (x, b) else st := by
        show (if x < st.1 then (x, b * 10 ^ 0 + 0) else st) = _
        rw [Nat.pow_zero, Nat.mul_one, Nat.add_zero]
      rw [hfold]
      rcases hr with ⟨e1, e2, e3⟩ | ⟨e1, e2, e3⟩
      · have hs1 : st.1 = 1000000 := by rw [e1]
        rw [e2, if_neg (show ¬ nI 2147483647 ≤ nI x from nI_ge (by omega) (by decide)), if_pos (show x < st.1 by omega)]
        refine ⟨_, rfl, fun j hj => ?_, Or.inr ⟨by show x < 1000000; omega, ?_, ?_⟩, by show x < 1000000; omega⟩
        · rw [q_s1k hj, q_s1k hj, ho j hj]
        · rw [q_s1i (by decide), q_s1s]
        · rw [q_s1s]
      · rw [e2]
        simp only [q_le (show st.1 ≤ 2000000 by omega) (show x ≤ 2000000 by omega)]
        by_cases hc : st.1 ≤ x
        · rw [if_pos hc, if_neg (show ¬ x < st.1 by omega)]
          exact ⟨t, rfl, ho, Or.inr ⟨e1, e2, e3⟩, e1⟩
        · rw [if_neg hc, if_pos (show x < st.1 by omega)]
          refine ⟨_, rfl, fun j hj => ?_, Or.inr ⟨by show x < 1000000; omega, ?_, ?_⟩, by show x < 1000000; omega⟩
          · rw [q_s1k hj, q_s1k hj, ho j hj]
          · rw [q_s1i (by decide), q_s1s]
          · rw [q_s1s]
  | succ k ih =>
    intro f m x i b t st hf hk hm hmb hik hx hst ho hr
    cases f with
    | zero => omega
    | succ f =>
      rw [q_it]
      have ih' := fun m x i b t st => ih f m x i b t st (by omega)
      generalize sf_it (fun self s x2 x3 x4 x5 x6 => f8_putDownNext_b0 self s x2 x3 x4 x5 x6) (fun _ _ _ _ _ _ => none) f = K at ih' ⊢
      have hm0 : m ≠ 0 := by
        intro e
        rw [e, q_cb_z] at hk
        omega
      show ∃ u, f8_putDownNext_b0 K t (nI p) (nI m) (nI x) (nI b) (nI i) = some u ∧ _
      unfold f8_putDownNext_b0
      rw [if_neg (nI_ne0 (by omega) (by omega)), if_pos (show nI i < 6 from nI_lt (b := 6) (by omega) (by decide))]
      obtain ⟨C, hC⟩ : ∃ C, C = fun F => q_run sh a B p (k + 1) F m x (a 6 0 + i) := ⟨_, rfl⟩
      rw [← hC]
      have hp10 : b * 10 ^ (k + 1) = (b * 10) * 10 ^ k := by rw [Nat.pow_succ, Nat.mul_assoc, Nat.mul_comm (10 ^ k)]
      -- digits that are no burden of the back
      have hbad : ∀ e, e < 10 → ¬ (1 ≤ e ∧ e ≤ B ∧ m.testBit (e - 1) = true) → ∀ st' : Nat × Nat, st'.1 ≤ 1000000 → q_fd C (b * 10 ^ (k + 1) + e * 10 ^ k) (10 ^ k) st' = st' := by
        intro e he hno st' hs'
        refine q_fd_no _ (fun F f1 f2 => ?_)
        rw [hp10, ← Nat.add_mul] at f1 f2
        have hdig := q_fig he f1 f2
        rw [hC]
        show st'.1 ≤ if 1 ≤ F / 10 ^ k % 10 ∧ F / 10 ^ k % 10 ≤ B ∧ m.testBit (F / 10 ^ k % 10 - 1) = true then _ else 1000000
        rw [hdig, if_neg hno]
        exact hs'
      have hgood : ∀ e, e < 10 → (1 ≤ e ∧ e ≤ B ∧ m.testBit (e - 1) = true) → ∀ st' : Nat × Nat, q_fd C (b * 10 ^ (k + 1) + e * 10 ^ k) (10 ^ k) st' = q_fd (fun F => q_run sh a B p k F (q_clr m (e - 1)) (q_xs sh a B p (q_clr m (e - 1)) x (a 6 0 + i)) (a 6 0 + i + 1)) ((b * 10 + e) * 10 ^ k) (10 ^ k) st' := by
        intro e he hyes st'
        rw [hp10, ← Nat.add_mul]
        refine q_fd_congr _ (fun F f1 f2 => ?_)
        have hdig := q_fig he f1 f2
        rw [hC]
        show (if 1 ≤ F / 10 ^ k % 10 ∧ F / 10 ^ k % 10 ≤ B ∧ m.testBit (F / 10 ^ k % 10 - 1) = true then _ else 1000000) = _
        rw [hdig, if_pos hyes]
      have hle : ∀ n, (q_fd C (b * 10 ^ (k + 1)) n st).1 ≤ 1000000 := by
        intro n
        have := q_fd_le (c := C) (lo := b * 10 ^ (k + 1)) (st := st) n
        omega
      have hnext : ∀ e, q_fd C (b * 10 ^ (k + 1)) ((e + 1) * 10 ^ k) st = q_fd C (b * 10 ^ (k + 1) + e * 10 ^ k) (10 ^ k) (q_fd C (b * 10 ^ (k + 1)) (e * 10 ^ k) st) := by
        intro e
        rw [Nat.succ_mul, q_fd_add]
      have loop : ∀ (f' g : Nat) (t : sf_Sg), B < f' + g → g ≤ B → (∀ j, j ≠ 26 → t j = s j) → q_Rc t (q_fd C (b * 10 ^ (k + 1)) ((g + 1) * 10 ^ k) st) → ((∃ g', g' < g ∧ m.testBit g' = true) → (q_fd C (b * 10 ^ (k + 1)) ((g + 1) * 10 ^ k) st).1 < 1000000) → ∃ u, sf_it (f8_putDownNext_b36 K) (fun _ _ _ _ _ _ _ => none) f' t (nI p) (nI m) (nI x) (nI b) (nI i) (nI g) = some u ∧ (∀ j, j ≠ 26 → u j = s j) ∧ q_Rc u (q_fd C (b * 10 ^ (k + 1)) (10 ^ (k + 1)) st) ∧ (q_fd C (b * 10 ^ (k + 1)) (10 ^ (k + 1)) st).1 < 1000000 := by
        intro f'
        induction f' with
        | zero => intro g t h1 h2; omega
        | succ f' ihg =>
          intro g t h1 h2 ho hr hlt
          rw [q_it]
          generalize sf_it (f8_putDownNext_b36 K) (fun _ _ _ _ _ _ _ => none) f' = M at ihg ⊢
          unfold f8_putDownNext_b36 f8_putDownNext_b112
          have St : q_SC t B P sh := S.of (fun j a1 a2 => ho j (by omega))
          have Lt : q_LC t B P 16 a z := L.of (fun j a1 a2 => ho j (by omega))
          rw [St.1]
          by_cases hg : g = B
          · rw [hg, if_pos (nI_le (Nat.le_refl _) (by omega))]
            have hend : ∀ n, g + 1 + n ≤ 10 → q_fd C (b * 10 ^ (k + 1)) ((g + 1 + n) * 10 ^ k) st = q_fd C (b * 10 ^ (k + 1)) ((g + 1) * 10 ^ k) st := by
              intro n
              induction n with
              | zero => intro _; rfl
              | succ n ihn =>
                intro hn
                rw [← Nat.add_assoc, hnext, ihn (by omega), hbad (g + 1 + n) (by omega) (fun w => by omega) _ (hle _)]
            have h10 := hend (9 - g) (by omega)
            rw [show g + 1 + (9 - g) = 10 by omega, show 10 * 10 ^ k = 10 ^ (k + 1) by rw [Nat.pow_succ, Nat.mul_comm]] at h10
            rw [h10]
            refine ⟨t, rfl, ho, hr, hlt ?_⟩
            rw [hg]
            exact q_cb_0 hmb hm0
          · have hgl : g < B := by omega
            rw [if_neg (nI_ge hgl (by omega)), q_has m hm g (by omega)]
            by_cases hb : m.testBit g = true
            · rw [if_pos hb, if_neg q_b1, q_clrI m hm g (by omega), ho 16 (by decide), L.2.2.2, nI_add]
              rw [c_soreDay St SG Lt G (q_clr_lt hm) hp (show a 6 0 + i ≤ 20000 by omega) hx]
              simp only [q_ob]
              rw [show (10 : Int32) = nI 10 from rfl, q_mulI, nI_add, nI_1, nI_1, nI_1]
              have hxs : (if q_clr m g = 0 then x - 3 else min 9999 (x + q_gal sh a B p (fun j => (q_clr m g).testBit j) (a 6 0 + i))) = q_xs sh a B p (q_clr m g) x (a 6 0 + i) := rfl
              rw [hxs]
              have hcb := q_cb_clr hB hm hgl hb
              obtain ⟨u, u1, u2, u3, u4⟩ := ih' (q_clr m g) (q_xs sh a B p (q_clr m g) x (a 6 0 + i)) (i + 1) (b * 10 + g + 1) t _ (by omega) (q_clr_lt hm) (q_clr_b B (by omega) m hm g (by omega) hmb) (by omega) (q_xs_le hx) (hle _) ho hr
              rw [u1]
              simp only [q_ob]
              have hgd := hgood (g + 1) (by omega) ⟨by omega, by omega, hb⟩ (q_fd C (b * 10 ^ (k + 1)) ((g + 1) * 10 ^ k) st)
              rw [← hnext] at hgd
              have hgd' : q_fd C (b * 10 ^ (k + 1)) ((g + 1 + 1) * 10 ^ k) st = q_fd (fun F => q_run sh a B p k F (q_clr m g) (q_xs sh a B p (q_clr m g) x (a 6 0 + i)) (a 6 0 + (i + 1))) ((b * 10 + g + 1) * 10 ^ k) (10 ^ k) (q_fd C (b * 10 ^ (k + 1)) ((g + 1) * 10 ^ k) st) := hgd
              rw [← hgd'] at u3 u4
              exact ihg (g + 1) u (by omega) (by omega) u2 u3 (fun _ => u4)
            · rw [if_neg hb, if_pos rfl, nI_1]
              have hbd := hbad (g + 1) (by omega) (fun w => hb w.2.2) (q_fd C (b * 10 ^ (k + 1)) ((g + 1) * 10 ^ k) st) (hle _)
              rw [← hnext] at hbd
              refine ihg (g + 1) t (by omega) (by omega) ho (by rw [hbd]; exact hr) (fun w => ?_)
              rw [hbd]
              apply hlt
              obtain ⟨g', w1, w2⟩ := w
              by_cases e : g' = g
              · rw [e] at w2
                exact absurd w2 hb
              · exact ⟨g', by omega, w2⟩
      have h0 : q_fd C (b * 10 ^ (k + 1)) ((0 + 1) * 10 ^ k) st = st := by
        rw [hnext, Nat.zero_mul]
        have := hbad 0 (by omega) (fun w => by omega) st hst
        rw [Nat.zero_mul] at this
        exact this
      exact loop sf_FU 0 t (by unfold sf_FU; omega) (by omega) ho (by rw [h0]; exact hr) (fun w => by
        obtain ⟨g', w1, w2⟩ := w
        omega)
