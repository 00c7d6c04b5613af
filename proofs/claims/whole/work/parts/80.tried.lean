-- SORE, WHEN, WORST
theorem q_gal_a {sh a a' : Nat → Nat → Nat} (h : ∀ k, k < 4 → a k = a' k) (B p : Nat) (on : Nat → Bool) (d : Nat) : q_gal sh a B p on d = q_gal sh a' B p on d := by
  unfold q_gal q_parts q_rubs q_part q_rub q_shd
  rw [h 0 (by decide), h 1 (by decide), h 2 (by decide), h 3 (by decide)]
theorem q_on_a {a a' : Nat → Nat → Nat} (h : ∀ k, k < 4 → a k = a' k) (g p : Nat) : q_on a g p = q_on a' g p := by
  unfold q_on
  rw [h 2 (by decide), h 3 (by decide)]
theorem q_nx_a {sh a a' : Nat → Nat → Nat} (h : ∀ k, k < 4 → a k = a' k) (B p d x : Nat) : q_nx sh a B p d x = q_nx sh a' B p d x := by
  unfold q_nx
  rw [q_gal_a h, q_bits_congr (f := fun g => q_on a g p) (g := fun g => q_on a' g p) (fun i _ => q_on_a h i p), q_gal_congr (on := fun g => q_on a g p) (on' := fun g => q_on a' g p) (fun i _ => q_on_a h i p)]
theorem q_days_c {sh : Nat → Nat → Nat} {B P : Nat} : ∀ (n : Nat) (a : Nat → Nat → Nat) (k : Nat), k < 4 → q_days sh B P n a k = a k
  | 0, _, _, _ => rfl
  | n + 1, a, k, h => by
    show q_days sh B P n (q_day sh B P a) k = a k
    rw [q_days_c n _ k h]
    funext j
    show (if k = 6 then _ else if k = 4 then _ else a k j) = a k j
    rw [if_neg (by omega), if_neg (by omega)]
theorem q_days_4 {sh a : Nat → Nat → Nat} {B P p : Nat} (hp : p < P) (n : Nat) : q_days sh B P (n + 1) a 4 p = q_nx sh a B p (a 6 0 + n) (q_days sh B P n a 4 p) := by
  rw [q_days_s]
  show (if p < P then q_nx sh (q_days sh B P n a) B p (q_days sh B P n a 6 0) (q_days sh B P n a 4 p) else _) = _
  rw [if_pos hp, q_days_6, q_nx_a (q_days_c n a)]
theorem q_days_4le {sh a : Nat → Nat → Nat} {B P p : Nat} (hp : p < P) (h : a 4 p ≤ 9999) : ∀ n, q_days sh B P n a 4 p ≤ 9999
  | 0 => h
  | n + 1 => by
    rw [q_days_4 hp]
    exact q_nx_le (q_days_4le hp h n)
theorem c_soreBehind {s : sf_Sg} {B P n : Nat} {sh a : Nat → Nat → Nat} {z : Int32} (S : q_SC s B P sh) (SG : q_SG B P sh) (L : q_LC s B P 16 a z) (G : q_LT B P a) {p : Nat} (hp : p < P) (hn : n ≤ 200) (h6 : a 6 0 + n ≤ 20000) : f6_soreBehind s (nI p) (nI n) = some (nI (q_days sh B P n a 4 p)) := by
  have key : ∀ (f i : Nat), n < f + i → i ≤ n → sf_it (f6_soreBehind_b20 s) (fun _ _ _ _ _ => none) f (nI p) (nI n) (nI (q_bits B (fun g => q_on a g p))) (nI (q_days sh B P i a 4 p)) (nI i) = some (nI (q_days sh B P n a 4 p)) := by
    intro f
    induction f with
    | zero => intro i h1 h2; omega
    | succ f ih =>
      intro i h1 h2
      rw [q_it]
      generalize sf_it (f6_soreBehind_b20 s) (fun _ _ _ _ _ => none) f = K at ih ⊢
      unfold f6_soreBehind_b20
      by_cases hi : i = n
      · subst hi
        rw [if_pos (nI_le (Nat.le_refl _) (by omega))]
      · rw [if_neg (nI_ge (show i < n by omega) (by omega)), L.2.2.2, nI_add, c_nx S SG L G hp (by omega) (q_days_4le hp (G.2.1 p hp) i)]
        simp only [q_ob]
        rw [nI_1, ← q_days_4 hp]
        exact ih (i + 1) (by omega) (by omega)
  unfold f6_soreBehind f6_soreBehind_b0
  rw [c_carriedBy S L SG.1 SG.2.1 G hp]
  simp only [q_ob]
  have := SG.2.1
  rw [q_ld (by omega) (by decide), show s 21 p = nI (a 4 p) from L.2.1 p hp]
  simp only [q_ob]
  exact key sf_FU 0 (by unfold sf_FU; omega) (by omega)
theorem p_sore : st_sore q_Inv := by
  intro s x1 x2 hI
  obtain ⟨B, P, sh, a, z, hS, hL, hT, hF, hB, hU, hM, hO⟩ := id hI
  have hB6 := hS.1.1
  have hP5 := hS.1.2.1
  have h6 := hL.1.2.2
  have e : f10_in x2.toInt64 0 200 = f9_within x2 0 200 := q_in x2 0 200
  rcases q_hasBack hP5 hS.1.2.2.2.1 hS.1.2.2.2.2.2.1 x1 with ⟨p, hp, rfl, c1, c2⟩ | ⟨c1, c2⟩
  · rcases q_within x2 (a := 0) (b := 200) (by decide) (by decide) with ⟨n, n1, n2, rfl, n3⟩ | n3
    · have n3' : ¬ f9_within (nI n) 0 200 = 0 := by
        have : f9_within (nI n) 0 200 = 1 := n3
        rw [this]
        exact q_b1
      obtain ⟨t, t1, t2, t3, t4⟩ := m_copyRow (s := s) 155 31 163 31 31 (by decide) (by decide) (by decide) (by decide) (by decide)
      have key : ∀ (f i : Nat) (u : sf_Sg), n < f + i → i ≤ n → (∀ k, k ≠ 155 → u k = t k) → q_LM u B P 155 0 (q_days sh B P i a) z → ∃ w, sf_it f10_sore_b41 (fun _ _ _ _ => none) f u (nI p) (nI n) (nI i) = f10_sore_b56 w (nI p) ∧ (∀ k, k ≠ 155 → w k = t k) ∧ q_LM w B P 155 0 (q_days sh B P n a) z := by
        intro f
        induction f with
        | zero => intro i u h1 h2; omega
        | succ f ih =>
          intro i u h1 h2 h3 h4
          rw [q_it]
          generalize sf_it f10_sore_b41 (fun _ _ _ _ => none) f = K at ih ⊢
          unfold f10_sore_b41
          by_cases hi : i = n
          · subst hi
            rw [if_pos (nI_le (Nat.le_refl _) (by omega))]
            exact ⟨u, rfl, h3, h4⟩
          · rw [if_neg (nI_ge (show i < n by omega) (by omega))]
            have S' : q_SM u B P sh := hS.m.of (fun k a1 => by rw [h3 k (by omega), t2 k (by omega)]) (by rw [h3 149 (by decide), t2 149 (by decide)]) (by rw [h3 149 (by decide), t2 149 (by decide)])
            obtain ⟨v, e1, e2, e3⟩ := m_pass S' hS.g h4 (q_days_LT i a hL.1.t (by omega))
            rw [e1]
            simp only [q_ob]
            rw [nI_1]
            refine ih (i + 1) v (by omega) (by omega) (fun k hk => (e2 k hk).trans (h3 k hk)) ?_
            rw [q_days_s]
            exact e3
      obtain ⟨w, w1, w2, w3⟩ := key sf_FU 0 t (by unfold sf_FU; omega) (by omega) (fun _ _ => rfl) (hL.2.2.of (t2 155 (by decide)))
      obtain ⟨y, y1, y2, y3, y4⟩ := m_copyRow (s := w) 163 31 155 31 31 (by decide) (by decide) (by decide) (by decide) (by decide)
      refine ⟨nI (q_days sh B P n a 4 p), y, ?_, ?_, q_stay hI (fun k hk => ?_) ?_ (fun j hj => ?_) (fun j hj => ?_)⟩
      · unfold f9_sore f9_sore_b0
        rw [c1, if_neg q_b1, if_neg n3', c_soreBehind hS.c hS.g hL.2.1 hL.1.t hp n2 (by omega)]
        rfl
      · unfold f10_sore f10_sore_b0
        rw [c2, if_neg q_b1, e, if_neg n3']
        have t1' : f10_copyRow 155 31 163 31 s 31 = some t := t1
        rw [t1']
        simp only [q_ob]
        have w1' : f10_sore_L41 t (nI p) (nI n) 0 = f10_sore_b56 w (nI p) := w1
        rw [w1']
        unfold f10_sore_b56
        rw [show sf_ld w 155 31 ((24 : Int32) + nI p) = some (w 155 (24 + p)) from q_ldn (o := 24) (g := p) (by omega), w3.so hp]
        simp only [q_ob]
        have y1' : f10_copyRow 163 31 155 31 w 31 = some y := y1
        rw [y1']
        rfl
      · rw [y2 k (by omega), w2 k (by omega), t2 k (by omega)]
      · rw [y2 125 (by decide), w2 125 (by decide), t2 125 (by decide)]
      · rw [y2 149 (by decide), w2 149 (by decide), t2 149 (by decide)]
      · rw [y3 j hj, w2 163 (by decide), t3 j hj]
    · have n3' : f9_within x2 0 200 = 0 := n3
      refine ⟨-1000000002, s, ?_, ?_, hI⟩
      · unfold f9_sore f9_sore_b0
        rw [c1, if_neg q_b1, if_pos n3']
      · unfold f10_sore f10_sore_b0
        rw [c2, if_neg q_b1, e, if_pos n3']
  · refine ⟨-1000000001, s, ?_, ?_, hI⟩
    · unfold f9_sore f9_sore_b0
      rw [c1, if_pos rfl]
    · unfold f10_sore f10_sore_b0
      rw [c2, if_pos rfl]
def q_wh (x : Nat → Nat) : Nat → Nat → Int32
  | 0, _ => -1
  | n + 1, i => if 20 ≤ x i then nI i else q_wh x n (i + 1)
theorem p_when : st_when q_Inv := by
  intro s x1 hI
  obtain ⟨B, P, sh, a, z, hS, hL, hT, hF, hB, hU, hM, hO⟩ := id hI
  have hB6 := hS.1.1
  have hP5 := hS.1.2.1
  have h6 := hL.1.2.2
  rcases q_hasBack hP5 hS.1.2.2.2.1 hS.1.2.2.2.2.2.1 x1 with ⟨p, hp, rfl, c1, c2⟩ | ⟨c1, c2⟩
  · obtain ⟨t, t1, t2, t3, t4⟩ := m_copyRow (s := s) 155 31 163 31 31 (by decide) (by decide) (by decide) (by decide) (by decide)
    have x4 := fun i => q_days_4le (sh := sh) (B := B) hp (hL.1.2.1 p hp) i
    have ck : ∀ (f i : Nat), 201 < f + i → i ≤ 201 → sf_it (f6_firstGalledBehind_b19 s) (fun _ _ _ _ => none) f (nI p) (nI (q_bits B (fun g => q_on a g p))) (nI (q_days sh B P i a 4 p)) (nI i) = some (q_wh (fun i => q_days sh B P i a 4 p) (201 - i) i) := by
      intro f
      induction f with
      | zero => intro i h1 h2; omega
      | succ f ih =>
        intro i h1 h2
        rw [q_it]
        generalize sf_it (f6_firstGalledBehind_b19 s) (fun _ _ _ _ => none) f = K at ih ⊢
        have x4i := x4 i
        unfold f6_firstGalledBehind_b19
        by_cases hi : i = 201
        · subst hi
          rw [if_pos (show (200 : Int32) < nI 201 by decide)]
          rfl
        · rw [if_neg (show ¬ (200 : Int32) < nI i from fun w => absurd ((nI_ltI (a := 200) (by decide) (by omega)).mp w) (by omega))]
          have cl : (nI (q_days sh B P i a 4 p) < 20) = (q_days sh B P i a 4 p < 20) := q_lt (b := 20) (by omega) (by decide)
          simp only [cl]
          rw [show 201 - i = (201 - (i + 1)) + 1 by omega]
          show _ = some (if 20 ≤ q_days sh B P i a 4 p then nI i else q_wh (fun i => q_days sh B P i a 4 p) (201 - (i + 1)) (i + 1))
          by_cases hx : q_days sh B P i a 4 p < 20
          · rw [if_pos hx, if_neg (by omega), show s 16 0 = nI (a 6 0) from hL.2.1.2.2.2, nI_add, c_nx hS.c hS.g hL.2.1 hL.1.t hp (by omega) x4i]
            simp only [q_ob]
            rw [nI_1, ← q_days_4 hp]
            exact ih (i + 1) (by omega) (by omega)
          · rw [if_neg hx, if_pos (by omega)]
    have mk : ∀ (f i : Nat) (u : sf_Sg), 200 < f + i → i ≤ 200 → (∀ k, k ≠ 155 → u k = t k) → q_LM u B P 155 0 (q_days sh B P i a) z → ∃ (w : sf_Sg), sf_it f10_when_b26 (fun _ _ _ => none) f u (nI p) (nI i) = f10_when_b76 w (q_wh (fun i => q_days sh B P i a 4 p) (201 - i) i) ∧ (∀ k, k ≠ 155 → w k = t k) := by
      intro f
      induction f with
      | zero => intro i u h1 h2; omega
      | succ f ih =>
        intro i u h1 h2 h3 h4
        rw [q_it]
        generalize sf_it f10_when_b26 (fun _ _ _ => none) f = K at ih ⊢
        have x4i := x4 i
        unfold f10_when_b26 f10_when_b57
        have cg : (20 ≤ nI (q_days sh B P i a 4 p)) = (20 ≤ q_days sh B P i a 4 p) := q_le (a := 20) (by decide) (by omega)
        rw [show sf_ld u 155 31 ((24 : Int32) + nI p) = some (u 155 (24 + p)) from q_ldn (o := 24) (g := p) (by omega), h4.so hp]
        simp only [q_ob, cg]
        rw [show 201 - i = (201 - (i + 1)) + 1 by omega]
        have ew : q_wh (fun i => q_days sh B P i a 4 p) (201 - (i + 1) + 1) i = if 20 ≤ q_days sh B P i a 4 p then nI i else q_wh (fun i => q_days sh B P i a 4 p) (201 - (i + 1)) (i + 1) := rfl
        rw [ew]
        by_cases hx : 20 ≤ q_days sh B P i a 4 p
        · simp only [if_pos hx, ite_self]
          exact ⟨u, rfl, h3⟩
        · simp only [if_neg hx]
          by_cases hi : i = 200
          · subst hi
            rw [if_pos (show (200 : Int32) ≤ nI 200 by decide)]
            exact ⟨u, rfl, h3⟩
          · rw [if_neg (show ¬ (200 : Int32) ≤ nI i from nI_ge (b := 200) (by omega) (by decide))]
            have S' : q_SM u B P sh := hS.m.of (fun k a1 => by rw [h3 k (by omega), t2 k (by omega)]) (by rw [h3 149 (by decide), t2 149 (by decide)]) (by rw [h3 149 (by decide), t2 149 (by decide)])
            obtain ⟨v, e1, e2, e3⟩ := m_pass S' hS.g h4 (q_days_LT i a hL.1.t (by omega))
            rw [e1]
            simp only [q_ob]
            rw [nI_1]
            refine ih (i + 1) v (by omega) (by omega) (fun k hk => (e2 k hk).trans (h3 k hk)) ?_
            rw [q_days_s]
            exact e3
    obtain ⟨w, w1, w2⟩ := mk sf_FU 0 t (by unfold sf_FU; omega) (by omega) (fun _ _ => rfl) (hL.2.2.of (t2 155 (by decide)))
    obtain ⟨y, y1, y2, y3, y4⟩ := m_copyRow (s := w) 163 31 155 31 31 (by decide) (by decide) (by decide) (by decide) (by decide)
    refine ⟨q_wh (fun i => q_days sh B P i a 4 p) 201 0, y, ?_, ?_, q_stay hI (fun k hk => ?_) ?_ (fun j hj => ?_) (fun j hj => ?_)⟩
    · unfold f9_when f9_when_b0
      rw [c1, if_neg q_b1]
      unfold f6_firstGalledBehind f6_firstGalledBehind_b0
      rw [c_carriedBy hS.c hL.2.1 hB6 hP5 hL.1.t hp]
      simp only [q_ob]
      rw [q_ld (by omega) (by decide), show s 21 p = nI (a 4 p) from hL.2.1.2.1 p hp]
      simp only [q_ob]
      have c0 : f6_firstGalledBehind_L19 s (nI p) (nI (q_bits B fun g => q_on a g p)) (nI (a 4 p)) 0 = some (q_wh (fun i => q_days sh B P i a 4 p) 201 0) := ck sf_FU 0 (by unfold sf_FU; omega) (by omega)
      rw [c0]
      rfl
    · unfold f10_when f10_when_b0
      rw [c2, if_neg q_b1]
      have t1' : f10_copyRow 155 31 163 31 s 31 = some t := t1
      rw [t1']
      simp only [q_ob]
      have w1' : f10_when_L26 t (nI p) 0 = f10_when_b76 w (q_wh (fun i => q_days sh B P i a 4 p) 201 0) := w1
      rw [w1']
      unfold f10_when_b76
      have y1' : f10_copyRow 163 31 155 31 w 31 = some y := y1
      rw [y1']
      rfl
    · rw [y2 k (by omega), w2 k (by omega), t2 k (by omega)]
    · rw [y2 125 (by decide), w2 125 (by decide), t2 125 (by decide)]
    · rw [y2 149 (by decide), w2 149 (by decide), t2 149 (by decide)]
    · rw [y3 j hj, w2 163 (by decide), t3 j hj]
  · refine ⟨-1000000001, s, ?_, ?_, hI⟩
    · unfold f9_when f9_when_b0
      rw [c1, if_pos rfl]
    · unfold f10_when f10_when_b0
      rw [c2, if_pos rfl]
-- GALLING of all
def q_all (sh a : Nat → Nat → Nat) (B P d : Nat) : Nat := q_sm P (fun p => q_gal sh a B p (fun g => q_on a g p) d)
theorem q_all_le {sh a : Nat → Nat → Nat} {B P d : Nat} (G : q_SG B P sh) (h : ∀ g, g < B → a 0 g ≤ 60) : q_all sh a B P d ≤ 3000 := by
  have := q_sm_le (n := P) (c := 600) (f := fun p => q_gal sh a B p (fun g => q_on a g p) d) (fun p hp => q_gal_le G hp h)
  have := G.2.1
  unfold q_all
  omega
theorem c_all {s : sf_Sg} {B P d : Nat} {sh a : Nat → Nat → Nat} {z : Int32} (S : q_SC s B P sh) (SG : q_SG B P sh) (L : q_LC s B P 16 a z) (G : q_LT B P a) (hd : d ≤ 20000) : f6_gallingOfAll s (nI d) = some (nI (q_all sh a B P d)) := by
  have hP := SG.2.1
  have key : ∀ (f i : Nat), P < f + i → i ≤ P → sf_it (f6_gallingOfAll_b4 s) (fun _ _ _ => none) f (nI d) (nI (q_sm i (fun p => q_gal sh a B p (fun g => q_on a g p) d))) (nI i) = some (nI (q_all sh a B P d)) := by
    intro f
    induction f with
    | zero => intro i h1 h2; omega
    | succ f ih =>
      intro i h1 h2
      rw [q_it]
      generalize sf_it (f6_gallingOfAll_b4 s) (fun _ _ _ => none) f = K at ih ⊢
      unfold f6_gallingOfAll_b4
      rw [S.2.1]
      by_cases hi : i = P
      · subst hi
        rw [if_pos (nI_le (Nat.le_refl _) (by omega))]
        rfl
      · rw [if_neg (nI_ge (show i < P by omega) (by omega)), c_carriedBy S L SG.1 hP G (by omega)]
        simp only [q_ob]
        rw [c_gallingOf S SG L G (q_bits64 SG.1 _) (by omega) hd, q_gal_bits]
        simp only [q_ob]
        rw [nI_add, nI_1]
        exact ih (i + 1) (by omega) (by omega)
  exact key sf_FU 0 (by unfold sf_FU; omega) (by omega)
theorem m_all {s : sf_Sg} {B P : Nat} {sh a : Nat → Nat → Nat} {z : Int32} (S : q_SM s B P sh) (SG : q_SG B P sh) (L : q_LM s B P 155 0 a z) (G : q_LT B P a) : f10_allGalling s = some (nI (q_all sh a B P (a 6 0))) := by
  have hP := SG.2.1
  have key : ∀ (f i : Nat), P < f + i → i ≤ P → sf_it (f10_allGalling_b4 s) (fun _ _ => none) f (nI (q_sm i (fun p => q_gal sh a B p (fun g => q_on a g p) (a 6 0)))) (nI i) = some (nI (q_all sh a B P (a 6 0))) := by
    intro f
    induction f with
    | zero => intro i h1 h2; omega
    | succ f ih =>
      intro i h1 h2
      rw [q_it]
      generalize sf_it (f10_allGalling_b4 s) (fun _ _ => none) f = K at ih ⊢
      unfold f10_allGalling_b4
      rw [S.2.1]
      by_cases hi : i = P
      · subst hi
        rw [if_pos (nI_le (Nat.le_refl _) (by omega))]
        rfl
      · rw [if_neg (nI_ge (show i < P by omega) (by omega)), m_gallingOf S SG L G (by omega)]
        simp only [q_ob]
        rw [nI_add, nI_1]
        exact ih (i + 1) (by omega) (by omega)
  exact key sf_FU 0 (by unfold sf_FU; omega) (by omega)
theorem q_all_a {sh a a' : Nat → Nat → Nat} (h : ∀ k, k < 4 → a k = a' k) (B P d : Nat) : q_all sh a B P d = q_all sh a' B P d := by
  unfold q_all
  refine q_sm_congr (fun p hp => ?_)
  show q_gal sh a B p (fun g => q_on a g p) d = q_gal sh a' B p (fun g => q_on a' g p) d
  rw [q_gal_a h]
  exact q_gal_congr (fun g _ => q_on_a h g p)
