theorem p_undo : st_undo q_Inv := by
  intro s hI
  obtain ⟨B, P, sh, a, z, hS, hL, hT, hF, hB, ⟨n, A, u1, u2, ⟨x, x1, x2, x3, x4⟩, ⟨m1, m2⟩⟩, hM, hO⟩ := id hI
  have hB6 := hS.1.1
  have hP5 := hS.1.2.1
  by_cases hn : n = 0
  · subst hn
    refine ⟨-1000000003, s, s, ?_, ?_, hI⟩
    · unfold f9_undo f9_undo_b0 f4_takeBackInto f4_takeBackInto_b0
      rw [x2, if_neg (show ¬ (1 : Int32) ≤ nI 0 by decide)]
      rfl
    · unfold f10_undo f10_undo_b0
      rw [m1, if_pos (show nI 0 = 0 by decide)]
  · -- class
    have hx : (x + 15) % 16 < 16 := Nat.mod_lt _ (by decide)
    have L1 : q_LC (sf_s1 s 27 1 (nI ((x + 15) % 16))) B P (29 + 6 * ((x + 15) % 16)) (A (n - 1)).1 (A (n - 1)).2 := by
      have := x4 (n - 1) (by omega)
      rw [show (x + 16 - n + (n - 1)) % 16 = (x + 15) % 16 by congr 1; omega] at this
      exact this.of (fun k h1 h2 => q_s1k (by omega))
    obtain ⟨t, t1, t2, t3⟩ := q_copyLC (c := 16) hB6 hP5 (by omega) L1
    have ts : ∀ k, k ≠ 27 → (k < 16 ∨ 21 < k) → t k = s k := fun k h1 h2 => by rw [t2 k (by omega), q_s1k h1]
    have t27 : t 27 0 = nI n ∧ t 27 1 = nI ((x + 15) % 16) := by
      rw [t2 27 (by omega)]
      exact ⟨by rw [q_s1i (by decide)]; exact x2, q_s1s⟩
    -- the reference, from the class's end
    have key := q_rowcopy (s := sf_s1 (sf_s1 t 27 0 (nI (n - 1))) 149 26 (nI (n - 1))) (fun k t i => f10_undo_b22 (fun t' i' => (k t' i').map (fun u => (u 149 26, u))) t i |>.map Prod.snd) (fun t => some t) 162 155 (31 * (n - 1)) 0 31 (by decide) (fun k t => by
      show (f10_undo_b22 _ t (nI 31)).map Prod.snd = some t
      unfold f10_undo_b22
      rw [if_pos (show (31 : Int32) ≤ nI 31 by decide)]
      rfl) (fun k t i hi ht => by
      show (f10_undo_b22 _ t (nI i)).map Prod.snd = _
      unfold f10_undo_b22
      rw [if_neg (show ¬ (31 : Int32) ≤ nI i from nI_ge (b := 31) hi (by decide))]
      have e : (31 : Int32) * t 149 26 + nI i = nI (31 * (n - 1) + i) := by
        rw [ht 149 (by decide), q_s1s, show (31 : Int32) = nI 31 from rfl, pk_mul, nI_add]
      rw [e, q_ld (by omega) (by decide)]
      simp only [q_ob]
      rw [q_st (by omega) (by decide)]
      simp only [q_ob]
      rw [nI_1, Nat.zero_add]
      cases k (sf_s1 t 155 i (t 162 (31 * (n - 1) + i))) (nI (i + 1)) <;> rfl) sf_FU 0 _ (by unfold sf_FU; omega) (by omega) (fun _ _ => rfl) (fun j hj => absurd hj (by omega)) (fun _ _ => rfl)
    obtain ⟨w, w1, w2, w3, w4⟩ := key
    have conv : ∀ (f : Nat) (t : sf_Sg) (i : Int32) (w : sf_Sg), sf_it (fun (k : sf_Sg → Int32 → Option sf_Sg) t i => f10_undo_b22 (fun t' i' => (k t' i').map (fun u => (u 149 26, u))) t i |>.map Prod.snd) (fun _ _ => none) f t i = some w → sf_it f10_undo_b22 (fun _ _ => none) f t i = some (w 149 26, w) := by
      intro f
      induction f with
      | zero => intro t i w h; cases h
      | succ f ih =>
        intro t i w h
        rw [q_it] at h ⊢
        generalize sf_it (fun (k : sf_Sg → Int32 → Option sf_Sg) t i => f10_undo_b22 (fun t' i' => (k t' i').map (fun u => (u 149 26, u))) t i |>.map Prod.snd) (fun _ _ => none) f = K at h ih
        generalize sf_it f10_undo_b22 (fun _ _ => none) f = K2 at ih ⊢
        unfold f10_undo_b22 at h ⊢
        split at h
        · rename_i hh
          rw [if_pos hh]
          have : some t = some w := h
          cases this
          rfl
        · rename_i hh
          rw [if_neg hh]
          cases e1 : sf_ld t 162 496 (31 * t 149 26 + i) with
          | none => rw [e1] at h; cases h
          | some v =>
            rw [e1] at h
            simp only [q_ob] at h ⊢
            cases e2 : sf_st t 155 31 i v with
            | none => rw [e2] at h; cases h
            | some t' =>
              rw [e2] at h
              simp only [q_ob] at h ⊢
              refine ih t' (i + 1) w ?_
              cases hK : K t' (i + 1) with
              | none => rw [hK] at h; cases h
              | some y => rw [hK] at h; exact h
    have w1' := conv sf_FU _ 0 w w1
    have wn : w 149 26 = nI (n - 1) := by rw [w2 149 (by decide), q_s1s]
    refine ⟨nI (n - 1), sf_s1 t 27 0 (nI (n - 1)), w, ?_, ?_, ?_⟩
    · unfold f9_undo f9_undo_b0 f4_takeBackInto f4_takeBackInto_b0
      have ex : sf_rem (s 27 1 + 16 - 1) 16 = nI ((x + 15) % 16) := by
        rw [x3]
        rw [show nI x + 16 - 1 = nI (x + 15) by
          rw [show nI x + 16 = nI (x + 16) from nI_add x 16]
          exact pk_sub (a := x + 16) (b := 1) (by omega)]
        exact q_rem16 (by omega)
      rw [ex, x2, if_pos (show (1 : Int32) ≤ nI n from (nI_leI (a := 1) (by decide) (by omega)).mpr (by omega)), q_s1s, q_ix hx (by decide)]
      simp only [q_ob]
      rw [t1]
      simp only [q_ob]
      rw [if_neg q_b1, t27.1, show nI n - 1 = nI (n - 1) from pk_sub (b := 1) (by omega)]
      rfl
    · unfold f10_undo f10_undo_b0
      have e0 : sf_s1 t 27 0 (nI (n - 1)) 149 26 = nI n := by rw [q_s1k (by decide), ts 149 (by decide) (by omega), m1]
      rw [e0, if_neg (show ¬ nI n = 0 from fun h => hn ((nI_eq (b := 0) (by omega) (by decide)).mp h)), show nI n - 1 = nI (n - 1) from pk_sub (b := 1) (by omega)]
      show sf_it f10_undo_b22 (fun _ _ => none) sf_FU _ 0 = _
      rw [w1', wn]
    · have wk : ∀ k, k ≠ 149 → k ≠ 155 → w k = sf_s1 t 27 0 (nI (n - 1)) k := fun k h1 h2 => by rw [w2 k h2, q_s1k h1]
      have w149 : ∀ j, j ≠ 26 → w 149 j = s 149 j := fun j hj => by rw [w2 149 (by decide), q_s1i hj, q_s1k (by decide), ts 149 (by decide) (by omega)]
      have hUCu : q_UC (sf_s1 t 27 0 (nI (n - 1))) B P (n - 1) A := by
        refine ⟨(x + 15) % 16, hx, q_s1s, by rw [q_s1i (by decide)]; exact t27.2, fun u hu => ?_⟩
        have := x4 u (by omega)
        rw [show ((x + 15) % 16 + 16 - (n - 1) + u) % 16 = (x + 16 - n + u) % 16 by omega]
        refine this.of (fun k h1 h2 => ?_)
        have hm := Nat.mod_lt (x + 16 - n + u) (show 16 > 0 by decide)
        rw [q_s1k (by omega), ts k (by omega) (by omega)]
      have hG := u2 (n - 1) (by omega)
      refine q_fin (u := sf_s1 t 27 0 (nI (n - 1))) hS hT hF hB hM ?_ (fun k _ h1 h2 => ?_) (fun k h1 h2 h3 => wk k h1 h2) (fun j h1 h2 => ?_) (show n - 1 ≤ 16 by omega) (fun i hi => u2 i (by omega)) hUCu ?_ hG (t3.of (fun k h1 h2 => q_s1k (by omega))) ?_
      · refine hO.of ?_ ?_
        · rw [wk 0 (by decide) (by decide), q_s1k (by decide), ts 0 (by decide) (by omega)]
        · exact w149 10 (by decide)
      · rw [q_s1k h1, ts k h1 (by omega)]
      · rw [w2 149 (by decide), q_s1i h1]
      · refine ⟨wn, fun u hu => ?_⟩
        refine (m2 u (by omega)).of ?_
        rw [wk 162 (by decide) (by decide), q_s1k (by decide), ts 162 (by decide) (by omega)]
      · refine q_LMcopy hB6 hP5 (m2 (n - 1) (by omega)) (fun j hj => ?_)
        rw [w3 j hj, q_s1k (by decide), q_s1k (by decide), ts 162 (by decide) (by omega)]
