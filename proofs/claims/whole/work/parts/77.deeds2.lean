theorem q_hd_LG {B P : Nat} {a : Nat → Nat → Nat} (h : q_LG B P a) {g p q : Nat} (hg : g < B) (hq : q < P) (h1 : q_on a g p = true) (h2 : ¬ q_on a g q = true) : q_LG B P (q_hd a g p q) := by
  have hh := h.1 g hg
  unfold q_on at h1 h2
  simp only [Bool.or_eq_true, decide_eq_true_eq] at h1 h2
  unfold q_hd
  split
  · exact h.up (by decide) (by omega) (by omega) (by omega) (by omega)
  · exact h.up (by decide) (by omega) (by omega) (by omega) (by omega)
theorem p_hand : st_hand q_Inv := by
  intro s x1 x2 x3 hI
  obtain ⟨B, P, sh, a, z, hS, hL, hT, hF, hB, hU, hM, hO⟩ := id hI
  have hB6 := hS.1.1
  have hP5 := hS.1.2.1
  rcases q_hasBurden hB6 hS.1.2.2.1 hS.1.2.2.2.2.1 x1 with ⟨g, hg, rfl, b1, b2⟩ | ⟨b1, b2⟩
  · have two : (∃ p q : Nat, p < P ∧ q < P ∧ p ≠ q ∧ x2 = nI p ∧ x3 = nI q ∧ f7_hasTwoBacks 10 s x2 x3 = 1 ∧ f10_isBack s x2 = 1 ∧ f10_isBack s x3 = 1) ∨ (f7_hasTwoBacks 10 s x2 x3 = 0 ∧ (f10_isBack s x2 = 0 ∨ (f10_isBack s x2 = 1 ∧ (f10_isBack s x3 = 0 ∨ (f10_isBack s x3 = 1 ∧ x2 = x3))))) := by
      unfold f7_hasTwoBacks f7_hasTwoBacks_b0 f7_hasTwoBacks_b25
      rcases q_hasBack hP5 hS.1.2.2.2.1 hS.1.2.2.2.2.2.1 x2 with ⟨p, hp, rfl, c1, c2⟩ | ⟨c1, c2⟩
      · rcases q_hasBack hP5 hS.1.2.2.2.1 hS.1.2.2.2.2.2.1 x3 with ⟨q, hq, rfl, d1, d2⟩ | ⟨d1, d2⟩
        · rw [c1, if_neg q_b1, d1, if_neg q_b1]
          by_cases e : p = q
          · right
            rw [if_pos (by rw [e])]
            exact ⟨rfl, Or.inr ⟨c2, Or.inr ⟨d2, by rw [e]⟩⟩⟩
          · left
            rw [if_neg (fun w => e ((nI_eq (by omega) (by omega)).mp w))]
            exact ⟨p, q, hp, hq, e, rfl, rfl, rfl, c2, d2⟩
        · right
          rw [c1, if_neg q_b1, d1, if_pos rfl]
          exact ⟨rfl, Or.inr ⟨c2, Or.inl d2⟩⟩
      · right
        rw [c1, if_pos rfl]
        exact ⟨rfl, Or.inl c2⟩
    rcases two with ⟨p, q, hp, hq, hne, rfl, rfl, c1, c2, c3⟩ | ⟨c1, c2⟩
    · have hx : ¬ nI p = nI q := fun w => hne ((nI_eq (by omega) (by omega)).mp w)
      by_cases e1 : q_on a g p = true
      · by_cases e2 : q_on a g q = true
        · refine ⟨-1000000003, s, s, ?_, ?_, hI⟩
          · unfold f9_hand f9_hand_b0
            rw [b1, if_neg q_b1, c1, if_neg q_b1, c_isOn hL.2.1 hB6 hP5 hL.1.t hg hp, if_pos e1]
            simp only [q_ob]
            rw [if_neg q_b1, c_isOn hL.2.1 hB6 hP5 hL.1.t hg hq, if_pos e2]
            rfl
          · unfold f10_hand f10_hand_b0
            rw [b2, if_neg q_b1, c2, if_neg q_b1, c3, if_neg q_b1, if_neg hx, m_bears hL.2.2 hB6 hP5 hL.1.t hg hp, if_pos e1]
            simp only [q_ob]
            rw [if_neg q_b1, m_bears hL.2.2 hB6 hP5 hL.1.t hg hq, if_pos e2]
            rfl
        · have hG' := q_hd_LG hL.1 hg hq e1 e2
          obtain ⟨t, u, v, w, t1, u1, v1, w1, i1, i2, i3, i4, i5, i6, i7, i8⟩ := q_deedG (a' := q_hd a g p q) (z' := z) (fun t => f3_handOn 16 t (nI g) (nI p) (nI q)) (fun t => if a 2 g = p + 1 then sf_st t 155 31 ((12 : Int32) + nI g) (nI q) else sf_st t 155 31 ((18 : Int32) + nI g) (nI q)) hS hL hT hF hB hU hM hO hG' (fun t ht => by
            obtain ⟨u, e1, e2, e3⟩ := c_handOn (q := q) ht hB6 hP5 hL.1.t hg hp
            exact ⟨u, e1, fun k hk => e2 k (by omega) (by omega), e3⟩) (fun t ht => by
            unfold q_hd
            by_cases y : a 2 g = p + 1
            · simp only [if_pos y]
              exact m_st2 ht hB6 hg
            · simp only [if_neg y]
              exact m_st3 ht hB6 hg)
          refine ⟨nI (q_gal sh (q_hd a g p q) B q (fun i => q_on (q_hd a g p q) i q) (q_hd a g p q 6 0)), u, w, ?_, ?_, i5⟩
          · unfold f9_hand f9_hand_b0
            rw [b1, if_neg q_b1, c1, if_neg q_b1, c_isOn hL.2.1 hB6 hP5 hL.1.t hg hp, if_pos e1]
            simp only [q_ob]
            rw [if_neg q_b1, c_isOn hL.2.1 hB6 hP5 hL.1.t hg hq, if_neg e2]
            simp only [q_ob]
            rw [if_pos trivial, t1]
            simp only [q_ob]
            rw [u1]
            simp only [q_ob]
            rw [c_gallingToday i1 hS.g i2 hG'.t hq]
            rfl
          · unfold f10_hand f10_hand_b0
            rw [q_isBu i6, b2, if_neg q_b1, q_isBa i6, c2, if_neg q_b1, q_isBa i6, c3, if_neg q_b1, if_neg hx, m_bears (hL.2.2.of i7) hB6 hP5 hL.1.t hg hp, if_pos e1]
            simp only [q_ob]
            rw [if_neg q_b1, m_bears (hL.2.2.of i7) hB6 hP5 hL.1.t hg hq, if_neg e2]
            simp only [q_ob]
            rw [if_pos trivial, v1]
            simp only [q_ob]
            have h2 := (hL.1.1 g hg).2.2.2.1
            rw [show sf_ld v 155 31 ((12 : Int32) + nI g) = some (v 155 (12 + g)) from q_ldn (o := 12) (g := g) (by omega), (i8.e hg).2.2.1]
            simp only [q_ob, q_en_p (show a 2 g ≤ 1000 by omega) (show p ≤ 1000 by omega)]
            unfold f10_hand_b85
            by_cases y : a 2 g = p + 1
            · simp only [if_pos y] at w1
              rw [if_pos y, w1]
              simp only [q_ob]
              rw [m_gallingOf i3 hS.g i4 hG'.t hq]
              rfl
            · simp only [if_neg y] at w1
              rw [if_neg y, w1]
              simp only [q_ob]
              rw [m_gallingOf i3 hS.g i4 hG'.t hq]
              rfl
      · refine ⟨-1000000003, s, s, ?_, ?_, hI⟩
        · unfold f9_hand f9_hand_b0
          rw [b1, if_neg q_b1, c1, if_neg q_b1, c_isOn hL.2.1 hB6 hP5 hL.1.t hg hp, if_neg e1]
          rfl
        · unfold f10_hand f10_hand_b0
          rw [b2, if_neg q_b1, c2, if_neg q_b1, c3, if_neg q_b1, if_neg hx, m_bears hL.2.2 hB6 hP5 hL.1.t hg hp, if_neg e1]
          rfl
    · refine ⟨-1000000001, s, s, ?_, ?_, hI⟩
      · unfold f9_hand f9_hand_b0
        rw [b1, if_neg q_b1, c1, if_pos rfl]
      · unfold f10_hand f10_hand_b0
        rw [b2, if_neg q_b1]
        rcases c2 with c2 | ⟨c2, c3 | ⟨c3, c4⟩⟩
        · rw [c2, if_pos rfl]
        · rw [c2, if_neg q_b1, c3, if_pos rfl]
        · rw [c2, if_neg q_b1, c3, if_neg q_b1, if_pos c4]
  · refine ⟨-1000000001, s, s, ?_, ?_, hI⟩
    · unfold f9_hand f9_hand_b0
      rw [b1, if_pos rfl]
    · unfold f10_hand f10_hand_b0
      rw [b2, if_pos rfl]
theorem q_LC.uz {s : sf_Sg} {B P : Nat} {a : Nat → Nat → Nat} {z : Int32} (h : q_LC s B P 16 a z) (z' : Int32) : q_LC (sf_s1 s 16 1 z') B P 16 a z' := by
  refine ⟨fun i hi => ?_, fun p hp => ?_, q_s1s, ?_⟩
  · rw [q_s1k (by decide), q_s1k (by decide), q_s1k (by decide), q_s1k (by decide)]
    exact h.1 i hi
  · rw [q_s1k (by decide)]
    exact h.2.1 p hp
  · rw [q_s1i (by decide)]
    exact h.2.2.2
theorem q_LM.uz {s : sf_Sg} {B P : Nat} {a : Nat → Nat → Nat} {z : Int32} (hB : B ≤ 6) (hP : P ≤ 5) (h : q_LM s B P 155 0 a z) (z' : Int32) : q_LM (sf_s1 s 155 29 z') B P 155 0 a z' := by
  refine ⟨fun i hi => ?_, fun p hp => ?_, q_s1s, ?_⟩
  · rw [q_s1i (by omega), q_s1i (by omega), q_s1i (by omega), q_s1i (by omega)]
    exact h.1 i hi
  · rw [q_s1i (by omega)]
    exact h.2.1 p hp
  · rw [q_s1i (by decide)]
    exact h.2.2.2
theorem p_weigh : st_weigh q_Inv := by
  intro s x1 x2 hI
  obtain ⟨B, P, sh, a, z, hS, hL, hT, hF, hB, hU, hM, hO⟩ := id hI
  have hB6 := hS.1.1
  have hP5 := hS.1.2.1
  have e : f10_in x2.toInt64 1 60 = f9_within x2 1 60 := q_in x2 1 60
  rcases q_hasBurden hB6 hS.1.2.2.1 hS.1.2.2.2.2.1 x1 with ⟨g, hg, rfl, b1, b2⟩ | ⟨b1, b2⟩
  · rcases q_within x2 (a := 1) (b := 60) (by decide) (by decide) with ⟨w0, c1, c2, rfl, c3⟩ | c3
    · have c3' : ¬ f9_within (nI w0) 1 60 = 0 := by
        have : f9_within (nI w0) 1 60 = 1 := c3
        rw [this]
        exact q_b1
      have hG' : q_LG B P (q_up a 0 g w0) := hL.1.up (by decide) (by omega) (by omega) (by omega) (by omega)
      obtain ⟨t, t1, t2, t3, t4, t5⟩ := q_deed hS hL hT hF hB hU hM hO
      obtain ⟨v, v1, v2, v3, v4, v5, v6⟩ := t5 (sf_s1 t 17 g (nI w0)) (fun k hk => q_s1k (by omega))
      refine ⟨nI (a 0 g), sf_s1 t 17 g (nI w0), sf_s1 v 155 g (nI w0), ?_, ?_, v6 _ _ _ (fun k hk => q_s1k hk) hG' (t3.u0 g w0) (v3.u0 hB6 hg w0)⟩
      · unfold f9_weigh f9_weigh_b0
        rw [b1, if_neg q_b1, if_neg c3', t1]
        simp only [q_ob]
        rw [q_ld (by omega) (by decide), (t3.1 g hg).1]
        simp only [q_ob]
        rw [q_st (by omega) (by decide)]
        rfl
      · have z1 : sf_s1 t 17 g (nI w0) 149 = s 149 := (q_s1k (by decide)).trans (t4 149 (by decide) (by omega))
        unfold f10_weigh f10_weigh_b0
        rw [q_isBu z1, b2, if_neg q_b1, e, if_neg c3', v1]
        simp only [q_ob]
        rw [q_ld (by omega) (by decide), (v3.e hg).1]
        simp only [q_ob]
        rw [q_st (by omega) (by decide)]
        rfl
    · have c3' : f9_within x2 1 60 = 0 := c3
      refine ⟨-1000000002, s, s, ?_, ?_, hI⟩
      · unfold f9_weigh f9_weigh_b0
        rw [b1, if_neg q_b1, if_pos c3']
      · unfold f10_weigh f10_weigh_b0
        rw [b2, if_neg q_b1, e, if_pos c3']
  · refine ⟨-1000000001, s, s, ?_, ?_, hI⟩
    · unfold f9_weigh f9_weigh_b0
      rw [b1, if_pos rfl]
    · unfold f10_weigh f10_weigh_b0
      rw [b2, if_pos rfl]
theorem p_stuff : st_stuff q_Inv := by
  intro s x1 x2 hI
  obtain ⟨B, P, sh, a, z, hS, hL, hT, hF, hB, hU, hM, hO⟩ := id hI
  have hB6 := hS.1.1
  have hP5 := hS.1.2.1
  have e : f10_in x2.toInt64 (-30) 30 = f9_within x2 (-30) 30 := q_in x2 (-30) 30
  rcases q_hasBurden hB6 hS.1.2.2.1 hS.1.2.2.2.2.1 x1 with ⟨g, hg, rfl, b1, b2⟩ | ⟨b1, b2⟩
  · by_cases c3 : f9_within x2 (-30) 30 = 0
    · refine ⟨-1000000002, s, s, ?_, ?_, hI⟩
      · unfold f9_stuff f9_stuff_b0
        rw [b1, if_neg q_b1, if_pos c3]
      · unfold f10_stuff f10_stuff_b0
        rw [b2, if_neg q_b1, e, if_pos c3]
    · have e2 : f10_in (nI (a 1 g) + x2).toInt64 0 30 = f9_within (nI (a 1 g) + x2) 0 30 := q_in _ 0 30
      have l9 : sf_ld s 18 6 (nI g) = some (nI (a 1 g)) := by
        rw [q_ld (by omega) (by decide)]
        exact congrArg some (hL.2.1.1 g hg).2.1
      have l10 : sf_ld s 155 31 ((6 : Int32) + nI g) = some (nI (a 1 g)) := by
        rw [show sf_ld s 155 31 ((6 : Int32) + nI g) = some (s 155 (6 + g)) from q_ldn (o := 6) (g := g) (by omega), (hL.2.2.e hg).2.1]
      have l29 : ∀ t : sf_Sg, sf_ld t 155 31 (29 : Int32) = some (t 155 29) := fun t => q_ld (i := 29) (by decide) (by decide)
      have z9 : s 16 1 = z := hL.2.1.2.2.1
      rcases q_within (nI (a 1 g) + x2) (a := 0) (b := 30) (by decide) (by decide) with ⟨m, d1, d2, d3, d4⟩ | d4
      · have d4' : ¬ f9_within (nI (a 1 g) + x2) 0 30 = 0 := by
          have : f9_within (nI (a 1 g) + x2) 0 30 = 1 := d4
          rw [this]
          exact q_b1
        by_cases hz : x2 ≤ z
        · have hG' : q_LG B P (q_up a 1 g m) := hL.1.up (by decide) (by omega) (by omega) (by omega) (by omega)
          obtain ⟨t, t1, t2, t3, t4, t5⟩ := q_deed hS hL hT hF hB hU hM hO
          obtain ⟨v, v1, v2, v3, v4, v5, v6⟩ := t5 (sf_s1 (sf_s1 t 18 g (nI m)) 16 1 (z - x2)) (fun k hk => by rw [q_s1k (by omega), q_s1k (by omega)])
          have hC' := (t3.u1 g m).uz (z - x2)
          have hM' := (v3.u1 hB6 hg m).uz hB6 hP5 (z - x2)
          refine ⟨nI m, sf_s1 (sf_s1 t 18 g (nI m)) 16 1 (z - x2), sf_s1 (sf_s1 v 155 (6 + g) (nI m)) 155 29 (z - x2), ?_, ?_, v6 _ _ _ (fun k hk => by rw [q_s1k hk, q_s1k hk]) hG' hC' hM'⟩
          · unfold f9_stuff f9_stuff_b0
            rw [b1, if_neg q_b1, if_neg c3, l9]
            simp only [q_ob]
            rw [if_neg d4', z9, if_pos hz, t1]
            simp only [q_ob]
            rw [q_ld (by omega) (by decide), show t 18 g = nI (a 1 g) from (t3.1 g hg).2.1]
            simp only [q_ob]
            rw [d3, q_st (by omega) (by decide)]
            simp only [q_ob]
            rw [show sf_s1 t 18 g (nI m) 16 1 = z from (congrFun (q_s1k (by decide)) 1).trans t3.2.2.1, q_ld (by omega) (by decide)]
            simp only [q_ob]
            rw [q_s1k (by decide), q_s1s]
          · have z1 : sf_s1 (sf_s1 t 18 g (nI m)) 16 1 (z - x2) 149 = s 149 := by rw [q_s1k (by decide), q_s1k (by decide)]; exact t4 149 (by decide) (by omega)
            have z2 : sf_s1 (sf_s1 t 18 g (nI m)) 16 1 (z - x2) 155 = s 155 := by rw [q_s1k (by decide), q_s1k (by decide)]; exact t4 155 (by decide) (by omega)
            unfold f10_stuff f10_stuff_b0
            rw [q_isBu z1, b2, if_neg q_b1, e, if_neg c3]
            rw [show sf_ld (sf_s1 (sf_s1 t 18 g (nI m)) 16 1 (z - x2)) 155 31 ((6 : Int32) + nI g) = some (nI (a 1 g)) by rw [← l10]; unfold sf_ld; rw [z2]]
            simp only [q_ob]
            rw [e2, if_neg d4', l29, z2, hL.2.2.zt]
            simp only [q_ob]
            rw [if_pos hz, v1]
            simp only [q_ob]
            rw [show (6 : Int32) + nI g = nI (6 + g) from nI_add 6 g, q_ld (by omega) (by decide), (v3.e hg).2.1]
            simp only [q_ob]
            rw [d3, q_st (by omega) (by decide)]
            simp only [q_ob]
            rw [l29, q_s1i (by omega), v3.zt]
            simp only [q_ob]
            rw [show (29 : Int32) = nI 29 from rfl, q_st (by decide) (by decide)]
            simp only [q_ob]
            rw [q_ld (by omega) (by decide)]
            simp only [q_ob]
            rw [q_s1i (by omega), q_s1s]
        · refine ⟨-1000000003, s, s, ?_, ?_, hI⟩
          · unfold f9_stuff f9_stuff_b0
            rw [b1, if_neg q_b1, if_neg c3, l9]
            simp only [q_ob]
            rw [if_neg d4', z9, if_neg hz]
          · unfold f10_stuff f10_stuff_b0
            rw [b2, if_neg q_b1, e, if_neg c3, l10]
            simp only [q_ob]
            rw [e2, if_neg d4', l29, hL.2.2.zt]
            simp only [q_ob]
            rw [if_neg hz]
      · have d4' : f9_within (nI (a 1 g) + x2) 0 30 = 0 := d4
        refine ⟨-1000000003, s, s, ?_, ?_, hI⟩
        · unfold f9_stuff f9_stuff_b0
          rw [b1, if_neg q_b1, if_neg c3, l9]
          simp only [q_ob]
          rw [if_pos d4']
        · unfold f10_stuff f10_stuff_b0
          rw [b2, if_neg q_b1, e, if_neg c3, l10]
          simp only [q_ob]
          rw [e2, if_pos d4']
  · refine ⟨-1000000001, s, s, ?_, ?_, hI⟩
    · unfold f9_stuff f9_stuff_b0
      rw [b1, if_pos rfl]
    · unfold f10_stuff f10_stuff_b0
      rw [b2, if_pos rfl]
