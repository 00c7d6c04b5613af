set_option maxHeartbeats 4000000 in
set_option maxRecDepth 100000 in
theorem w10_freeOnes_b33 {X : sf_X} {V : sf_V} {s : sf_Sg} {r : Int32} {k4 : Int32 → Int32 → Option Int32} (C : sf_C X V cX10_freeOnes 3 RX10 (some .int) 0) (hk4 : ∀  (x1 : Int32) (x2 : Int32), k4 x1 x2 = some r → sf_G X V 3 (sf_Q X V (sf_Qi V r s)) s 4 [(0, .ref (V.2.1 149)), (1, .int x1), (2, .int x2)] []) {x2 : Int32} {t1 : Int32} {t0 : Int32} (h : f10_freeOnes_b33 s k4 x2 t1 t0 = some r) : sf_G X V 3 (sf_Q X V (sf_Qi V r s)) s 33 [(0, .ref (V.2.1 149)), (2, .int x2)] [.int t1, .int t0] := by
  unfold f10_freeOnes_b33 at h
  refine sf_ior (pc := 33) C dX10_freeOnes_33 ?_
  refine sf_istore_n (lv' := [(1, .int (t0 ||| t1)), (0, .ref (V.2.1 149)), (2, .int x2)]) (pc := 34) C dX10_freeOnes_34 (by decide) rfl ?_
  refine sf_iinc (v := (x2 + 1)) (lv' := [(2, .int (x2 + 1)), (1, .int (t0 ||| t1)), (0, .ref (V.2.1 149))]) (pc := 35) C 2 dX10_freeOnes_35 rfl rfl (by decide) rfl ?_
  refine sf_goto (tgt := 4) (pc := 38) C dX10_freeOnes_38 rfl ?_
  refine sf_sub [2, 1, 0] rfl ?_
  exact hk4 _ _ h
set_option maxHeartbeats 4000000 in
set_option maxRecDepth 100000 in
theorem w10_freeOnes_b4 {X : sf_X} {V : sf_V} {s : sf_Sg} {r : Int32} {k4 : Int32 → Int32 → Option Int32} (C : sf_C X V cX10_freeOnes 3 RX10 (some .int) 0) (hk4 : ∀  (x1 : Int32) (x2 : Int32), k4 x1 x2 = some r → sf_G X V 3 (sf_Q X V (sf_Qi V r s)) s 4 [(0, .ref (V.2.1 149)), (1, .int x1), (2, .int x2)] []) {x1 : Int32} {x2 : Int32} (h : f10_freeOnes_b4 s k4 x1 x2 = some r) : sf_G X V 3 (sf_Q X V (sf_Qi V r s)) s 4 [(0, .ref (V.2.1 149)), (1, .int x1), (2, .int x2)] [] := by
  unfold f10_freeOnes_b4 at h
  refine sf_iload_n (pc := 4) C 2 dX10_freeOnes_4 rfl ?_
  refine sf_aload_n (pc := 5) C 0 dX10_freeOnes_5 rfl ?_
  refine sf_get (pc := 6) C nk_149 sh_149 rfl fl_10_88 dX10_freeOnes_6 ?_
  refine sf_icmp_ge (tgt := 41) (pc := 9) C dX10_freeOnes_9 rfl (fun c9 => ?_) (fun c9 => ?_)
  · replace h := (if_pos c9).symm.trans h
    refine sf_iload_n (pc := 41) C 1 dX10_freeOnes_41 rfl ?_
    exact sf_iretR (pc := 42) C dX10_freeOnes_42 h
  · replace h := (if_neg c9).symm.trans h
    refine sf_iload_n (pc := 12) C 1 dX10_freeOnes_12 rfl ?_
    refine sf_aload_n (pc := 13) C 0 dX10_freeOnes_13 rfl ?_
    refine sf_getr (pc := 14) C nk_149 sh_149 rfl fl_10_25 dX10_freeOnes_14 ?_
    refine sf_bipush (v := 12) (pc := 17) C dX10_freeOnes_17 (by decide) ?_
    refine sf_iload_n (pc := 19) C 2 dX10_freeOnes_19 rfl ?_
    refine sf_iadd (pc := 20) C dX10_freeOnes_20 ?_
    obtain ⟨v21, e21, h⟩ := sf_ob h
    refine sf_iald (pc := 21) C nk_155 sh_155 e21 dX10_freeOnes_21 ?_
    refine sf_iconst (v := -1) (pc := 22) C dX10_freeOnes_22 (by decide) ?_
    refine sf_icmp_ne (tgt := 32) (pc := 23) C dX10_freeOnes_23 rfl (fun c23 => ?_) (fun c23 => ?_)
    · replace h := (if_neg c23).symm.trans h
      refine sf_iconst (v := 0) (pc := 32) C dX10_freeOnes_32 (by decide) ?_
      refine sf_sub [0, 2] rfl ?_
      exact w10_freeOnes_b33 C hk4 h
    · replace h := (if_pos c23).symm.trans h
      refine sf_iconst (v := 1) (pc := 26) C dX10_freeOnes_26 (by decide) ?_
      refine sf_iload_n (pc := 27) C 2 dX10_freeOnes_27 rfl ?_
      refine sf_ishl (pc := 28) C dX10_freeOnes_28 ?_
      refine sf_goto (tgt := 33) (pc := 29) C dX10_freeOnes_29 rfl ?_
      refine sf_sub [0, 2] rfl ?_
      exact w10_freeOnes_b33 C hk4 h
set_option maxHeartbeats 4000000 in
set_option maxRecDepth 100000 in
theorem w10_freeOnes_L4 {X : sf_X} {V : sf_V} {s : sf_Sg} {r : Int32} (C : sf_C X V cX10_freeOnes 3 RX10 (some .int) 0) : ∀  (x1 : Int32) (x2 : Int32), f10_freeOnes_L4 s x1 x2 = some r → sf_G X V 3 (sf_Q X V (sf_Qi V r s)) s 4 [(0, .ref (V.2.1 149)), (1, .int x1), (2, .int x2)] [] :=
  sf_it_ind (fun (k : Int32 → Int32 → Option Int32) => ∀  (x1 : Int32) (x2 : Int32), k x1 x2 = some r → sf_G X V 3 (sf_Q X V (sf_Qi V r s)) s 4 [(0, .ref (V.2.1 149)), (1, .int x1), (2, .int x2)] []) _ _ (fun x1 x2 h => by cases h) (fun k hk x1 x2 h => w10_freeOnes_b4 C hk h) _
set_option maxHeartbeats 4000000 in
set_option maxRecDepth 100000 in
theorem w10_freeOnes_b0 {X : sf_X} {V : sf_V} {s : sf_Sg} {r : Int32} (C : sf_C X V cX10_freeOnes 3 RX10 (some .int) 0) (h : f10_freeOnes_b0 s = some r) : sf_G X V 3 (sf_Q X V (sf_Qi V r s)) s 0 [(0, .ref (V.2.1 149))] [] := by
  unfold f10_freeOnes_b0 at h
  refine sf_iconst (v := 0) (pc := 0) C dX10_freeOnes_0 (by decide) ?_
  refine sf_istore_n (lv' := [(1, .int (0 : Int32)), (0, .ref (V.2.1 149))]) (pc := 1) C dX10_freeOnes_1 (by decide) rfl ?_
  refine sf_iconst (v := 0) (pc := 2) C dX10_freeOnes_2 (by decide) ?_
  refine sf_istore_n (lv' := [(2, .int (0 : Int32)), (1, .int (0 : Int32)), (0, .ref (V.2.1 149))]) (pc := 3) C dX10_freeOnes_3 (by decide) rfl ?_
  refine sf_sub [2, 1, 0] rfl ?_
  exact w10_freeOnes_L4 C _ _ h
set_option maxHeartbeats 4000000 in
set_option maxRecDepth 100000 in
theorem k10_freeOnes {l : Launch} {V : sf_V} {s : sf_Sg} {r : Int32} (h : f10_freeOnes s = some r) : sf_M l V yX10_freeOnes (.code yX10_freeOnes cX10_freeOnes 3 (some .int)) 0 [.ref (V.2.1 149)] s (sf_Qi V r s) := by
  refine sf_enter (by decide) (Nat.le_of_ble_eq_true rfl) (fun X hX C => ?_)
  refine sf_sub [0] rfl ?_
  exact w10_freeOnes_b0 (show sf_C X V cX10_freeOnes 3 RX10 (some .int) 0 from C)  h
set_option maxHeartbeats 4000000 in
set_option maxRecDepth 100000 in
theorem w10_sharedOnes_b28 {X : sf_X} {V : sf_V} {s : sf_Sg} {r : Int32} {k4 : Int32 → Int32 → Option Int32} (C : sf_C X V cX10_sharedOnes 3 RX10 (some .int) 1) (hk4 : ∀  (x1 : Int32) (x2 : Int32), k4 x1 x2 = some r → sf_G X V 3 (sf_Q X V (sf_Qi V r s)) s 4 [(0, .ref (V.2.1 149)), (1, .int x1), (2, .int x2)] []) {x2 : Int32} {t1 : Int32} {t0 : Int32} (h : f10_sharedOnes_b28 s k4 x2 t1 t0 = some r) : sf_G X V 3 (sf_Q X V (sf_Qi V r s)) s 28 [(0, .ref (V.2.1 149)), (2, .int x2)] [.int t1, .int t0] := by
  unfold f10_sharedOnes_b28 at h
  refine sf_ior (pc := 28) C dX10_sharedOnes_28 ?_
  refine sf_istore_n (lv' := [(1, .int (t0 ||| t1)), (0, .ref (V.2.1 149)), (2, .int x2)]) (pc := 29) C dX10_sharedOnes_29 (by decide) rfl ?_
  refine sf_iinc (v := (x2 + 1)) (lv' := [(2, .int (x2 + 1)), (1, .int (t0 ||| t1)), (0, .ref (V.2.1 149))]) (pc := 30) C 2 dX10_sharedOnes_30 rfl rfl (by decide) rfl ?_
  refine sf_goto (tgt := 4) (pc := 33) C dX10_sharedOnes_33 rfl ?_
  refine sf_sub [2, 1, 0] rfl ?_
  exact hk4 _ _ h
set_option maxHeartbeats 4000000 in
set_option maxRecDepth 100000 in
theorem w10_sharedOnes_b4 {X : sf_X} {V : sf_V} {s : sf_Sg} {r : Int32} {k4 : Int32 → Int32 → Option Int32} (C : sf_C X V cX10_sharedOnes 3 RX10 (some .int) 1) (hk4 : ∀  (x1 : Int32) (x2 : Int32), k4 x1 x2 = some r → sf_G X V 3 (sf_Q X V (sf_Qi V r s)) s 4 [(0, .ref (V.2.1 149)), (1, .int x1), (2, .int x2)] []) {x1 : Int32} {x2 : Int32} (h : f10_sharedOnes_b4 s k4 x1 x2 = some r) : sf_G X V 3 (sf_Q X V (sf_Qi V r s)) s 4 [(0, .ref (V.2.1 149)), (1, .int x1), (2, .int x2)] [] := by
  unfold f10_sharedOnes_b4 at h
  refine sf_iload_n (pc := 4) C 2 dX10_sharedOnes_4 rfl ?_
  refine sf_aload_n (pc := 5) C 0 dX10_sharedOnes_5 rfl ?_
  refine sf_get (pc := 6) C nk_149 sh_149 rfl fl_10_88 dX10_sharedOnes_6 ?_
  refine sf_icmp_ge (tgt := 36) (pc := 9) C dX10_sharedOnes_9 rfl (fun c9 => ?_) (fun c9 => ?_)
  · replace h := (if_pos c9).symm.trans h
    refine sf_iload_n (pc := 36) C 1 dX10_sharedOnes_36 rfl ?_
    exact sf_iretR (pc := 37) C dX10_sharedOnes_37 h
  · replace h := (if_neg c9).symm.trans h
    refine sf_iload_n (pc := 12) C 1 dX10_sharedOnes_12 rfl ?_
    refine sf_aload_n (pc := 13) C 0 dX10_sharedOnes_13 rfl ?_
    refine sf_iload_n (pc := 14) C 2 dX10_sharedOnes_14 rfl ?_
    obtain ⟨v15, e15, h⟩ := sf_ob h
    refine sf_callVi (pc := 15) C (As := [.int x2]) nk_149 sh_149 rfl yk_X10_isShared cl_10_184 (k10_isShared e15) (by decide) rfl (Nat.le_of_ble_eq_true rfl) rfl dX10_sharedOnes_15 ?_
    refine sf_if_eq (tgt := 27) (pc := 18) C dX10_sharedOnes_18 rfl (fun c18 => ?_) (fun c18 => ?_)
    · replace h := (if_pos c18).symm.trans h
      refine sf_iconst (v := 0) (pc := 27) C dX10_sharedOnes_27 (by decide) ?_
      refine sf_sub [0, 2] rfl ?_
      exact w10_sharedOnes_b28 C hk4 h
    · replace h := (if_neg c18).symm.trans h
      refine sf_iconst (v := 1) (pc := 21) C dX10_sharedOnes_21 (by decide) ?_
      refine sf_iload_n (pc := 22) C 2 dX10_sharedOnes_22 rfl ?_
      refine sf_ishl (pc := 23) C dX10_sharedOnes_23 ?_
      refine sf_goto (tgt := 28) (pc := 24) C dX10_sharedOnes_24 rfl ?_
      refine sf_sub [0, 2] rfl ?_
      exact w10_sharedOnes_b28 C hk4 h
set_option maxHeartbeats 4000000 in
set_option maxRecDepth 100000 in
theorem w10_sharedOnes_L4 {X : sf_X} {V : sf_V} {s : sf_Sg} {r : Int32} (C : sf_C X V cX10_sharedOnes 3 RX10 (some .int) 1) : ∀  (x1 : Int32) (x2 : Int32), f10_sharedOnes_L4 s x1 x2 = some r → sf_G X V 3 (sf_Q X V (sf_Qi V r s)) s 4 [(0, .ref (V.2.1 149)), (1, .int x1), (2, .int x2)] [] :=
  sf_it_ind (fun (k : Int32 → Int32 → Option Int32) => ∀  (x1 : Int32) (x2 : Int32), k x1 x2 = some r → sf_G X V 3 (sf_Q X V (sf_Qi V r s)) s 4 [(0, .ref (V.2.1 149)), (1, .int x1), (2, .int x2)] []) _ _ (fun x1 x2 h => by cases h) (fun k hk x1 x2 h => w10_sharedOnes_b4 C hk h) _
set_option maxHeartbeats 4000000 in
set_option maxRecDepth 100000 in
theorem w10_sharedOnes_b0 {X : sf_X} {V : sf_V} {s : sf_Sg} {r : Int32} (C : sf_C X V cX10_sharedOnes 3 RX10 (some .int) 1) (h : f10_sharedOnes_b0 s = some r) : sf_G X V 3 (sf_Q X V (sf_Qi V r s)) s 0 [(0, .ref (V.2.1 149))] [] := by
  unfold f10_sharedOnes_b0 at h
  refine sf_iconst (v := 0) (pc := 0) C dX10_sharedOnes_0 (by decide) ?_
  refine sf_istore_n (lv' := [(1, .int (0 : Int32)), (0, .ref (V.2.1 149))]) (pc := 1) C dX10_sharedOnes_1 (by decide) rfl ?_
  refine sf_iconst (v := 0) (pc := 2) C dX10_sharedOnes_2 (by decide) ?_
  refine sf_istore_n (lv' := [(2, .int (0 : Int32)), (1, .int (0 : Int32)), (0, .ref (V.2.1 149))]) (pc := 3) C dX10_sharedOnes_3 (by decide) rfl ?_
  refine sf_sub [2, 1, 0] rfl ?_
  exact w10_sharedOnes_L4 C _ _ h
set_option maxHeartbeats 4000000 in
set_option maxRecDepth 100000 in
theorem k10_sharedOnes {l : Launch} {V : sf_V} {s : sf_Sg} {r : Int32} (h : f10_sharedOnes s = some r) : sf_M l V yX10_sharedOnes (.code yX10_sharedOnes cX10_sharedOnes 3 (some .int)) 1 [.ref (V.2.1 149)] s (sf_Qi V r s) := by
  refine sf_enter (by decide) (Nat.le_of_ble_eq_true rfl) (fun X hX C => ?_)
  refine sf_sub [0] rfl ?_
  exact w10_sharedOnes_b0 (show sf_C X V cX10_sharedOnes 3 RX10 (some .int) 1 from C)  h
set_option maxHeartbeats 4000000 in
set_option maxRecDepth 100000 in
theorem w10_most_b34 {X : sf_X} {V : sf_V} {s : sf_Sg} {r : Int32} {k4 : Int32 → Int32 → Option Int32} (C : sf_C X V cX10_most 3 RX10 (some .int) 3) (hk4 : ∀  (x1 : Int32) (x2 : Int32), k4 x1 x2 = some r → sf_G X V 3 (sf_Q X V (sf_Qi V r s)) s 4 [(0, .ref (V.2.1 149)), (1, .int x1), (2, .int x2)] []) {x2 : Int32} {t0 : Int32} (h : f10_most_b34 s k4 x2 t0 = some r) : sf_G X V 3 (sf_Q X V (sf_Qi V r s)) s 34 [(0, .ref (V.2.1 149)), (2, .int x2)] [.int t0] := by
  unfold f10_most_b34 at h
  refine sf_istore_n (lv' := [(1, .int t0), (0, .ref (V.2.1 149)), (2, .int x2)]) (pc := 34) C dX10_most_34 (by decide) rfl ?_
  refine sf_iinc (v := (x2 + 1)) (lv' := [(2, .int (x2 + 1)), (1, .int t0), (0, .ref (V.2.1 149))]) (pc := 35) C 2 dX10_most_35 rfl rfl (by decide) rfl ?_
  refine sf_goto (tgt := 4) (pc := 38) C dX10_most_38 rfl ?_
  refine sf_sub [2, 1, 0] rfl ?_
  exact hk4 _ _ h
set_option maxHeartbeats 4000000 in
set_option maxRecDepth 100000 in
theorem w10_most_b29 {X : sf_X} {V : sf_V} {s : sf_Sg} {r : Int32} {k4 : Int32 → Int32 → Option Int32} (C : sf_C X V cX10_most 3 RX10 (some .int) 3) (hk4 : ∀  (x1 : Int32) (x2 : Int32), k4 x1 x2 = some r → sf_G X V 3 (sf_Q X V (sf_Qi V r s)) s 4 [(0, .ref (V.2.1 149)), (1, .int x1), (2, .int x2)] []) {x2 : Int32} (h : f10_most_b29 s k4 x2 = some r) : sf_G X V 3 (sf_Q X V (sf_Qi V r s)) s 29 [(0, .ref (V.2.1 149)), (2, .int x2)] [] := by
  unfold f10_most_b29 at h
  refine sf_iload_n (pc := 29) C 1 dX10_most_29 rfl ?_
  refine sf_goto (tgt := 34) (pc := 30) C dX10_most_30 rfl ?_
  exact w10_most_b34 C hk4 h
set_option maxHeartbeats 4000000 in
set_option maxRecDepth 100000 in
theorem w10_most_b4 {X : sf_X} {V : sf_V} {s : sf_Sg} {r : Int32} {k4 : Int32 → Int32 → Option Int32} (C : sf_C X V cX10_most 3 RX10 (some .int) 3) (hk4 : ∀  (x1 : Int32) (x2 : Int32), k4 x1 x2 = some r → sf_G X V 3 (sf_Q X V (sf_Qi V r s)) s 4 [(0, .ref (V.2.1 149)), (1, .int x1), (2, .int x2)] []) {x1 : Int32} {x2 : Int32} (h : f10_most_b4 s k4 x1 x2 = some r) : sf_G X V 3 (sf_Q X V (sf_Qi V r s)) s 4 [(0, .ref (V.2.1 149)), (1, .int x1), (2, .int x2)] [] := by
  unfold f10_most_b4 at h
  refine sf_iload_n (pc := 4) C 2 dX10_most_4 rfl ?_
  refine sf_aload_n (pc := 5) C 0 dX10_most_5 rfl ?_
  refine sf_get (pc := 6) C nk_149 sh_149 rfl fl_10_95 dX10_most_6 ?_
  refine sf_icmp_ge (tgt := 41) (pc := 9) C dX10_most_9 rfl (fun c9 => ?_) (fun c9 => ?_)
  · replace h := (if_pos c9).symm.trans h
    refine sf_iload_n (pc := 41) C 1 dX10_most_41 rfl ?_
    exact sf_iretR (pc := 42) C dX10_most_42 h
  · replace h := (if_neg c9).symm.trans h
    refine sf_iload_n (pc := 12) C 1 dX10_most_12 rfl ?_
    refine sf_if_lt (tgt := 29) (pc := 13) C dX10_most_13 rfl (fun c13 => ?_) (fun c13 => ?_)
    · replace h := (if_pos c13).symm.trans h
      refine sf_sub [0, 2] rfl ?_
      exact w10_most_b29 C hk4 h
    · replace h := (if_neg c13).symm.trans h
      refine sf_aload_n (pc := 16) C 0 dX10_most_16 rfl ?_
      refine sf_iload_n (pc := 17) C 2 dX10_most_17 rfl ?_
      obtain ⟨v18, e18, h⟩ := sf_ob h
      refine sf_callVi (pc := 18) C (As := [.int x2]) nk_149 sh_149 rfl yk_X10_partsOf cl_10_202 (k10_partsOf e18) (by decide) rfl (Nat.le_of_ble_eq_true rfl) rfl dX10_most_18 ?_
      refine sf_aload_n (pc := 21) C 0 dX10_most_21 rfl ?_
      refine sf_iload_n (pc := 22) C 1 dX10_most_22 rfl ?_
      obtain ⟨v23, e23, h⟩ := sf_ob h
      refine sf_callVi (pc := 23) C (As := [.int x1]) nk_149 sh_149 rfl yk_X10_partsOf cl_10_202 (k10_partsOf e23) (by decide) rfl (Nat.le_of_ble_eq_true rfl) rfl dX10_most_23 ?_
      refine sf_icmp_le (tgt := 33) (pc := 26) C dX10_most_26 rfl (fun c26 => ?_) (fun c26 => ?_)
      · replace h := (if_pos c26).symm.trans h
        refine sf_iload_n (pc := 33) C 1 dX10_most_33 rfl ?_
        refine sf_sub [0, 2] rfl ?_
        exact w10_most_b34 C hk4 h
      · replace h := (if_neg c26).symm.trans h
        refine sf_sub [0, 2] rfl ?_
        exact w10_most_b29 C hk4 h
set_option maxHeartbeats 4000000 in
set_option maxRecDepth 100000 in
theorem w10_most_L4 {X : sf_X} {V : sf_V} {s : sf_Sg} {r : Int32} (C : sf_C X V cX10_most 3 RX10 (some .int) 3) : ∀  (x1 : Int32) (x2 : Int32), f10_most_L4 s x1 x2 = some r → sf_G X V 3 (sf_Q X V (sf_Qi V r s)) s 4 [(0, .ref (V.2.1 149)), (1, .int x1), (2, .int x2)] [] :=
  sf_it_ind (fun (k : Int32 → Int32 → Option Int32) => ∀  (x1 : Int32) (x2 : Int32), k x1 x2 = some r → sf_G X V 3 (sf_Q X V (sf_Qi V r s)) s 4 [(0, .ref (V.2.1 149)), (1, .int x1), (2, .int x2)] []) _ _ (fun x1 x2 h => by cases h) (fun k hk x1 x2 h => w10_most_b4 C hk h) _
set_option maxHeartbeats 4000000 in
set_option maxRecDepth 100000 in
theorem w10_most_b0 {X : sf_X} {V : sf_V} {s : sf_Sg} {r : Int32} (C : sf_C X V cX10_most 3 RX10 (some .int) 3) (h : f10_most_b0 s = some r) : sf_G X V 3 (sf_Q X V (sf_Qi V r s)) s 0 [(0, .ref (V.2.1 149))] [] := by
  unfold f10_most_b0 at h
  refine sf_iconst (v := -1) (pc := 0) C dX10_most_0 (by decide) ?_
  refine sf_istore_n (lv' := [(1, .int (-1 : Int32)), (0, .ref (V.2.1 149))]) (pc := 1) C dX10_most_1 (by decide) rfl ?_
  refine sf_iconst (v := 0) (pc := 2) C dX10_most_2 (by decide) ?_
  refine sf_istore_n (lv' := [(2, .int (0 : Int32)), (1, .int (-1 : Int32)), (0, .ref (V.2.1 149))]) (pc := 3) C dX10_most_3 (by decide) rfl ?_
  refine sf_sub [2, 1, 0] rfl ?_
  exact w10_most_L4 C _ _ h
set_option maxHeartbeats 4000000 in
set_option maxRecDepth 100000 in
theorem k10_most {l : Launch} {V : sf_V} {s : sf_Sg} {r : Int32} (h : f10_most s = some r) : sf_M l V yX10_most (.code yX10_most cX10_most 3 (some .int)) 3 [.ref (V.2.1 149)] s (sf_Qi V r s) := by
  refine sf_enter (by decide) (Nat.le_of_ble_eq_true rfl) (fun X hX C => ?_)
  refine sf_sub [0] rfl ?_
  exact w10_most_b0 (show sf_C X V cX10_most 3 RX10 (some .int) 3 from C)  h
set_option maxHeartbeats 4000000 in
set_option maxRecDepth 100000 in
theorem w10_needOf_b0 {X : sf_X} {V : sf_V} {s : sf_Sg} {r : Int32} (C : sf_C X V cX10_needOf 3 RX10 (some .int) 2) {x1 : Int32} (h : f10_needOf_b0 s x1 = some r) : sf_G X V 3 (sf_Q X V (sf_Qi V r s)) s 0 [(0, .ref (V.2.1 149)), (1, .int x1)] [] := by
  unfold f10_needOf_b0 at h
  refine sf_aload_n (pc := 0) C 0 dX10_needOf_0 rfl ?_
  refine sf_iload_n (pc := 1) C 1 dX10_needOf_1 rfl ?_
  obtain ⟨v2, e2, h⟩ := sf_ob h
  refine sf_callVi (pc := 2) C (As := [.int x1]) nk_149 sh_149 rfl yk_X10_restOf cl_10_192 (k10_restOf e2) (by decide) rfl (Nat.le_of_ble_eq_true rfl) rfl dX10_needOf_2 ?_
  refine sf_istore_n (lv' := [(2, .int v2), (0, .ref (V.2.1 149)), (1, .int x1)]) (pc := 5) C dX10_needOf_5 (by decide) rfl ?_
  refine sf_aload_n (pc := 6) C 1 dX10_needOf_6 rfl ?_
  refine sf_getr (pc := 7) C nk_149 sh_149 rfl fl_10_7 dX10_needOf_7 ?_
  refine sf_iload_n (pc := 10) C 2 dX10_needOf_10 rfl ?_
  obtain ⟨v11, e11, h⟩ := sf_ob h
  refine sf_iald (pc := 11) C nk_150 sh_150 e11 dX10_needOf_11 ?_
  by_cases c12_1 : v11 = 1
  · replace h := (if_pos c12_1).symm.trans h
    refine sf_tabIn (off := 32) (tgt := 44) (pc := 12) C dX10_needOf_12 (by rw [c12_1]; decide) (by rw [c12_1]; decide) (by rw [c12_1]; rfl) rfl ?_
    refine sf_aload_n (pc := 44) C 1 dX10_needOf_44 rfl ?_
    refine sf_iload_n (pc := 45) C 2 dX10_needOf_45 rfl ?_
    obtain ⟨v46, e46, h⟩ := sf_ob h
    refine sf_callVi (pc := 46) C (As := [.int x1]) nk_149 sh_149 rfl yk_X10_isShared cl_10_184 (k10_isShared e46) (by decide) rfl (Nat.le_of_ble_eq_true rfl) rfl dX10_needOf_46 ?_
    refine sf_if_eq (tgt := 61) (pc := 49) C dX10_needOf_49 rfl (fun c49 => ?_) (fun c49 => ?_)
    · replace h := (if_pos c49).symm.trans h
      refine sf_iload_n (pc := 61) C 0 dX10_needOf_61 rfl ?_
      exact sf_iretR (pc := 62) C dX10_needOf_62 h
    · replace h := (if_neg c49).symm.trans h
      refine sf_iload_n (pc := 52) C 0 dX10_needOf_52 rfl ?_
      refine sf_iconst (v := 1) (pc := 53) C dX10_needOf_53 (by decide) ?_
      refine sf_isub (pc := 54) C dX10_needOf_54 ?_
      refine sf_callSi (pc := 55) C (As := [.int (v2 - (1 : Int32))]) yk_X10_notBelow cl_10_188 (k10_notBelow rfl) (by decide) rfl (Nat.le_of_ble_eq_true rfl) rfl dX10_needOf_55 ?_
      refine sf_goto (tgt := 62) (pc := 58) C dX10_needOf_58 rfl ?_
      exact sf_iretR (pc := 62) C dX10_needOf_62 h
  replace h := (if_neg c12_1).symm.trans h
  by_cases c12_3 : v11 = 3
  · replace h := (if_pos c12_3).symm.trans h
    refine sf_tabIn (off := 51) (tgt := 63) (pc := 12) C dX10_needOf_12 (by rw [c12_3]; decide) (by rw [c12_3]; decide) (by rw [c12_3]; rfl) rfl ?_
    refine sf_aload_n (pc := 63) C 1 dX10_needOf_63 rfl ?_
    refine sf_getr (pc := 64) C nk_149 sh_149 rfl fl_10_25 dX10_needOf_64 ?_
    refine sf_bipush (v := 30) (pc := 67) C dX10_needOf_67 (by decide) ?_
    obtain ⟨v69, e69, h⟩ := sf_ob h
    refine sf_iald (pc := 69) C nk_155 sh_155 e69 dX10_needOf_69 ?_
    refine sf_iconst (v := 2) (pc := 70) C dX10_needOf_70 (by decide) ?_
    refine sf_irem (pc := 71) C dX10_needOf_71 (by decide) ?_
    refine sf_iconst (v := 1) (pc := 72) C dX10_needOf_72 (by decide) ?_
    refine sf_icmp_ne (tgt := 81) (pc := 73) C dX10_needOf_73 rfl (fun c73 => ?_) (fun c73 => ?_)
    · replace h := (if_neg c73).symm.trans h
      refine sf_iload_n (pc := 81) C 0 dX10_needOf_81 rfl ?_
      exact sf_iretR (pc := 82) C dX10_needOf_82 h
    · replace h := (if_pos c73).symm.trans h
      refine sf_ldc (v := 1000000) (pc := 76) C dX10_needOf_76 tm_1056 ?_
      refine sf_goto (tgt := 82) (pc := 78) C dX10_needOf_78 rfl ?_
      exact sf_iretR (pc := 82) C dX10_needOf_82 h
  replace h := (if_neg c12_3).symm.trans h
  by_cases c12_4 : v11 = 4
  · replace h := (if_pos c12_4).symm.trans h
    refine sf_tabIn (off := 71) (tgt := 83) (pc := 12) C dX10_needOf_12 (by rw [c12_4]; decide) (by rw [c12_4]; decide) (by rw [c12_4]; rfl) rfl ?_
    refine sf_aload_n (pc := 83) C 1 dX10_needOf_83 rfl ?_
    obtain ⟨v84, e84, h⟩ := sf_ob h
    refine sf_callVi (pc := 84) C (As := []) nk_149 sh_149 rfl yk_X10_isAugust cl_10_195 (k10_isAugust e84) (by decide) rfl (Nat.le_of_ble_eq_true rfl) rfl dX10_needOf_84 ?_
    refine sf_if_eq (tgt := 94) (pc := 87) C dX10_needOf_87 rfl (fun c87 => ?_) (fun c87 => ?_)
    · replace h := (if_pos c87).symm.trans h
      refine sf_iconst (v := 0) (pc := 94) C dX10_needOf_94 (by decide) ?_
      exact sf_iretR (pc := 95) C dX10_needOf_95 h
    · replace h := (if_neg c87).symm.trans h
      refine sf_iload_n (pc := 90) C 0 dX10_needOf_90 rfl ?_
      refine sf_goto (tgt := 95) (pc := 91) C dX10_needOf_91 rfl ?_
      exact sf_iretR (pc := 95) C dX10_needOf_95 h
  replace h := (if_neg c12_4).symm.trans h
  by_cases c12_2 : v11 = 2
  · refine sf_tabIn (off := 84) (tgt := 96) (pc := 12) C dX10_needOf_12 (by rw [c12_2]; decide) (by rw [c12_2]; decide) (by rw [c12_2]; rfl) rfl ?_
    refine sf_iload_n (pc := 96) C 0 dX10_needOf_96 rfl ?_
    exact sf_iretR (pc := 97) C dX10_needOf_97 h
  refine sf_tabOut (tgt := 96) (pc := 12) C dX10_needOf_12 (by have z1 := lv_neT (a := 1) c12_1 (by decide); have z2 := lv_neT (a := 2) c12_2 (by decide); have z3 := lv_neT (a := 3) c12_3 (by decide); have z4 := lv_neT (a := 4) c12_4 (by decide); omega) rfl ?_
  refine sf_iload_n (pc := 96) C 0 dX10_needOf_96 rfl ?_
  exact sf_iretR (pc := 97) C dX10_needOf_97 h
set_option maxHeartbeats 4000000 in
set_option maxRecDepth 100000 in
theorem k10_needOf {l : Launch} {V : sf_V} {s : sf_Sg} {x1 : Int32} {r : Int32} (h : f10_needOf s x1 = some r) : sf_M l V yX10_needOf (.code yX10_needOf cX10_needOf 3 (some .int)) 2 [.ref (V.2.1 149), .int x1] s (sf_Qi V r s) := by
  refine sf_enter (by decide) (Nat.le_of_ble_eq_true rfl) (fun X hX C => ?_)
  refine sf_sub [0, 1] rfl ?_
  exact w10_needOf_b0 (show sf_C X V cX10_needOf 3 RX10 (some .int) 2 from C)  h
set_option maxHeartbeats 4000000 in
set_option maxRecDepth 100000 in
theorem w10_stuffFor_b50 {X : sf_X} {V : sf_V} {s : sf_Sg} {r : Int32} {k23 : Int32 → Int32 → Int32 → Option Int32} (C : sf_C X V cX10_stuffFor 4 RX10 (some .int) 3) (hk23 : ∀  (x1 : Int32) (x2 : Int32) (x3 : Int32), k23 x1 x2 x3 = some r → sf_G X V 4 (sf_Q X V (sf_Qi V r s)) s 23 [(0, .ref (V.2.1 149)), (1, .int x1), (2, .int x2), (3, .int x3)] []) {x1 : Int32} {x3 : Int32} {t1 : Int32} {t0 : Int32} (h : f10_stuffFor_b50 s k23 x1 x3 t1 t0 = some r) : sf_G X V 4 (sf_Q X V (sf_Qi V r s)) s 50 [(0, .ref (V.2.1 149)), (1, .int x1), (3, .int x3)] [.int t1, .int t0] := by
  unfold f10_stuffFor_b50 at h
  refine sf_iadd (pc := 50) C dX10_stuffFor_50 ?_
  refine sf_istore_n (lv' := [(2, .int (t0 + t1)), (0, .ref (V.2.1 149)), (1, .int x1), (3, .int x3)]) (pc := 51) C dX10_stuffFor_51 (by decide) rfl ?_
  refine sf_iinc (v := (x3 + 1)) (lv' := [(3, .int (x3 + 1)), (2, .int (t0 + t1)), (0, .ref (V.2.1 149)), (1, .int x1)]) (pc := 52) C 3 dX10_stuffFor_52 rfl rfl (by decide) rfl ?_
  refine sf_goto (tgt := 23) (pc := 55) C dX10_stuffFor_55 rfl ?_
  refine sf_sub [2, 3, 1, 0] rfl ?_
  exact hk23 _ _ _ h
set_option maxHeartbeats 4000000 in
set_option maxRecDepth 100000 in
theorem w10_stuffFor_b58 {X : sf_X} {V : sf_V} {s : sf_Sg} {r : Int32} (C : sf_C X V cX10_stuffFor 4 RX10 (some .int) 3) {x2 : Int32} (h : f10_stuffFor_b58 s x2 = some r) : sf_G X V 4 (sf_Q X V (sf_Qi V r s)) s 58 [(2, .int x2)] [] := by
  unfold f10_stuffFor_b58 at h
  refine sf_iload_n (pc := 58) C 0 dX10_stuffFor_58 rfl ?_
  refine sf_ldc (v := 1000000) (pc := 59) C dX10_stuffFor_59 tm_1056 ?_
  refine sf_icmp_ge (tgt := 68) (pc := 61) C dX10_stuffFor_61 rfl (fun c61 => ?_) (fun c61 => ?_)
  · replace h := (if_pos c61).symm.trans h
    refine sf_iconst (v := -1) (pc := 68) C dX10_stuffFor_68 (by decide) ?_
    exact sf_iretR (pc := 69) C dX10_stuffFor_69 h
  · replace h := (if_neg c61).symm.trans h
    refine sf_iload_n (pc := 64) C 0 dX10_stuffFor_64 rfl ?_
    refine sf_goto (tgt := 69) (pc := 65) C dX10_stuffFor_65 rfl ?_
    exact sf_iretR (pc := 69) C dX10_stuffFor_69 h
set_option maxHeartbeats 4000000 in
set_option maxRecDepth 100000 in
theorem w10_stuffFor_b23 {X : sf_X} {V : sf_V} {s : sf_Sg} {r : Int32} {k23 : Int32 → Int32 → Int32 → Option Int32} (C : sf_C X V cX10_stuffFor 4 RX10 (some .int) 3) (hk23 : ∀  (x1 : Int32) (x2 : Int32) (x3 : Int32), k23 x1 x2 x3 = some r → sf_G X V 4 (sf_Q X V (sf_Qi V r s)) s 23 [(0, .ref (V.2.1 149)), (1, .int x1), (2, .int x2), (3, .int x3)] []) {x1 : Int32} {x2 : Int32} {x3 : Int32} (h : f10_stuffFor_b23 s k23 x1 x2 x3 = some r) : sf_G X V 4 (sf_Q X V (sf_Qi V r s)) s 23 [(0, .ref (V.2.1 149)), (1, .int x1), (2, .int x2), (3, .int x3)] [] := by
  unfold f10_stuffFor_b23 at h
  refine sf_iload_n (pc := 23) C 3 dX10_stuffFor_23 rfl ?_
  refine sf_aload_n (pc := 24) C 0 dX10_stuffFor_24 rfl ?_
  refine sf_get (pc := 25) C nk_149 sh_149 rfl fl_10_88 dX10_stuffFor_25 ?_
  refine sf_icmp_ge (tgt := 58) (pc := 28) C dX10_stuffFor_28 rfl (fun c28 => ?_) (fun c28 => ?_)
  · replace h := (if_pos c28).symm.trans h
    refine sf_sub [2] rfl ?_
    exact w10_stuffFor_b58 C h
  · replace h := (if_neg c28).symm.trans h
    refine sf_iload_n (pc := 31) C 2 dX10_stuffFor_31 rfl ?_
    refine sf_aload_n (pc := 32) C 0 dX10_stuffFor_32 rfl ?_
    refine sf_iload_n (pc := 33) C 3 dX10_stuffFor_33 rfl ?_
    refine sf_iload_n (pc := 34) C 1 dX10_stuffFor_34 rfl ?_
    obtain ⟨v35, e35, h⟩ := sf_ob h
    refine sf_callVi (pc := 35) C (As := [.int x3, .int x1]) nk_149 sh_149 rfl yk_X10_bears cl_10_180 (k10_bears e35) (by decide) rfl (Nat.le_of_ble_eq_true rfl) rfl dX10_stuffFor_35 ?_
    refine sf_if_eq (tgt := 49) (pc := 38) C dX10_stuffFor_38 rfl (fun c38 => ?_) (fun c38 => ?_)
    · replace h := (if_pos c38).symm.trans h
      refine sf_iconst (v := 0) (pc := 49) C dX10_stuffFor_49 (by decide) ?_
      refine sf_sub [0, 1, 3] rfl ?_
      exact w10_stuffFor_b50 C hk23 h
    · replace h := (if_neg c38).symm.trans h
      refine sf_aload_n (pc := 41) C 0 dX10_stuffFor_41 rfl ?_
      refine sf_iload_n (pc := 42) C 3 dX10_stuffFor_42 rfl ?_
      obtain ⟨v43, e43, h⟩ := sf_ob h
      refine sf_callVi (pc := 43) C (As := [.int x3]) nk_149 sh_149 rfl yk_X10_needOf cl_10_212 (k10_needOf e43) (by decide) rfl (Nat.le_of_ble_eq_true rfl) rfl dX10_stuffFor_43 ?_
      refine sf_goto (tgt := 50) (pc := 46) C dX10_stuffFor_46 rfl ?_
      refine sf_sub [0, 1, 3] rfl ?_
      exact w10_stuffFor_b50 C hk23 h
set_option maxHeartbeats 4000000 in
set_option maxRecDepth 100000 in
theorem w10_stuffFor_L23 {X : sf_X} {V : sf_V} {s : sf_Sg} {r : Int32} (C : sf_C X V cX10_stuffFor 4 RX10 (some .int) 3) : ∀  (x1 : Int32) (x2 : Int32) (x3 : Int32), f10_stuffFor_L23 s x1 x2 x3 = some r → sf_G X V 4 (sf_Q X V (sf_Qi V r s)) s 23 [(0, .ref (V.2.1 149)), (1, .int x1), (2, .int x2), (3, .int x3)] [] :=
  sf_it_ind (fun (k : Int32 → Int32 → Int32 → Option Int32) => ∀  (x1 : Int32) (x2 : Int32) (x3 : Int32), k x1 x2 x3 = some r → sf_G X V 4 (sf_Q X V (sf_Qi V r s)) s 23 [(0, .ref (V.2.1 149)), (1, .int x1), (2, .int x2), (3, .int x3)] []) _ _ (fun x1 x2 x3 h => by cases h) (fun k hk x1 x2 x3 h => w10_stuffFor_b23 C hk h) _
set_option maxHeartbeats 4000000 in
set_option maxRecDepth 100000 in
theorem w10_stuffFor_b20 {X : sf_X} {V : sf_V} {s : sf_Sg} {r : Int32} (C : sf_C X V cX10_stuffFor 4 RX10 (some .int) 3) {x1 : Int32} {t0 : Int32} (h : f10_stuffFor_b20 s x1 t0 = some r) : sf_G X V 4 (sf_Q X V (sf_Qi V r s)) s 20 [(0, .ref (V.2.1 149)), (1, .int x1)] [.int t0] := by
  unfold f10_stuffFor_b20 at h
  refine sf_istore_n (lv' := [(2, .int t0), (0, .ref (V.2.1 149)), (1, .int x1)]) (pc := 20) C dX10_stuffFor_20 (by decide) rfl ?_
  refine sf_iconst (v := 0) (pc := 21) C dX10_stuffFor_21 (by decide) ?_
  refine sf_istore_n (lv' := [(3, .int (0 : Int32)), (2, .int t0), (0, .ref (V.2.1 149)), (1, .int x1)]) (pc := 22) C dX10_stuffFor_22 (by decide) rfl ?_
  refine sf_sub [2, 3, 1, 0] rfl ?_
  exact w10_stuffFor_L23 C _ _ _ h
set_option maxHeartbeats 4000000 in
set_option maxRecDepth 100000 in
theorem w10_stuffFor_b0 {X : sf_X} {V : sf_V} {s : sf_Sg} {r : Int32} (C : sf_C X V cX10_stuffFor 4 RX10 (some .int) 3) {x1 : Int32} (h : f10_stuffFor_b0 s x1 = some r) : sf_G X V 4 (sf_Q X V (sf_Qi V r s)) s 0 [(0, .ref (V.2.1 149)), (1, .int x1)] [] := by
  unfold f10_stuffFor_b0 at h
  refine sf_aload_n (pc := 0) C 0 dX10_stuffFor_0 rfl ?_
  refine sf_iload_n (pc := 1) C 1 dX10_stuffFor_1 rfl ?_
  obtain ⟨v2, e2, h⟩ := sf_ob h
  refine sf_callVi (pc := 2) C (As := [.int x1]) nk_149 sh_149 rfl yk_X10_partsOf cl_10_202 (k10_partsOf e2) (by decide) rfl (Nat.le_of_ble_eq_true rfl) rfl dX10_stuffFor_2 ?_
  refine sf_aload_n (pc := 5) C 0 dX10_stuffFor_5 rfl ?_
  refine sf_getr (pc := 6) C nk_149 sh_149 rfl fl_10_19 dX10_stuffFor_6 ?_
  refine sf_iload_n (pc := 9) C 1 dX10_stuffFor_9 rfl ?_
  obtain ⟨v10, e10, h⟩ := sf_ob h
  refine sf_iald (pc := 10) C nk_153 sh_153 e10 dX10_stuffFor_10 ?_
  refine sf_icmp_le (tgt := 19) (pc := 11) C dX10_stuffFor_11 rfl (fun c11 => ?_) (fun c11 => ?_)
  · replace h := (if_pos c11).symm.trans h
    refine sf_iconst (v := 0) (pc := 19) C dX10_stuffFor_19 (by decide) ?_
    exact w10_stuffFor_b20 C h
  · replace h := (if_neg c11).symm.trans h
    refine sf_ldc (v := 1000000) (pc := 14) C dX10_stuffFor_14 tm_1056 ?_
    refine sf_goto (tgt := 20) (pc := 16) C dX10_stuffFor_16 rfl ?_
    exact w10_stuffFor_b20 C h
set_option maxHeartbeats 4000000 in
set_option maxRecDepth 100000 in
theorem k10_stuffFor {l : Launch} {V : sf_V} {s : sf_Sg} {x1 : Int32} {r : Int32} (h : f10_stuffFor s x1 = some r) : sf_M l V yX10_stuffFor (.code yX10_stuffFor cX10_stuffFor 4 (some .int)) 3 [.ref (V.2.1 149), .int x1] s (sf_Qi V r s) := by
  refine sf_enter (by decide) (Nat.le_of_ble_eq_true rfl) (fun X hX C => ?_)
  refine sf_sub [0, 1] rfl ?_
  exact w10_stuffFor_b0 (show sf_C X V cX10_stuffFor 4 RX10 (some .int) 3 from C)  h
set_option maxHeartbeats 4000000 in
set_option maxRecDepth 100000 in
theorem w10_stuffForAll_b33 {X : sf_X} {V : sf_V} {s : sf_Sg} {r : Int32} {k4 : Int32 → Int32 → Option Int32} (C : sf_C X V cX10_stuffForAll 3 RX10 (some .int) 3) (hk4 : ∀  (x1 : Int32) (x2 : Int32), k4 x1 x2 = some r → sf_G X V 3 (sf_Q X V (sf_Qi V r s)) s 4 [(0, .ref (V.2.1 149)), (1, .int x1), (2, .int x2)] []) {x2 : Int32} {t1 : Int32} {t0 : Int32} (h : f10_stuffForAll_b33 s k4 x2 t1 t0 = some r) : sf_G X V 3 (sf_Q X V (sf_Qi V r s)) s 33 [(0, .ref (V.2.1 149)), (2, .int x2)] [.int t1, .int t0] := by
  unfold f10_stuffForAll_b33 at h
  refine sf_iadd (pc := 33) C dX10_stuffForAll_33 ?_
  refine sf_istore_n (lv' := [(1, .int (t0 + t1)), (0, .ref (V.2.1 149)), (2, .int x2)]) (pc := 34) C dX10_stuffForAll_34 (by decide) rfl ?_
  refine sf_iinc (v := (x2 + 1)) (lv' := [(2, .int (x2 + 1)), (1, .int (t0 + t1)), (0, .ref (V.2.1 149))]) (pc := 35) C 2 dX10_stuffForAll_35 rfl rfl (by decide) rfl ?_
  refine sf_goto (tgt := 4) (pc := 38) C dX10_stuffForAll_38 rfl ?_
  refine sf_sub [2, 1, 0] rfl ?_
  exact hk4 _ _ h
set_option maxHeartbeats 4000000 in
set_option maxRecDepth 100000 in
theorem w10_stuffForAll_b74 {X : sf_X} {V : sf_V} {s : sf_Sg} {r : Int32} {k43 : Int32 → Int32 → Option Int32} (C : sf_C X V cX10_stuffForAll 3 RX10 (some .int) 3) (hk43 : ∀  (x1 : Int32) (x2 : Int32), k43 x1 x2 = some r → sf_G X V 3 (sf_Q X V (sf_Qi V r s)) s 43 [(0, .ref (V.2.1 149)), (1, .int x1), (2, .int x2)] []) {x2 : Int32} {t1 : Int32} {t0 : Int32} (h : f10_stuffForAll_b74 s k43 x2 t1 t0 = some r) : sf_G X V 3 (sf_Q X V (sf_Qi V r s)) s 74 [(0, .ref (V.2.1 149)), (2, .int x2)] [.int t1, .int t0] := by
  unfold f10_stuffForAll_b74 at h
  refine sf_iadd (pc := 74) C dX10_stuffForAll_74 ?_
  refine sf_istore_n (lv' := [(1, .int (t0 + t1)), (0, .ref (V.2.1 149)), (2, .int x2)]) (pc := 75) C dX10_stuffForAll_75 (by decide) rfl ?_
  refine sf_iinc (v := (x2 + 1)) (lv' := [(2, .int (x2 + 1)), (1, .int (t0 + t1)), (0, .ref (V.2.1 149))]) (pc := 76) C 2 dX10_stuffForAll_76 rfl rfl (by decide) rfl ?_
  refine sf_goto (tgt := 43) (pc := 79) C dX10_stuffForAll_79 rfl ?_
  refine sf_sub [2, 1, 0] rfl ?_
  exact hk43 _ _ h
set_option maxHeartbeats 4000000 in
set_option maxRecDepth 100000 in
theorem w10_stuffForAll_b82 {X : sf_X} {V : sf_V} {s : sf_Sg} {r : Int32} (C : sf_C X V cX10_stuffForAll 3 RX10 (some .int) 3) {x1 : Int32} (h : f10_stuffForAll_b82 s x1 = some r) : sf_G X V 3 (sf_Q X V (sf_Qi V r s)) s 82 [(1, .int x1)] [] := by
  unfold f10_stuffForAll_b82 at h
  refine sf_iload_n (pc := 82) C 0 dX10_stuffForAll_82 rfl ?_
  refine sf_ldc (v := 1000000) (pc := 83) C dX10_stuffForAll_83 tm_1056 ?_
  refine sf_icmp_ge (tgt := 92) (pc := 85) C dX10_stuffForAll_85 rfl (fun c85 => ?_) (fun c85 => ?_)
  · replace h := (if_pos c85).symm.trans h
    refine sf_iconst (v := -1) (pc := 92) C dX10_stuffForAll_92 (by decide) ?_
    exact sf_iretR (pc := 93) C dX10_stuffForAll_93 h
  · replace h := (if_neg c85).symm.trans h
    refine sf_iload_n (pc := 88) C 0 dX10_stuffForAll_88 rfl ?_
    refine sf_goto (tgt := 93) (pc := 89) C dX10_stuffForAll_89 rfl ?_
    exact sf_iretR (pc := 93) C dX10_stuffForAll_93 h
set_option maxHeartbeats 4000000 in
set_option maxRecDepth 100000 in
theorem w10_stuffForAll_b43 {X : sf_X} {V : sf_V} {s : sf_Sg} {r : Int32} {k43 : Int32 → Int32 → Option Int32} (C : sf_C X V cX10_stuffForAll 3 RX10 (some .int) 3) (hk43 : ∀  (x1 : Int32) (x2 : Int32), k43 x1 x2 = some r → sf_G X V 3 (sf_Q X V (sf_Qi V r s)) s 43 [(0, .ref (V.2.1 149)), (1, .int x1), (2, .int x2)] []) {x1 : Int32} {x2 : Int32} (h : f10_stuffForAll_b43 s k43 x1 x2 = some r) : sf_G X V 3 (sf_Q X V (sf_Qi V r s)) s 43 [(0, .ref (V.2.1 149)), (1, .int x1), (2, .int x2)] [] := by
  unfold f10_stuffForAll_b43 at h
  refine sf_iload_n (pc := 43) C 2 dX10_stuffForAll_43 rfl ?_
  refine sf_aload_n (pc := 44) C 0 dX10_stuffForAll_44 rfl ?_
  refine sf_get (pc := 45) C nk_149 sh_149 rfl fl_10_88 dX10_stuffForAll_45 ?_
  refine sf_icmp_ge (tgt := 82) (pc := 48) C dX10_stuffForAll_48 rfl (fun c48 => ?_) (fun c48 => ?_)
  · replace h := (if_pos c48).symm.trans h
    refine sf_sub [1] rfl ?_
    exact w10_stuffForAll_b82 C h
  · replace h := (if_neg c48).symm.trans h
    refine sf_iload_n (pc := 51) C 1 dX10_stuffForAll_51 rfl ?_
    refine sf_aload_n (pc := 52) C 0 dX10_stuffForAll_52 rfl ?_
    refine sf_getr (pc := 53) C nk_149 sh_149 rfl fl_10_25 dX10_stuffForAll_53 ?_
    refine sf_bipush (v := 12) (pc := 56) C dX10_stuffForAll_56 (by decide) ?_
    refine sf_iload_n (pc := 58) C 2 dX10_stuffForAll_58 rfl ?_
    refine sf_iadd (pc := 59) C dX10_stuffForAll_59 ?_
    obtain ⟨v60, e60, h⟩ := sf_ob h
    refine sf_iald (pc := 60) C nk_155 sh_155 e60 dX10_stuffForAll_60 ?_
    refine sf_iconst (v := -1) (pc := 61) C dX10_stuffForAll_61 (by decide) ?_
    refine sf_icmp_eq (tgt := 73) (pc := 62) C dX10_stuffForAll_62 rfl (fun c62 => ?_) (fun c62 => ?_)
    · replace h := (if_pos c62).symm.trans h
      refine sf_iconst (v := 0) (pc := 73) C dX10_stuffForAll_73 (by decide) ?_
      refine sf_sub [0, 2] rfl ?_
      exact w10_stuffForAll_b74 C hk43 h
    · replace h := (if_neg c62).symm.trans h
      refine sf_aload_n (pc := 65) C 0 dX10_stuffForAll_65 rfl ?_
      refine sf_iload_n (pc := 66) C 2 dX10_stuffForAll_66 rfl ?_
      obtain ⟨v67, e67, h⟩ := sf_ob h
      refine sf_callVi (pc := 67) C (As := [.int x2]) nk_149 sh_149 rfl yk_X10_needOf cl_10_212 (k10_needOf e67) (by decide) rfl (Nat.le_of_ble_eq_true rfl) rfl dX10_stuffForAll_67 ?_
      refine sf_goto (tgt := 74) (pc := 70) C dX10_stuffForAll_70 rfl ?_
      refine sf_sub [0, 2] rfl ?_
      exact w10_stuffForAll_b74 C hk43 h
set_option maxHeartbeats 4000000 in
set_option maxRecDepth 100000 in
theorem w10_stuffForAll_L43 {X : sf_X} {V : sf_V} {s : sf_Sg} {r : Int32} (C : sf_C X V cX10_stuffForAll 3 RX10 (some .int) 3) : ∀  (x1 : Int32) (x2 : Int32), f10_stuffForAll_L43 s x1 x2 = some r → sf_G X V 3 (sf_Q X V (sf_Qi V r s)) s 43 [(0, .ref (V.2.1 149)), (1, .int x1), (2, .int x2)] [] :=
  sf_it_ind (fun (k : Int32 → Int32 → Option Int32) => ∀  (x1 : Int32) (x2 : Int32), k x1 x2 = some r → sf_G X V 3 (sf_Q X V (sf_Qi V r s)) s 43 [(0, .ref (V.2.1 149)), (1, .int x1), (2, .int x2)] []) _ _ (fun x1 x2 h => by cases h) (fun k hk x1 x2 h => w10_stuffForAll_b43 C hk h) _
set_option maxHeartbeats 4000000 in
set_option maxRecDepth 100000 in
theorem w10_stuffForAll_b41 {X : sf_X} {V : sf_V} {s : sf_Sg} {r : Int32} (C : sf_C X V cX10_stuffForAll 3 RX10 (some .int) 3) {x1 : Int32} (h : f10_stuffForAll_b41 s x1 = some r) : sf_G X V 3 (sf_Q X V (sf_Qi V r s)) s 41 [(0, .ref (V.2.1 149)), (1, .int x1)] [] := by
  unfold f10_stuffForAll_b41 at h
  refine sf_iconst (v := 0) (pc := 41) C dX10_stuffForAll_41 (by decide) ?_
  refine sf_istore_n (lv' := [(2, .int (0 : Int32)), (0, .ref (V.2.1 149)), (1, .int x1)]) (pc := 42) C dX10_stuffForAll_42 (by decide) rfl ?_
  refine sf_sub [1, 2, 0] rfl ?_
  exact w10_stuffForAll_L43 C _ _ h
set_option maxHeartbeats 4000000 in
set_option maxRecDepth 100000 in
theorem w10_stuffForAll_b4 {X : sf_X} {V : sf_V} {s : sf_Sg} {r : Int32} {k4 : Int32 → Int32 → Option Int32} (C : sf_C X V cX10_stuffForAll 3 RX10 (some .int) 3) (hk4 : ∀  (x1 : Int32) (x2 : Int32), k4 x1 x2 = some r → sf_G X V 3 (sf_Q X V (sf_Qi V r s)) s 4 [(0, .ref (V.2.1 149)), (1, .int x1), (2, .int x2)] []) {x1 : Int32} {x2 : Int32} (h : f10_stuffForAll_b4 s k4 x1 x2 = some r) : sf_G X V 3 (sf_Q X V (sf_Qi V r s)) s 4 [(0, .ref (V.2.1 149)), (1, .int x1), (2, .int x2)] [] := by
  unfold f10_stuffForAll_b4 at h
  refine sf_iload_n (pc := 4) C 2 dX10_stuffForAll_4 rfl ?_
  refine sf_aload_n (pc := 5) C 0 dX10_stuffForAll_5 rfl ?_
  refine sf_get (pc := 6) C nk_149 sh_149 rfl fl_10_95 dX10_stuffForAll_6 ?_
  refine sf_icmp_ge (tgt := 41) (pc := 9) C dX10_stuffForAll_9 rfl (fun c9 => ?_) (fun c9 => ?_)
  · replace h := (if_pos c9).symm.trans h
    refine sf_sub [0, 1] rfl ?_
    exact w10_stuffForAll_b41 C h
  · replace h := (if_neg c9).symm.trans h
    refine sf_iload_n (pc := 12) C 1 dX10_stuffForAll_12 rfl ?_
    refine sf_aload_n (pc := 13) C 0 dX10_stuffForAll_13 rfl ?_
    refine sf_iload_n (pc := 14) C 2 dX10_stuffForAll_14 rfl ?_
    obtain ⟨v15, e15, h⟩ := sf_ob h
    refine sf_callVi (pc := 15) C (As := [.int x2]) nk_149 sh_149 rfl yk_X10_partsOf cl_10_202 (k10_partsOf e15) (by decide) rfl (Nat.le_of_ble_eq_true rfl) rfl dX10_stuffForAll_15 ?_
    refine sf_aload_n (pc := 18) C 0 dX10_stuffForAll_18 rfl ?_
    refine sf_getr (pc := 19) C nk_149 sh_149 rfl fl_10_19 dX10_stuffForAll_19 ?_
    refine sf_iload_n (pc := 22) C 2 dX10_stuffForAll_22 rfl ?_
    obtain ⟨v23, e23, h⟩ := sf_ob h
    refine sf_iald (pc := 23) C nk_153 sh_153 e23 dX10_stuffForAll_23 ?_
    refine sf_icmp_le (tgt := 32) (pc := 24) C dX10_stuffForAll_24 rfl (fun c24 => ?_) (fun c24 => ?_)
    · replace h := (if_pos c24).symm.trans h
      refine sf_iconst (v := 0) (pc := 32) C dX10_stuffForAll_32 (by decide) ?_
      refine sf_sub [0, 2] rfl ?_
      exact w10_stuffForAll_b33 C hk4 h
    · replace h := (if_neg c24).symm.trans h
      refine sf_ldc (v := 1000000) (pc := 27) C dX10_stuffForAll_27 tm_1056 ?_
      refine sf_goto (tgt := 33) (pc := 29) C dX10_stuffForAll_29 rfl ?_
      refine sf_sub [0, 2] rfl ?_
      exact w10_stuffForAll_b33 C hk4 h
set_option maxHeartbeats 4000000 in
set_option maxRecDepth 100000 in
theorem w10_stuffForAll_L4 {X : sf_X} {V : sf_V} {s : sf_Sg} {r : Int32} (C : sf_C X V cX10_stuffForAll 3 RX10 (some .int) 3) : ∀  (x1 : Int32) (x2 : Int32), f10_stuffForAll_L4 s x1 x2 = some r → sf_G X V 3 (sf_Q X V (sf_Qi V r s)) s 4 [(0, .ref (V.2.1 149)), (1, .int x1), (2, .int x2)] [] :=
  sf_it_ind (fun (k : Int32 → Int32 → Option Int32) => ∀  (x1 : Int32) (x2 : Int32), k x1 x2 = some r → sf_G X V 3 (sf_Q X V (sf_Qi V r s)) s 4 [(0, .ref (V.2.1 149)), (1, .int x1), (2, .int x2)] []) _ _ (fun x1 x2 h => by cases h) (fun k hk x1 x2 h => w10_stuffForAll_b4 C hk h) _
set_option maxHeartbeats 4000000 in
set_option maxRecDepth 100000 in
theorem w10_stuffForAll_b0 {X : sf_X} {V : sf_V} {s : sf_Sg} {r : Int32} (C : sf_C X V cX10_stuffForAll 3 RX10 (some .int) 3) (h : f10_stuffForAll_b0 s = some r) : sf_G X V 3 (sf_Q X V (sf_Qi V r s)) s 0 [(0, .ref (V.2.1 149))] [] := by
  unfold f10_stuffForAll_b0 at h
  refine sf_iconst (v := 0) (pc := 0) C dX10_stuffForAll_0 (by decide) ?_
  refine sf_istore_n (lv' := [(1, .int (0 : Int32)), (0, .ref (V.2.1 149))]) (pc := 1) C dX10_stuffForAll_1 (by decide) rfl ?_
  refine sf_iconst (v := 0) (pc := 2) C dX10_stuffForAll_2 (by decide) ?_
  refine sf_istore_n (lv' := [(2, .int (0 : Int32)), (1, .int (0 : Int32)), (0, .ref (V.2.1 149))]) (pc := 3) C dX10_stuffForAll_3 (by decide) rfl ?_
  refine sf_sub [2, 1, 0] rfl ?_
  exact w10_stuffForAll_L4 C _ _ h
set_option maxHeartbeats 4000000 in
set_option maxRecDepth 100000 in
theorem k10_stuffForAll {l : Launch} {V : sf_V} {s : sf_Sg} {r : Int32} (h : f10_stuffForAll s = some r) : sf_M l V yX10_stuffForAll (.code yX10_stuffForAll cX10_stuffForAll 3 (some .int)) 3 [.ref (V.2.1 149)] s (sf_Qi V r s) := by
  refine sf_enter (by decide) (Nat.le_of_ble_eq_true rfl) (fun X hX C => ?_)
  refine sf_sub [0] rfl ?_
  exact w10_stuffForAll_b0 (show sf_C X V cX10_stuffForAll 3 RX10 (some .int) 3 from C)  h
set_option maxHeartbeats 4000000 in
set_option maxRecDepth 100000 in
theorem w10_ringOf_b77 {X : sf_X} {V : sf_V} {s : sf_Sg} {r : Int32} {k6 : Int32 → Int32 → Option Int32} {k14 : Int32 → Int32 → Int32 → Option Int32} (C : sf_C X V cX10_ringOf 6 RX10 (some .int) 1) (hk6 : ∀  (x2 : Int32) (x3 : Int32), k6 x2 x3 = some r → sf_G X V 6 (sf_Q X V (sf_Qi V r s)) s 6 [(0, .ref (V.2.1 149)), (2, .int x2), (3, .int x3)] []) (hk14 : ∀  (x2 : Int32) (x3 : Int32) (x4 : Int32), k14 x2 x3 x4 = some r → sf_G X V 6 (sf_Q X V (sf_Qi V r s)) s 14 [(0, .ref (V.2.1 149)), (2, .int x2), (3, .int x3), (4, .int x4)] []) {x3 : Int32} {x4 : Int32} {t1 : Int32} {t0 : Int32} (h : f10_ringOf_b77 s k6 k14 x3 x4 t1 t0 = some r) : sf_G X V 6 (sf_Q X V (sf_Qi V r s)) s 77 [(0, .ref (V.2.1 149)), (3, .int x3), (4, .int x4)] [.int t1, .int t0] := by
  unfold f10_ringOf_b77 at h
  refine sf_ior (pc := 77) C dX10_ringOf_77 ?_
  refine sf_istore_n (lv' := [(2, .int (t0 ||| t1)), (0, .ref (V.2.1 149)), (3, .int x3), (4, .int x4)]) (pc := 78) C dX10_ringOf_78 (by decide) rfl ?_
  refine sf_iinc (v := (x4 + 1)) (lv' := [(4, .int (x4 + 1)), (2, .int (t0 ||| t1)), (0, .ref (V.2.1 149)), (3, .int x3)]) (pc := 79) C 3 dX10_ringOf_79 rfl rfl (by decide) rfl ?_
  refine sf_goto (tgt := 14) (pc := 82) C dX10_ringOf_82 rfl ?_
  refine sf_sub [2, 1, 3, 0] rfl ?_
  exact hk14 _ _ _ h
set_option maxHeartbeats 4000000 in
set_option maxRecDepth 100000 in
theorem w10_ringOf_b61 {X : sf_X} {V : sf_V} {s : sf_Sg} {r : Int32} {k6 : Int32 → Int32 → Option Int32} {k14 : Int32 → Int32 → Int32 → Option Int32} (C : sf_C X V cX10_ringOf 6 RX10 (some .int) 1) (hk6 : ∀  (x2 : Int32) (x3 : Int32), k6 x2 x3 = some r → sf_G X V 6 (sf_Q X V (sf_Qi V r s)) s 6 [(0, .ref (V.2.1 149)), (2, .int x2), (3, .int x3)] []) (hk14 : ∀  (x2 : Int32) (x3 : Int32) (x4 : Int32), k14 x2 x3 x4 = some r → sf_G X V 6 (sf_Q X V (sf_Qi V r s)) s 14 [(0, .ref (V.2.1 149)), (2, .int x2), (3, .int x3), (4, .int x4)] []) {x2 : Int32} {x3 : Int32} {x4 : Int32} {t0 : Int32} (h : f10_ringOf_b61 s k6 k14 x2 x3 x4 t0 = some r) : sf_G X V 6 (sf_Q X V (sf_Qi V r s)) s 61 [(0, .ref (V.2.1 149)), (2, .int x2), (3, .int x3), (4, .int x4)] [.int t0] := by
  unfold f10_ringOf_b61 at h
  refine sf_istore (lv' := [(5, .int t0), (0, .ref (V.2.1 149)), (2, .int x2), (3, .int x3), (4, .int x4)]) (pc := 61) C dX10_ringOf_61 (by decide) rfl ?_
  refine sf_iload_n (pc := 63) C 2 dX10_ringOf_63 rfl ?_
  refine sf_iload_n (pc := 64) C 2 dX10_ringOf_64 rfl ?_
  refine sf_iload (pc := 65) C 0 dX10_ringOf_65 rfl ?_
  refine sf_iand (pc := 67) C dX10_ringOf_67 ?_
  refine sf_if_eq (tgt := 76) (pc := 68) C dX10_ringOf_68 rfl (fun c68 => ?_) (fun c68 => ?_)
  · replace h := (if_pos c68).symm.trans h
    refine sf_iconst (v := 0) (pc := 76) C dX10_ringOf_76 (by decide) ?_
    refine sf_sub [1, 3, 4] rfl ?_
    exact w10_ringOf_b77 C hk6 hk14 h
  · replace h := (if_neg c68).symm.trans h
    refine sf_iload (pc := 71) C 0 dX10_ringOf_71 rfl ?_
    refine sf_goto (tgt := 77) (pc := 73) C dX10_ringOf_73 rfl ?_
    refine sf_sub [1, 3, 4] rfl ?_
    exact w10_ringOf_b77 C hk6 hk14 h
set_option maxHeartbeats 4000000 in
set_option maxRecDepth 100000 in
theorem w10_ringOf_b85 {X : sf_X} {V : sf_V} {s : sf_Sg} {r : Int32} {k6 : Int32 → Int32 → Option Int32} (C : sf_C X V cX10_ringOf 6 RX10 (some .int) 1) (hk6 : ∀  (x2 : Int32) (x3 : Int32), k6 x2 x3 = some r → sf_G X V 6 (sf_Q X V (sf_Qi V r s)) s 6 [(0, .ref (V.2.1 149)), (2, .int x2), (3, .int x3)] []) {x2 : Int32} {x3 : Int32} (h : f10_ringOf_b85 s k6 x2 x3 = some r) : sf_G X V 6 (sf_Q X V (sf_Qi V r s)) s 85 [(0, .ref (V.2.1 149)), (2, .int x2), (3, .int x3)] [] := by
  unfold f10_ringOf_b85 at h
  refine sf_iinc (v := (x3 + 1)) (lv' := [(3, .int (x3 + 1)), (0, .ref (V.2.1 149)), (2, .int x2)]) (pc := 85) C 2 dX10_ringOf_85 rfl rfl (by decide) rfl ?_
  refine sf_goto (tgt := 6) (pc := 88) C dX10_ringOf_88 rfl ?_
  refine sf_sub [1, 2, 0] rfl ?_
  exact hk6 _ _ h
set_option maxHeartbeats 4000000 in
set_option maxRecDepth 100000 in
theorem w10_ringOf_b14 {X : sf_X} {V : sf_V} {s : sf_Sg} {r : Int32} {k6 : Int32 → Int32 → Option Int32} {k14 : Int32 → Int32 → Int32 → Option Int32} (C : sf_C X V cX10_ringOf 6 RX10 (some .int) 1) (hk6 : ∀  (x2 : Int32) (x3 : Int32), k6 x2 x3 = some r → sf_G X V 6 (sf_Q X V (sf_Qi V r s)) s 6 [(0, .ref (V.2.1 149)), (2, .int x2), (3, .int x3)] []) (hk14 : ∀  (x2 : Int32) (x3 : Int32) (x4 : Int32), k14 x2 x3 x4 = some r → sf_G X V 6 (sf_Q X V (sf_Qi V r s)) s 14 [(0, .ref (V.2.1 149)), (2, .int x2), (3, .int x3), (4, .int x4)] []) {x2 : Int32} {x3 : Int32} {x4 : Int32} (h : f10_ringOf_b14 s k6 k14 x2 x3 x4 = some r) : sf_G X V 6 (sf_Q X V (sf_Qi V r s)) s 14 [(0, .ref (V.2.1 149)), (2, .int x2), (3, .int x3), (4, .int x4)] [] := by
  unfold f10_ringOf_b14 at h
  refine sf_iload (pc := 14) C 3 dX10_ringOf_14 rfl ?_
  refine sf_aload_n (pc := 16) C 0 dX10_ringOf_16 rfl ?_
  refine sf_get (pc := 17) C nk_149 sh_149 rfl fl_10_88 dX10_ringOf_17 ?_
  refine sf_icmp_ge (tgt := 85) (pc := 20) C dX10_ringOf_20 rfl (fun c20 => ?_) (fun c20 => ?_)
  · replace h := (if_pos c20).symm.trans h
    refine sf_sub [0, 1, 2] rfl ?_
    exact w10_ringOf_b85 C hk6 h
  · replace h := (if_neg c20).symm.trans h
    refine sf_aload_n (pc := 23) C 0 dX10_ringOf_23 rfl ?_
    refine sf_iload (pc := 24) C 3 dX10_ringOf_24 rfl ?_
    obtain ⟨v26, e26, h⟩ := sf_ob h
    refine sf_callVi (pc := 26) C (As := [.int x4]) nk_149 sh_149 rfl yk_X10_isShared cl_10_184 (k10_isShared e26) (by decide) rfl (Nat.le_of_ble_eq_true rfl) rfl dX10_ringOf_26 ?_
    refine sf_if_eq (tgt := 60) (pc := 29) C dX10_ringOf_29 rfl (fun c29 => ?_) (fun c29 => ?_)
    · replace h := (if_pos c29).symm.trans h
      refine sf_iconst (v := 0) (pc := 60) C dX10_ringOf_60 (by decide) ?_
      exact w10_ringOf_b61 C hk6 hk14 h
    · replace h := (if_neg c29).symm.trans h
      refine sf_iconst (v := 1) (pc := 32) C dX10_ringOf_32 (by decide) ?_
      refine sf_aload_n (pc := 33) C 0 dX10_ringOf_33 rfl ?_
      refine sf_getr (pc := 34) C nk_149 sh_149 rfl fl_10_25 dX10_ringOf_34 ?_
      refine sf_bipush (v := 12) (pc := 37) C dX10_ringOf_37 (by decide) ?_
      refine sf_iload (pc := 39) C 3 dX10_ringOf_39 rfl ?_
      refine sf_iadd (pc := 41) C dX10_ringOf_41 ?_
      obtain ⟨v42, e42, h⟩ := sf_ob h
      refine sf_iald (pc := 42) C nk_155 sh_155 e42 dX10_ringOf_42 ?_
      refine sf_ishl (pc := 43) C dX10_ringOf_43 ?_
      refine sf_iconst (v := 1) (pc := 44) C dX10_ringOf_44 (by decide) ?_
      refine sf_aload_n (pc := 45) C 0 dX10_ringOf_45 rfl ?_
      refine sf_getr (pc := 46) C nk_149 sh_149 rfl fl_10_25 dX10_ringOf_46 ?_
      refine sf_bipush (v := 18) (pc := 49) C dX10_ringOf_49 (by decide) ?_
      refine sf_iload (pc := 51) C 3 dX10_ringOf_51 rfl ?_
      refine sf_iadd (pc := 53) C dX10_ringOf_53 ?_
      obtain ⟨v54, e54, h⟩ := sf_ob h
      refine sf_iald (pc := 54) C nk_155 sh_155 e54 dX10_ringOf_54 ?_
      refine sf_ishl (pc := 55) C dX10_ringOf_55 ?_
      refine sf_ior (pc := 56) C dX10_ringOf_56 ?_
      refine sf_goto (tgt := 61) (pc := 57) C dX10_ringOf_57 rfl ?_
      exact w10_ringOf_b61 C hk6 hk14 h
set_option maxHeartbeats 4000000 in
set_option maxRecDepth 100000 in
theorem w10_ringOf_L14 {X : sf_X} {V : sf_V} {s : sf_Sg} {r : Int32} {k6 : Int32 → Int32 → Option Int32} (C : sf_C X V cX10_ringOf 6 RX10 (some .int) 1) (hk6 : ∀  (x2 : Int32) (x3 : Int32), k6 x2 x3 = some r → sf_G X V 6 (sf_Q X V (sf_Qi V r s)) s 6 [(0, .ref (V.2.1 149)), (2, .int x2), (3, .int x3)] []) : ∀  (x2 : Int32) (x3 : Int32) (x4 : Int32), f10_ringOf_L14 s k6 x2 x3 x4 = some r → sf_G X V 6 (sf_Q X V (sf_Qi V r s)) s 14 [(0, .ref (V.2.1 149)), (2, .int x2), (3, .int x3), (4, .int x4)] [] :=
  sf_it_ind (fun (k : Int32 → Int32 → Int32 → Option Int32) => ∀  (x2 : Int32) (x3 : Int32) (x4 : Int32), k x2 x3 x4 = some r → sf_G X V 6 (sf_Q X V (sf_Qi V r s)) s 14 [(0, .ref (V.2.1 149)), (2, .int x2), (3, .int x3), (4, .int x4)] []) _ _ (fun x2 x3 x4 h => by cases h) (fun k hk x2 x3 x4 h => w10_ringOf_b14 C hk6 hk h) _
set_option maxHeartbeats 4000000 in
set_option maxRecDepth 100000 in
theorem w10_ringOf_b6 {X : sf_X} {V : sf_V} {s : sf_Sg} {r : Int32} {k6 : Int32 → Int32 → Option Int32} (C : sf_C X V cX10_ringOf 6 RX10 (some .int) 1) (hk6 : ∀  (x2 : Int32) (x3 : Int32), k6 x2 x3 = some r → sf_G X V 6 (sf_Q X V (sf_Qi V r s)) s 6 [(0, .ref (V.2.1 149)), (2, .int x2), (3, .int x3)] []) {x2 : Int32} {x3 : Int32} (h : f10_ringOf_b6 s k6 x2 x3 = some r) : sf_G X V 6 (sf_Q X V (sf_Qi V r s)) s 6 [(0, .ref (V.2.1 149)), (2, .int x2), (3, .int x3)] [] := by
  unfold f10_ringOf_b6 at h
  refine sf_iload_n (pc := 6) C 2 dX10_ringOf_6 rfl ?_
  refine sf_iconst (v := 5) (pc := 7) C dX10_ringOf_7 (by decide) ?_
  refine sf_icmp_ge (tgt := 91) (pc := 8) C dX10_ringOf_8 rfl (fun c8 => ?_) (fun c8 => ?_)
  · replace h := (if_pos c8).symm.trans h
    refine sf_iload_n (pc := 91) C 1 dX10_ringOf_91 rfl ?_
    exact sf_iretR (pc := 92) C dX10_ringOf_92 h
  · replace h := (if_neg c8).symm.trans h
    refine sf_iconst (v := 0) (pc := 11) C dX10_ringOf_11 (by decide) ?_
    refine sf_istore (lv' := [(4, .int (0 : Int32)), (0, .ref (V.2.1 149)), (2, .int x2), (3, .int x3)]) (pc := 12) C dX10_ringOf_12 (by decide) rfl ?_
    refine sf_sub [1, 2, 3, 0] rfl ?_
    exact w10_ringOf_L14 C hk6 _ _ _ h
set_option maxHeartbeats 4000000 in
set_option maxRecDepth 100000 in
theorem w10_ringOf_L6 {X : sf_X} {V : sf_V} {s : sf_Sg} {r : Int32} (C : sf_C X V cX10_ringOf 6 RX10 (some .int) 1) : ∀  (x2 : Int32) (x3 : Int32), f10_ringOf_L6 s x2 x3 = some r → sf_G X V 6 (sf_Q X V (sf_Qi V r s)) s 6 [(0, .ref (V.2.1 149)), (2, .int x2), (3, .int x3)] [] :=
  sf_it_ind (fun (k : Int32 → Int32 → Option Int32) => ∀  (x2 : Int32) (x3 : Int32), k x2 x3 = some r → sf_G X V 6 (sf_Q X V (sf_Qi V r s)) s 6 [(0, .ref (V.2.1 149)), (2, .int x2), (3, .int x3)] []) _ _ (fun x2 x3 h => by cases h) (fun k hk x2 x3 h => w10_ringOf_b6 C hk h) _
set_option maxHeartbeats 4000000 in
set_option maxRecDepth 100000 in
theorem w10_ringOf_b0 {X : sf_X} {V : sf_V} {s : sf_Sg} {r : Int32} (C : sf_C X V cX10_ringOf 6 RX10 (some .int) 1) {x1 : Int32} (h : f10_ringOf_b0 s x1 = some r) : sf_G X V 6 (sf_Q X V (sf_Qi V r s)) s 0 [(0, .ref (V.2.1 149)), (1, .int x1)] [] := by
  unfold f10_ringOf_b0 at h
  refine sf_iconst (v := 1) (pc := 0) C dX10_ringOf_0 (by decide) ?_
  refine sf_iload_n (pc := 1) C 1 dX10_ringOf_1 rfl ?_
  refine sf_ishl (pc := 2) C dX10_ringOf_2 ?_
  refine sf_istore_n (lv' := [(2, .int ((1 : Int32) <<< (x1 &&& 31))), (0, .ref (V.2.1 149)), (1, .int x1)]) (pc := 3) C dX10_ringOf_3 (by decide) rfl ?_
  refine sf_iconst (v := 0) (pc := 4) C dX10_ringOf_4 (by decide) ?_
  refine sf_istore_n (lv' := [(3, .int (0 : Int32)), (2, .int ((1 : Int32) <<< (x1 &&& 31))), (0, .ref (V.2.1 149)), (1, .int x1)]) (pc := 5) C dX10_ringOf_5 (by decide) rfl ?_
  refine sf_sub [2, 1, 0] rfl ?_
  exact w10_ringOf_L6 C _ _ h
set_option maxHeartbeats 4000000 in
set_option maxRecDepth 100000 in
theorem k10_ringOf {l : Launch} {V : sf_V} {s : sf_Sg} {x1 : Int32} {r : Int32} (h : f10_ringOf s x1 = some r) : sf_M l V yX10_ringOf (.code yX10_ringOf cX10_ringOf 6 (some .int)) 1 [.ref (V.2.1 149), .int x1] s (sf_Qi V r s) := by
  refine sf_enter (by decide) (Nat.le_of_ble_eq_true rfl) (fun X hX C => ?_)
  refine sf_sub [0, 1] rfl ?_
  exact w10_ringOf_b0 (show sf_C X V cX10_ringOf 6 RX10 (some .int) 1 from C)  h
set_option maxHeartbeats 4000000 in
set_option maxRecDepth 100000 in
theorem w10_told_b0 {X : sf_X} {V : sf_V} {s : sf_Sg} {r : Int32} (C : sf_C X V cX10_told 2 RX10 (some .int) 5) {x1 : Int32} (h : f10_told_b0 s x1 = some r) : sf_G X V 2 (sf_Q X V (sf_Qi V r s)) s 0 [(0, .ref (V.2.1 149)), (1, .int x1)] [] := by
  unfold f10_told_b0 at h
  refine sf_iload_n (pc := 0) C 1 dX10_told_0 rfl ?_
  by_cases c1_0 : x1 = 0
  · replace h := (if_pos c1_0).symm.trans h
    refine sf_tabIn (off := 75) (tgt := 76) (pc := 1) C dX10_told_1 (by rw [c1_0]; decide) (by rw [c1_0]; decide) (by rw [c1_0]; rfl) rfl ?_
    refine sf_aload_n (pc := 76) C 0 dX10_told_76 rfl ?_
    refine sf_get (pc := 77) C nk_149 sh_149 rfl fl_10_88 dX10_told_77 ?_
    exact sf_iretR (pc := 80) C dX10_told_80 h
  replace h := (if_neg c1_0).symm.trans h
  by_cases c1_1 : x1 = 1
  · replace h := (if_pos c1_1).symm.trans h
    refine sf_tabIn (off := 80) (tgt := 81) (pc := 1) C dX10_told_1 (by rw [c1_1]; decide) (by rw [c1_1]; decide) (by rw [c1_1]; rfl) rfl ?_
    refine sf_aload_n (pc := 81) C 0 dX10_told_81 rfl ?_
    refine sf_get (pc := 82) C nk_149 sh_149 rfl fl_10_95 dX10_told_82 ?_
    exact sf_iretR (pc := 85) C dX10_told_85 h
  replace h := (if_neg c1_1).symm.trans h
  by_cases c1_2 : x1 = 2
  · replace h := (if_pos c1_2).symm.trans h
    refine sf_tabIn (off := 85) (tgt := 86) (pc := 1) C dX10_told_1 (by rw [c1_2]; decide) (by rw [c1_2]; decide) (by rw [c1_2]; rfl) rfl ?_
    refine sf_aload_n (pc := 86) C 0 dX10_told_86 rfl ?_
    refine sf_get (pc := 87) C nk_149 sh_149 rfl fl_10_101 dX10_told_87 ?_
    exact sf_iretR (pc := 90) C dX10_told_90 h
  replace h := (if_neg c1_2).symm.trans h
  by_cases c1_3 : x1 = 3
  · replace h := (if_pos c1_3).symm.trans h
    refine sf_tabIn (off := 90) (tgt := 91) (pc := 1) C dX10_told_1 (by rw [c1_3]; decide) (by rw [c1_3]; decide) (by rw [c1_3]; rfl) rfl ?_
    refine sf_aload_n (pc := 91) C 0 dX10_told_91 rfl ?_
    refine sf_getr (pc := 92) C nk_149 sh_149 rfl fl_10_25 dX10_told_92 ?_
    refine sf_bipush (v := 30) (pc := 95) C dX10_told_95 (by decide) ?_
    obtain ⟨v97, e97, h⟩ := sf_ob h
    refine sf_iald (pc := 97) C nk_155 sh_155 e97 dX10_told_97 ?_
    exact sf_iretR (pc := 98) C dX10_told_98 h
  replace h := (if_neg c1_3).symm.trans h
  by_cases c1_4 : x1 = 4
  · replace h := (if_pos c1_4).symm.trans h
    refine sf_tabIn (off := 98) (tgt := 99) (pc := 1) C dX10_told_1 (by rw [c1_4]; decide) (by rw [c1_4]; decide) (by rw [c1_4]; rfl) rfl ?_
    refine sf_aload_n (pc := 99) C 0 dX10_told_99 rfl ?_
    refine sf_getr (pc := 100) C nk_149 sh_149 rfl fl_10_25 dX10_told_100 ?_
    refine sf_bipush (v := 29) (pc := 103) C dX10_told_103 (by decide) ?_
    obtain ⟨v105, e105, h⟩ := sf_ob h
    refine sf_iald (pc := 105) C nk_155 sh_155 e105 dX10_told_105 ?_
    exact sf_iretR (pc := 106) C dX10_told_106 h
  replace h := (if_neg c1_4).symm.trans h
  by_cases c1_5 : x1 = 5
  · replace h := (if_pos c1_5).symm.trans h
    refine sf_tabIn (off := 106) (tgt := 107) (pc := 1) C dX10_told_1 (by rw [c1_5]; decide) (by rw [c1_5]; decide) (by rw [c1_5]; rfl) rfl ?_
    refine sf_aload_n (pc := 107) C 0 dX10_told_107 rfl ?_
    obtain ⟨v108, e108, h⟩ := sf_ob h
    refine sf_callVi (pc := 108) C (As := []) nk_149 sh_149 rfl yk_X10_galledOnes cl_10_215 (k10_galledOnes e108) (by decide) rfl (Nat.le_of_ble_eq_true rfl) rfl dX10_told_108 ?_
    exact sf_iretR (pc := 111) C dX10_told_111 h
  replace h := (if_neg c1_5).symm.trans h
  by_cases c1_6 : x1 = 6
  · replace h := (if_pos c1_6).symm.trans h
    refine sf_tabIn (off := 111) (tgt := 112) (pc := 1) C dX10_told_1 (by rw [c1_6]; decide) (by rw [c1_6]; decide) (by rw [c1_6]; rfl) rfl ?_
    refine sf_aload_n (pc := 112) C 0 dX10_told_112 rfl ?_
    obtain ⟨v113, e113, h⟩ := sf_ob h
    refine sf_callVi (pc := 113) C (As := []) nk_149 sh_149 rfl yk_X10_allGalling cl_10_218 (k10_allGalling e113) (by decide) rfl (Nat.le_of_ble_eq_true rfl) rfl dX10_told_113 ?_
    exact sf_iretR (pc := 116) C dX10_told_116 h
  replace h := (if_neg c1_6).symm.trans h
  by_cases c1_7 : x1 = 7
  · replace h := (if_pos c1_7).symm.trans h
    refine sf_tabIn (off := 116) (tgt := 117) (pc := 1) C dX10_told_1 (by rw [c1_7]; decide) (by rw [c1_7]; decide) (by rw [c1_7]; rfl) rfl ?_
    refine sf_aload_n (pc := 117) C 0 dX10_told_117 rfl ?_
    obtain ⟨v118, e118, h⟩ := sf_ob h
    refine sf_callVi (pc := 118) C (As := []) nk_149 sh_149 rfl yk_X10_freeOnes cl_10_221 (k10_freeOnes e118) (by decide) rfl (Nat.le_of_ble_eq_true rfl) rfl dX10_told_118 ?_
    exact sf_iretR (pc := 121) C dX10_told_121 h
  replace h := (if_neg c1_7).symm.trans h
  by_cases c1_8 : x1 = 8
  · replace h := (if_pos c1_8).symm.trans h
    refine sf_tabIn (off := 121) (tgt := 122) (pc := 1) C dX10_told_1 (by rw [c1_8]; decide) (by rw [c1_8]; decide) (by rw [c1_8]; rfl) rfl ?_
    refine sf_aload_n (pc := 122) C 0 dX10_told_122 rfl ?_
    obtain ⟨v123, e123, h⟩ := sf_ob h
    refine sf_callVi (pc := 123) C (As := []) nk_149 sh_149 rfl yk_X10_sharedOnes cl_10_224 (k10_sharedOnes e123) (by decide) rfl (Nat.le_of_ble_eq_true rfl) rfl dX10_told_123 ?_
    exact sf_iretR (pc := 126) C dX10_told_126 h
  replace h := (if_neg c1_8).symm.trans h
  by_cases c1_9 : x1 = 9
  · replace h := (if_pos c1_9).symm.trans h
    refine sf_tabIn (off := 126) (tgt := 127) (pc := 1) C dX10_told_1 (by rw [c1_9]; decide) (by rw [c1_9]; decide) (by rw [c1_9]; rfl) rfl ?_
    refine sf_aload_n (pc := 127) C 0 dX10_told_127 rfl ?_
    obtain ⟨v128, e128, h⟩ := sf_ob h
    refine sf_callVi (pc := 128) C (As := []) nk_149 sh_149 rfl yk_X10_most cl_10_227 (k10_most e128) (by decide) rfl (Nat.le_of_ble_eq_true rfl) rfl dX10_told_128 ?_
    exact sf_iretR (pc := 131) C dX10_told_131 h
  replace h := (if_neg c1_9).symm.trans h
  by_cases c1_10 : x1 = 10
  · replace h := (if_pos c1_10).symm.trans h
    refine sf_tabIn (off := 131) (tgt := 132) (pc := 1) C dX10_told_1 (by rw [c1_10]; decide) (by rw [c1_10]; decide) (by rw [c1_10]; rfl) rfl ?_
    refine sf_aload_n (pc := 132) C 0 dX10_told_132 rfl ?_
    obtain ⟨v133, e133, h⟩ := sf_ob h
    refine sf_callVi (pc := 133) C (As := []) nk_149 sh_149 rfl yk_X10_isAugust cl_10_195 (k10_isAugust e133) (by decide) rfl (Nat.le_of_ble_eq_true rfl) rfl dX10_told_133 ?_
    refine sf_if_eq (tgt := 143) (pc := 136) C dX10_told_136 rfl (fun c136 => ?_) (fun c136 => ?_)
    · replace h := (if_pos c136).symm.trans h
      refine sf_iconst (v := 0) (pc := 143) C dX10_told_143 (by decide) ?_
      exact sf_iretR (pc := 144) C dX10_told_144 h
    · replace h := (if_neg c136).symm.trans h
      refine sf_iconst (v := 1) (pc := 139) C dX10_told_139 (by decide) ?_
      refine sf_goto (tgt := 144) (pc := 140) C dX10_told_140 rfl ?_
      exact sf_iretR (pc := 144) C dX10_told_144 h
  replace h := (if_neg c1_10).symm.trans h
  by_cases c1_11 : x1 = 11
  · replace h := (if_pos c1_11).symm.trans h
    refine sf_tabIn (off := 144) (tgt := 145) (pc := 1) C dX10_told_1 (by rw [c1_11]; decide) (by rw [c1_11]; decide) (by rw [c1_11]; rfl) rfl ?_
    refine sf_aload_n (pc := 145) C 0 dX10_told_145 rfl ?_
    refine sf_get (pc := 146) C nk_149 sh_149 rfl fl_10_171 dX10_told_146 ?_
    exact sf_iretR (pc := 149) C dX10_told_149 h
  replace h := (if_neg c1_11).symm.trans h
  by_cases c1_12 : x1 = 12
  · replace h := (if_pos c1_12).symm.trans h
    refine sf_tabIn (off := 149) (tgt := 150) (pc := 1) C dX10_told_1 (by rw [c1_12]; decide) (by rw [c1_12]; decide) (by rw [c1_12]; rfl) rfl ?_
    refine sf_aload_n (pc := 150) C 0 dX10_told_150 rfl ?_
    refine sf_get (pc := 151) C nk_149 sh_149 rfl fl_10_174 dX10_told_151 ?_
    exact sf_iretR (pc := 154) C dX10_told_154 h
  replace h := (if_neg c1_12).symm.trans h
  by_cases c1_13 : x1 = 13
  · replace h := (if_pos c1_13).symm.trans h
    refine sf_tabIn (off := 154) (tgt := 155) (pc := 1) C dX10_told_1 (by rw [c1_13]; decide) (by rw [c1_13]; decide) (by rw [c1_13]; rfl) rfl ?_
    refine sf_aload_n (pc := 155) C 0 dX10_told_155 rfl ?_
    refine sf_get (pc := 156) C nk_149 sh_149 rfl fl_10_177 dX10_told_156 ?_
    exact sf_iretR (pc := 159) C dX10_told_159 h
  replace h := (if_neg c1_13).symm.trans h
  by_cases c1_14 : x1 = 14
  · replace h := (if_pos c1_14).symm.trans h
    refine sf_tabIn (off := 159) (tgt := 160) (pc := 1) C dX10_told_1 (by rw [c1_14]; decide) (by rw [c1_14]; decide) (by rw [c1_14]; rfl) rfl ?_
    refine sf_aload_n (pc := 160) C 0 dX10_told_160 rfl ?_
    obtain ⟨v161, e161, h⟩ := sf_ob h
    refine sf_callVi (pc := 161) C (As := []) nk_149 sh_149 rfl yk_X10_stuffForAll cl_10_230 (k10_stuffForAll e161) (by decide) rfl (Nat.le_of_ble_eq_true rfl) rfl dX10_told_161 ?_
    exact sf_iretR (pc := 164) C dX10_told_164 h
  replace h := (if_neg c1_14).symm.trans h
  refine sf_tabOut (tgt := 165) (pc := 1) C dX10_told_1 (by have z0 := lv_neT (a := 0) c1_0 (by decide); have z1 := lv_neT (a := 1) c1_1 (by decide); have z2 := lv_neT (a := 2) c1_2 (by decide); have z3 := lv_neT (a := 3) c1_3 (by decide); have z4 := lv_neT (a := 4) c1_4 (by decide); have z5 := lv_neT (a := 5) c1_5 (by decide); have z6 := lv_neT (a := 6) c1_6 (by decide); have z7 := lv_neT (a := 7) c1_7 (by decide); have z8 := lv_neT (a := 8) c1_8 (by decide); have z9 := lv_neT (a := 9) c1_9 (by decide); have z10 := lv_neT (a := 10) c1_10 (by decide); have z11 := lv_neT (a := 11) c1_11 (by decide); have z12 := lv_neT (a := 12) c1_12 (by decide); have z13 := lv_neT (a := 13) c1_13 (by decide); have z14 := lv_neT (a := 14) c1_14 (by decide); omega) rfl ?_
  refine sf_ldc (v := -1000000002) (pc := 165) C dX10_told_165 tm_940 ?_
  exact sf_iretR (pc := 167) C dX10_told_167 h
set_option maxHeartbeats 4000000 in
set_option maxRecDepth 100000 in
theorem k10_told {l : Launch} {V : sf_V} {s : sf_Sg} {x1 : Int32} {r : Int32} (h : f10_told s x1 = some r) : sf_M l V yX10_told (.code yX10_told cX10_told 2 (some .int)) 5 [.ref (V.2.1 149), .int x1] s (sf_Qi V r s) := by
  refine sf_enter (by decide) (Nat.le_of_ble_eq_true rfl) (fun X hX C => ?_)
  refine sf_sub [0, 1] rfl ?_
  exact w10_told_b0 (show sf_C X V cX10_told 2 RX10 (some .int) 5 from C)  h
set_option maxHeartbeats 4000000 in
set_option maxRecDepth 100000 in
theorem w10_burden_b0 {X : sf_X} {V : sf_V} {s : sf_Sg} {r : Int32} (C : sf_C X V cX10_burden 3 RX10 (some .int) 2) {x1 : Int32} {x2 : Int32} (h : f10_burden_b0 s x1 x2 = some r) : sf_G X V 3 (sf_Q X V (sf_Qi V r s)) s 0 [(0, .ref (V.2.1 149)), (1, .int x1), (2, .int x2)] [] := by
  unfold f10_burden_b0 at h
  refine sf_aload_n (pc := 0) C 0 dX10_burden_0 rfl ?_
  refine sf_iload_n (pc := 1) C 1 dX10_burden_1 rfl ?_
  refine sf_callVi (pc := 2) C (As := [.int x1]) nk_149 sh_149 rfl yk_X10_isBurden cl_10_233 (k10_isBurden rfl) (by decide) rfl (Nat.le_of_ble_eq_true rfl) rfl dX10_burden_2 ?_
  refine sf_if_ne (tgt := 11) (pc := 5) C dX10_burden_5 rfl (fun c5 => ?_) (fun c5 => ?_)
  · replace h := (if_neg c5).symm.trans h
    refine sf_iload_n (pc := 11) C 2 dX10_burden_11 rfl ?_
    by_cases c12_0 : x2 = 0
    · replace h := (if_pos c12_0).symm.trans h
      refine sf_tabIn (off := 40) (tgt := 52) (pc := 12) C dX10_burden_12 (by rw [c12_0]; decide) (by rw [c12_0]; decide) (by rw [c12_0]; rfl) rfl ?_
      refine sf_aload_n (pc := 52) C 0 dX10_burden_52 rfl ?_
      refine sf_getr (pc := 53) C nk_149 sh_149 rfl fl_10_7 dX10_burden_53 ?_
      refine sf_iload_n (pc := 56) C 1 dX10_burden_56 rfl ?_
      obtain ⟨v57, e57, h⟩ := sf_ob h
      refine sf_iald (pc := 57) C nk_150 sh_150 e57 dX10_burden_57 ?_
      exact sf_iretR (pc := 58) C dX10_burden_58 h
    replace h := (if_neg c12_0).symm.trans h
    by_cases c12_1 : x2 = 1
    · replace h := (if_pos c12_1).symm.trans h
      refine sf_tabIn (off := 47) (tgt := 59) (pc := 12) C dX10_burden_12 (by rw [c12_1]; decide) (by rw [c12_1]; decide) (by rw [c12_1]; rfl) rfl ?_
      refine sf_aload_n (pc := 59) C 0 dX10_burden_59 rfl ?_
      refine sf_getr (pc := 60) C nk_149 sh_149 rfl fl_10_25 dX10_burden_60 ?_
      refine sf_iload_n (pc := 63) C 1 dX10_burden_63 rfl ?_
      obtain ⟨v64, e64, h⟩ := sf_ob h
      refine sf_iald (pc := 64) C nk_155 sh_155 e64 dX10_burden_64 ?_
      exact sf_iretR (pc := 65) C dX10_burden_65 h
    replace h := (if_neg c12_1).symm.trans h
    by_cases c12_2 : x2 = 2
    · replace h := (if_pos c12_2).symm.trans h
      refine sf_tabIn (off := 54) (tgt := 66) (pc := 12) C dX10_burden_12 (by rw [c12_2]; decide) (by rw [c12_2]; decide) (by rw [c12_2]; rfl) rfl ?_
      refine sf_aload_n (pc := 66) C 0 dX10_burden_66 rfl ?_
      refine sf_getr (pc := 67) C nk_149 sh_149 rfl fl_10_16 dX10_burden_67 ?_
      refine sf_iload_n (pc := 70) C 1 dX10_burden_70 rfl ?_
      obtain ⟨v71, e71, h⟩ := sf_ob h
      refine sf_iald (pc := 71) C nk_152 sh_152 e71 dX10_burden_71 ?_
      exact sf_iretR (pc := 72) C dX10_burden_72 h
    replace h := (if_neg c12_2).symm.trans h
    by_cases c12_3 : x2 = 3
    · replace h := (if_pos c12_3).symm.trans h
      refine sf_tabIn (off := 61) (tgt := 73) (pc := 12) C dX10_burden_12 (by rw [c12_3]; decide) (by rw [c12_3]; decide) (by rw [c12_3]; rfl) rfl ?_
      refine sf_aload_n (pc := 73) C 0 dX10_burden_73 rfl ?_
      refine sf_getr (pc := 74) C nk_149 sh_149 rfl fl_10_25 dX10_burden_74 ?_
      refine sf_bipush (v := 6) (pc := 77) C dX10_burden_77 (by decide) ?_
      refine sf_iload_n (pc := 79) C 1 dX10_burden_79 rfl ?_
      refine sf_iadd (pc := 80) C dX10_burden_80 ?_
      obtain ⟨v81, e81, h⟩ := sf_ob h
      refine sf_iald (pc := 81) C nk_155 sh_155 e81 dX10_burden_81 ?_
      exact sf_iretR (pc := 82) C dX10_burden_82 h
    replace h := (if_neg c12_3).symm.trans h
    by_cases c12_4 : x2 = 4
    · replace h := (if_pos c12_4).symm.trans h
      refine sf_tabIn (off := 71) (tgt := 83) (pc := 12) C dX10_burden_12 (by rw [c12_4]; decide) (by rw [c12_4]; decide) (by rw [c12_4]; rfl) rfl ?_
      refine sf_aload_n (pc := 83) C 0 dX10_burden_83 rfl ?_
      refine sf_getr (pc := 84) C nk_149 sh_149 rfl fl_10_25 dX10_burden_84 ?_
      refine sf_bipush (v := 12) (pc := 87) C dX10_burden_87 (by decide) ?_
      refine sf_iload_n (pc := 89) C 1 dX10_burden_89 rfl ?_
      refine sf_iadd (pc := 90) C dX10_burden_90 ?_
      obtain ⟨v91, e91, h⟩ := sf_ob h
      refine sf_iald (pc := 91) C nk_155 sh_155 e91 dX10_burden_91 ?_
      exact sf_iretR (pc := 92) C dX10_burden_92 h
    replace h := (if_neg c12_4).symm.trans h
    by_cases c12_5 : x2 = 5
    · replace h := (if_pos c12_5).symm.trans h
      refine sf_tabIn (off := 81) (tgt := 93) (pc := 12) C dX10_burden_12 (by rw [c12_5]; decide) (by rw [c12_5]; decide) (by rw [c12_5]; rfl) rfl ?_
      refine sf_aload_n (pc := 93) C 0 dX10_burden_93 rfl ?_
      refine sf_getr (pc := 94) C nk_149 sh_149 rfl fl_10_25 dX10_burden_94 ?_
      refine sf_bipush (v := 18) (pc := 97) C dX10_burden_97 (by decide) ?_
      refine sf_iload_n (pc := 99) C 1 dX10_burden_99 rfl ?_
      refine sf_iadd (pc := 100) C dX10_burden_100 ?_
      obtain ⟨v101, e101, h⟩ := sf_ob h
      refine sf_iald (pc := 101) C nk_155 sh_155 e101 dX10_burden_101 ?_
      exact sf_iretR (pc := 102) C dX10_burden_102 h
    replace h := (if_neg c12_5).symm.trans h
    refine sf_tabOut (tgt := 103) (pc := 12) C dX10_burden_12 (by have z0 := lv_neT (a := 0) c12_0 (by decide); have z1 := lv_neT (a := 1) c12_1 (by decide); have z2 := lv_neT (a := 2) c12_2 (by decide); have z3 := lv_neT (a := 3) c12_3 (by decide); have z4 := lv_neT (a := 4) c12_4 (by decide); have z5 := lv_neT (a := 5) c12_5 (by decide); omega) rfl ?_
    refine sf_ldc (v := -1000000002) (pc := 103) C dX10_burden_103 tm_940 ?_
    exact sf_iretR (pc := 105) C dX10_burden_105 h
  · replace h := (if_pos c5).symm.trans h
    refine sf_ldc (v := -1000000001) (pc := 8) C dX10_burden_8 tm_1069 ?_
    exact sf_iretR (pc := 10) C dX10_burden_10 h
set_option maxHeartbeats 4000000 in
set_option maxRecDepth 100000 in
theorem k10_burden {l : Launch} {V : sf_V} {s : sf_Sg} {x1 : Int32} {x2 : Int32} {r : Int32} (h : f10_burden s x1 x2 = some r) : sf_M l V yX10_burden (.code yX10_burden cX10_burden 3 (some .int)) 2 [.ref (V.2.1 149), .int x1, .int x2] s (sf_Qi V r s) := by
  refine sf_enter (by decide) (Nat.le_of_ble_eq_true rfl) (fun X hX C => ?_)
  refine sf_sub [0, 1, 2] rfl ?_
  exact w10_burden_b0 (show sf_C X V cX10_burden 3 RX10 (some .int) 2 from C)  h
set_option maxHeartbeats 4000000 in
set_option maxRecDepth 100000 in
theorem w10_back_b0 {X : sf_X} {V : sf_V} {s : sf_Sg} {r : Int32} (C : sf_C X V cX10_back 3 RX10 (some .int) 4) {x1 : Int32} {x2 : Int32} (h : f10_back_b0 s x1 x2 = some r) : sf_G X V 3 (sf_Q X V (sf_Qi V r s)) s 0 [(0, .ref (V.2.1 149)), (1, .int x1), (2, .int x2)] [] := by
  unfold f10_back_b0 at h
  refine sf_aload_n (pc := 0) C 0 dX10_back_0 rfl ?_
  refine sf_iload_n (pc := 1) C 1 dX10_back_1 rfl ?_
  refine sf_callVi (pc := 2) C (As := [.int x1]) nk_149 sh_149 rfl yk_X10_isBack cl_10_237 (k10_isBack rfl) (by decide) rfl (Nat.le_of_ble_eq_true rfl) rfl dX10_back_2 ?_
  refine sf_if_ne (tgt := 11) (pc := 5) C dX10_back_5 rfl (fun c5 => ?_) (fun c5 => ?_)
  · replace h := (if_neg c5).symm.trans h
    refine sf_iload_n (pc := 11) C 2 dX10_back_11 rfl ?_
    by_cases c12_0 : x2 = 0
    · replace h := (if_pos c12_0).symm.trans h
      refine sf_tabIn (off := 48) (tgt := 60) (pc := 12) C dX10_back_12 (by rw [c12_0]; decide) (by rw [c12_0]; decide) (by rw [c12_0]; rfl) rfl ?_
      refine sf_aload_n (pc := 60) C 0 dX10_back_60 rfl ?_
      refine sf_getr (pc := 61) C nk_149 sh_149 rfl fl_10_19 dX10_back_61 ?_
      refine sf_iload_n (pc := 64) C 1 dX10_back_64 rfl ?_
      obtain ⟨v65, e65, h⟩ := sf_ob h
      refine sf_iald (pc := 65) C nk_153 sh_153 e65 dX10_back_65 ?_
      exact sf_iretR (pc := 66) C dX10_back_66 h
    replace h := (if_neg c12_0).symm.trans h
    by_cases c12_1 : x2 = 1
    · replace h := (if_pos c12_1).symm.trans h
      refine sf_tabIn (off := 55) (tgt := 67) (pc := 12) C dX10_back_12 (by rw [c12_1]; decide) (by rw [c12_1]; decide) (by rw [c12_1]; rfl) rfl ?_
      refine sf_aload_n (pc := 67) C 0 dX10_back_67 rfl ?_
      refine sf_getr (pc := 68) C nk_149 sh_149 rfl fl_10_22 dX10_back_68 ?_
      refine sf_iload_n (pc := 71) C 1 dX10_back_71 rfl ?_
      obtain ⟨v72, e72, h⟩ := sf_ob h
      refine sf_iald (pc := 72) C nk_154 sh_154 e72 dX10_back_72 ?_
      exact sf_iretR (pc := 73) C dX10_back_73 h
    replace h := (if_neg c12_1).symm.trans h
    by_cases c12_2 : x2 = 2
    · replace h := (if_pos c12_2).symm.trans h
      refine sf_tabIn (off := 62) (tgt := 74) (pc := 12) C dX10_back_12 (by rw [c12_2]; decide) (by rw [c12_2]; decide) (by rw [c12_2]; rfl) rfl ?_
      refine sf_aload_n (pc := 74) C 0 dX10_back_74 rfl ?_
      refine sf_getr (pc := 75) C nk_149 sh_149 rfl fl_10_25 dX10_back_75 ?_
      refine sf_bipush (v := 24) (pc := 78) C dX10_back_78 (by decide) ?_
      refine sf_iload_n (pc := 80) C 1 dX10_back_80 rfl ?_
      refine sf_iadd (pc := 81) C dX10_back_81 ?_
      obtain ⟨v82, e82, h⟩ := sf_ob h
      refine sf_iald (pc := 82) C nk_155 sh_155 e82 dX10_back_82 ?_
      exact sf_iretR (pc := 83) C dX10_back_83 h
    replace h := (if_neg c12_2).symm.trans h
    by_cases c12_3 : x2 = 3
    · replace h := (if_pos c12_3).symm.trans h
      refine sf_tabIn (off := 72) (tgt := 84) (pc := 12) C dX10_back_12 (by rw [c12_3]; decide) (by rw [c12_3]; decide) (by rw [c12_3]; rfl) rfl ?_
      refine sf_aload_n (pc := 84) C 0 dX10_back_84 rfl ?_
      refine sf_iload_n (pc := 85) C 1 dX10_back_85 rfl ?_
      obtain ⟨v86, e86, h⟩ := sf_ob h
      refine sf_callVi (pc := 86) C (As := [.int x1]) nk_149 sh_149 rfl yk_X10_gallingOf cl_10_208 (k10_gallingOf e86) (by decide) rfl (Nat.le_of_ble_eq_true rfl) rfl dX10_back_86 ?_
      exact sf_iretR (pc := 89) C dX10_back_89 h
    replace h := (if_neg c12_3).symm.trans h
    by_cases c12_4 : x2 = 4
    · replace h := (if_pos c12_4).symm.trans h
      refine sf_tabIn (off := 78) (tgt := 90) (pc := 12) C dX10_back_12 (by rw [c12_4]; decide) (by rw [c12_4]; decide) (by rw [c12_4]; rfl) rfl ?_
      refine sf_aload_n (pc := 90) C 0 dX10_back_90 rfl ?_
      refine sf_iload_n (pc := 91) C 1 dX10_back_91 rfl ?_
      obtain ⟨v92, e92, h⟩ := sf_ob h
      refine sf_callVi (pc := 92) C (As := [.int x1]) nk_149 sh_149 rfl yk_X10_carriedBy cl_10_240 (k10_carriedBy e92) (by decide) rfl (Nat.le_of_ble_eq_true rfl) rfl dX10_back_92 ?_
      exact sf_iretR (pc := 95) C dX10_back_95 h
    replace h := (if_neg c12_4).symm.trans h
    by_cases c12_5 : x2 = 5
    · replace h := (if_pos c12_5).symm.trans h
      refine sf_tabIn (off := 84) (tgt := 96) (pc := 12) C dX10_back_12 (by rw [c12_5]; decide) (by rw [c12_5]; decide) (by rw [c12_5]; rfl) rfl ?_
      refine sf_aload_n (pc := 96) C 0 dX10_back_96 rfl ?_
      refine sf_iload_n (pc := 97) C 1 dX10_back_97 rfl ?_
      obtain ⟨v98, e98, h⟩ := sf_ob h
      refine sf_callVi (pc := 98) C (As := [.int x1]) nk_149 sh_149 rfl yk_X10_partsOf cl_10_202 (k10_partsOf e98) (by decide) rfl (Nat.le_of_ble_eq_true rfl) rfl dX10_back_98 ?_
      exact sf_iretR (pc := 101) C dX10_back_101 h
    replace h := (if_neg c12_5).symm.trans h
    by_cases c12_6 : x2 = 6
    · replace h := (if_pos c12_6).symm.trans h
      refine sf_tabIn (off := 90) (tgt := 102) (pc := 12) C dX10_back_12 (by rw [c12_6]; decide) (by rw [c12_6]; decide) (by rw [c12_6]; rfl) rfl ?_
      refine sf_aload_n (pc := 102) C 0 dX10_back_102 rfl ?_
      refine sf_iload_n (pc := 103) C 1 dX10_back_103 rfl ?_
      obtain ⟨v104, e104, h⟩ := sf_ob h
      refine sf_callVi (pc := 104) C (As := [.int x1]) nk_149 sh_149 rfl yk_X10_stuffFor cl_10_243 (k10_stuffFor e104) (by decide) rfl (Nat.le_of_ble_eq_true rfl) rfl dX10_back_104 ?_
      exact sf_iretR (pc := 107) C dX10_back_107 h
    replace h := (if_neg c12_6).symm.trans h
    by_cases c12_7 : x2 = 7
    · replace h := (if_pos c12_7).symm.trans h
      refine sf_tabIn (off := 96) (tgt := 108) (pc := 12) C dX10_back_12 (by rw [c12_7]; decide) (by rw [c12_7]; decide) (by rw [c12_7]; rfl) rfl ?_
      refine sf_aload_n (pc := 108) C 0 dX10_back_108 rfl ?_
      refine sf_iload_n (pc := 109) C 1 dX10_back_109 rfl ?_
      obtain ⟨v110, e110, h⟩ := sf_ob h
      refine sf_callVi (pc := 110) C (As := [.int x1]) nk_149 sh_149 rfl yk_X10_ringOf cl_10_246 (k10_ringOf e110) (by decide) rfl (Nat.le_of_ble_eq_true rfl) rfl dX10_back_110 ?_
      exact sf_iretR (pc := 113) C dX10_back_113 h
    replace h := (if_neg c12_7).symm.trans h
    refine sf_tabOut (tgt := 114) (pc := 12) C dX10_back_12 (by have z0 := lv_neT (a := 0) c12_0 (by decide); have z1 := lv_neT (a := 1) c12_1 (by decide); have z2 := lv_neT (a := 2) c12_2 (by decide); have z3 := lv_neT (a := 3) c12_3 (by decide); have z4 := lv_neT (a := 4) c12_4 (by decide); have z5 := lv_neT (a := 5) c12_5 (by decide); have z6 := lv_neT (a := 6) c12_6 (by decide); have z7 := lv_neT (a := 7) c12_7 (by decide); omega) rfl ?_
    refine sf_ldc (v := -1000000002) (pc := 114) C dX10_back_114 tm_940 ?_
    exact sf_iretR (pc := 116) C dX10_back_116 h
  · replace h := (if_pos c5).symm.trans h
    refine sf_ldc (v := -1000000001) (pc := 8) C dX10_back_8 tm_1069 ?_
    exact sf_iretR (pc := 10) C dX10_back_10 h
set_option maxHeartbeats 4000000 in
set_option maxRecDepth 100000 in
theorem k10_back {l : Launch} {V : sf_V} {s : sf_Sg} {x1 : Int32} {x2 : Int32} {r : Int32} (h : f10_back s x1 x2 = some r) : sf_M l V yX10_back (.code yX10_back cX10_back 3 (some .int)) 4 [.ref (V.2.1 149), .int x1, .int x2] s (sf_Qi V r s) := by
  refine sf_enter (by decide) (Nat.le_of_ble_eq_true rfl) (fun X hX C => ?_)
  refine sf_sub [0, 1, 2] rfl ?_
  exact w10_back_b0 (show sf_C X V cX10_back 3 RX10 (some .int) 4 from C)  h
set_option maxHeartbeats 4000000 in
set_option maxRecDepth 100000 in
theorem w10_remember_b84 {X : sf_X} {V : sf_V} {s' : sf_Sg} (C : sf_C X V cX10_remember 2 RX10 none 0) {s : sf_Sg} (h : f10_remember_b84 s = some s') : sf_G X V 2 (sf_Q X V (sf_Qv V s')) s 84 [(0, .ref (V.2.1 149))] [] := by
  unfold f10_remember_b84 at h
  refine sf_aload_n (pc := 84) C 0 dX10_remember_84 rfl ?_
  refine sf_dup (pc := 85) C dX10_remember_85 rfl ?_
  refine sf_get (pc := 86) C nk_149 sh_149 rfl fl_10_177 dX10_remember_86 ?_
  refine sf_iconst (v := 1) (pc := 89) C dX10_remember_89 (by decide) ?_
  refine sf_iadd (pc := 90) C dX10_remember_90 ?_
  refine sf_put (pc := 91) C nk_149 sh_149 rfl fw_10_177 rfl rfl dX10_remember_91 ?_
  exact sf_vretW (pc := 94) C dX10_remember_94 h
set_option maxHeartbeats 4000000 in
set_option maxRecDepth 100000 in
theorem w10_remember_b52 {X : sf_X} {V : sf_V} {s' : sf_Sg} {k52 : sf_Sg → Int32 → Option sf_Sg} (C : sf_C X V cX10_remember 2 RX10 none 0) (hk52 : ∀  (s : sf_Sg) (x1 : Int32), k52 s x1 = some s' → sf_G X V 2 (sf_Q X V (sf_Qv V s')) s 52 [(0, .ref (V.2.1 149)), (1, .int x1)] []) {s : sf_Sg} {x1 : Int32} (h : f10_remember_b52 k52 s x1 = some s') : sf_G X V 2 (sf_Q X V (sf_Qv V s')) s 52 [(0, .ref (V.2.1 149)), (1, .int x1)] [] := by
  unfold f10_remember_b52 at h
  refine sf_iload_n (pc := 52) C 1 dX10_remember_52 rfl ?_
  refine sf_bipush (v := 31) (pc := 53) C dX10_remember_53 (by decide) ?_
  refine sf_icmp_ge (tgt := 84) (pc := 55) C dX10_remember_55 rfl (fun c55 => ?_) (fun c55 => ?_)
  · replace h := (if_pos c55).symm.trans h
    refine sf_sub [0] rfl ?_
    exact w10_remember_b84 C h
  · replace h := (if_neg c55).symm.trans h
    refine sf_aload_n (pc := 58) C 0 dX10_remember_58 rfl ?_
    refine sf_getr (pc := 59) C nk_149 sh_149 rfl fl_10_50 dX10_remember_59 ?_
    refine sf_bipush (v := 31) (pc := 62) C dX10_remember_62 (by decide) ?_
    refine sf_aload_n (pc := 64) C 0 dX10_remember_64 rfl ?_
    refine sf_get (pc := 65) C nk_149 sh_149 rfl fl_10_177 dX10_remember_65 ?_
    refine sf_imul (pc := 68) C dX10_remember_68 ?_
    refine sf_iload_n (pc := 69) C 1 dX10_remember_69 rfl ?_
    refine sf_iadd (pc := 70) C dX10_remember_70 ?_
    refine sf_aload_n (pc := 71) C 0 dX10_remember_71 rfl ?_
    refine sf_getr (pc := 72) C nk_149 sh_149 rfl fl_10_25 dX10_remember_72 ?_
    refine sf_iload_n (pc := 75) C 1 dX10_remember_75 rfl ?_
    obtain ⟨v76, e76, h⟩ := sf_ob h
    refine sf_iald (pc := 76) C nk_155 sh_155 e76 dX10_remember_76 ?_
    obtain ⟨s77, e77, h⟩ := sf_ob h
    refine sf_iast (pc := 77) C nk_162 sh_162 e77 dX10_remember_77 ?_
    refine sf_iinc (v := (x1 + 1)) (lv' := [(1, .int (x1 + 1)), (0, .ref (V.2.1 149))]) (pc := 78) C 1 dX10_remember_78 rfl rfl (by decide) rfl ?_
    refine sf_goto (tgt := 52) (pc := 81) C dX10_remember_81 rfl ?_
    refine sf_sub [1, 0] rfl ?_
    exact hk52 _ _ h
set_option maxHeartbeats 4000000 in
set_option maxRecDepth 100000 in
theorem w10_remember_L52 {X : sf_X} {V : sf_V} {s' : sf_Sg} (C : sf_C X V cX10_remember 2 RX10 none 0) : ∀  (s : sf_Sg) (x1 : Int32), f10_remember_L52 s x1 = some s' → sf_G X V 2 (sf_Q X V (sf_Qv V s')) s 52 [(0, .ref (V.2.1 149)), (1, .int x1)] [] :=
  sf_it_ind (fun (k : sf_Sg → Int32 → Option sf_Sg) => ∀  (s : sf_Sg) (x1 : Int32), k s x1 = some s' → sf_G X V 2 (sf_Q X V (sf_Qv V s')) s 52 [(0, .ref (V.2.1 149)), (1, .int x1)] []) _ _ (fun s x1 h => by cases h) (fun k hk s x1 h => w10_remember_b52 C hk h) _
set_option maxHeartbeats 4000000 in
set_option maxRecDepth 100000 in
theorem w10_remember_b50 {X : sf_X} {V : sf_V} {s' : sf_Sg} (C : sf_C X V cX10_remember 2 RX10 none 0) {s : sf_Sg} (h : f10_remember_b50 s = some s') : sf_G X V 2 (sf_Q X V (sf_Qv V s')) s 50 [(0, .ref (V.2.1 149))] [] := by
  unfold f10_remember_b50 at h
  refine sf_iconst (v := 0) (pc := 50) C dX10_remember_50 (by decide) ?_
  refine sf_istore_n (lv' := [(1, .int (0 : Int32)), (0, .ref (V.2.1 149))]) (pc := 51) C dX10_remember_51 (by decide) rfl ?_
  refine sf_sub [1, 0] rfl ?_
  exact w10_remember_L52 C _ _ h
set_option maxHeartbeats 4000000 in
set_option maxRecDepth 100000 in
theorem w10_remember_b40 {X : sf_X} {V : sf_V} {s' : sf_Sg} (C : sf_C X V cX10_remember 2 RX10 none 0) {s : sf_Sg} (h : f10_remember_b40 s = some s') : sf_G X V 2 (sf_Q X V (sf_Qv V s')) s 40 [(0, .ref (V.2.1 149))] [] := by
  unfold f10_remember_b40 at h
  refine sf_aload_n (pc := 40) C 0 dX10_remember_40 rfl ?_
  refine sf_dup (pc := 41) C dX10_remember_41 rfl ?_
  refine sf_get (pc := 42) C nk_149 sh_149 rfl fl_10_177 dX10_remember_42 ?_
  refine sf_iconst (v := 1) (pc := 45) C dX10_remember_45 (by decide) ?_
  refine sf_isub (pc := 46) C dX10_remember_46 ?_
  refine sf_put (pc := 47) C nk_149 sh_149 rfl fw_10_177 rfl rfl dX10_remember_47 ?_
  exact w10_remember_b50 C h
set_option maxHeartbeats 4000000 in
set_option maxRecDepth 100000 in
theorem w10_remember_b12 {X : sf_X} {V : sf_V} {s' : sf_Sg} {k12 : sf_Sg → Int32 → Option sf_Sg} (C : sf_C X V cX10_remember 2 RX10 none 0) (hk12 : ∀  (s : sf_Sg) (x1 : Int32), k12 s x1 = some s' → sf_G X V 2 (sf_Q X V (sf_Qv V s')) s 12 [(0, .ref (V.2.1 149)), (1, .int x1)] []) {s : sf_Sg} {x1 : Int32} (h : f10_remember_b12 k12 s x1 = some s') : sf_G X V 2 (sf_Q X V (sf_Qv V s')) s 12 [(0, .ref (V.2.1 149)), (1, .int x1)] [] := by
  unfold f10_remember_b12 at h
  refine sf_iload_n (pc := 12) C 1 dX10_remember_12 rfl ?_
  refine sf_sipush (v := 496) (pc := 13) C dX10_remember_13 (by decide) ?_
  refine sf_icmp_ge (tgt := 40) (pc := 16) C dX10_remember_16 rfl (fun c16 => ?_) (fun c16 => ?_)
  · replace h := (if_pos c16).symm.trans h
    refine sf_sub [0] rfl ?_
    exact w10_remember_b40 C h
  · replace h := (if_neg c16).symm.trans h
    refine sf_aload_n (pc := 19) C 0 dX10_remember_19 rfl ?_
    refine sf_getr (pc := 20) C nk_149 sh_149 rfl fl_10_50 dX10_remember_20 ?_
    refine sf_iload_n (pc := 23) C 1 dX10_remember_23 rfl ?_
    refine sf_bipush (v := 31) (pc := 24) C dX10_remember_24 (by decide) ?_
    refine sf_isub (pc := 26) C dX10_remember_26 ?_
    refine sf_aload_n (pc := 27) C 0 dX10_remember_27 rfl ?_
    refine sf_getr (pc := 28) C nk_149 sh_149 rfl fl_10_50 dX10_remember_28 ?_
    refine sf_iload_n (pc := 31) C 1 dX10_remember_31 rfl ?_
    obtain ⟨v32, e32, h⟩ := sf_ob h
    refine sf_iald (pc := 32) C nk_162 sh_162 e32 dX10_remember_32 ?_
    obtain ⟨s33, e33, h⟩ := sf_ob h
    refine sf_iast (pc := 33) C nk_162 sh_162 e33 dX10_remember_33 ?_
    refine sf_iinc (v := (x1 + 1)) (lv' := [(1, .int (x1 + 1)), (0, .ref (V.2.1 149))]) (pc := 34) C 1 dX10_remember_34 rfl rfl (by decide) rfl ?_
    refine sf_goto (tgt := 12) (pc := 37) C dX10_remember_37 rfl ?_
    refine sf_sub [1, 0] rfl ?_
    exact hk12 _ _ h
set_option maxHeartbeats 4000000 in
set_option maxRecDepth 100000 in
theorem w10_remember_L12 {X : sf_X} {V : sf_V} {s' : sf_Sg} (C : sf_C X V cX10_remember 2 RX10 none 0) : ∀  (s : sf_Sg) (x1 : Int32), f10_remember_L12 s x1 = some s' → sf_G X V 2 (sf_Q X V (sf_Qv V s')) s 12 [(0, .ref (V.2.1 149)), (1, .int x1)] [] :=
  sf_it_ind (fun (k : sf_Sg → Int32 → Option sf_Sg) => ∀  (s : sf_Sg) (x1 : Int32), k s x1 = some s' → sf_G X V 2 (sf_Q X V (sf_Qv V s')) s 12 [(0, .ref (V.2.1 149)), (1, .int x1)] []) _ _ (fun s x1 h => by cases h) (fun k hk s x1 h => w10_remember_b12 C hk h) _
set_option maxHeartbeats 4000000 in
set_option maxRecDepth 100000 in
theorem w10_remember_b0 {X : sf_X} {V : sf_V} {s' : sf_Sg} (C : sf_C X V cX10_remember 2 RX10 none 0) {s : sf_Sg} (h : f10_remember_b0 s = some s') : sf_G X V 2 (sf_Q X V (sf_Qv V s')) s 0 [(0, .ref (V.2.1 149))] [] := by
  unfold f10_remember_b0 at h
  refine sf_aload_n (pc := 0) C 0 dX10_remember_0 rfl ?_
  refine sf_get (pc := 1) C nk_149 sh_149 rfl fl_10_177 dX10_remember_1 ?_
  refine sf_bipush (v := 16) (pc := 4) C dX10_remember_4 (by decide) ?_
  refine sf_icmp_ne (tgt := 50) (pc := 6) C dX10_remember_6 rfl (fun c6 => ?_) (fun c6 => ?_)
  · replace h := (if_neg c6).symm.trans h
    exact w10_remember_b50 C h
  · replace h := (if_pos c6).symm.trans h
    refine sf_bipush (v := 31) (pc := 9) C dX10_remember_9 (by decide) ?_
    refine sf_istore_n (lv' := [(1, .int (31 : Int32)), (0, .ref (V.2.1 149))]) (pc := 11) C dX10_remember_11 (by decide) rfl ?_
    refine sf_sub [1, 0] rfl ?_
    exact w10_remember_L12 C _ _ h
set_option maxHeartbeats 4000000 in
set_option maxRecDepth 100000 in
theorem k10_remember {l : Launch} {V : sf_V} {s : sf_Sg} {s' : sf_Sg} (h : f10_remember s = some s') : sf_M l V yX10_remember (.code yX10_remember cX10_remember 2 none) 0 [.ref (V.2.1 149)] s (sf_Qv V s') := by
  refine sf_enter (by decide) (Nat.le_of_ble_eq_true rfl) (fun X hX C => ?_)
  refine sf_sub [0] rfl ?_
  exact w10_remember_b0 (show sf_C X V cX10_remember 2 RX10 none 0 from C)  h
set_option maxHeartbeats 4000000 in
set_option maxRecDepth 100000 in
theorem w10_pass_b64 {X : sf_X} {V : sf_V} {s' : sf_Sg} {k2 : sf_Sg → Int32 → Option sf_Sg} (C : sf_C X V cX10_pass 3 RX10 none 4) (hk2 : ∀  (s : sf_Sg) (x1 : Int32), k2 s x1 = some s' → sf_G X V 3 (sf_Q X V (sf_Qv V s')) s 2 [(0, .ref (V.2.1 149)), (1, .int x1)] []) {s : sf_Sg} {x1 : Int32} {t2 : Int32} {t1 : Int32} (h : f10_pass_b64 k2 s x1 t2 t1 = some s') : sf_G X V 3 (sf_Q X V (sf_Qv V s')) s 64 [(0, .ref (V.2.1 149)), (1, .int x1)] [.int t2, .int t1, .ref (V.2.1 155)] := by
  unfold f10_pass_b64 at h
  obtain ⟨s64, e64, h⟩ := sf_ob h
  refine sf_iast (pc := 64) C nk_155 sh_155 e64 dX10_pass_64 ?_
  refine sf_iinc (v := (x1 + 1)) (lv' := [(1, .int (x1 + 1)), (0, .ref (V.2.1 149))]) (pc := 65) C 1 dX10_pass_65 rfl rfl (by decide) rfl ?_
  refine sf_goto (tgt := 2) (pc := 68) C dX10_pass_68 rfl ?_
  refine sf_sub [1, 0] rfl ?_
  exact hk2 _ _ h
set_option maxHeartbeats 4000000 in
set_option maxRecDepth 100000 in
theorem w10_pass_b37 {X : sf_X} {V : sf_V} {s' : sf_Sg} {k2 : sf_Sg → Int32 → Option sf_Sg} (C : sf_C X V cX10_pass 3 RX10 none 4) (hk2 : ∀  (s : sf_Sg) (x1 : Int32), k2 s x1 = some s' → sf_G X V 3 (sf_Q X V (sf_Qv V s')) s 2 [(0, .ref (V.2.1 149)), (1, .int x1)] []) {s : sf_Sg} {x1 : Int32} {t1 : Int32} {t0 : Int32} (h : f10_pass_b37 k2 s x1 t1 t0 = some s') : sf_G X V 3 (sf_Q X V (sf_Qv V s')) s 37 [(0, .ref (V.2.1 149)), (1, .int x1)] [.int t1, .int t0] := by
  unfold f10_pass_b37 at h
  refine sf_iadd (pc := 37) C dX10_pass_37 ?_
  refine sf_istore_n (lv' := [(2, .int (t0 + t1)), (0, .ref (V.2.1 149)), (1, .int x1)]) (pc := 38) C dX10_pass_38 (by decide) rfl ?_
  refine sf_aload_n (pc := 39) C 1 dX10_pass_39 rfl ?_
  refine sf_getr (pc := 40) C nk_149 sh_149 rfl fl_10_25 dX10_pass_40 ?_
  refine sf_bipush (v := 24) (pc := 43) C dX10_pass_43 (by decide) ?_
  refine sf_iload_n (pc := 45) C 2 dX10_pass_45 rfl ?_
  refine sf_iadd (pc := 46) C dX10_pass_46 ?_
  refine sf_iload_n (pc := 47) C 0 dX10_pass_47 rfl ?_
  refine sf_sipush (v := 9999) (pc := 48) C dX10_pass_48 (by decide) ?_
  refine sf_icmp_le (tgt := 60) (pc := 51) C dX10_pass_51 rfl (fun c51 => ?_) (fun c51 => ?_)
  · replace h := (if_pos c51).symm.trans h
    refine sf_iload_n (pc := 60) C 0 dX10_pass_60 rfl ?_
    refine sf_callSi (pc := 61) C (As := [.int (t0 + t1)]) yk_X10_notBelow cl_10_188 (k10_notBelow rfl) (by decide) rfl (Nat.le_of_ble_eq_true rfl) rfl dX10_pass_61 ?_
    refine sf_sub [1, 2] rfl ?_
    exact w10_pass_b64 C hk2 h
  · replace h := (if_neg c51).symm.trans h
    refine sf_sipush (v := 9999) (pc := 54) C dX10_pass_54 (by decide) ?_
    refine sf_goto (tgt := 64) (pc := 57) C dX10_pass_57 rfl ?_
    refine sf_sub [1, 2] rfl ?_
    exact w10_pass_b64 C hk2 h
set_option maxHeartbeats 4000000 in
set_option maxRecDepth 100000 in
theorem w10_pass_b71 {X : sf_X} {V : sf_V} {s' : sf_Sg} (C : sf_C X V cX10_pass 3 RX10 none 4) {s : sf_Sg} (h : f10_pass_b71 s = some s') : sf_G X V 3 (sf_Q X V (sf_Qv V s')) s 71 [(0, .ref (V.2.1 149))] [] := by
  unfold f10_pass_b71 at h
  refine sf_aload_n (pc := 71) C 0 dX10_pass_71 rfl ?_
  refine sf_getr (pc := 72) C nk_149 sh_149 rfl fl_10_25 dX10_pass_72 ?_
  refine sf_bipush (v := 30) (pc := 75) C dX10_pass_75 (by decide) ?_
  refine sf_dup2 (pc := 77) C dX10_pass_77 rfl rfl ?_
  obtain ⟨v78, e78, h⟩ := sf_ob h
  refine sf_iald (pc := 78) C nk_155 sh_155 e78 dX10_pass_78 ?_
  refine sf_iconst (v := 1) (pc := 79) C dX10_pass_79 (by decide) ?_
  refine sf_iadd (pc := 80) C dX10_pass_80 ?_
  obtain ⟨s81, e81, h⟩ := sf_ob h
  refine sf_iast (pc := 81) C nk_155 sh_155 e81 dX10_pass_81 ?_
  exact sf_vretW (pc := 82) C dX10_pass_82 h
set_option maxHeartbeats 4000000 in
set_option maxRecDepth 100000 in
theorem w10_pass_b2 {X : sf_X} {V : sf_V} {s' : sf_Sg} {k2 : sf_Sg → Int32 → Option sf_Sg} (C : sf_C X V cX10_pass 3 RX10 none 4) (hk2 : ∀  (s : sf_Sg) (x1 : Int32), k2 s x1 = some s' → sf_G X V 3 (sf_Q X V (sf_Qv V s')) s 2 [(0, .ref (V.2.1 149)), (1, .int x1)] []) {s : sf_Sg} {x1 : Int32} (h : f10_pass_b2 k2 s x1 = some s') : sf_G X V 3 (sf_Q X V (sf_Qv V s')) s 2 [(0, .ref (V.2.1 149)), (1, .int x1)] [] := by
  unfold f10_pass_b2 at h
  refine sf_iload_n (pc := 2) C 1 dX10_pass_2 rfl ?_
  refine sf_aload_n (pc := 3) C 0 dX10_pass_3 rfl ?_
  refine sf_get (pc := 4) C nk_149 sh_149 rfl fl_10_95 dX10_pass_4 ?_
  refine sf_icmp_ge (tgt := 71) (pc := 7) C dX10_pass_7 rfl (fun c7 => ?_) (fun c7 => ?_)
  · replace h := (if_pos c7).symm.trans h
    refine sf_sub [0] rfl ?_
    exact w10_pass_b71 C h
  · replace h := (if_neg c7).symm.trans h
    refine sf_aload_n (pc := 10) C 0 dX10_pass_10 rfl ?_
    refine sf_getr (pc := 11) C nk_149 sh_149 rfl fl_10_25 dX10_pass_11 ?_
    refine sf_bipush (v := 24) (pc := 14) C dX10_pass_14 (by decide) ?_
    refine sf_iload_n (pc := 16) C 1 dX10_pass_16 rfl ?_
    refine sf_iadd (pc := 17) C dX10_pass_17 ?_
    obtain ⟨v18, e18, h⟩ := sf_ob h
    refine sf_iald (pc := 18) C nk_155 sh_155 e18 dX10_pass_18 ?_
    refine sf_aload_n (pc := 19) C 0 dX10_pass_19 rfl ?_
    refine sf_iload_n (pc := 20) C 1 dX10_pass_20 rfl ?_
    obtain ⟨v21, e21, h⟩ := sf_ob h
    refine sf_callVi (pc := 21) C (As := [.int x1]) nk_149 sh_149 rfl yk_X10_carriedBy cl_10_240 (k10_carriedBy e21) (by decide) rfl (Nat.le_of_ble_eq_true rfl) rfl dX10_pass_21 ?_
    refine sf_if_ne (tgt := 32) (pc := 24) C dX10_pass_24 rfl (fun c24 => ?_) (fun c24 => ?_)
    · replace h := (if_neg c24).symm.trans h
      refine sf_aload_n (pc := 32) C 0 dX10_pass_32 rfl ?_
      refine sf_iload_n (pc := 33) C 1 dX10_pass_33 rfl ?_
      obtain ⟨v34, e34, h⟩ := sf_ob h
      refine sf_callVi (pc := 34) C (As := [.int x1]) nk_149 sh_149 rfl yk_X10_gallingOf cl_10_208 (k10_gallingOf e34) (by decide) rfl (Nat.le_of_ble_eq_true rfl) rfl dX10_pass_34 ?_
      exact w10_pass_b37 C hk2 h
    · replace h := (if_pos c24).symm.trans h
      refine sf_bipush (v := -3) (pc := 27) C dX10_pass_27 (by decide) ?_
      refine sf_goto (tgt := 37) (pc := 29) C dX10_pass_29 rfl ?_
      exact w10_pass_b37 C hk2 h
set_option maxHeartbeats 4000000 in
set_option maxRecDepth 100000 in
theorem w10_pass_L2 {X : sf_X} {V : sf_V} {s' : sf_Sg} (C : sf_C X V cX10_pass 3 RX10 none 4) : ∀  (s : sf_Sg) (x1 : Int32), f10_pass_L2 s x1 = some s' → sf_G X V 3 (sf_Q X V (sf_Qv V s')) s 2 [(0, .ref (V.2.1 149)), (1, .int x1)] [] :=
  sf_it_ind (fun (k : sf_Sg → Int32 → Option sf_Sg) => ∀  (s : sf_Sg) (x1 : Int32), k s x1 = some s' → sf_G X V 3 (sf_Q X V (sf_Qv V s')) s 2 [(0, .ref (V.2.1 149)), (1, .int x1)] []) _ _ (fun s x1 h => by cases h) (fun k hk s x1 h => w10_pass_b2 C hk h) _
set_option maxHeartbeats 4000000 in
set_option maxRecDepth 100000 in
theorem w10_pass_b0 {X : sf_X} {V : sf_V} {s' : sf_Sg} (C : sf_C X V cX10_pass 3 RX10 none 4) {s : sf_Sg} (h : f10_pass_b0 s = some s') : sf_G X V 3 (sf_Q X V (sf_Qv V s')) s 0 [(0, .ref (V.2.1 149))] [] := by
  unfold f10_pass_b0 at h
  refine sf_iconst (v := 0) (pc := 0) C dX10_pass_0 (by decide) ?_
  refine sf_istore_n (lv' := [(1, .int (0 : Int32)), (0, .ref (V.2.1 149))]) (pc := 1) C dX10_pass_1 (by decide) rfl ?_
  refine sf_sub [1, 0] rfl ?_
  exact w10_pass_L2 C _ _ h
set_option maxHeartbeats 4000000 in
set_option maxRecDepth 100000 in
theorem k10_pass {l : Launch} {V : sf_V} {s : sf_Sg} {s' : sf_Sg} (h : f10_pass s = some s') : sf_M l V yX10_pass (.code yX10_pass cX10_pass 3 none) 4 [.ref (V.2.1 149)] s (sf_Qv V s') := by
  refine sf_enter (by decide) (Nat.le_of_ble_eq_true rfl) (fun X hX C => ?_)
  refine sf_sub [0] rfl ?_
  exact w10_pass_b0 (show sf_C X V cX10_pass 3 RX10 none 4 from C)  h
set_option maxHeartbeats 4000000 in
set_option maxRecDepth 100000 in
theorem w10_daysRefused_b0 {X : sf_X} {V : sf_V} {s : sf_Sg} {r : Int32} (C : sf_C X V cX10_daysRefused 2 RX10 (some .int) 1) {x1 : Int32} (h : f10_daysRefused_b0 s x1 = some r) : sf_G X V 2 (sf_Q X V (sf_Qi V r s)) s 0 [(0, .ref (V.2.1 149)), (1, .int x1)] [] := by
  unfold f10_daysRefused_b0 at h
  refine sf_iload_n (pc := 0) C 1 dX10_daysRefused_0 rfl ?_
  refine sf_i2l (pc := 1) C dX10_daysRefused_1 ?_
  refine sf_lconst (v := 1) (pc := 2) C dX10_daysRefused_2 (by decide) ?_
  refine sf_ldc2 (v := 60) (pc := 3) C dX10_daysRefused_3 tm_1098 ?_
  refine sf_callSi (pc := 6) C (As := [.long x1.toInt64, .long (1 : Int64), .long (60 : Int64)]) yk_X10_in cl_10_91 (k10_in rfl) (by decide) rfl (Nat.le_of_ble_eq_true rfl) rfl dX10_daysRefused_6 ?_
  refine sf_if_ne (tgt := 15) (pc := 9) C dX10_daysRefused_9 rfl (fun c9 => ?_) (fun c9 => ?_)
  · replace h := (if_neg c9).symm.trans h
    refine sf_aload_n (pc := 15) C 0 dX10_daysRefused_15 rfl ?_
    refine sf_get (pc := 16) C nk_149 sh_149 rfl fl_10_84 dX10_daysRefused_16 ?_
    refine sf_if_ne (tgt := 27) (pc := 19) C dX10_daysRefused_19 rfl (fun c19 => ?_) (fun c19 => ?_)
    · replace h := (if_neg c19).symm.trans h
      refine sf_aload_n (pc := 27) C 0 dX10_daysRefused_27 rfl ?_
      refine sf_getr (pc := 28) C nk_149 sh_149 rfl fl_10_25 dX10_daysRefused_28 ?_
      refine sf_bipush (v := 30) (pc := 31) C dX10_daysRefused_31 (by decide) ?_
      obtain ⟨v33, e33, h⟩ := sf_ob h
      refine sf_iald (pc := 33) C nk_155 sh_155 e33 dX10_daysRefused_33 ?_
      refine sf_sipush (v := 9000) (pc := 34) C dX10_daysRefused_34 (by decide) ?_
      refine sf_icmp_le (tgt := 45) (pc := 37) C dX10_daysRefused_37 rfl (fun c37 => ?_) (fun c37 => ?_)
      · replace h := (if_pos c37).symm.trans h
        refine sf_iconst (v := 0) (pc := 45) C dX10_daysRefused_45 (by decide) ?_
        exact sf_iretR (pc := 46) C dX10_daysRefused_46 h
      · replace h := (if_neg c37).symm.trans h
        refine sf_ldc (v := -1000000004) (pc := 40) C dX10_daysRefused_40 tm_941 ?_
        refine sf_goto (tgt := 46) (pc := 42) C dX10_daysRefused_42 rfl ?_
        exact sf_iretR (pc := 46) C dX10_daysRefused_46 h
    · replace h := (if_pos c19).symm.trans h
      refine sf_ldc (v := -1000000003) (pc := 22) C dX10_daysRefused_22 tm_1099 ?_
      refine sf_goto (tgt := 46) (pc := 24) C dX10_daysRefused_24 rfl ?_
      exact sf_iretR (pc := 46) C dX10_daysRefused_46 h
  · replace h := (if_pos c9).symm.trans h
    refine sf_ldc (v := -1000000002) (pc := 12) C dX10_daysRefused_12 tm_940 ?_
    exact sf_iretR (pc := 14) C dX10_daysRefused_14 h
set_option maxHeartbeats 4000000 in
set_option maxRecDepth 100000 in
theorem k10_daysRefused {l : Launch} {V : sf_V} {s : sf_Sg} {x1 : Int32} {r : Int32} (h : f10_daysRefused s x1 = some r) : sf_M l V yX10_daysRefused (.code yX10_daysRefused cX10_daysRefused 2 (some .int)) 1 [.ref (V.2.1 149), .int x1] s (sf_Qi V r s) := by
  refine sf_enter (by decide) (Nat.le_of_ble_eq_true rfl) (fun X hX C => ?_)
  refine sf_sub [0, 1] rfl ?_
  exact w10_daysRefused_b0 (show sf_C X V cX10_daysRefused 2 RX10 (some .int) 1 from C)  h
set_option maxHeartbeats 4000000 in
set_option maxRecDepth 100000 in
theorem w10_day_b33 {X : sf_X} {V : sf_V} {r : Int32} {s' : sf_Sg} (C : sf_C X V cX10_day 4 RX10 (some .int) 5) {s : sf_Sg} (h : f10_day_b33 s = some (r, s')) : sf_G X V 4 (sf_Q X V (sf_Qi V r s')) s 33 [(0, .ref (V.2.1 149))] [] := by
  unfold f10_day_b33 at h
  refine sf_aload_n (pc := 33) C 0 dX10_day_33 rfl ?_
  obtain ⟨v34, e34, h⟩ := sf_ob h
  refine sf_callVi (pc := 34) C (As := []) nk_149 sh_149 rfl yk_X10_galledOnes cl_10_215 (k10_galledOnes e34) (by decide) rfl (Nat.le_of_ble_eq_true rfl) rfl dX10_day_34 ?_
  exact sf_iretW (pc := 37) C dX10_day_37 h
set_option maxHeartbeats 4000000 in
set_option maxRecDepth 100000 in
theorem w10_day_b18 {X : sf_X} {V : sf_V} {r : Int32} {s' : sf_Sg} {k18 : sf_Sg → Int32 → Int32 → Option (Int32 × sf_Sg)} (C : sf_C X V cX10_day 4 RX10 (some .int) 5) (hk18 : ∀  (s : sf_Sg) (x1 : Int32) (x3 : Int32), k18 s x1 x3 = some (r, s') → sf_G X V 4 (sf_Q X V (sf_Qi V r s')) s 18 [(0, .ref (V.2.1 149)), (1, .int x1), (3, .int x3)] []) {s : sf_Sg} {x1 : Int32} {x3 : Int32} (h : f10_day_b18 k18 s x1 x3 = some (r, s')) : sf_G X V 4 (sf_Q X V (sf_Qi V r s')) s 18 [(0, .ref (V.2.1 149)), (1, .int x1), (3, .int x3)] [] := by
  unfold f10_day_b18 at h
  refine sf_iload_n (pc := 18) C 2 dX10_day_18 rfl ?_
  refine sf_iload_n (pc := 19) C 1 dX10_day_19 rfl ?_
  refine sf_icmp_ge (tgt := 33) (pc := 20) C dX10_day_20 rfl (fun c20 => ?_) (fun c20 => ?_)
  · replace h := (if_pos c20).symm.trans h
    refine sf_sub [0] rfl ?_
    exact w10_day_b33 C h
  · replace h := (if_neg c20).symm.trans h
    refine sf_aload_n (pc := 23) C 0 dX10_day_23 rfl ?_
    obtain ⟨s24, e24, h⟩ := sf_ob h
    refine sf_callVv (pc := 24) C (As := []) nk_149 sh_149 rfl yk_X10_pass cl_10_258 (k10_pass e24) (by decide) rfl (Nat.le_of_ble_eq_true rfl) rfl dX10_day_24 ?_
    refine sf_iinc (v := (x3 + 1)) (lv' := [(3, .int (x3 + 1)), (0, .ref (V.2.1 149)), (1, .int x1)]) (pc := 27) C 2 dX10_day_27 rfl rfl (by decide) rfl ?_
    refine sf_goto (tgt := 18) (pc := 30) C dX10_day_30 rfl ?_
    refine sf_sub [1, 2, 0] rfl ?_
    exact hk18 _ _ _ h
set_option maxHeartbeats 4000000 in
set_option maxRecDepth 100000 in
theorem w10_day_L18 {X : sf_X} {V : sf_V} {r : Int32} {s' : sf_Sg} (C : sf_C X V cX10_day 4 RX10 (some .int) 5) : ∀  (s : sf_Sg) (x1 : Int32) (x3 : Int32), f10_day_L18 s x1 x3 = some (r, s') → sf_G X V 4 (sf_Q X V (sf_Qi V r s')) s 18 [(0, .ref (V.2.1 149)), (1, .int x1), (3, .int x3)] [] :=
  sf_it_ind (fun (k : sf_Sg → Int32 → Int32 → Option (Int32 × sf_Sg)) => ∀  (s : sf_Sg) (x1 : Int32) (x3 : Int32), k s x1 x3 = some (r, s') → sf_G X V 4 (sf_Q X V (sf_Qi V r s')) s 18 [(0, .ref (V.2.1 149)), (1, .int x1), (3, .int x3)] []) _ _ (fun s x1 x3 h => by cases h) (fun k hk s x1 x3 h => w10_day_b18 C hk h) _
set_option maxHeartbeats 4000000 in
set_option maxRecDepth 100000 in
theorem w10_day_b0 {X : sf_X} {V : sf_V} {r : Int32} {s' : sf_Sg} (C : sf_C X V cX10_day 4 RX10 (some .int) 5) {s : sf_Sg} {x1 : Int32} (h : f10_day_b0 s x1 = some (r, s')) : sf_G X V 4 (sf_Q X V (sf_Qi V r s')) s 0 [(0, .ref (V.2.1 149)), (1, .int x1)] [] := by
  unfold f10_day_b0 at h
  refine sf_aload_n (pc := 0) C 0 dX10_day_0 rfl ?_
  refine sf_iload_n (pc := 1) C 1 dX10_day_1 rfl ?_
  obtain ⟨v2, e2, h⟩ := sf_ob h
  refine sf_callVi (pc := 2) C (As := [.int x1]) nk_149 sh_149 rfl yk_X10_daysRefused cl_10_252 (k10_daysRefused e2) (by decide) rfl (Nat.le_of_ble_eq_true rfl) rfl dX10_day_2 ?_
  refine sf_istore_n (lv' := [(2, .int v2), (0, .ref (V.2.1 149)), (1, .int x1)]) (pc := 5) C dX10_day_5 (by decide) rfl ?_
  refine sf_iload_n (pc := 6) C 0 dX10_day_6 rfl ?_
  refine sf_if_eq (tgt := 12) (pc := 7) C dX10_day_7 rfl (fun c7 => ?_) (fun c7 => ?_)
  · replace h := (if_pos c7).symm.trans h
    refine sf_aload_n (pc := 12) C 1 dX10_day_12 rfl ?_
    obtain ⟨s13, e13, h⟩ := sf_ob h
    refine sf_callVv (pc := 13) C (As := []) nk_149 sh_149 rfl yk_X10_remember cl_10_255 (k10_remember e13) (by decide) rfl (Nat.le_of_ble_eq_true rfl) rfl dX10_day_13 ?_
    refine sf_iconst (v := 0) (pc := 16) C dX10_day_16 (by decide) ?_
    refine sf_istore_n (lv' := [(3, .int (0 : Int32)), (2, .int v2), (0, .ref (V.2.1 149)), (1, .int x1)]) (pc := 17) C dX10_day_17 (by decide) rfl ?_
    refine sf_sub [2, 3, 0] rfl ?_
    exact w10_day_L18 C _ _ _ h
  · replace h := (if_neg c7).symm.trans h
    refine sf_iload_n (pc := 10) C 0 dX10_day_10 rfl ?_
    exact sf_iretW (pc := 11) C dX10_day_11 h
set_option maxHeartbeats 4000000 in
set_option maxRecDepth 100000 in
theorem k10_day {l : Launch} {V : sf_V} {s : sf_Sg} {x1 : Int32} {r : Int32} {s' : sf_Sg} (h : f10_day s x1 = some (r, s')) : sf_M l V yX10_day (.code yX10_day cX10_day 4 (some .int)) 5 [.ref (V.2.1 149), .int x1] s (sf_Qi V r s') := by
  refine sf_enter (by decide) (Nat.le_of_ble_eq_true rfl) (fun X hX C => ?_)
  refine sf_sub [0, 1] rfl ?_
  exact w10_day_b0 (show sf_C X V cX10_day 4 RX10 (some .int) 5 from C)  h
set_option maxHeartbeats 4000000 in
set_option maxRecDepth 100000 in
theorem w10_take_b0 {X : sf_X} {V : sf_V} {r : Int32} {s' : sf_Sg} (C : sf_C X V cX10_take 3 RX10 (some .int) 4) {s : sf_Sg} {x1 : Int32} {x2 : Int32} (h : f10_take_b0 s x1 x2 = some (r, s')) : sf_G X V 3 (sf_Q X V (sf_Qi V r s')) s 0 [(0, .ref (V.2.1 149)), (1, .int x1), (2, .int x2)] [] := by
  unfold f10_take_b0 at h
  refine sf_aload_n (pc := 0) C 0 dX10_take_0 rfl ?_
  refine sf_iload_n (pc := 1) C 1 dX10_take_1 rfl ?_
  refine sf_callVi (pc := 2) C (As := [.int x1]) nk_149 sh_149 rfl yk_X10_isBurden cl_10_233 (k10_isBurden rfl) (by decide) rfl (Nat.le_of_ble_eq_true rfl) rfl dX10_take_2 ?_
  refine sf_if_eq (tgt := 16) (pc := 5) C dX10_take_5 rfl (fun c5 => ?_) (fun c5 => ?_)
  · replace h := (if_pos c5).symm.trans h
    refine sf_ldc (v := -1000000001) (pc := 16) C dX10_take_16 tm_1069 ?_
    exact sf_iretW (pc := 18) C dX10_take_18 h
  · replace h := (if_neg c5).symm.trans h
    refine sf_aload_n (pc := 8) C 0 dX10_take_8 rfl ?_
    refine sf_iload_n (pc := 9) C 2 dX10_take_9 rfl ?_
    refine sf_callVi (pc := 10) C (As := [.int x2]) nk_149 sh_149 rfl yk_X10_isBack cl_10_237 (k10_isBack rfl) (by decide) rfl (Nat.le_of_ble_eq_true rfl) rfl dX10_take_10 ?_
    refine sf_if_ne (tgt := 19) (pc := 13) C dX10_take_13 rfl (fun c13 => ?_) (fun c13 => ?_)
    · replace h := (if_neg c13).symm.trans h
      refine sf_aload_n (pc := 19) C 0 dX10_take_19 rfl ?_
      refine sf_getr (pc := 20) C nk_149 sh_149 rfl fl_10_25 dX10_take_20 ?_
      refine sf_bipush (v := 12) (pc := 23) C dX10_take_23 (by decide) ?_
      refine sf_iload_n (pc := 25) C 1 dX10_take_25 rfl ?_
      refine sf_iadd (pc := 26) C dX10_take_26 ?_
      obtain ⟨v27, e27, h⟩ := sf_ob h
      refine sf_iald (pc := 27) C nk_155 sh_155 e27 dX10_take_27 ?_
      refine sf_iconst (v := -1) (pc := 28) C dX10_take_28 (by decide) ?_
      refine sf_icmp_eq (tgt := 35) (pc := 29) C dX10_take_29 rfl (fun c29 => ?_) (fun c29 => ?_)
      · replace h := (if_pos c29).symm.trans h
        refine sf_aload_n (pc := 35) C 0 dX10_take_35 rfl ?_
        obtain ⟨s36, e36, h⟩ := sf_ob h
        refine sf_callVv (pc := 36) C (As := []) nk_149 sh_149 rfl yk_X10_remember cl_10_255 (k10_remember e36) (by decide) rfl (Nat.le_of_ble_eq_true rfl) rfl dX10_take_36 ?_
        refine sf_aload_n (pc := 39) C 0 dX10_take_39 rfl ?_
        refine sf_getr (pc := 40) C nk_149 sh_149 rfl fl_10_25 dX10_take_40 ?_
        refine sf_bipush (v := 12) (pc := 43) C dX10_take_43 (by decide) ?_
        refine sf_iload_n (pc := 45) C 1 dX10_take_45 rfl ?_
        refine sf_iadd (pc := 46) C dX10_take_46 ?_
        refine sf_iload_n (pc := 47) C 2 dX10_take_47 rfl ?_
        obtain ⟨s48, e48, h⟩ := sf_ob h
        refine sf_iast (pc := 48) C nk_155 sh_155 e48 dX10_take_48 ?_
        refine sf_aload_n (pc := 49) C 0 dX10_take_49 rfl ?_
        refine sf_iload_n (pc := 50) C 2 dX10_take_50 rfl ?_
        obtain ⟨v51, e51, h⟩ := sf_ob h
        refine sf_callVi (pc := 51) C (As := [.int x2]) nk_149 sh_149 rfl yk_X10_gallingOf cl_10_208 (k10_gallingOf e51) (by decide) rfl (Nat.le_of_ble_eq_true rfl) rfl dX10_take_51 ?_
        exact sf_iretW (pc := 54) C dX10_take_54 h
      · replace h := (if_neg c29).symm.trans h
        refine sf_ldc (v := -1000000003) (pc := 32) C dX10_take_32 tm_1099 ?_
        exact sf_iretW (pc := 34) C dX10_take_34 h
    · replace h := (if_pos c13).symm.trans h
      refine sf_ldc (v := -1000000001) (pc := 16) C dX10_take_16 tm_1069 ?_
      exact sf_iretW (pc := 18) C dX10_take_18 h
set_option maxHeartbeats 4000000 in
set_option maxRecDepth 100000 in
theorem k10_take {l : Launch} {V : sf_V} {s : sf_Sg} {x1 : Int32} {x2 : Int32} {r : Int32} {s' : sf_Sg} (h : f10_take s x1 x2 = some (r, s')) : sf_M l V yX10_take (.code yX10_take cX10_take 3 (some .int)) 4 [.ref (V.2.1 149), .int x1, .int x2] s (sf_Qi V r s') := by
  refine sf_enter (by decide) (Nat.le_of_ble_eq_true rfl) (fun X hX C => ?_)
  refine sf_sub [0, 1, 2] rfl ?_
  exact w10_take_b0 (show sf_C X V cX10_take 3 RX10 (some .int) 4 from C)  h
set_option maxHeartbeats 4000000 in
set_option maxRecDepth 100000 in
theorem w10_canShare_b38 {X : sf_X} {V : sf_V} {s : sf_Sg} {r : Int32} (C : sf_C X V cX10_canShare 3 RX10 (some .boolean) 1) (h : f10_canShare_b38 s = some r) : sf_G X V 3 (sf_Q X V (sf_Qi V r s)) s 38 [] [] := by
  unfold f10_canShare_b38 at h
  refine sf_iconst (v := 0) (pc := 38) C dX10_canShare_38 (by decide) ?_
  exact sf_zretR (pc := 39) C (by first | rfl | exact sf_nb_in _ _ _) dX10_canShare_39 h
set_option maxHeartbeats 4000000 in
set_option maxRecDepth 100000 in
theorem w10_canShare_b0 {X : sf_X} {V : sf_V} {s : sf_Sg} {r : Int32} (C : sf_C X V cX10_canShare 3 RX10 (some .boolean) 1) {x1 : Int32} {x2 : Int32} (h : f10_canShare_b0 s x1 x2 = some r) : sf_G X V 3 (sf_Q X V (sf_Qi V r s)) s 0 [(0, .ref (V.2.1 149)), (1, .int x1), (2, .int x2)] [] := by
  unfold f10_canShare_b0 at h
  refine sf_aload_n (pc := 0) C 0 dX10_canShare_0 rfl ?_
  refine sf_getr (pc := 1) C nk_149 sh_149 rfl fl_10_25 dX10_canShare_1 ?_
  refine sf_bipush (v := 12) (pc := 4) C dX10_canShare_4 (by decide) ?_
  refine sf_iload_n (pc := 6) C 1 dX10_canShare_6 rfl ?_
  refine sf_iadd (pc := 7) C dX10_canShare_7 ?_
  obtain ⟨v8, e8, h⟩ := sf_ob h
  refine sf_iald (pc := 8) C nk_155 sh_155 e8 dX10_canShare_8 ?_
  refine sf_iconst (v := -1) (pc := 9) C dX10_canShare_9 (by decide) ?_
  refine sf_icmp_eq (tgt := 38) (pc := 10) C dX10_canShare_10 rfl (fun c10 => ?_) (fun c10 => ?_)
  · replace h := (if_pos c10).symm.trans h
    refine sf_sub [] rfl ?_
    exact w10_canShare_b38 C h
  · replace h := (if_neg c10).symm.trans h
    refine sf_aload_n (pc := 13) C 0 dX10_canShare_13 rfl ?_
    refine sf_iload_n (pc := 14) C 1 dX10_canShare_14 rfl ?_
    obtain ⟨v15, e15, h⟩ := sf_ob h
    refine sf_callVi (pc := 15) C (As := [.int x1]) nk_149 sh_149 rfl yk_X10_isShared cl_10_184 (k10_isShared e15) (by decide) rfl (Nat.le_of_ble_eq_true rfl) rfl dX10_canShare_15 ?_
    refine sf_if_ne (tgt := 38) (pc := 18) C dX10_canShare_18 rfl (fun c18 => ?_) (fun c18 => ?_)
    · replace h := (if_neg c18).symm.trans h
      refine sf_sub [] rfl ?_
      exact w10_canShare_b38 C h
    · replace h := (if_pos c18).symm.trans h
      refine sf_aload_n (pc := 21) C 0 dX10_canShare_21 rfl ?_
      refine sf_getr (pc := 22) C nk_149 sh_149 rfl fl_10_25 dX10_canShare_22 ?_
      refine sf_bipush (v := 12) (pc := 25) C dX10_canShare_25 (by decide) ?_
      refine sf_iload_n (pc := 27) C 1 dX10_canShare_27 rfl ?_
      refine sf_iadd (pc := 28) C dX10_canShare_28 ?_
      obtain ⟨v29, e29, h⟩ := sf_ob h
      refine sf_iald (pc := 29) C nk_155 sh_155 e29 dX10_canShare_29 ?_
      refine sf_iload_n (pc := 30) C 2 dX10_canShare_30 rfl ?_
      refine sf_icmp_eq (tgt := 38) (pc := 31) C dX10_canShare_31 rfl (fun c31 => ?_) (fun c31 => ?_)
      · replace h := (if_pos c31).symm.trans h
        refine sf_sub [] rfl ?_
        exact w10_canShare_b38 C h
      · replace h := (if_neg c31).symm.trans h
        refine sf_iconst (v := 1) (pc := 34) C dX10_canShare_34 (by decide) ?_
        refine sf_goto (tgt := 39) (pc := 35) C dX10_canShare_35 rfl ?_
        exact sf_zretR (pc := 39) C (by first | rfl | exact sf_nb_in _ _ _) dX10_canShare_39 h
set_option maxHeartbeats 4000000 in
set_option maxRecDepth 100000 in
theorem k10_canShare {l : Launch} {V : sf_V} {s : sf_Sg} {x1 : Int32} {x2 : Int32} {r : Int32} (h : f10_canShare s x1 x2 = some r) : sf_M l V yX10_canShare (.code yX10_canShare cX10_canShare 3 (some .boolean)) 1 [.ref (V.2.1 149), .int x1, .int x2] s (sf_Qi V r s) := by
  refine sf_enter (by decide) (Nat.le_of_ble_eq_true rfl) (fun X hX C => ?_)
  refine sf_sub [0, 1, 2] rfl ?_
  exact w10_canShare_b0 (show sf_C X V cX10_canShare 3 RX10 (some .boolean) 1 from C)  h
set_option maxHeartbeats 4000000 in
set_option maxRecDepth 100000 in
theorem w10_share_b0 {X : sf_X} {V : sf_V} {r : Int32} {s' : sf_Sg} (C : sf_C X V cX10_share 3 RX10 (some .int) 4) {s : sf_Sg} {x1 : Int32} {x2 : Int32} (h : f10_share_b0 s x1 x2 = some (r, s')) : sf_G X V 3 (sf_Q X V (sf_Qi V r s')) s 0 [(0, .ref (V.2.1 149)), (1, .int x1), (2, .int x2)] [] := by
  unfold f10_share_b0 at h
  refine sf_aload_n (pc := 0) C 0 dX10_share_0 rfl ?_
  refine sf_iload_n (pc := 1) C 1 dX10_share_1 rfl ?_
  refine sf_callVi (pc := 2) C (As := [.int x1]) nk_149 sh_149 rfl yk_X10_isBurden cl_10_233 (k10_isBurden rfl) (by decide) rfl (Nat.le_of_ble_eq_true rfl) rfl dX10_share_2 ?_
  refine sf_if_eq (tgt := 16) (pc := 5) C dX10_share_5 rfl (fun c5 => ?_) (fun c5 => ?_)
  · replace h := (if_pos c5).symm.trans h
    refine sf_ldc (v := -1000000001) (pc := 16) C dX10_share_16 tm_1069 ?_
    exact sf_iretW (pc := 18) C dX10_share_18 h
  · replace h := (if_neg c5).symm.trans h
    refine sf_aload_n (pc := 8) C 0 dX10_share_8 rfl ?_
    refine sf_iload_n (pc := 9) C 2 dX10_share_9 rfl ?_
    refine sf_callVi (pc := 10) C (As := [.int x2]) nk_149 sh_149 rfl yk_X10_isBack cl_10_237 (k10_isBack rfl) (by decide) rfl (Nat.le_of_ble_eq_true rfl) rfl dX10_share_10 ?_
    refine sf_if_ne (tgt := 19) (pc := 13) C dX10_share_13 rfl (fun c13 => ?_) (fun c13 => ?_)
    · replace h := (if_neg c13).symm.trans h
      refine sf_aload_n (pc := 19) C 0 dX10_share_19 rfl ?_
      refine sf_iload_n (pc := 20) C 1 dX10_share_20 rfl ?_
      refine sf_iload_n (pc := 21) C 2 dX10_share_21 rfl ?_
      obtain ⟨v22, e22, h⟩ := sf_ob h
      refine sf_callVi (pc := 22) C (As := [.int x1, .int x2]) nk_149 sh_149 rfl yk_X10_canShare cl_10_261 (k10_canShare e22) (by decide) rfl (Nat.le_of_ble_eq_true rfl) rfl dX10_share_22 ?_
      refine sf_if_ne (tgt := 31) (pc := 25) C dX10_share_25 rfl (fun c25 => ?_) (fun c25 => ?_)
      · replace h := (if_neg c25).symm.trans h
        refine sf_aload_n (pc := 31) C 0 dX10_share_31 rfl ?_
        obtain ⟨s32, e32, h⟩ := sf_ob h
        refine sf_callVv (pc := 32) C (As := []) nk_149 sh_149 rfl yk_X10_remember cl_10_255 (k10_remember e32) (by decide) rfl (Nat.le_of_ble_eq_true rfl) rfl dX10_share_32 ?_
        refine sf_aload_n (pc := 35) C 0 dX10_share_35 rfl ?_
        refine sf_getr (pc := 36) C nk_149 sh_149 rfl fl_10_25 dX10_share_36 ?_
        refine sf_bipush (v := 18) (pc := 39) C dX10_share_39 (by decide) ?_
        refine sf_iload_n (pc := 41) C 1 dX10_share_41 rfl ?_
        refine sf_iadd (pc := 42) C dX10_share_42 ?_
        refine sf_iload_n (pc := 43) C 2 dX10_share_43 rfl ?_
        obtain ⟨s44, e44, h⟩ := sf_ob h
        refine sf_iast (pc := 44) C nk_155 sh_155 e44 dX10_share_44 ?_
        refine sf_aload_n (pc := 45) C 0 dX10_share_45 rfl ?_
        refine sf_iload_n (pc := 46) C 2 dX10_share_46 rfl ?_
        obtain ⟨v47, e47, h⟩ := sf_ob h
        refine sf_callVi (pc := 47) C (As := [.int x2]) nk_149 sh_149 rfl yk_X10_gallingOf cl_10_208 (k10_gallingOf e47) (by decide) rfl (Nat.le_of_ble_eq_true rfl) rfl dX10_share_47 ?_
        exact sf_iretW (pc := 50) C dX10_share_50 h
      · replace h := (if_pos c25).symm.trans h
        refine sf_ldc (v := -1000000003) (pc := 28) C dX10_share_28 tm_1099 ?_
        exact sf_iretW (pc := 30) C dX10_share_30 h
    · replace h := (if_pos c13).symm.trans h
      refine sf_ldc (v := -1000000001) (pc := 16) C dX10_share_16 tm_1069 ?_
      exact sf_iretW (pc := 18) C dX10_share_18 h
set_option maxHeartbeats 4000000 in
set_option maxRecDepth 100000 in
theorem k10_share {l : Launch} {V : sf_V} {s : sf_Sg} {x1 : Int32} {x2 : Int32} {r : Int32} {s' : sf_Sg} (h : f10_share s x1 x2 = some (r, s')) : sf_M l V yX10_share (.code yX10_share cX10_share 3 (some .int)) 4 [.ref (V.2.1 149), .int x1, .int x2] s (sf_Qi V r s') := by
  refine sf_enter (by decide) (Nat.le_of_ble_eq_true rfl) (fun X hX C => ?_)
  refine sf_sub [0, 1, 2] rfl ?_
  exact w10_share_b0 (show sf_C X V cX10_share 3 RX10 (some .int) 4 from C)  h
set_option maxHeartbeats 4000000 in
set_option maxRecDepth 100000 in
theorem w10_downNow_b42 {X : sf_X} {V : sf_V} {s' : sf_Sg} (C : sf_C X V cX10_downNow 3 RX10 none 0) {s : sf_Sg} {x1 : Int32} {t2 : Int32} {t1 : Int32} (h : f10_downNow_b42 s x1 t2 t1 = some s') : sf_G X V 3 (sf_Q X V (sf_Qv V s')) s 42 [(0, .ref (V.2.1 149)), (1, .int x1)] [.int t2, .int t1, .ref (V.2.1 155)] := by
  unfold f10_downNow_b42 at h
  obtain ⟨s42, e42, h⟩ := sf_ob h
  refine sf_iast (pc := 42) C nk_155 sh_155 e42 dX10_downNow_42 ?_
  refine sf_aload_n (pc := 43) C 0 dX10_downNow_43 rfl ?_
  refine sf_getr (pc := 44) C nk_149 sh_149 rfl fl_10_25 dX10_downNow_44 ?_
  refine sf_bipush (v := 18) (pc := 47) C dX10_downNow_47 (by decide) ?_
  refine sf_iload_n (pc := 49) C 1 dX10_downNow_49 rfl ?_
  refine sf_iadd (pc := 50) C dX10_downNow_50 ?_
  refine sf_iconst (v := -1) (pc := 51) C dX10_downNow_51 (by decide) ?_
  obtain ⟨s52, e52, h⟩ := sf_ob h
  refine sf_iast (pc := 52) C nk_155 sh_155 e52 dX10_downNow_52 ?_
  exact sf_vretW (pc := 53) C dX10_downNow_53 h
set_option maxHeartbeats 4000000 in
set_option maxRecDepth 100000 in
theorem w10_downNow_b0 {X : sf_X} {V : sf_V} {s' : sf_Sg} (C : sf_C X V cX10_downNow 3 RX10 none 0) {s : sf_Sg} {x1 : Int32} {x2 : Int32} (h : f10_downNow_b0 s x1 x2 = some s') : sf_G X V 3 (sf_Q X V (sf_Qv V s')) s 0 [(0, .ref (V.2.1 149)), (1, .int x1), (2, .int x2)] [] := by
  unfold f10_downNow_b0 at h
  refine sf_aload_n (pc := 0) C 0 dX10_downNow_0 rfl ?_
  refine sf_getr (pc := 1) C nk_149 sh_149 rfl fl_10_25 dX10_downNow_1 ?_
  refine sf_bipush (v := 12) (pc := 4) C dX10_downNow_4 (by decide) ?_
  refine sf_iload_n (pc := 6) C 1 dX10_downNow_6 rfl ?_
  refine sf_iadd (pc := 7) C dX10_downNow_7 ?_
  refine sf_aload_n (pc := 8) C 0 dX10_downNow_8 rfl ?_
  refine sf_getr (pc := 9) C nk_149 sh_149 rfl fl_10_25 dX10_downNow_9 ?_
  refine sf_bipush (v := 12) (pc := 12) C dX10_downNow_12 (by decide) ?_
  refine sf_iload_n (pc := 14) C 1 dX10_downNow_14 rfl ?_
  refine sf_iadd (pc := 15) C dX10_downNow_15 ?_
  obtain ⟨v16, e16, h⟩ := sf_ob h
  refine sf_iald (pc := 16) C nk_155 sh_155 e16 dX10_downNow_16 ?_
  refine sf_iload_n (pc := 17) C 2 dX10_downNow_17 rfl ?_
  refine sf_icmp_ne (tgt := 33) (pc := 18) C dX10_downNow_18 rfl (fun c18 => ?_) (fun c18 => ?_)
  · replace h := (if_neg c18).symm.trans h
    refine sf_aload_n (pc := 33) C 0 dX10_downNow_33 rfl ?_
    refine sf_getr (pc := 34) C nk_149 sh_149 rfl fl_10_25 dX10_downNow_34 ?_
    refine sf_bipush (v := 12) (pc := 37) C dX10_downNow_37 (by decide) ?_
    refine sf_iload_n (pc := 39) C 1 dX10_downNow_39 rfl ?_
    refine sf_iadd (pc := 40) C dX10_downNow_40 ?_
    obtain ⟨v41, e41, h⟩ := sf_ob h
    refine sf_iald (pc := 41) C nk_155 sh_155 e41 dX10_downNow_41 ?_
    refine sf_sub [0, 1] rfl ?_
    exact w10_downNow_b42 C h
  · replace h := (if_pos c18).symm.trans h
    refine sf_aload_n (pc := 21) C 0 dX10_downNow_21 rfl ?_
    refine sf_getr (pc := 22) C nk_149 sh_149 rfl fl_10_25 dX10_downNow_22 ?_
    refine sf_bipush (v := 18) (pc := 25) C dX10_downNow_25 (by decide) ?_
    refine sf_iload_n (pc := 27) C 1 dX10_downNow_27 rfl ?_
    refine sf_iadd (pc := 28) C dX10_downNow_28 ?_
    obtain ⟨v29, e29, h⟩ := sf_ob h
    refine sf_iald (pc := 29) C nk_155 sh_155 e29 dX10_downNow_29 ?_
    refine sf_goto (tgt := 42) (pc := 30) C dX10_downNow_30 rfl ?_
    refine sf_sub [0, 1] rfl ?_
    exact w10_downNow_b42 C h
set_option maxHeartbeats 4000000 in
set_option maxRecDepth 100000 in
theorem k10_downNow {l : Launch} {V : sf_V} {s : sf_Sg} {x1 : Int32} {x2 : Int32} {s' : sf_Sg} (h : f10_downNow s x1 x2 = some s') : sf_M l V yX10_downNow (.code yX10_downNow cX10_downNow 3 none) 0 [.ref (V.2.1 149), .int x1, .int x2] s (sf_Qv V s') := by
  refine sf_enter (by decide) (Nat.le_of_ble_eq_true rfl) (fun X hX C => ?_)
  refine sf_sub [0, 1, 2] rfl ?_
  exact w10_downNow_b0 (show sf_C X V cX10_downNow 3 RX10 none 0 from C)  h
set_option maxHeartbeats 4000000 in
set_option maxRecDepth 100000 in
theorem w10_down_b0 {X : sf_X} {V : sf_V} {r : Int32} {s' : sf_Sg} (C : sf_C X V cX10_down 3 RX10 (some .int) 4) {s : sf_Sg} {x1 : Int32} {x2 : Int32} (h : f10_down_b0 s x1 x2 = some (r, s')) : sf_G X V 3 (sf_Q X V (sf_Qi V r s')) s 0 [(0, .ref (V.2.1 149)), (1, .int x1), (2, .int x2)] [] := by
  unfold f10_down_b0 at h
  refine sf_aload_n (pc := 0) C 0 dX10_down_0 rfl ?_
  refine sf_iload_n (pc := 1) C 1 dX10_down_1 rfl ?_
  refine sf_callVi (pc := 2) C (As := [.int x1]) nk_149 sh_149 rfl yk_X10_isBurden cl_10_233 (k10_isBurden rfl) (by decide) rfl (Nat.le_of_ble_eq_true rfl) rfl dX10_down_2 ?_
  refine sf_if_eq (tgt := 16) (pc := 5) C dX10_down_5 rfl (fun c5 => ?_) (fun c5 => ?_)
  · replace h := (if_pos c5).symm.trans h
    refine sf_ldc (v := -1000000001) (pc := 16) C dX10_down_16 tm_1069 ?_
    exact sf_iretW (pc := 18) C dX10_down_18 h
  · replace h := (if_neg c5).symm.trans h
    refine sf_aload_n (pc := 8) C 0 dX10_down_8 rfl ?_
    refine sf_iload_n (pc := 9) C 2 dX10_down_9 rfl ?_
    refine sf_callVi (pc := 10) C (As := [.int x2]) nk_149 sh_149 rfl yk_X10_isBack cl_10_237 (k10_isBack rfl) (by decide) rfl (Nat.le_of_ble_eq_true rfl) rfl dX10_down_10 ?_
    refine sf_if_ne (tgt := 19) (pc := 13) C dX10_down_13 rfl (fun c13 => ?_) (fun c13 => ?_)
    · replace h := (if_neg c13).symm.trans h
      refine sf_aload_n (pc := 19) C 0 dX10_down_19 rfl ?_
      refine sf_iload_n (pc := 20) C 1 dX10_down_20 rfl ?_
      refine sf_iload_n (pc := 21) C 2 dX10_down_21 rfl ?_
      obtain ⟨v22, e22, h⟩ := sf_ob h
      refine sf_callVi (pc := 22) C (As := [.int x1, .int x2]) nk_149 sh_149 rfl yk_X10_bears cl_10_180 (k10_bears e22) (by decide) rfl (Nat.le_of_ble_eq_true rfl) rfl dX10_down_22 ?_
      refine sf_if_ne (tgt := 31) (pc := 25) C dX10_down_25 rfl (fun c25 => ?_) (fun c25 => ?_)
      · replace h := (if_neg c25).symm.trans h
        refine sf_aload_n (pc := 31) C 0 dX10_down_31 rfl ?_
        obtain ⟨s32, e32, h⟩ := sf_ob h
        refine sf_callVv (pc := 32) C (As := []) nk_149 sh_149 rfl yk_X10_remember cl_10_255 (k10_remember e32) (by decide) rfl (Nat.le_of_ble_eq_true rfl) rfl dX10_down_32 ?_
        refine sf_aload_n (pc := 35) C 0 dX10_down_35 rfl ?_
        refine sf_iload_n (pc := 36) C 1 dX10_down_36 rfl ?_
        refine sf_iload_n (pc := 37) C 2 dX10_down_37 rfl ?_
        obtain ⟨s38, e38, h⟩ := sf_ob h
        refine sf_callVv (pc := 38) C (As := [.int x1, .int x2]) nk_149 sh_149 rfl yk_X10_downNow cl_10_264 (k10_downNow e38) (by decide) rfl (Nat.le_of_ble_eq_true rfl) rfl dX10_down_38 ?_
        refine sf_aload_n (pc := 41) C 0 dX10_down_41 rfl ?_
        refine sf_iload_n (pc := 42) C 2 dX10_down_42 rfl ?_
        obtain ⟨v43, e43, h⟩ := sf_ob h
        refine sf_callVi (pc := 43) C (As := [.int x2]) nk_149 sh_149 rfl yk_X10_gallingOf cl_10_208 (k10_gallingOf e43) (by decide) rfl (Nat.le_of_ble_eq_true rfl) rfl dX10_down_43 ?_
        exact sf_iretW (pc := 46) C dX10_down_46 h
      · replace h := (if_pos c25).symm.trans h
        refine sf_ldc (v := -1000000003) (pc := 28) C dX10_down_28 tm_1099 ?_
        exact sf_iretW (pc := 30) C dX10_down_30 h
    · replace h := (if_pos c13).symm.trans h
      refine sf_ldc (v := -1000000001) (pc := 16) C dX10_down_16 tm_1069 ?_
      exact sf_iretW (pc := 18) C dX10_down_18 h
set_option maxHeartbeats 4000000 in
set_option maxRecDepth 100000 in
theorem k10_down {l : Launch} {V : sf_V} {s : sf_Sg} {x1 : Int32} {x2 : Int32} {r : Int32} {s' : sf_Sg} (h : f10_down s x1 x2 = some (r, s')) : sf_M l V yX10_down (.code yX10_down cX10_down 3 (some .int)) 4 [.ref (V.2.1 149), .int x1, .int x2] s (sf_Qi V r s') := by
  refine sf_enter (by decide) (Nat.le_of_ble_eq_true rfl) (fun X hX C => ?_)
  refine sf_sub [0, 1, 2] rfl ?_
  exact w10_down_b0 (show sf_C X V cX10_down 3 RX10 (some .int) 4 from C)  h
set_option maxHeartbeats 4000000 in
set_option maxRecDepth 100000 in
theorem w10_hand_b85 {X : sf_X} {V : sf_V} {r : Int32} {s' : sf_Sg} (C : sf_C X V cX10_hand 4 RX10 (some .int) 4) {s : sf_Sg} {x3 : Int32} {t1 : Int32} (h : f10_hand_b85 s x3 t1 = some (r, s')) : sf_G X V 4 (sf_Q X V (sf_Qi V r s')) s 85 [(0, .ref (V.2.1 149)), (3, .int x3)] [.int t1, .ref (V.2.1 155)] := by
  unfold f10_hand_b85 at h
  refine sf_iload_n (pc := 85) C 1 dX10_hand_85 rfl ?_
  obtain ⟨s86, e86, h⟩ := sf_ob h
  refine sf_iast (pc := 86) C nk_155 sh_155 e86 dX10_hand_86 ?_
  refine sf_aload_n (pc := 87) C 0 dX10_hand_87 rfl ?_
  refine sf_iload_n (pc := 88) C 1 dX10_hand_88 rfl ?_
  obtain ⟨v89, e89, h⟩ := sf_ob h
  refine sf_callVi (pc := 89) C (As := [.int x3]) nk_149 sh_149 rfl yk_X10_gallingOf cl_10_208 (k10_gallingOf e89) (by decide) rfl (Nat.le_of_ble_eq_true rfl) rfl dX10_hand_89 ?_
  exact sf_iretW (pc := 92) C dX10_hand_92 h
set_option maxHeartbeats 4000000 in
set_option maxRecDepth 100000 in
theorem w10_hand_b0 {X : sf_X} {V : sf_V} {r : Int32} {s' : sf_Sg} (C : sf_C X V cX10_hand 4 RX10 (some .int) 4) {s : sf_Sg} {x1 : Int32} {x2 : Int32} {x3 : Int32} (h : f10_hand_b0 s x1 x2 x3 = some (r, s')) : sf_G X V 4 (sf_Q X V (sf_Qi V r s')) s 0 [(0, .ref (V.2.1 149)), (1, .int x1), (2, .int x2), (3, .int x3)] [] := by
  unfold f10_hand_b0 at h
  refine sf_aload_n (pc := 0) C 0 dX10_hand_0 rfl ?_
  refine sf_iload_n (pc := 1) C 1 dX10_hand_1 rfl ?_
  refine sf_callVi (pc := 2) C (As := [.int x1]) nk_149 sh_149 rfl yk_X10_isBurden cl_10_233 (k10_isBurden rfl) (by decide) rfl (Nat.le_of_ble_eq_true rfl) rfl dX10_hand_2 ?_
  refine sf_if_eq (tgt := 29) (pc := 5) C dX10_hand_5 rfl (fun c5 => ?_) (fun c5 => ?_)
  · replace h := (if_pos c5).symm.trans h
    refine sf_ldc (v := -1000000001) (pc := 29) C dX10_hand_29 tm_1069 ?_
    exact sf_iretW (pc := 31) C dX10_hand_31 h
  · replace h := (if_neg c5).symm.trans h
    refine sf_aload_n (pc := 8) C 0 dX10_hand_8 rfl ?_
    refine sf_iload_n (pc := 9) C 2 dX10_hand_9 rfl ?_
    refine sf_callVi (pc := 10) C (As := [.int x2]) nk_149 sh_149 rfl yk_X10_isBack cl_10_237 (k10_isBack rfl) (by decide) rfl (Nat.le_of_ble_eq_true rfl) rfl dX10_hand_10 ?_
    refine sf_if_eq (tgt := 29) (pc := 13) C dX10_hand_13 rfl (fun c13 => ?_) (fun c13 => ?_)
    · replace h := (if_pos c13).symm.trans h
      refine sf_ldc (v := -1000000001) (pc := 29) C dX10_hand_29 tm_1069 ?_
      exact sf_iretW (pc := 31) C dX10_hand_31 h
    · replace h := (if_neg c13).symm.trans h
      refine sf_aload_n (pc := 16) C 0 dX10_hand_16 rfl ?_
      refine sf_iload_n (pc := 17) C 3 dX10_hand_17 rfl ?_
      refine sf_callVi (pc := 18) C (As := [.int x3]) nk_149 sh_149 rfl yk_X10_isBack cl_10_237 (k10_isBack rfl) (by decide) rfl (Nat.le_of_ble_eq_true rfl) rfl dX10_hand_18 ?_
      refine sf_if_eq (tgt := 29) (pc := 21) C dX10_hand_21 rfl (fun c21 => ?_) (fun c21 => ?_)
      · replace h := (if_pos c21).symm.trans h
        refine sf_ldc (v := -1000000001) (pc := 29) C dX10_hand_29 tm_1069 ?_
        exact sf_iretW (pc := 31) C dX10_hand_31 h
      · replace h := (if_neg c21).symm.trans h
        refine sf_iload_n (pc := 24) C 2 dX10_hand_24 rfl ?_
        refine sf_iload_n (pc := 25) C 3 dX10_hand_25 rfl ?_
        refine sf_icmp_ne (tgt := 32) (pc := 26) C dX10_hand_26 rfl (fun c26 => ?_) (fun c26 => ?_)
        · replace h := (if_neg c26).symm.trans h
          refine sf_aload_n (pc := 32) C 0 dX10_hand_32 rfl ?_
          refine sf_iload_n (pc := 33) C 1 dX10_hand_33 rfl ?_
          refine sf_iload_n (pc := 34) C 2 dX10_hand_34 rfl ?_
          obtain ⟨v35, e35, h⟩ := sf_ob h
          refine sf_callVi (pc := 35) C (As := [.int x1, .int x2]) nk_149 sh_149 rfl yk_X10_bears cl_10_180 (k10_bears e35) (by decide) rfl (Nat.le_of_ble_eq_true rfl) rfl dX10_hand_35 ?_
          refine sf_if_eq (tgt := 50) (pc := 38) C dX10_hand_38 rfl (fun c38 => ?_) (fun c38 => ?_)
          · replace h := (if_pos c38).symm.trans h
            refine sf_ldc (v := -1000000003) (pc := 50) C dX10_hand_50 tm_1099 ?_
            exact sf_iretW (pc := 52) C dX10_hand_52 h
          · replace h := (if_neg c38).symm.trans h
            refine sf_aload_n (pc := 41) C 0 dX10_hand_41 rfl ?_
            refine sf_iload_n (pc := 42) C 1 dX10_hand_42 rfl ?_
            refine sf_iload_n (pc := 43) C 3 dX10_hand_43 rfl ?_
            obtain ⟨v44, e44, h⟩ := sf_ob h
            refine sf_callVi (pc := 44) C (As := [.int x1, .int x3]) nk_149 sh_149 rfl yk_X10_bears cl_10_180 (k10_bears e44) (by decide) rfl (Nat.le_of_ble_eq_true rfl) rfl dX10_hand_44 ?_
            refine sf_if_eq (tgt := 53) (pc := 47) C dX10_hand_47 rfl (fun c47 => ?_) (fun c47 => ?_)
            · replace h := (if_pos c47).symm.trans h
              refine sf_aload_n (pc := 53) C 0 dX10_hand_53 rfl ?_
              obtain ⟨s54, e54, h⟩ := sf_ob h
              refine sf_callVv (pc := 54) C (As := []) nk_149 sh_149 rfl yk_X10_remember cl_10_255 (k10_remember e54) (by decide) rfl (Nat.le_of_ble_eq_true rfl) rfl dX10_hand_54 ?_
              refine sf_aload_n (pc := 57) C 0 dX10_hand_57 rfl ?_
              refine sf_getr (pc := 58) C nk_149 sh_149 rfl fl_10_25 dX10_hand_58 ?_
              refine sf_aload_n (pc := 61) C 0 dX10_hand_61 rfl ?_
              refine sf_getr (pc := 62) C nk_149 sh_149 rfl fl_10_25 dX10_hand_62 ?_
              refine sf_bipush (v := 12) (pc := 65) C dX10_hand_65 (by decide) ?_
              refine sf_iload_n (pc := 67) C 1 dX10_hand_67 rfl ?_
              refine sf_iadd (pc := 68) C dX10_hand_68 ?_
              obtain ⟨v69, e69, h⟩ := sf_ob h
              refine sf_iald (pc := 69) C nk_155 sh_155 e69 dX10_hand_69 ?_
              refine sf_iload_n (pc := 70) C 2 dX10_hand_70 rfl ?_
              refine sf_icmp_ne (tgt := 81) (pc := 71) C dX10_hand_71 rfl (fun c71 => ?_) (fun c71 => ?_)
              · replace h := (if_neg c71).symm.trans h
                refine sf_bipush (v := 18) (pc := 81) C dX10_hand_81 (by decide) ?_
                refine sf_iload_n (pc := 83) C 1 dX10_hand_83 rfl ?_
                refine sf_iadd (pc := 84) C dX10_hand_84 ?_
                refine sf_sub [0, 3] rfl ?_
                exact w10_hand_b85 C h
              · replace h := (if_pos c71).symm.trans h
                refine sf_bipush (v := 12) (pc := 74) C dX10_hand_74 (by decide) ?_
                refine sf_iload_n (pc := 76) C 1 dX10_hand_76 rfl ?_
                refine sf_iadd (pc := 77) C dX10_hand_77 ?_
                refine sf_goto (tgt := 85) (pc := 78) C dX10_hand_78 rfl ?_
                refine sf_sub [0, 3] rfl ?_
                exact w10_hand_b85 C h
            · replace h := (if_neg c47).symm.trans h
              refine sf_ldc (v := -1000000003) (pc := 50) C dX10_hand_50 tm_1099 ?_
              exact sf_iretW (pc := 52) C dX10_hand_52 h
        · replace h := (if_pos c26).symm.trans h
          refine sf_ldc (v := -1000000001) (pc := 29) C dX10_hand_29 tm_1069 ?_
          exact sf_iretW (pc := 31) C dX10_hand_31 h
set_option maxHeartbeats 4000000 in
set_option maxRecDepth 100000 in
theorem k10_hand {l : Launch} {V : sf_V} {s : sf_Sg} {x1 : Int32} {x2 : Int32} {x3 : Int32} {r : Int32} {s' : sf_Sg} (h : f10_hand s x1 x2 x3 = some (r, s')) : sf_M l V yX10_hand (.code yX10_hand cX10_hand 4 (some .int)) 4 [.ref (V.2.1 149), .int x1, .int x2, .int x3] s (sf_Qi V r s') := by
  refine sf_enter (by decide) (Nat.le_of_ble_eq_true rfl) (fun X hX C => ?_)
  refine sf_sub [0, 1, 2, 3] rfl ?_
  exact w10_hand_b0 (show sf_C X V cX10_hand 4 RX10 (some .int) 4 from C)  h
set_option maxHeartbeats 4000000 in
set_option maxRecDepth 100000 in
theorem w10_stuff_b0 {X : sf_X} {V : sf_V} {r : Int32} {s' : sf_Sg} (C : sf_C X V cX10_stuff 3 RX10 (some .int) 2) {s : sf_Sg} {x1 : Int32} {x2 : Int32} (h : f10_stuff_b0 s x1 x2 = some (r, s')) : sf_G X V 3 (sf_Q X V (sf_Qi V r s')) s 0 [(0, .ref (V.2.1 149)), (1, .int x1), (2, .int x2)] [] := by
  unfold f10_stuff_b0 at h
  refine sf_aload_n (pc := 0) C 0 dX10_stuff_0 rfl ?_
  refine sf_iload_n (pc := 1) C 1 dX10_stuff_1 rfl ?_
  refine sf_callVi (pc := 2) C (As := [.int x1]) nk_149 sh_149 rfl yk_X10_isBurden cl_10_233 (k10_isBurden rfl) (by decide) rfl (Nat.le_of_ble_eq_true rfl) rfl dX10_stuff_2 ?_
  refine sf_if_ne (tgt := 11) (pc := 5) C dX10_stuff_5 rfl (fun c5 => ?_) (fun c5 => ?_)
  · replace h := (if_neg c5).symm.trans h
    refine sf_iload_n (pc := 11) C 2 dX10_stuff_11 rfl ?_
    refine sf_i2l (pc := 12) C dX10_stuff_12 ?_
    refine sf_ldc2 (v := -30) (pc := 13) C dX10_stuff_13 tm_1136 ?_
    refine sf_ldc2 (v := 30) (pc := 16) C dX10_stuff_16 tm_1137 ?_
    refine sf_callSi (pc := 19) C (As := [.long x2.toInt64, .long (-30 : Int64), .long (30 : Int64)]) yk_X10_in cl_10_91 (k10_in rfl) (by decide) rfl (Nat.le_of_ble_eq_true rfl) rfl dX10_stuff_19 ?_
    refine sf_if_ne (tgt := 28) (pc := 22) C dX10_stuff_22 rfl (fun c22 => ?_) (fun c22 => ?_)
    · replace h := (if_neg c22).symm.trans h
      refine sf_aload_n (pc := 28) C 0 dX10_stuff_28 rfl ?_
      refine sf_getr (pc := 29) C nk_149 sh_149 rfl fl_10_25 dX10_stuff_29 ?_
      refine sf_bipush (v := 6) (pc := 32) C dX10_stuff_32 (by decide) ?_
      refine sf_iload_n (pc := 34) C 1 dX10_stuff_34 rfl ?_
      refine sf_iadd (pc := 35) C dX10_stuff_35 ?_
      obtain ⟨v36, e36, h⟩ := sf_ob h
      refine sf_iald (pc := 36) C nk_155 sh_155 e36 dX10_stuff_36 ?_
      refine sf_iload_n (pc := 37) C 2 dX10_stuff_37 rfl ?_
      refine sf_iadd (pc := 38) C dX10_stuff_38 ?_
      refine sf_i2l (pc := 39) C dX10_stuff_39 ?_
      refine sf_lconst (v := 0) (pc := 40) C dX10_stuff_40 (by decide) ?_
      refine sf_ldc2 (v := 30) (pc := 41) C dX10_stuff_41 tm_1137 ?_
      refine sf_callSi (pc := 44) C (As := [.long (v36 + x2).toInt64, .long (0 : Int64), .long (30 : Int64)]) yk_X10_in cl_10_91 (k10_in rfl) (by decide) rfl (Nat.le_of_ble_eq_true rfl) rfl dX10_stuff_44 ?_
      refine sf_if_eq (tgt := 61) (pc := 47) C dX10_stuff_47 rfl (fun c47 => ?_) (fun c47 => ?_)
      · replace h := (if_pos c47).symm.trans h
        refine sf_ldc (v := -1000000003) (pc := 61) C dX10_stuff_61 tm_1099 ?_
        exact sf_iretW (pc := 63) C dX10_stuff_63 h
      · replace h := (if_neg c47).symm.trans h
        refine sf_aload_n (pc := 50) C 0 dX10_stuff_50 rfl ?_
        refine sf_getr (pc := 51) C nk_149 sh_149 rfl fl_10_25 dX10_stuff_51 ?_
        refine sf_bipush (v := 29) (pc := 54) C dX10_stuff_54 (by decide) ?_
        obtain ⟨v56, e56, h⟩ := sf_ob h
        refine sf_iald (pc := 56) C nk_155 sh_155 e56 dX10_stuff_56 ?_
        refine sf_iload_n (pc := 57) C 2 dX10_stuff_57 rfl ?_
        refine sf_icmp_ge (tgt := 64) (pc := 58) C dX10_stuff_58 rfl (fun c58 => ?_) (fun c58 => ?_)
        · replace h := (if_pos c58).symm.trans h
          refine sf_aload_n (pc := 64) C 0 dX10_stuff_64 rfl ?_
          obtain ⟨s65, e65, h⟩ := sf_ob h
          refine sf_callVv (pc := 65) C (As := []) nk_149 sh_149 rfl yk_X10_remember cl_10_255 (k10_remember e65) (by decide) rfl (Nat.le_of_ble_eq_true rfl) rfl dX10_stuff_65 ?_
          refine sf_aload_n (pc := 68) C 0 dX10_stuff_68 rfl ?_
          refine sf_getr (pc := 69) C nk_149 sh_149 rfl fl_10_25 dX10_stuff_69 ?_
          refine sf_bipush (v := 6) (pc := 72) C dX10_stuff_72 (by decide) ?_
          refine sf_iload_n (pc := 74) C 1 dX10_stuff_74 rfl ?_
          refine sf_iadd (pc := 75) C dX10_stuff_75 ?_
          refine sf_dup2 (pc := 76) C dX10_stuff_76 rfl rfl ?_
          obtain ⟨v77, e77, h⟩ := sf_ob h
          refine sf_iald (pc := 77) C nk_155 sh_155 e77 dX10_stuff_77 ?_
          refine sf_iload_n (pc := 78) C 2 dX10_stuff_78 rfl ?_
          refine sf_iadd (pc := 79) C dX10_stuff_79 ?_
          obtain ⟨s80, e80, h⟩ := sf_ob h
          refine sf_iast (pc := 80) C nk_155 sh_155 e80 dX10_stuff_80 ?_
          refine sf_aload_n (pc := 81) C 0 dX10_stuff_81 rfl ?_
          refine sf_getr (pc := 82) C nk_149 sh_149 rfl fl_10_25 dX10_stuff_82 ?_
          refine sf_bipush (v := 29) (pc := 85) C dX10_stuff_85 (by decide) ?_
          refine sf_dup2 (pc := 87) C dX10_stuff_87 rfl rfl ?_
          obtain ⟨v88, e88, h⟩ := sf_ob h
          refine sf_iald (pc := 88) C nk_155 sh_155 e88 dX10_stuff_88 ?_
          refine sf_iload_n (pc := 89) C 2 dX10_stuff_89 rfl ?_
          refine sf_isub (pc := 90) C dX10_stuff_90 ?_
          obtain ⟨s91, e91, h⟩ := sf_ob h
          refine sf_iast (pc := 91) C nk_155 sh_155 e91 dX10_stuff_91 ?_
          refine sf_aload_n (pc := 92) C 0 dX10_stuff_92 rfl ?_
          refine sf_getr (pc := 93) C nk_149 sh_149 rfl fl_10_25 dX10_stuff_93 ?_
          refine sf_bipush (v := 6) (pc := 96) C dX10_stuff_96 (by decide) ?_
          refine sf_iload_n (pc := 98) C 1 dX10_stuff_98 rfl ?_
          refine sf_iadd (pc := 99) C dX10_stuff_99 ?_
          obtain ⟨v100, e100, h⟩ := sf_ob h
          refine sf_iald (pc := 100) C nk_155 sh_155 e100 dX10_stuff_100 ?_
          exact sf_iretW (pc := 101) C dX10_stuff_101 h
        · replace h := (if_neg c58).symm.trans h
          refine sf_ldc (v := -1000000003) (pc := 61) C dX10_stuff_61 tm_1099 ?_
          exact sf_iretW (pc := 63) C dX10_stuff_63 h
    · replace h := (if_pos c22).symm.trans h
      refine sf_ldc (v := -1000000002) (pc := 25) C dX10_stuff_25 tm_940 ?_
      exact sf_iretW (pc := 27) C dX10_stuff_27 h
  · replace h := (if_pos c5).symm.trans h
    refine sf_ldc (v := -1000000001) (pc := 8) C dX10_stuff_8 tm_1069 ?_
    exact sf_iretW (pc := 10) C dX10_stuff_10 h
set_option maxHeartbeats 4000000 in
set_option maxRecDepth 100000 in
theorem k10_stuff {l : Launch} {V : sf_V} {s : sf_Sg} {x1 : Int32} {x2 : Int32} {r : Int32} {s' : sf_Sg} (h : f10_stuff s x1 x2 = some (r, s')) : sf_M l V yX10_stuff (.code yX10_stuff cX10_stuff 3 (some .int)) 2 [.ref (V.2.1 149), .int x1, .int x2] s (sf_Qi V r s') := by
  refine sf_enter (by decide) (Nat.le_of_ble_eq_true rfl) (fun X hX C => ?_)
  refine sf_sub [0, 1, 2] rfl ?_
  exact w10_stuff_b0 (show sf_C X V cX10_stuff 3 RX10 (some .int) 2 from C)  h
